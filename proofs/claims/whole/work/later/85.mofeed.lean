/-- an array whose places lo .. lo + i - 1 have become F 0, F 1 .. -/
def ar_upto (F : Nat → Int32) (lo i : Nat) (f : Nat → Int32) : Nat → Int32 := fun j => if lo ≤ j ∧ j < lo + i then F (j - lo) else f j
theorem ar_up0 (F : Nat → Int32) (lo : Nat) (f : Nat → Int32) : ar_upto F lo 0 f = f := by
  funext j
  unfold ar_upto
  exact if_neg (by omega)
theorem ar_upS {F : Nat → Int32} {lo i k : Nat} {f : Nat → Int32} {x : Int32} (hk : k = lo + i) (hx : x = F i) : upd (ar_upto F lo i f) k x = ar_upto F lo (i + 1) f := by
  subst hk; subst hx
  funext j
  unfold upd ar_upto
  by_cases h : j = lo + i
  · subst h; rw [if_pos rfl, if_pos (by omega), show lo + i - lo = i by omega]
  · rw [if_neg h]
    by_cases h2 : lo ≤ j ∧ j < lo + i
    · rw [if_pos h2, if_pos (by omega)]
    · rw [if_neg h2, if_neg (by omega)]
theorem ar_up_lt {F : Nat → Int32} {lo i j : Nat} {f : Nat → Int32} (h : j < lo) : ar_upto F lo i f j = f j := by
  unfold ar_upto
  exact if_neg (by omega)
theorem ar_up_ge {F : Nat → Int32} {lo i j : Nat} {f : Nat → Int32} (h : lo + i ≤ j) : ar_upto F lo i f j = f j := by
  unfold ar_upto
  exact if_neg (by omega)
theorem ar_up_in {F : Nat → Int32} {lo i j : Nat} {f : Nat → Int32} (h : lo ≤ j) (h2 : j < lo + i) : ar_upto F lo i f j = F (j - lo) := by
  unfold ar_upto
  exact if_pos ⟨h, h2⟩
def mo_fw (p1 p2 p3 p4 p5 : Int32) (i : Nat) : Int32 := if 4 ≤ nI i then (if 8 ≤ nI i then (if 12 ≤ nI i then (if 16 ≤ nI i then p5 else p4) else p3) else p2) else p1
def mo_fb (p1 p2 p3 p4 p5 : Int32) (i : Nat) : Int32 := vp_nar .byte (mo_fw p1 p2 p3 p4 p5 i >>> ((24 - 8 * (nI i - nI i / 4 * 4)) &&& 31)).toInt8.toInt32
def mo_b (v : Int64) (i : Nat) : Int32 := vp_nar .byte ((v >>> ((8 * nI i).toInt64 &&& 63)).toInt32.toInt8.toInt32)
set_option maxHeartbeats 4000000 in
set_option maxRecDepth 100000 in
/-- feed -/
theorem c_Mo_feed (l : Launch) (dC : Nat → ClassId) (dI : Nat → Nat → Nat) (o0 sz m1 m2 m3 m4 m23 m24 m25 m26 m27 m28 m29 m30 m31 m32 m33 m34 m38 m43 m44 m45 m51 m52 m53 m54 m55 m61 m62 : Nat) (w0 w5 w6 w7 w8 w9 w10 w11 w12 w13 w14 w15 w16 w17 w18 w19 w20 w21 w22 w35 w36 w37 w39 w40 w41 w42 w46 w47 w48 w49 w50 w56 w57 w58 w59 w60 w63 w64 w65 : Int32) (cR : ClassId) (rd : Nat → Int32) (p1 p2 p3 p4 p5 : Int32) : Met l y_Mo_feed (.code y_Mo_feed b_Mo_feed 8 none :: V_Mo) ({ frames := 0, cells := 0, slots := 0, locals := 0 }) (va_Pc [.ref o0, .int p1, .int p2, .int p3, .int p4, .int p5] (fun U => U.heap.size = sz ∧ at_ (dC, dI) (fun _ => True) [(o0, .inr (12, [.int w0, .ref m1, .ref m2, .ref m3, .ref m4, .int w5, .int w6, .int w7, .int w8, .int w9, .int w10, .int w11, .int w12, .int w13, .int w14, .int w15, .int w16, .int w17, .int w18, .int w19, .int w20, .int w21, .int w22, .ref m23, .ref m24, .ref m25, .ref m26, .ref m27, .ref m28, .ref m29, .ref m30, .ref m31, .ref m32, .ref m33, .ref m34, .int w35, .int w36, .int w37, .ref m38, .int w39, .int w40, .int w41, .int w42, .ref m43, .ref m44, .ref m45, .int w46, .int w47, .int w48, .int w49, .int w50, .ref m51, .ref m52, .ref m53, .ref m54, .ref m55, .int w56, .int w57, .int w58, .int w59, .int w60, .ref m61, .ref m62, .int w63, .int w64, .int w65])), (m4, .inl (cR, 20, .inl rd))] [(cR, .byte)] U)) (va_Qv (fun u : Unit => True) (fun (u : Unit) t => at_ (dC, dI) (va_A [(o0, .inr (12, [.int w0, .ref m1, .ref m2, .ref m3, .ref m4, .int w5, .int w6, .int w7, .int w8, .int w9, .int w10, .int w11, .int w12, .int w13, .int w14, .int w15, .int w16, .int w17, .int w18, .int w19, .int w20, .int w21, .int w22, .ref m23, .ref m24, .ref m25, .ref m26, .ref m27, .ref m28, .ref m29, .ref m30, .ref m31, .ref m32, .ref m33, .ref m34, .int w35, .int w36, .int w37, .ref m38, .int w39, .int w40, .int w41, .int w42, .ref m43, .ref m44, .ref m45, .int w46, .int w47, .int w48, .int w49, .int w50, .ref m51, .ref m52, .ref m53, .ref m54, .ref m55, .int w56, .int w57, .int w58, .int w59, .int w60, .ref m61, .ref m62, .int w63, .int w64, .int w65])), (m4, .inl (cR, 20, .inl rd))] sz) [(o0, .inr (12, [.int w0, .ref m1, .ref m2, .ref m3, .ref m4, .int w5, .int 0, .int w7, .int 1, .int w9, .int w10, .int w11, .int w12, .int w13, .int w14, .int w15, .int w16, .int w17, .int w18, .int w19, .int w20, .int w21, .int w22, .ref m23, .ref m24, .ref m25, .ref m26, .ref m27, .ref m28, .ref m29, .ref m30, .ref m31, .ref m32, .ref m33, .ref m34, .int w35, .int w36, .int w37, .ref m38, .int w39, .int w40, .int w41, .int w42, .ref m43, .ref m44, .ref m45, .int w46, .int w47, .int w48, .int w49, .int w50, .ref m51, .ref m52, .ref m53, .ref m54, .ref m55, .int w56, .int w57, .int w58, .int w59, .int w60, .ref m61, .ref m62, .int w63, .int w64, .int w65])), (m4, .inl (cR, 20, .inl (ar_upto (mo_fb p1 p2 p3 p4 p5) 0 20 rd)))] [(cR, .byte)] t) (va_A [(o0, .inr (12, [.int w0, .ref m1, .ref m2, .ref m3, .ref m4, .int w5, .int w6, .int w7, .int w8, .int w9, .int w10, .int w11, .int w12, .int w13, .int w14, .int w15, .int w16, .int w17, .int w18, .int w19, .int w20, .int w21, .int w22, .ref m23, .ref m24, .ref m25, .ref m26, .ref m27, .ref m28, .ref m29, .ref m30, .ref m31, .ref m32, .ref m33, .ref m34, .int w35, .int w36, .int w37, .ref m38, .int w39, .int w40, .int w41, .int w42, .ref m43, .ref m44, .ref m45, .int w46, .int w47, .int w48, .int w49, .int w50, .ref m51, .ref m52, .ref m53, .ref m54, .ref m55, .int w56, .int w57, .int w58, .int w59, .int w60, .ref m61, .ref m62, .int w63, .int w64, .int w65])), (m4, .inl (cR, 20, .inl rd))] sz)) 0 0 (va_A [(o0, .inr (12, [.int w0, .ref m1, .ref m2, .ref m3, .ref m4, .int w5, .int w6, .int w7, .int w8, .int w9, .int w10, .int w11, .int w12, .int w13, .int w14, .int w15, .int w16, .int w17, .int w18, .int w19, .int w20, .int w21, .int w22, .ref m23, .ref m24, .ref m25, .ref m26, .ref m27, .ref m28, .ref m29, .ref m30, .ref m31, .ref m32, .ref m33, .ref m34, .int w35, .int w36, .int w37, .ref m38, .int w39, .int w40, .int w41, .int w42, .ref m43, .ref m44, .ref m45, .int w46, .int w47, .int w48, .int w49, .int w50, .ref m51, .ref m52, .ref m53, .ref m54, .ref m55, .int w56, .int w57, .int w58, .int w59, .int w60, .ref m61, .ref m62, .int w63, .int w64, .int w65])), (m4, .inl (cR, 20, .inl rd))] sz) := by
  refine Met.ofW (cc := b_Mo_feed) (maxL := 8) (ret := none) (by decide) rfl ?_
  intro p e s m args below meth c s₁ B hml hv
  obtain ⟨rfl, hsz, hP, hK, hD0⟩ := hv
  have hx := B.exec
  have hb := B.bytes
  have hr := B.returns
  have hts0 := atoms_spec (ws := .code y_Mo_feed b_Mo_feed 8 none :: V_Mo) B.pre
  have hts : ∀ w ∈ V_Mo, w.before ([.ref o0, .int p1, .int p2, .int p3, .int p4, .int p5] : List Value).toArray s = true := fun w h => hts0 w (List.mem_cons_of_mem _ h)
  have hown : s.vm.findClass R_Mo = some m.cls := findClass_of_methodNamed B.named
  have hlocks := B.notSynchronized
  subst hsz
  have hD := hD0.self (sz := s.heap.size)
  generalize hAe : va_A [(o0, .inr (12, [.int w0, .ref m1, .ref m2, .ref m3, .ref m4, .int w5, .int w6, .int w7, .int w8, .int w9, .int w10, .int w11, .int w12, .int w13, .int w14, .int w15, .int w16, .int w17, .int w18, .int w19, .int w20, .int w21, .int w22, .ref m23, .ref m24, .ref m25, .ref m26, .ref m27, .ref m28, .ref m29, .ref m30, .ref m31, .ref m32, .ref m33, .ref m34, .int w35, .int w36, .int w37, .ref m38, .int w39, .int w40, .int w41, .int w42, .ref m43, .ref m44, .ref m45, .int w46, .int w47, .int w48, .int w49, .int w50, .ref m51, .ref m52, .ref m53, .ref m54, .ref m55, .int w56, .int w57, .int w58, .int w59, .int w60, .ref m61, .ref m62, .int w63, .int w64, .int w65])), (m4, .inl (cR, 20, .inl rd))] s.heap.size = A at hD ⊢
  have hA : ∀ q : Nat, s.heap.size ≤ q → A q := fun q h => by rw [← hAe]; exact Or.inr h
  have hS : va_S A s.heap s.heap [] := va_S.rf
  have hP : va_P (dC, dI) classes [(o0, .inr (12, [.int w0, .ref m1, .ref m2, .ref m3, .ref m4, .int w5, .int w6, .int w7, .int w8, .int w9, .int w10, .int w11, .int w12, .int w13, .int w14, .int w15, .int w16, .int w17, .int w18, .int w19, .int w20, .int w21, .int w22, .ref m23, .ref m24, .ref m25, .ref m26, .ref m27, .ref m28, .ref m29, .ref m30, .ref m31, .ref m32, .ref m33, .ref m34, .int w35, .int w36, .int w37, .ref m38, .int w39, .int w40, .int w41, .int w42, .ref m43, .ref m44, .ref m45, .int w46, .int w47, .int w48, .int w49, .int w50, .ref m51, .ref m52, .ref m53, .ref m54, .ref m55, .int w56, .int w57, .int w58, .int w59, .int w60, .ref m61, .ref m62, .int w63, .int w64, .int w65])), (m4, .inl (cR, 20, .inl rd))] s.heap := hP
  have hK : va_K (dC, dI) classes [(cR, .byte)] s := hK
  have hl := lv_entry ([.ref o0, .int p1, .int p2, .int p3, .int p4, .int p5]) (n := 8) (Nat.le_of_ble_eq_true rfl)
  rw [lg_entry_eq]
  generalize (lg_sl ([.ref o0, .int p1, .int p2, .int p3, .int p4, .int p5]) ++ List.replicate (8 - (lg_sl ([.ref o0, .int p1, .int p2, .int p3, .int p4, .int p5])).length) Slot.unset).toArray = ls at hl ⊢
  have hl : lv_has ls 8 [(0, .ref o0), (1, .int p1), (2, .int p2), (3, .int p3), (4, .int p4), (5, .int p5)] := hl
  refine qabs (fun Q hQ => ?_)
  have hL8 : ∀ (k_ : Nat) (i : Nat) (H : Heap) (locs : List Loc) (ls : Array Slot), 20 - i < k_ → (i ≤ 20) → va_P (dC, dI) classes [(o0, .inr (12, [.int w0, .ref m1, .ref m2, .ref m3, .ref m4, .int w5, .int 0, .int w7, .int w8, .int w9, .int w10, .int w11, .int w12, .int w13, .int w14, .int w15, .int w16, .int w17, .int w18, .int w19, .int w20, .int w21, .int w22, .ref m23, .ref m24, .ref m25, .ref m26, .ref m27, .ref m28, .ref m29, .ref m30, .ref m31, .ref m32, .ref m33, .ref m34, .int w35, .int w36, .int w37, .ref m38, .int w39, .int w40, .int w41, .int w42, .ref m43, .ref m44, .ref m45, .int w46, .int w47, .int w48, .int w49, .int w50, .ref m51, .ref m52, .ref m53, .ref m54, .ref m55, .int w56, .int w57, .int w58, .int w59, .int w60, .ref m61, .ref m62, .int w63, .int w64, .int w65])), (m4, .inl (cR, 20, .inl (ar_upto (mo_fb p1 p2 p3 p4 p5) 0 i rd)))] H → va_D A [(o0, .inr (12, [.int w0, .ref m1, .ref m2, .ref m3, .ref m4, .int w5, .int 0, .int w7, .int w8, .int w9, .int w10, .int w11, .int w12, .int w13, .int w14, .int w15, .int w16, .int w17, .int w18, .int w19, .int w20, .int w21, .int w22, .ref m23, .ref m24, .ref m25, .ref m26, .ref m27, .ref m28, .ref m29, .ref m30, .ref m31, .ref m32, .ref m33, .ref m34, .int w35, .int w36, .int w37, .ref m38, .int w39, .int w40, .int w41, .int w42, .ref m43, .ref m44, .ref m45, .int w46, .int w47, .int w48, .int w49, .int w50, .ref m51, .ref m52, .ref m53, .ref m54, .ref m55, .int w56, .int w57, .int w58, .int w59, .int w60, .ref m61, .ref m62, .int w63, .int w64, .int w65])), (m4, .inl (cR, 20, .inl (ar_upto (mo_fb p1 p2 p3 p4 p5) 0 i rd)))] → va_S A s.heap H locs → lv_has ls 8 [(0, .ref o0), (1, .int p1), (2, .int p2), (3, .int p3), (4, .int p4), (5, .int p5), (6, .int (nI i))] → W p l e ({ frames := 0, cells := 0, slots := 0, locals := 0 }) s m ([.ref o0, .int p1, .int p2, .int p3, .int p4, .int p5] : List Value).toArray below meth c H locs 0 0 Q (F0 m 8 ls []) := by
    intro k_
    induction k_ with
    | zero => intro i H locs ls hk_; exact absurd hk_ (Nat.not_lt_zero _)
    | succ k_ ih =>
      intro i H locs ls hk_ hi hP hD hS hl
      refine lv_iload hx hb d_Mo_feed_8 (lv_at hl 6 rfl) ?_
      refine lv_bipush (v := 20) hx hb d_Mo_feed_10 (by decide) ?_
      refine lv_icmp_ge (tgt := 90) hx hb d_Mo_feed_12 (by decide) (fun c_1 => ?_) (fun c_1 => ?_)
      · have hi9 : i = 20 := Nat.le_antisymm hi ((nI_leI (a := 20) (by decide) (by omega)).mp c_1)
        subst hi9
        refine lv_aload_n hx hb d_Mo_feed_90 rfl (lv_at hl 0 rfl) ?_
        refine lv_iconst (v := 1) hx hb d_Mo_feed_91 (by decide) ?_
        refine va_put (D := (dC, dI)) (ci := 12) (v := .int 1) (ty := .boolean) (C := R_Mo) (T := F_Mo) (N := 66) hx hb hts i_Mo t_Mo t_Mo_ok n_Mo hown hK hP hD hS 0 rfl rfl 8 (by decide) (hts _ (k_Mo_15)) (fun _ h9 => h9) rfl (by decide +kernel) rfl rfl (Nat.le_of_ble_eq_true rfl) d_Mo_feed_92 (fun H locs hP hD hS => ?_)
        have hP : va_P (dC, dI) classes [(o0, .inr (12, [.int w0, .ref m1, .ref m2, .ref m3, .ref m4, .int w5, .int 0, .int w7, .int 1, .int w9, .int w10, .int w11, .int w12, .int w13, .int w14, .int w15, .int w16, .int w17, .int w18, .int w19, .int w20, .int w21, .int w22, .ref m23, .ref m24, .ref m25, .ref m26, .ref m27, .ref m28, .ref m29, .ref m30, .ref m31, .ref m32, .ref m33, .ref m34, .int w35, .int w36, .int w37, .ref m38, .int w39, .int w40, .int w41, .int w42, .ref m43, .ref m44, .ref m45, .int w46, .int w47, .int w48, .int w49, .int w50, .ref m51, .ref m52, .ref m53, .ref m54, .ref m55, .int w56, .int w57, .int w58, .int w59, .int w60, .ref m61, .ref m62, .int w63, .int w64, .int w65])), (m4, .inl (cR, 20, .inl (ar_upto (mo_fb p1 p2 p3 p4 p5) 0 20 rd)))] H := hP
        have hD : va_D A [(o0, .inr (12, [.int w0, .ref m1, .ref m2, .ref m3, .ref m4, .int w5, .int 0, .int w7, .int 1, .int w9, .int w10, .int w11, .int w12, .int w13, .int w14, .int w15, .int w16, .int w17, .int w18, .int w19, .int w20, .int w21, .int w22, .ref m23, .ref m24, .ref m25, .ref m26, .ref m27, .ref m28, .ref m29, .ref m30, .ref m31, .ref m32, .ref m33, .ref m34, .int w35, .int w36, .int w37, .ref m38, .int w39, .int w40, .int w41, .int w42, .ref m43, .ref m44, .ref m45, .int w46, .int w47, .int w48, .int w49, .int w50, .ref m51, .ref m52, .ref m53, .ref m54, .ref m55, .int w56, .int w57, .int w58, .int w59, .int w60, .ref m61, .ref m62, .int w63, .int w64, .int w65])), (m4, .inl (cR, 20, .inl (ar_upto (mo_fb p1 p2 p3 p4 p5) 0 20 rd)))] := hD
        rw [hQ]
        exact W.vret hx hb hr (fun t ht hW => ⟨⟨(), rfl, trivial, by rw [ht]; exact hP, va_K.moved hW.alike hK, hD⟩, hS.F ht⟩) hS.2.2 d_Mo_feed_95
      · have hlt : i < 20 := Nat.lt_of_not_le (fun h => c_1 ((nI_leI (a := 20) (by decide) (by omega)).mpr h))
        refine lv_iload hx hb d_Mo_feed_15 (lv_at hl 6 rfl) ?_
        refine lv_iconst (v := 4) hx hb d_Mo_feed_17 (by decide) ?_
        refine lv_icmp_ge (tgt := 25) hx hb d_Mo_feed_18 (by decide) (fun c_2 => ?_) (fun c_2 => ?_)
        · refine lv_iload hx hb d_Mo_feed_25 (lv_at hl 6 rfl) ?_
          refine lv_bipush (v := 8) hx hb d_Mo_feed_27 (by decide) ?_
          refine lv_icmp_ge (tgt := 36) hx hb d_Mo_feed_29 (by decide) (fun c_3 => ?_) (fun c_3 => ?_)
          · refine lv_iload hx hb d_Mo_feed_36 (lv_at hl 6 rfl) ?_
            refine lv_bipush (v := 12) hx hb d_Mo_feed_38 (by decide) ?_
            refine lv_icmp_ge (tgt := 47) hx hb d_Mo_feed_40 (by decide) (fun c_4 => ?_) (fun c_4 => ?_)
            · refine lv_iload hx hb d_Mo_feed_47 (lv_at hl 6 rfl) ?_
              refine lv_bipush (v := 16) hx hb d_Mo_feed_49 (by decide) ?_
              refine lv_icmp_ge (tgt := 59) hx hb d_Mo_feed_51 (by decide) (fun c_5 => ?_) (fun c_5 => ?_)
              · refine lv_iload hx hb d_Mo_feed_59 (lv_at hl 5 rfl) ?_
                refine lv_istore (lv' := [(7, .int p5), (0, .ref o0), (1, .int p1), (2, .int p2), (3, .int p3), (4, .int p4), (5, .int p5), (6, .int (nI i))]) hx hb d_Mo_feed_61 hl (by decide) rfl (fun ls hl => ?_)
                refine lv_aload_n hx hb d_Mo_feed_63 rfl (lv_at hl 1 rfl) ?_
                refine va_get (D := (dC, dI)) (ci := 12) (v := .ref m4) (C := R_Mo) (T := F_Mo) (N := 66) hx hb hts i_Mo hown hK hP 0 rfl rfl 4 (by decide) (hts _ (k_Mo_11)) (fun _ h9 => h9) rfl d_Mo_feed_64 ?_
                refine lv_iload hx hb d_Mo_feed_67 (lv_at hl 7 rfl) ?_
                refine lv_iload hx hb d_Mo_feed_69 (lv_at hl 0 rfl) ?_
                refine lv_bipush (v := 24) hx hb d_Mo_feed_71 (by decide) ?_
                refine lv_bipush (v := 8) hx hb d_Mo_feed_73 (by decide) ?_
                refine lv_iload hx hb d_Mo_feed_75 (lv_at hl 7 rfl) ?_
                refine lv_iconst (v := 4) hx hb d_Mo_feed_77 (by decide) ?_
                refine lv_irem hx hb d_Mo_feed_78 (by decide) ?_
                refine lv_imul hx hb d_Mo_feed_79 ?_
                refine lv_isub hx hb d_Mo_feed_80 ?_
                refine lv_ishr hx hb d_Mo_feed_81 ?_
                refine lv_i2b hx hb d_Mo_feed_82 rfl ?_
                refine va_bast hx hb hK hP hD hS 1 0 rfl rfl (vp_in_nI (by omega) (by decide)) d_Mo_feed_83 (fun H locs hP hD hS => ?_)
                have hP : va_P (dC, dI) classes [(o0, .inr (12, [.int w0, .ref m1, .ref m2, .ref m3, .ref m4, .int w5, .int 0, .int w7, .int w8, .int w9, .int w10, .int w11, .int w12, .int w13, .int w14, .int w15, .int w16, .int w17, .int w18, .int w19, .int w20, .int w21, .int w22, .ref m23, .ref m24, .ref m25, .ref m26, .ref m27, .ref m28, .ref m29, .ref m30, .ref m31, .ref m32, .ref m33, .ref m34, .int w35, .int w36, .int w37, .ref m38, .int w39, .int w40, .int w41, .int w42, .ref m43, .ref m44, .ref m45, .int w46, .int w47, .int w48, .int w49, .int w50, .ref m51, .ref m52, .ref m53, .ref m54, .ref m55, .int w56, .int w57, .int w58, .int w59, .int w60, .ref m61, .ref m62, .int w63, .int w64, .int w65])), (m4, .inl (cR, 20, .inl (upd (ar_upto (mo_fb p1 p2 p3 p4 p5) 0 i rd) (nI i).toNatClampNeg (vp_nar .byte ((p5 >>> ((24 - (8 * ((nI i) - (nI i) / 4 * 4))) &&& 31)).toInt8.toInt32)))))] H := hP
                have hD : va_D A [(o0, .inr (12, [.int w0, .ref m1, .ref m2, .ref m3, .ref m4, .int w5, .int 0, .int w7, .int w8, .int w9, .int w10, .int w11, .int w12, .int w13, .int w14, .int w15, .int w16, .int w17, .int w18, .int w19, .int w20, .int w21, .int w22, .ref m23, .ref m24, .ref m25, .ref m26, .ref m27, .ref m28, .ref m29, .ref m30, .ref m31, .ref m32, .ref m33, .ref m34, .int w35, .int w36, .int w37, .ref m38, .int w39, .int w40, .int w41, .int w42, .ref m43, .ref m44, .ref m45, .int w46, .int w47, .int w48, .int w49, .int w50, .ref m51, .ref m52, .ref m53, .ref m54, .ref m55, .int w56, .int w57, .int w58, .int w59, .int w60, .ref m61, .ref m62, .int w63, .int w64, .int w65])), (m4, .inl (cR, 20, .inl (upd (ar_upto (mo_fb p1 p2 p3 p4 p5) 0 i rd) (nI i).toNatClampNeg (vp_nar .byte ((p5 >>> ((24 - (8 * ((nI i) - (nI i) / 4 * 4))) &&& 31)).toInt8.toInt32)))))] := hD
                refine lv_iinc (v := nI (i + 1)) (lv' := [(6, .int (nI (i + 1))), (7, .int p5), (0, .ref o0), (1, .int p1), (2, .int p2), (3, .int p3), (4, .int p4), (5, .int p5)]) hx hb d_Mo_feed_84 hl (k := 7) rfl (by exact nI_1 i) (by decide) rfl (fun ls hl => ?_)
                refine lv_goto (tgt := 8) hx hb d_Mo_feed_87 (by decide) ?_
                rw [ar_upS (F := mo_fb p1 p2 p3 p4 p5) (by rw [nI_clamp (by omega), Nat.zero_add]) (by rw [mo_fb, mo_fw, if_pos c_2, if_pos c_3, if_pos c_4, if_pos c_5])] at hP hD
                exact ih (i + 1) _ _ _ (by omega) hlt hP hD hS (lv_sub hl [2, 3, 4, 5, 6, 7, 0] rfl)
              · refine lv_iload hx hb d_Mo_feed_54 (lv_at hl 4 rfl) ?_
                refine lv_goto (tgt := 61) hx hb d_Mo_feed_56 (by decide) ?_
                refine lv_istore (lv' := [(7, .int p4), (0, .ref o0), (1, .int p1), (2, .int p2), (3, .int p3), (4, .int p4), (5, .int p5), (6, .int (nI i))]) hx hb d_Mo_feed_61 hl (by decide) rfl (fun ls hl => ?_)
                refine lv_aload_n hx hb d_Mo_feed_63 rfl (lv_at hl 1 rfl) ?_
                refine va_get (D := (dC, dI)) (ci := 12) (v := .ref m4) (C := R_Mo) (T := F_Mo) (N := 66) hx hb hts i_Mo hown hK hP 0 rfl rfl 4 (by decide) (hts _ (k_Mo_11)) (fun _ h9 => h9) rfl d_Mo_feed_64 ?_
                refine lv_iload hx hb d_Mo_feed_67 (lv_at hl 7 rfl) ?_
                refine lv_iload hx hb d_Mo_feed_69 (lv_at hl 0 rfl) ?_
                refine lv_bipush (v := 24) hx hb d_Mo_feed_71 (by decide) ?_
                refine lv_bipush (v := 8) hx hb d_Mo_feed_73 (by decide) ?_
                refine lv_iload hx hb d_Mo_feed_75 (lv_at hl 7 rfl) ?_
                refine lv_iconst (v := 4) hx hb d_Mo_feed_77 (by decide) ?_
                refine lv_irem hx hb d_Mo_feed_78 (by decide) ?_
                refine lv_imul hx hb d_Mo_feed_79 ?_
                refine lv_isub hx hb d_Mo_feed_80 ?_
                refine lv_ishr hx hb d_Mo_feed_81 ?_
                refine lv_i2b hx hb d_Mo_feed_82 rfl ?_
                refine va_bast hx hb hK hP hD hS 1 0 rfl rfl (vp_in_nI (by omega) (by decide)) d_Mo_feed_83 (fun H locs hP hD hS => ?_)
                have hP : va_P (dC, dI) classes [(o0, .inr (12, [.int w0, .ref m1, .ref m2, .ref m3, .ref m4, .int w5, .int 0, .int w7, .int w8, .int w9, .int w10, .int w11, .int w12, .int w13, .int w14, .int w15, .int w16, .int w17, .int w18, .int w19, .int w20, .int w21, .int w22, .ref m23, .ref m24, .ref m25, .ref m26, .ref m27, .ref m28, .ref m29, .ref m30, .ref m31, .ref m32, .ref m33, .ref m34, .int w35, .int w36, .int w37, .ref m38, .int w39, .int w40, .int w41, .int w42, .ref m43, .ref m44, .ref m45, .int w46, .int w47, .int w48, .int w49, .int w50, .ref m51, .ref m52, .ref m53, .ref m54, .ref m55, .int w56, .int w57, .int w58, .int w59, .int w60, .ref m61, .ref m62, .int w63, .int w64, .int w65])), (m4, .inl (cR, 20, .inl (upd (ar_upto (mo_fb p1 p2 p3 p4 p5) 0 i rd) (nI i).toNatClampNeg (vp_nar .byte ((p4 >>> ((24 - (8 * ((nI i) - (nI i) / 4 * 4))) &&& 31)).toInt8.toInt32)))))] H := hP
                have hD : va_D A [(o0, .inr (12, [.int w0, .ref m1, .ref m2, .ref m3, .ref m4, .int w5, .int 0, .int w7, .int w8, .int w9, .int w10, .int w11, .int w12, .int w13, .int w14, .int w15, .int w16, .int w17, .int w18, .int w19, .int w20, .int w21, .int w22, .ref m23, .ref m24, .ref m25, .ref m26, .ref m27, .ref m28, .ref m29, .ref m30, .ref m31, .ref m32, .ref m33, .ref m34, .int w35, .int w36, .int w37, .ref m38, .int w39, .int w40, .int w41, .int w42, .ref m43, .ref m44, .ref m45, .int w46, .int w47, .int w48, .int w49, .int w50, .ref m51, .ref m52, .ref m53, .ref m54, .ref m55, .int w56, .int w57, .int w58, .int w59, .int w60, .ref m61, .ref m62, .int w63, .int w64, .int w65])), (m4, .inl (cR, 20, .inl (upd (ar_upto (mo_fb p1 p2 p3 p4 p5) 0 i rd) (nI i).toNatClampNeg (vp_nar .byte ((p4 >>> ((24 - (8 * ((nI i) - (nI i) / 4 * 4))) &&& 31)).toInt8.toInt32)))))] := hD
                refine lv_iinc (v := nI (i + 1)) (lv' := [(6, .int (nI (i + 1))), (7, .int p4), (0, .ref o0), (1, .int p1), (2, .int p2), (3, .int p3), (4, .int p4), (5, .int p5)]) hx hb d_Mo_feed_84 hl (k := 7) rfl (by exact nI_1 i) (by decide) rfl (fun ls hl => ?_)
                refine lv_goto (tgt := 8) hx hb d_Mo_feed_87 (by decide) ?_
                rw [ar_upS (F := mo_fb p1 p2 p3 p4 p5) (by rw [nI_clamp (by omega), Nat.zero_add]) (by rw [mo_fb, mo_fw, if_pos c_2, if_pos c_3, if_pos c_4, if_neg c_5])] at hP hD
                exact ih (i + 1) _ _ _ (by omega) hlt hP hD hS (lv_sub hl [2, 3, 4, 5, 6, 7, 0] rfl)
            · refine lv_iload_n hx hb d_Mo_feed_43 rfl (lv_at hl 3 rfl) ?_
              refine lv_goto (tgt := 61) hx hb d_Mo_feed_44 (by decide) ?_
              refine lv_istore (lv' := [(7, .int p3), (0, .ref o0), (1, .int p1), (2, .int p2), (3, .int p3), (4, .int p4), (5, .int p5), (6, .int (nI i))]) hx hb d_Mo_feed_61 hl (by decide) rfl (fun ls hl => ?_)
              refine lv_aload_n hx hb d_Mo_feed_63 rfl (lv_at hl 1 rfl) ?_
              refine va_get (D := (dC, dI)) (ci := 12) (v := .ref m4) (C := R_Mo) (T := F_Mo) (N := 66) hx hb hts i_Mo hown hK hP 0 rfl rfl 4 (by decide) (hts _ (k_Mo_11)) (fun _ h9 => h9) rfl d_Mo_feed_64 ?_
              refine lv_iload hx hb d_Mo_feed_67 (lv_at hl 7 rfl) ?_
              refine lv_iload hx hb d_Mo_feed_69 (lv_at hl 0 rfl) ?_
              refine lv_bipush (v := 24) hx hb d_Mo_feed_71 (by decide) ?_
              refine lv_bipush (v := 8) hx hb d_Mo_feed_73 (by decide) ?_
              refine lv_iload hx hb d_Mo_feed_75 (lv_at hl 7 rfl) ?_
              refine lv_iconst (v := 4) hx hb d_Mo_feed_77 (by decide) ?_
              refine lv_irem hx hb d_Mo_feed_78 (by decide) ?_
              refine lv_imul hx hb d_Mo_feed_79 ?_
              refine lv_isub hx hb d_Mo_feed_80 ?_
              refine lv_ishr hx hb d_Mo_feed_81 ?_
              refine lv_i2b hx hb d_Mo_feed_82 rfl ?_
              refine va_bast hx hb hK hP hD hS 1 0 rfl rfl (vp_in_nI (by omega) (by decide)) d_Mo_feed_83 (fun H locs hP hD hS => ?_)
              have hP : va_P (dC, dI) classes [(o0, .inr (12, [.int w0, .ref m1, .ref m2, .ref m3, .ref m4, .int w5, .int 0, .int w7, .int w8, .int w9, .int w10, .int w11, .int w12, .int w13, .int w14, .int w15, .int w16, .int w17, .int w18, .int w19, .int w20, .int w21, .int w22, .ref m23, .ref m24, .ref m25, .ref m26, .ref m27, .ref m28, .ref m29, .ref m30, .ref m31, .ref m32, .ref m33, .ref m34, .int w35, .int w36, .int w37, .ref m38, .int w39, .int w40, .int w41, .int w42, .ref m43, .ref m44, .ref m45, .int w46, .int w47, .int w48, .int w49, .int w50, .ref m51, .ref m52, .ref m53, .ref m54, .ref m55, .int w56, .int w57, .int w58, .int w59, .int w60, .ref m61, .ref m62, .int w63, .int w64, .int w65])), (m4, .inl (cR, 20, .inl (upd (ar_upto (mo_fb p1 p2 p3 p4 p5) 0 i rd) (nI i).toNatClampNeg (vp_nar .byte ((p3 >>> ((24 - (8 * ((nI i) - (nI i) / 4 * 4))) &&& 31)).toInt8.toInt32)))))] H := hP
              have hD : va_D A [(o0, .inr (12, [.int w0, .ref m1, .ref m2, .ref m3, .ref m4, .int w5, .int 0, .int w7, .int w8, .int w9, .int w10, .int w11, .int w12, .int w13, .int w14, .int w15, .int w16, .int w17, .int w18, .int w19, .int w20, .int w21, .int w22, .ref m23, .ref m24, .ref m25, .ref m26, .ref m27, .ref m28, .ref m29, .ref m30, .ref m31, .ref m32, .ref m33, .ref m34, .int w35, .int w36, .int w37, .ref m38, .int w39, .int w40, .int w41, .int w42, .ref m43, .ref m44, .ref m45, .int w46, .int w47, .int w48, .int w49, .int w50, .ref m51, .ref m52, .ref m53, .ref m54, .ref m55, .int w56, .int w57, .int w58, .int w59, .int w60, .ref m61, .ref m62, .int w63, .int w64, .int w65])), (m4, .inl (cR, 20, .inl (upd (ar_upto (mo_fb p1 p2 p3 p4 p5) 0 i rd) (nI i).toNatClampNeg (vp_nar .byte ((p3 >>> ((24 - (8 * ((nI i) - (nI i) / 4 * 4))) &&& 31)).toInt8.toInt32)))))] := hD
              refine lv_iinc (v := nI (i + 1)) (lv' := [(6, .int (nI (i + 1))), (7, .int p3), (0, .ref o0), (1, .int p1), (2, .int p2), (3, .int p3), (4, .int p4), (5, .int p5)]) hx hb d_Mo_feed_84 hl (k := 7) rfl (by exact nI_1 i) (by decide) rfl (fun ls hl => ?_)
              refine lv_goto (tgt := 8) hx hb d_Mo_feed_87 (by decide) ?_
              rw [ar_upS (F := mo_fb p1 p2 p3 p4 p5) (by rw [nI_clamp (by omega), Nat.zero_add]) (by rw [mo_fb, mo_fw, if_pos c_2, if_pos c_3, if_neg c_4])] at hP hD
              exact ih (i + 1) _ _ _ (by omega) hlt hP hD hS (lv_sub hl [2, 3, 4, 5, 6, 7, 0] rfl)
          · refine lv_iload_n hx hb d_Mo_feed_32 rfl (lv_at hl 2 rfl) ?_
            refine lv_goto (tgt := 61) hx hb d_Mo_feed_33 (by decide) ?_
            refine lv_istore (lv' := [(7, .int p2), (0, .ref o0), (1, .int p1), (2, .int p2), (3, .int p3), (4, .int p4), (5, .int p5), (6, .int (nI i))]) hx hb d_Mo_feed_61 hl (by decide) rfl (fun ls hl => ?_)
            refine lv_aload_n hx hb d_Mo_feed_63 rfl (lv_at hl 1 rfl) ?_
            refine va_get (D := (dC, dI)) (ci := 12) (v := .ref m4) (C := R_Mo) (T := F_Mo) (N := 66) hx hb hts i_Mo hown hK hP 0 rfl rfl 4 (by decide) (hts _ (k_Mo_11)) (fun _ h9 => h9) rfl d_Mo_feed_64 ?_
            refine lv_iload hx hb d_Mo_feed_67 (lv_at hl 7 rfl) ?_
            refine lv_iload hx hb d_Mo_feed_69 (lv_at hl 0 rfl) ?_
            refine lv_bipush (v := 24) hx hb d_Mo_feed_71 (by decide) ?_
            refine lv_bipush (v := 8) hx hb d_Mo_feed_73 (by decide) ?_
            refine lv_iload hx hb d_Mo_feed_75 (lv_at hl 7 rfl) ?_
            refine lv_iconst (v := 4) hx hb d_Mo_feed_77 (by decide) ?_
            refine lv_irem hx hb d_Mo_feed_78 (by decide) ?_
            refine lv_imul hx hb d_Mo_feed_79 ?_
            refine lv_isub hx hb d_Mo_feed_80 ?_
            refine lv_ishr hx hb d_Mo_feed_81 ?_
            refine lv_i2b hx hb d_Mo_feed_82 rfl ?_
            refine va_bast hx hb hK hP hD hS 1 0 rfl rfl (vp_in_nI (by omega) (by decide)) d_Mo_feed_83 (fun H locs hP hD hS => ?_)
            have hP : va_P (dC, dI) classes [(o0, .inr (12, [.int w0, .ref m1, .ref m2, .ref m3, .ref m4, .int w5, .int 0, .int w7, .int w8, .int w9, .int w10, .int w11, .int w12, .int w13, .int w14, .int w15, .int w16, .int w17, .int w18, .int w19, .int w20, .int w21, .int w22, .ref m23, .ref m24, .ref m25, .ref m26, .ref m27, .ref m28, .ref m29, .ref m30, .ref m31, .ref m32, .ref m33, .ref m34, .int w35, .int w36, .int w37, .ref m38, .int w39, .int w40, .int w41, .int w42, .ref m43, .ref m44, .ref m45, .int w46, .int w47, .int w48, .int w49, .int w50, .ref m51, .ref m52, .ref m53, .ref m54, .ref m55, .int w56, .int w57, .int w58, .int w59, .int w60, .ref m61, .ref m62, .int w63, .int w64, .int w65])), (m4, .inl (cR, 20, .inl (upd (ar_upto (mo_fb p1 p2 p3 p4 p5) 0 i rd) (nI i).toNatClampNeg (vp_nar .byte ((p2 >>> ((24 - (8 * ((nI i) - (nI i) / 4 * 4))) &&& 31)).toInt8.toInt32)))))] H := hP
            have hD : va_D A [(o0, .inr (12, [.int w0, .ref m1, .ref m2, .ref m3, .ref m4, .int w5, .int 0, .int w7, .int w8, .int w9, .int w10, .int w11, .int w12, .int w13, .int w14, .int w15, .int w16, .int w17, .int w18, .int w19, .int w20, .int w21, .int w22, .ref m23, .ref m24, .ref m25, .ref m26, .ref m27, .ref m28, .ref m29, .ref m30, .ref m31, .ref m32, .ref m33, .ref m34, .int w35, .int w36, .int w37, .ref m38, .int w39, .int w40, .int w41, .int w42, .ref m43, .ref m44, .ref m45, .int w46, .int w47, .int w48, .int w49, .int w50, .ref m51, .ref m52, .ref m53, .ref m54, .ref m55, .int w56, .int w57, .int w58, .int w59, .int w60, .ref m61, .ref m62, .int w63, .int w64, .int w65])), (m4, .inl (cR, 20, .inl (upd (ar_upto (mo_fb p1 p2 p3 p4 p5) 0 i rd) (nI i).toNatClampNeg (vp_nar .byte ((p2 >>> ((24 - (8 * ((nI i) - (nI i) / 4 * 4))) &&& 31)).toInt8.toInt32)))))] := hD
            refine lv_iinc (v := nI (i + 1)) (lv' := [(6, .int (nI (i + 1))), (7, .int p2), (0, .ref o0), (1, .int p1), (2, .int p2), (3, .int p3), (4, .int p4), (5, .int p5)]) hx hb d_Mo_feed_84 hl (k := 7) rfl (by exact nI_1 i) (by decide) rfl (fun ls hl => ?_)
            refine lv_goto (tgt := 8) hx hb d_Mo_feed_87 (by decide) ?_
            rw [ar_upS (F := mo_fb p1 p2 p3 p4 p5) (by rw [nI_clamp (by omega), Nat.zero_add]) (by rw [mo_fb, mo_fw, if_pos c_2, if_neg c_3])] at hP hD
            exact ih (i + 1) _ _ _ (by omega) hlt hP hD hS (lv_sub hl [2, 3, 4, 5, 6, 7, 0] rfl)
        · refine lv_iload_n hx hb d_Mo_feed_21 rfl (lv_at hl 1 rfl) ?_
          refine lv_goto (tgt := 61) hx hb d_Mo_feed_22 (by decide) ?_
          refine lv_istore (lv' := [(7, .int p1), (0, .ref o0), (1, .int p1), (2, .int p2), (3, .int p3), (4, .int p4), (5, .int p5), (6, .int (nI i))]) hx hb d_Mo_feed_61 hl (by decide) rfl (fun ls hl => ?_)
          refine lv_aload_n hx hb d_Mo_feed_63 rfl (lv_at hl 1 rfl) ?_
          refine va_get (D := (dC, dI)) (ci := 12) (v := .ref m4) (C := R_Mo) (T := F_Mo) (N := 66) hx hb hts i_Mo hown hK hP 0 rfl rfl 4 (by decide) (hts _ (k_Mo_11)) (fun _ h9 => h9) rfl d_Mo_feed_64 ?_
          refine lv_iload hx hb d_Mo_feed_67 (lv_at hl 7 rfl) ?_
          refine lv_iload hx hb d_Mo_feed_69 (lv_at hl 0 rfl) ?_
          refine lv_bipush (v := 24) hx hb d_Mo_feed_71 (by decide) ?_
          refine lv_bipush (v := 8) hx hb d_Mo_feed_73 (by decide) ?_
          refine lv_iload hx hb d_Mo_feed_75 (lv_at hl 7 rfl) ?_
          refine lv_iconst (v := 4) hx hb d_Mo_feed_77 (by decide) ?_
          refine lv_irem hx hb d_Mo_feed_78 (by decide) ?_
          refine lv_imul hx hb d_Mo_feed_79 ?_
          refine lv_isub hx hb d_Mo_feed_80 ?_
          refine lv_ishr hx hb d_Mo_feed_81 ?_
          refine lv_i2b hx hb d_Mo_feed_82 rfl ?_
          refine va_bast hx hb hK hP hD hS 1 0 rfl rfl (vp_in_nI (by omega) (by decide)) d_Mo_feed_83 (fun H locs hP hD hS => ?_)
          have hP : va_P (dC, dI) classes [(o0, .inr (12, [.int w0, .ref m1, .ref m2, .ref m3, .ref m4, .int w5, .int 0, .int w7, .int w8, .int w9, .int w10, .int w11, .int w12, .int w13, .int w14, .int w15, .int w16, .int w17, .int w18, .int w19, .int w20, .int w21, .int w22, .ref m23, .ref m24, .ref m25, .ref m26, .ref m27, .ref m28, .ref m29, .ref m30, .ref m31, .ref m32, .ref m33, .ref m34, .int w35, .int w36, .int w37, .ref m38, .int w39, .int w40, .int w41, .int w42, .ref m43, .ref m44, .ref m45, .int w46, .int w47, .int w48, .int w49, .int w50, .ref m51, .ref m52, .ref m53, .ref m54, .ref m55, .int w56, .int w57, .int w58, .int w59, .int w60, .ref m61, .ref m62, .int w63, .int w64, .int w65])), (m4, .inl (cR, 20, .inl (upd (ar_upto (mo_fb p1 p2 p3 p4 p5) 0 i rd) (nI i).toNatClampNeg (vp_nar .byte ((p1 >>> ((24 - (8 * ((nI i) - (nI i) / 4 * 4))) &&& 31)).toInt8.toInt32)))))] H := hP
          have hD : va_D A [(o0, .inr (12, [.int w0, .ref m1, .ref m2, .ref m3, .ref m4, .int w5, .int 0, .int w7, .int w8, .int w9, .int w10, .int w11, .int w12, .int w13, .int w14, .int w15, .int w16, .int w17, .int w18, .int w19, .int w20, .int w21, .int w22, .ref m23, .ref m24, .ref m25, .ref m26, .ref m27, .ref m28, .ref m29, .ref m30, .ref m31, .ref m32, .ref m33, .ref m34, .int w35, .int w36, .int w37, .ref m38, .int w39, .int w40, .int w41, .int w42, .ref m43, .ref m44, .ref m45, .int w46, .int w47, .int w48, .int w49, .int w50, .ref m51, .ref m52, .ref m53, .ref m54, .ref m55, .int w56, .int w57, .int w58, .int w59, .int w60, .ref m61, .ref m62, .int w63, .int w64, .int w65])), (m4, .inl (cR, 20, .inl (upd (ar_upto (mo_fb p1 p2 p3 p4 p5) 0 i rd) (nI i).toNatClampNeg (vp_nar .byte ((p1 >>> ((24 - (8 * ((nI i) - (nI i) / 4 * 4))) &&& 31)).toInt8.toInt32)))))] := hD
          refine lv_iinc (v := nI (i + 1)) (lv' := [(6, .int (nI (i + 1))), (7, .int p1), (0, .ref o0), (1, .int p1), (2, .int p2), (3, .int p3), (4, .int p4), (5, .int p5)]) hx hb d_Mo_feed_84 hl (k := 7) rfl (by exact nI_1 i) (by decide) rfl (fun ls hl => ?_)
          refine lv_goto (tgt := 8) hx hb d_Mo_feed_87 (by decide) ?_
          rw [ar_upS (F := mo_fb p1 p2 p3 p4 p5) (by rw [nI_clamp (by omega), Nat.zero_add]) (by rw [mo_fb, mo_fw, if_neg c_2])] at hP hD
          exact ih (i + 1) _ _ _ (by omega) hlt hP hD hS (lv_sub hl [2, 3, 4, 5, 6, 7, 0] rfl)
  refine lv_aload_n hx hb d_Mo_feed_0 rfl (lv_at hl 0 rfl) ?_
  refine lv_iconst (v := 0) hx hb d_Mo_feed_1 (by decide) ?_
  refine va_put (D := (dC, dI)) (ci := 12) (v := .int 0) (ty := .int) (C := R_Mo) (T := F_Mo) (N := 66) hx hb hts i_Mo t_Mo t_Mo_ok n_Mo hown hK hP hD hS 0 rfl rfl 6 (by decide) (hts _ (k_Mo_13)) (fun _ h9 => h9) rfl (by decide +kernel) rfl rfl (Nat.le_of_ble_eq_true rfl) d_Mo_feed_2 (fun H locs hP hD hS => ?_)
  have hP : va_P (dC, dI) classes [(o0, .inr (12, [.int w0, .ref m1, .ref m2, .ref m3, .ref m4, .int w5, .int 0, .int w7, .int w8, .int w9, .int w10, .int w11, .int w12, .int w13, .int w14, .int w15, .int w16, .int w17, .int w18, .int w19, .int w20, .int w21, .int w22, .ref m23, .ref m24, .ref m25, .ref m26, .ref m27, .ref m28, .ref m29, .ref m30, .ref m31, .ref m32, .ref m33, .ref m34, .int w35, .int w36, .int w37, .ref m38, .int w39, .int w40, .int w41, .int w42, .ref m43, .ref m44, .ref m45, .int w46, .int w47, .int w48, .int w49, .int w50, .ref m51, .ref m52, .ref m53, .ref m54, .ref m55, .int w56, .int w57, .int w58, .int w59, .int w60, .ref m61, .ref m62, .int w63, .int w64, .int w65])), (m4, .inl (cR, 20, .inl rd))] H := hP
  have hD : va_D A [(o0, .inr (12, [.int w0, .ref m1, .ref m2, .ref m3, .ref m4, .int w5, .int 0, .int w7, .int w8, .int w9, .int w10, .int w11, .int w12, .int w13, .int w14, .int w15, .int w16, .int w17, .int w18, .int w19, .int w20, .int w21, .int w22, .ref m23, .ref m24, .ref m25, .ref m26, .ref m27, .ref m28, .ref m29, .ref m30, .ref m31, .ref m32, .ref m33, .ref m34, .int w35, .int w36, .int w37, .ref m38, .int w39, .int w40, .int w41, .int w42, .ref m43, .ref m44, .ref m45, .int w46, .int w47, .int w48, .int w49, .int w50, .ref m51, .ref m52, .ref m53, .ref m54, .ref m55, .int w56, .int w57, .int w58, .int w59, .int w60, .ref m61, .ref m62, .int w63, .int w64, .int w65])), (m4, .inl (cR, 20, .inl rd))] := hD
  refine lv_iconst (v := 0) hx hb d_Mo_feed_5 (by decide) ?_
  refine lv_istore (lv' := [(6, .int 0), (0, .ref o0), (1, .int p1), (2, .int p2), (3, .int p3), (4, .int p4), (5, .int p5)]) hx hb d_Mo_feed_6 hl (by decide) rfl (fun ls hl => ?_)
  rw [← ar_up0 (mo_fb p1 p2 p3 p4 p5) 0 rd] at hP hD
  exact hL8 21 0 _ _ _ (by omega) (Nat.zero_le _) hP hD hS (lv_sub hl [1, 2, 3, 4, 5, 6, 0] rfl)
def mo_eb (fe : Int32) (rd : Nat → Int32) (i : Nat) : Int32 := if fe = 0 then vp_nar .byte 0 else vp_nar .byte (rd i)
def mo_end (tN : Nat) (p1 : Int32) : Int32 := if p1 < 0 then -1 else if 20 < p1 then -1 else if nI tN + p1 ≤ 4096 then nI tN + p1 else -1
set_option maxHeartbeats 4000000 in
set_option maxRecDepth 100000 in
/-- end -/
theorem c_Mo_end (l : Launch) (dC : Nat → ClassId) (dI : Nat → Nat → Nat) (o0 sz m1 m2 m3 m4 m23 m24 m25 m26 m27 m28 m29 m30 m31 m32 m33 m34 m38 m43 m44 m45 m51 m52 m53 m54 m55 m61 m62 : Nat) (w0 w6 w7 w8 w9 w10 w11 w12 w13 w14 w15 w16 w17 w18 w19 w20 w21 w22 w35 w36 w37 w39 w40 w41 w42 w46 w47 w48 w49 w50 w56 w57 w58 w59 w60 w63 w64 w65 : Int32) (cT cR : ClassId) (tp rd : Nat → Int32) (tN : Nat) (htN : tN ≤ 4096) (p1 : Int32) : Met l y_Mo_end (.code y_Mo_end b_Mo_end 3 (some .int) :: V_Mo) ({ frames := 0, cells := 0, slots := 0, locals := 0 }) (va_Pc [.ref o0, .int p1] (fun U => U.heap.size = sz ∧ at_ (dC, dI) (fun _ => True) [(o0, .inr (12, [.int w0, .ref m1, .ref m2, .ref m3, .ref m4, .int (nI tN), .int w6, .int w7, .int w8, .int w9, .int w10, .int w11, .int w12, .int w13, .int w14, .int w15, .int w16, .int w17, .int w18, .int w19, .int w20, .int w21, .int w22, .ref m23, .ref m24, .ref m25, .ref m26, .ref m27, .ref m28, .ref m29, .ref m30, .ref m31, .ref m32, .ref m33, .ref m34, .int w35, .int w36, .int w37, .ref m38, .int w39, .int w40, .int w41, .int w42, .ref m43, .ref m44, .ref m45, .int w46, .int w47, .int w48, .int w49, .int w50, .ref m51, .ref m52, .ref m53, .ref m54, .ref m55, .int w56, .int w57, .int w58, .int w59, .int w60, .ref m61, .ref m62, .int w63, .int w64, .int w65])), (m3, .inl (cT, 4096, .inl tp)), (m4, .inl (cR, 20, .inl rd))] [(cT, .byte), (cR, .byte)] U)) (va_Qi (fun (r : Int32) (u : (Nat → Int32) × Int32 × Int32) => r = mo_end tN p1) (fun (u : (Nat → Int32) × Int32 × Int32) t => at_ (dC, dI) (va_A [(o0, .inr (12, [.int w0, .ref m1, .ref m2, .ref m3, .ref m4, .int (nI tN), .int w6, .int w7, .int w8, .int w9, .int w10, .int w11, .int w12, .int w13, .int w14, .int w15, .int w16, .int w17, .int w18, .int w19, .int w20, .int w21, .int w22, .ref m23, .ref m24, .ref m25, .ref m26, .ref m27, .ref m28, .ref m29, .ref m30, .ref m31, .ref m32, .ref m33, .ref m34, .int w35, .int w36, .int w37, .ref m38, .int w39, .int w40, .int w41, .int w42, .ref m43, .ref m44, .ref m45, .int w46, .int w47, .int w48, .int w49, .int w50, .ref m51, .ref m52, .ref m53, .ref m54, .ref m55, .int w56, .int w57, .int w58, .int w59, .int w60, .ref m61, .ref m62, .int w63, .int w64, .int w65])), (m3, .inl (cT, 4096, .inl tp)), (m4, .inl (cR, 20, .inl rd))] sz) [(o0, .inr (12, [.int w0, .ref m1, .ref m2, .ref m3, .ref m4, .int u.2.1, .int 0, .int w7, .int u.2.2, .int w9, .int w10, .int w11, .int w12, .int w13, .int w14, .int w15, .int w16, .int w17, .int w18, .int w19, .int w20, .int w21, .int w22, .ref m23, .ref m24, .ref m25, .ref m26, .ref m27, .ref m28, .ref m29, .ref m30, .ref m31, .ref m32, .ref m33, .ref m34, .int w35, .int w36, .int w37, .ref m38, .int w39, .int w40, .int w41, .int w42, .ref m43, .ref m44, .ref m45, .int w46, .int w47, .int w48, .int w49, .int w50, .ref m51, .ref m52, .ref m53, .ref m54, .ref m55, .int w56, .int w57, .int w58, .int w59, .int w60, .ref m61, .ref m62, .int w63, .int w64, .int w65])), (m3, .inl (cT, 4096, .inl (u.1))), (m4, .inl (cR, 20, .inl rd))] [(cT, .byte), (cR, .byte)] t) (va_A [(o0, .inr (12, [.int w0, .ref m1, .ref m2, .ref m3, .ref m4, .int (nI tN), .int w6, .int w7, .int w8, .int w9, .int w10, .int w11, .int w12, .int w13, .int w14, .int w15, .int w16, .int w17, .int w18, .int w19, .int w20, .int w21, .int w22, .ref m23, .ref m24, .ref m25, .ref m26, .ref m27, .ref m28, .ref m29, .ref m30, .ref m31, .ref m32, .ref m33, .ref m34, .int w35, .int w36, .int w37, .ref m38, .int w39, .int w40, .int w41, .int w42, .ref m43, .ref m44, .ref m45, .int w46, .int w47, .int w48, .int w49, .int w50, .ref m51, .ref m52, .ref m53, .ref m54, .ref m55, .int w56, .int w57, .int w58, .int w59, .int w60, .ref m61, .ref m62, .int w63, .int w64, .int w65])), (m3, .inl (cT, 4096, .inl tp)), (m4, .inl (cR, 20, .inl rd))] sz)) 0 0 (va_A [(o0, .inr (12, [.int w0, .ref m1, .ref m2, .ref m3, .ref m4, .int (nI tN), .int w6, .int w7, .int w8, .int w9, .int w10, .int w11, .int w12, .int w13, .int w14, .int w15, .int w16, .int w17, .int w18, .int w19, .int w20, .int w21, .int w22, .ref m23, .ref m24, .ref m25, .ref m26, .ref m27, .ref m28, .ref m29, .ref m30, .ref m31, .ref m32, .ref m33, .ref m34, .int w35, .int w36, .int w37, .ref m38, .int w39, .int w40, .int w41, .int w42, .ref m43, .ref m44, .ref m45, .int w46, .int w47, .int w48, .int w49, .int w50, .ref m51, .ref m52, .ref m53, .ref m54, .ref m55, .int w56, .int w57, .int w58, .int w59, .int w60, .ref m61, .ref m62, .int w63, .int w64, .int w65])), (m3, .inl (cT, 4096, .inl tp)), (m4, .inl (cR, 20, .inl rd))] sz) := by
  refine Met.ofW (cc := b_Mo_end) (maxL := 3) (ret := (some .int)) (by decide) rfl ?_
  intro p e s m args below meth c s₁ B hml hv
  obtain ⟨rfl, hsz, hP, hK, hD0⟩ := hv
  have hx := B.exec
  have hb := B.bytes
  have hr := B.returns
  have hts0 := atoms_spec (ws := .code y_Mo_end b_Mo_end 3 (some .int) :: V_Mo) B.pre
  have hts : ∀ w ∈ V_Mo, w.before ([.ref o0, .int p1] : List Value).toArray s = true := fun w h => hts0 w (List.mem_cons_of_mem _ h)
  have hown : s.vm.findClass R_Mo = some m.cls := findClass_of_methodNamed B.named
  have hlocks := B.notSynchronized
  subst hsz
  have hD := hD0.self (sz := s.heap.size)
  generalize hAe : va_A [(o0, .inr (12, [.int w0, .ref m1, .ref m2, .ref m3, .ref m4, .int (nI tN), .int w6, .int w7, .int w8, .int w9, .int w10, .int w11, .int w12, .int w13, .int w14, .int w15, .int w16, .int w17, .int w18, .int w19, .int w20, .int w21, .int w22, .ref m23, .ref m24, .ref m25, .ref m26, .ref m27, .ref m28, .ref m29, .ref m30, .ref m31, .ref m32, .ref m33, .ref m34, .int w35, .int w36, .int w37, .ref m38, .int w39, .int w40, .int w41, .int w42, .ref m43, .ref m44, .ref m45, .int w46, .int w47, .int w48, .int w49, .int w50, .ref m51, .ref m52, .ref m53, .ref m54, .ref m55, .int w56, .int w57, .int w58, .int w59, .int w60, .ref m61, .ref m62, .int w63, .int w64, .int w65])), (m3, .inl (cT, 4096, .inl tp)), (m4, .inl (cR, 20, .inl rd))] s.heap.size = A at hD ⊢
  have hA : ∀ q : Nat, s.heap.size ≤ q → A q := fun q h => by rw [← hAe]; exact Or.inr h
  have hS : va_S A s.heap s.heap [] := va_S.rf
  have hP : va_P (dC, dI) classes [(o0, .inr (12, [.int w0, .ref m1, .ref m2, .ref m3, .ref m4, .int (nI tN), .int w6, .int w7, .int w8, .int w9, .int w10, .int w11, .int w12, .int w13, .int w14, .int w15, .int w16, .int w17, .int w18, .int w19, .int w20, .int w21, .int w22, .ref m23, .ref m24, .ref m25, .ref m26, .ref m27, .ref m28, .ref m29, .ref m30, .ref m31, .ref m32, .ref m33, .ref m34, .int w35, .int w36, .int w37, .ref m38, .int w39, .int w40, .int w41, .int w42, .ref m43, .ref m44, .ref m45, .int w46, .int w47, .int w48, .int w49, .int w50, .ref m51, .ref m52, .ref m53, .ref m54, .ref m55, .int w56, .int w57, .int w58, .int w59, .int w60, .ref m61, .ref m62, .int w63, .int w64, .int w65])), (m3, .inl (cT, 4096, .inl tp)), (m4, .inl (cR, 20, .inl rd))] s.heap := hP
  have hK : va_K (dC, dI) classes [(cT, .byte), (cR, .byte)] s := hK
  have hl := lv_entry ([.ref o0, .int p1]) (n := 3) (Nat.le_of_ble_eq_true rfl)
  rw [lg_entry_eq]
  generalize (lg_sl ([.ref o0, .int p1]) ++ List.replicate (3 - (lg_sl ([.ref o0, .int p1])).length) Slot.unset).toArray = ls at hl ⊢
  have hl : lv_has ls 3 [(0, .ref o0), (1, .int p1)] := hl
  refine qabs (fun Q hQ => ?_)
  have hL31 : ∀ (k_ : Nat) (i : Nat) (q : Nat) (H : Heap) (locs : List Loc) (ls : Array Slot), q - i < k_ → (i ≤ q) → (q ≤ 20) → (tN + q ≤ 4096) → (p1 = nI q) → (mo_end tN p1 = nI (tN + q)) → va_P (dC, dI) classes [(o0, .inr (12, [.int w0, .ref m1, .ref m2, .ref m3, .ref m4, .int (nI (tN + i)), .int 0, .int w7, .int w8, .int w9, .int w10, .int w11, .int w12, .int w13, .int w14, .int w15, .int w16, .int w17, .int w18, .int w19, .int w20, .int w21, .int w22, .ref m23, .ref m24, .ref m25, .ref m26, .ref m27, .ref m28, .ref m29, .ref m30, .ref m31, .ref m32, .ref m33, .ref m34, .int w35, .int w36, .int w37, .ref m38, .int w39, .int w40, .int w41, .int w42, .ref m43, .ref m44, .ref m45, .int w46, .int w47, .int w48, .int w49, .int w50, .ref m51, .ref m52, .ref m53, .ref m54, .ref m55, .int w56, .int w57, .int w58, .int w59, .int w60, .ref m61, .ref m62, .int w63, .int w64, .int w65])), (m3, .inl (cT, 4096, .inl (ar_upto (mo_eb w8 rd) tN i tp))), (m4, .inl (cR, 20, .inl rd))] H → va_D A [(o0, .inr (12, [.int w0, .ref m1, .ref m2, .ref m3, .ref m4, .int (nI (tN + i)), .int 0, .int w7, .int w8, .int w9, .int w10, .int w11, .int w12, .int w13, .int w14, .int w15, .int w16, .int w17, .int w18, .int w19, .int w20, .int w21, .int w22, .ref m23, .ref m24, .ref m25, .ref m26, .ref m27, .ref m28, .ref m29, .ref m30, .ref m31, .ref m32, .ref m33, .ref m34, .int w35, .int w36, .int w37, .ref m38, .int w39, .int w40, .int w41, .int w42, .ref m43, .ref m44, .ref m45, .int w46, .int w47, .int w48, .int w49, .int w50, .ref m51, .ref m52, .ref m53, .ref m54, .ref m55, .int w56, .int w57, .int w58, .int w59, .int w60, .ref m61, .ref m62, .int w63, .int w64, .int w65])), (m3, .inl (cT, 4096, .inl (ar_upto (mo_eb w8 rd) tN i tp))), (m4, .inl (cR, 20, .inl rd))] → va_S A s.heap H locs → lv_has ls 3 [(0, .ref o0), (1, .int (nI q)), (2, .int (nI i))] → W p l e ({ frames := 0, cells := 0, slots := 0, locals := 0 }) s m ([.ref o0, .int p1] : List Value).toArray below meth c H locs 0 0 Q (F0 m 31 ls []) := by
    intro k_
    induction k_ with
    | zero => intro i q H locs ls hk_; exact absurd hk_ (Nat.not_lt_zero _)
    | succ k_ ih =>
      intro i q H locs ls hk_ hi hq htq hpq hre hP hD hS hl
      refine lv_iload_n hx hb d_Mo_end_31 rfl (lv_at hl 2 rfl) ?_
      refine lv_iload_n hx hb d_Mo_end_32 rfl (lv_at hl 1 rfl) ?_
      refine lv_icmp_ge (tgt := 78) hx hb d_Mo_end_33 (by decide) (fun c_1 => ?_) (fun c_1 => ?_)
      · have hi9 : i = q := Nat.le_antisymm hi ((nI_leI (by omega) (by omega)).mp c_1)
        subst hi9
        refine lv_aload_n hx hb d_Mo_end_78 rfl (lv_at hl 0 rfl) ?_
        refine lv_iconst (v := 0) hx hb d_Mo_end_79 (by decide) ?_
        refine va_put (D := (dC, dI)) (ci := 12) (v := .int 0) (ty := .boolean) (C := R_Mo) (T := F_Mo) (N := 66) hx hb hts i_Mo t_Mo t_Mo_ok n_Mo hown hK hP hD hS 0 rfl rfl 8 (by decide) (hts _ (k_Mo_15)) (fun _ h9 => h9) rfl (by decide +kernel) rfl rfl (Nat.le_of_ble_eq_true rfl) d_Mo_end_80 (fun H locs hP hD hS => ?_)
        have hP : va_P (dC, dI) classes [(o0, .inr (12, [.int w0, .ref m1, .ref m2, .ref m3, .ref m4, .int (nI (tN + i)), .int 0, .int w7, .int 0, .int w9, .int w10, .int w11, .int w12, .int w13, .int w14, .int w15, .int w16, .int w17, .int w18, .int w19, .int w20, .int w21, .int w22, .ref m23, .ref m24, .ref m25, .ref m26, .ref m27, .ref m28, .ref m29, .ref m30, .ref m31, .ref m32, .ref m33, .ref m34, .int w35, .int w36, .int w37, .ref m38, .int w39, .int w40, .int w41, .int w42, .ref m43, .ref m44, .ref m45, .int w46, .int w47, .int w48, .int w49, .int w50, .ref m51, .ref m52, .ref m53, .ref m54, .ref m55, .int w56, .int w57, .int w58, .int w59, .int w60, .ref m61, .ref m62, .int w63, .int w64, .int w65])), (m3, .inl (cT, 4096, .inl (ar_upto (mo_eb w8 rd) tN i tp))), (m4, .inl (cR, 20, .inl rd))] H := hP
        have hD : va_D A [(o0, .inr (12, [.int w0, .ref m1, .ref m2, .ref m3, .ref m4, .int (nI (tN + i)), .int 0, .int w7, .int 0, .int w9, .int w10, .int w11, .int w12, .int w13, .int w14, .int w15, .int w16, .int w17, .int w18, .int w19, .int w20, .int w21, .int w22, .ref m23, .ref m24, .ref m25, .ref m26, .ref m27, .ref m28, .ref m29, .ref m30, .ref m31, .ref m32, .ref m33, .ref m34, .int w35, .int w36, .int w37, .ref m38, .int w39, .int w40, .int w41, .int w42, .ref m43, .ref m44, .ref m45, .int w46, .int w47, .int w48, .int w49, .int w50, .ref m51, .ref m52, .ref m53, .ref m54, .ref m55, .int w56, .int w57, .int w58, .int w59, .int w60, .ref m61, .ref m62, .int w63, .int w64, .int w65])), (m3, .inl (cT, 4096, .inl (ar_upto (mo_eb w8 rd) tN i tp))), (m4, .inl (cR, 20, .inl rd))] := hD
        refine lv_aload_n hx hb d_Mo_end_83 rfl (lv_at hl 0 rfl) ?_
        refine va_get (D := (dC, dI)) (ci := 12) (v := .int (nI (tN + i))) (C := R_Mo) (T := F_Mo) (N := 66) hx hb hts i_Mo hown hK hP 0 rfl rfl 5 (by decide) (hts _ (k_Mo_12)) (fun _ h9 => h9) rfl d_Mo_end_84 ?_
        rw [hQ]
        exact W.iret (v := (nI (tN + i))) hx hb hr (fun t ht hW => ⟨⟨(nI (tN + i)), (ar_upto (mo_eb w8 rd) tN i tp, nI (tN + i), 0), rfl, hre.symm, by rw [ht]; exact hP, va_K.moved hW.alike hK, hD⟩, hS.F ht⟩) hS.2.2 d_Mo_end_87
      · have hlt : i < q := Nat.lt_of_not_le (fun h => c_1 ((nI_leI (by omega) (by omega)).mpr h))
        refine lv_aload_n hx hb d_Mo_end_36 rfl (lv_at hl 0 rfl) ?_
        refine va_get (D := (dC, dI)) (ci := 12) (v := .ref m3) (C := R_Mo) (T := F_Mo) (N := 66) hx hb hts i_Mo hown hK hP 0 rfl rfl 3 (by decide) (hts _ (k_Mo_10)) (fun _ h9 => h9) rfl d_Mo_end_37 ?_
        refine lv_aload_n hx hb d_Mo_end_40 rfl (lv_at hl 0 rfl) ?_
        refine va_get (D := (dC, dI)) (ci := 12) (v := .int (nI (tN + i))) (C := R_Mo) (T := F_Mo) (N := 66) hx hb hts i_Mo hown hK hP 0 rfl rfl 5 (by decide) (hts _ (k_Mo_12)) (fun _ h9 => h9) rfl d_Mo_end_41 ?_
        refine lv_aload_n hx hb d_Mo_end_44 rfl (lv_at hl 0 rfl) ?_
        refine va_get (D := (dC, dI)) (ci := 12) (v := .int w8) (C := R_Mo) (T := F_Mo) (N := 66) hx hb hts i_Mo hown hK hP 0 rfl rfl 8 (by decide) (hts _ (k_Mo_15)) (fun _ h9 => h9) rfl d_Mo_end_45 ?_
        refine lv_if_eq (tgt := 60) hx hb d_Mo_end_48 (by decide) (fun c_2 => ?_) (fun c_2 => ?_)
        · refine lv_iconst (v := 0) hx hb d_Mo_end_60 (by decide) ?_
          refine va_bast hx hb hK hP hD hS 1 0 rfl rfl (vp_in_nI (by omega) (by decide)) d_Mo_end_61 (fun H locs hP hD hS => ?_)
          have hP : va_P (dC, dI) classes [(o0, .inr (12, [.int w0, .ref m1, .ref m2, .ref m3, .ref m4, .int (nI (tN + i)), .int 0, .int w7, .int w8, .int w9, .int w10, .int w11, .int w12, .int w13, .int w14, .int w15, .int w16, .int w17, .int w18, .int w19, .int w20, .int w21, .int w22, .ref m23, .ref m24, .ref m25, .ref m26, .ref m27, .ref m28, .ref m29, .ref m30, .ref m31, .ref m32, .ref m33, .ref m34, .int w35, .int w36, .int w37, .ref m38, .int w39, .int w40, .int w41, .int w42, .ref m43, .ref m44, .ref m45, .int w46, .int w47, .int w48, .int w49, .int w50, .ref m51, .ref m52, .ref m53, .ref m54, .ref m55, .int w56, .int w57, .int w58, .int w59, .int w60, .ref m61, .ref m62, .int w63, .int w64, .int w65])), (m3, .inl (cT, 4096, .inl (upd (ar_upto (mo_eb w8 rd) tN i tp) (nI (tN + i)).toNatClampNeg (vp_nar .byte 0)))), (m4, .inl (cR, 20, .inl rd))] H := hP
          have hD : va_D A [(o0, .inr (12, [.int w0, .ref m1, .ref m2, .ref m3, .ref m4, .int (nI (tN + i)), .int 0, .int w7, .int w8, .int w9, .int w10, .int w11, .int w12, .int w13, .int w14, .int w15, .int w16, .int w17, .int w18, .int w19, .int w20, .int w21, .int w22, .ref m23, .ref m24, .ref m25, .ref m26, .ref m27, .ref m28, .ref m29, .ref m30, .ref m31, .ref m32, .ref m33, .ref m34, .int w35, .int w36, .int w37, .ref m38, .int w39, .int w40, .int w41, .int w42, .ref m43, .ref m44, .ref m45, .int w46, .int w47, .int w48, .int w49, .int w50, .ref m51, .ref m52, .ref m53, .ref m54, .ref m55, .int w56, .int w57, .int w58, .int w59, .int w60, .ref m61, .ref m62, .int w63, .int w64, .int w65])), (m3, .inl (cT, 4096, .inl (upd (ar_upto (mo_eb w8 rd) tN i tp) (nI (tN + i)).toNatClampNeg (vp_nar .byte 0)))), (m4, .inl (cR, 20, .inl rd))] := hD
          refine lv_aload_n hx hb d_Mo_end_62 rfl (lv_at hl 0 rfl) ?_
          refine lv_dup hx hb d_Mo_end_63 rfl ?_
          refine va_get (D := (dC, dI)) (ci := 12) (v := .int (nI (tN + i))) (C := R_Mo) (T := F_Mo) (N := 66) hx hb hts i_Mo hown hK hP 0 rfl rfl 5 (by decide) (hts _ (k_Mo_12)) (fun _ h9 => h9) rfl d_Mo_end_64 ?_
          refine lv_iconst (v := 1) hx hb d_Mo_end_67 (by decide) ?_
          refine lv_iadd hx hb d_Mo_end_68 ?_
          rw [show nI (tN + i) + 1 = nI (tN + (i + 1)) from nI_1 (tN + i)]
          refine va_put (D := (dC, dI)) (ci := 12) (v := .int (nI (tN + (i + 1)))) (ty := .int) (C := R_Mo) (T := F_Mo) (N := 66) hx hb hts i_Mo t_Mo t_Mo_ok n_Mo hown hK hP hD hS 0 rfl rfl 5 (by decide) (hts _ (k_Mo_12)) (fun _ h9 => h9) rfl (by decide +kernel) rfl rfl (Nat.le_of_ble_eq_true rfl) d_Mo_end_69 (fun H locs hP hD hS => ?_)
          have hP : va_P (dC, dI) classes [(o0, .inr (12, [.int w0, .ref m1, .ref m2, .ref m3, .ref m4, .int (nI (tN + (i + 1))), .int 0, .int w7, .int w8, .int w9, .int w10, .int w11, .int w12, .int w13, .int w14, .int w15, .int w16, .int w17, .int w18, .int w19, .int w20, .int w21, .int w22, .ref m23, .ref m24, .ref m25, .ref m26, .ref m27, .ref m28, .ref m29, .ref m30, .ref m31, .ref m32, .ref m33, .ref m34, .int w35, .int w36, .int w37, .ref m38, .int w39, .int w40, .int w41, .int w42, .ref m43, .ref m44, .ref m45, .int w46, .int w47, .int w48, .int w49, .int w50, .ref m51, .ref m52, .ref m53, .ref m54, .ref m55, .int w56, .int w57, .int w58, .int w59, .int w60, .ref m61, .ref m62, .int w63, .int w64, .int w65])), (m3, .inl (cT, 4096, .inl (upd (ar_upto (mo_eb w8 rd) tN i tp) (nI (tN + i)).toNatClampNeg (vp_nar .byte 0)))), (m4, .inl (cR, 20, .inl rd))] H := hP
          have hD : va_D A [(o0, .inr (12, [.int w0, .ref m1, .ref m2, .ref m3, .ref m4, .int (nI (tN + (i + 1))), .int 0, .int w7, .int w8, .int w9, .int w10, .int w11, .int w12, .int w13, .int w14, .int w15, .int w16, .int w17, .int w18, .int w19, .int w20, .int w21, .int w22, .ref m23, .ref m24, .ref m25, .ref m26, .ref m27, .ref m28, .ref m29, .ref m30, .ref m31, .ref m32, .ref m33, .ref m34, .int w35, .int w36, .int w37, .ref m38, .int w39, .int w40, .int w41, .int w42, .ref m43, .ref m44, .ref m45, .int w46, .int w47, .int w48, .int w49, .int w50, .ref m51, .ref m52, .ref m53, .ref m54, .ref m55, .int w56, .int w57, .int w58, .int w59, .int w60, .ref m61, .ref m62, .int w63, .int w64, .int w65])), (m3, .inl (cT, 4096, .inl (upd (ar_upto (mo_eb w8 rd) tN i tp) (nI (tN + i)).toNatClampNeg (vp_nar .byte 0)))), (m4, .inl (cR, 20, .inl rd))] := hD
          refine lv_iinc (v := nI (i + 1)) (lv' := [(2, .int (nI (i + 1))), (0, .ref o0), (1, .int (nI q))]) hx hb d_Mo_end_72 hl (k := 2) rfl (by exact nI_1 i) (by decide) rfl (fun ls hl => ?_)
          refine lv_goto (tgt := 31) hx hb d_Mo_end_75 (by decide) ?_
          rw [ar_upS (F := mo_eb w8 rd) (nI_clamp (by omega)) (by rw [mo_eb, if_pos c_2])] at hP hD
          exact ih (i + 1) q _ _ _ (by omega) hlt hq htq hpq hre hP hD hS (lv_sub hl [1, 2, 0] rfl)
        · refine lv_aload_n hx hb d_Mo_end_51 rfl (lv_at hl 0 rfl) ?_
          refine va_get (D := (dC, dI)) (ci := 12) (v := .ref m4) (C := R_Mo) (T := F_Mo) (N := 66) hx hb hts i_Mo hown hK hP 0 rfl rfl 4 (by decide) (hts _ (k_Mo_11)) (fun _ h9 => h9) rfl d_Mo_end_52 ?_
          refine lv_iload_n hx hb d_Mo_end_55 rfl (lv_at hl 2 rfl) ?_
          refine va_bald hx hb hK hP 2 1 rfl rfl (vp_in_nI (by omega) (by decide)) d_Mo_end_56 ?_
          refine lv_goto (tgt := 61) hx hb d_Mo_end_57 (by decide) ?_
          refine va_bast hx hb hK hP hD hS 1 0 rfl rfl (vp_in_nI (by omega) (by decide)) d_Mo_end_61 (fun H locs hP hD hS => ?_)
          have hP : va_P (dC, dI) classes [(o0, .inr (12, [.int w0, .ref m1, .ref m2, .ref m3, .ref m4, .int (nI (tN + i)), .int 0, .int w7, .int w8, .int w9, .int w10, .int w11, .int w12, .int w13, .int w14, .int w15, .int w16, .int w17, .int w18, .int w19, .int w20, .int w21, .int w22, .ref m23, .ref m24, .ref m25, .ref m26, .ref m27, .ref m28, .ref m29, .ref m30, .ref m31, .ref m32, .ref m33, .ref m34, .int w35, .int w36, .int w37, .ref m38, .int w39, .int w40, .int w41, .int w42, .ref m43, .ref m44, .ref m45, .int w46, .int w47, .int w48, .int w49, .int w50, .ref m51, .ref m52, .ref m53, .ref m54, .ref m55, .int w56, .int w57, .int w58, .int w59, .int w60, .ref m61, .ref m62, .int w63, .int w64, .int w65])), (m3, .inl (cT, 4096, .inl (upd (ar_upto (mo_eb w8 rd) tN i tp) (nI (tN + i)).toNatClampNeg (vp_nar .byte (rd (nI i).toNatClampNeg))))), (m4, .inl (cR, 20, .inl rd))] H := hP
          have hD : va_D A [(o0, .inr (12, [.int w0, .ref m1, .ref m2, .ref m3, .ref m4, .int (nI (tN + i)), .int 0, .int w7, .int w8, .int w9, .int w10, .int w11, .int w12, .int w13, .int w14, .int w15, .int w16, .int w17, .int w18, .int w19, .int w20, .int w21, .int w22, .ref m23, .ref m24, .ref m25, .ref m26, .ref m27, .ref m28, .ref m29, .ref m30, .ref m31, .ref m32, .ref m33, .ref m34, .int w35, .int w36, .int w37, .ref m38, .int w39, .int w40, .int w41, .int w42, .ref m43, .ref m44, .ref m45, .int w46, .int w47, .int w48, .int w49, .int w50, .ref m51, .ref m52, .ref m53, .ref m54, .ref m55, .int w56, .int w57, .int w58, .int w59, .int w60, .ref m61, .ref m62, .int w63, .int w64, .int w65])), (m3, .inl (cT, 4096, .inl (upd (ar_upto (mo_eb w8 rd) tN i tp) (nI (tN + i)).toNatClampNeg (vp_nar .byte (rd (nI i).toNatClampNeg))))), (m4, .inl (cR, 20, .inl rd))] := hD
          refine lv_aload_n hx hb d_Mo_end_62 rfl (lv_at hl 0 rfl) ?_
          refine lv_dup hx hb d_Mo_end_63 rfl ?_
          refine va_get (D := (dC, dI)) (ci := 12) (v := .int (nI (tN + i))) (C := R_Mo) (T := F_Mo) (N := 66) hx hb hts i_Mo hown hK hP 0 rfl rfl 5 (by decide) (hts _ (k_Mo_12)) (fun _ h9 => h9) rfl d_Mo_end_64 ?_
          refine lv_iconst (v := 1) hx hb d_Mo_end_67 (by decide) ?_
          refine lv_iadd hx hb d_Mo_end_68 ?_
          rw [show nI (tN + i) + 1 = nI (tN + (i + 1)) from nI_1 (tN + i)]
          refine va_put (D := (dC, dI)) (ci := 12) (v := .int (nI (tN + (i + 1)))) (ty := .int) (C := R_Mo) (T := F_Mo) (N := 66) hx hb hts i_Mo t_Mo t_Mo_ok n_Mo hown hK hP hD hS 0 rfl rfl 5 (by decide) (hts _ (k_Mo_12)) (fun _ h9 => h9) rfl (by decide +kernel) rfl rfl (Nat.le_of_ble_eq_true rfl) d_Mo_end_69 (fun H locs hP hD hS => ?_)
          have hP : va_P (dC, dI) classes [(o0, .inr (12, [.int w0, .ref m1, .ref m2, .ref m3, .ref m4, .int (nI (tN + (i + 1))), .int 0, .int w7, .int w8, .int w9, .int w10, .int w11, .int w12, .int w13, .int w14, .int w15, .int w16, .int w17, .int w18, .int w19, .int w20, .int w21, .int w22, .ref m23, .ref m24, .ref m25, .ref m26, .ref m27, .ref m28, .ref m29, .ref m30, .ref m31, .ref m32, .ref m33, .ref m34, .int w35, .int w36, .int w37, .ref m38, .int w39, .int w40, .int w41, .int w42, .ref m43, .ref m44, .ref m45, .int w46, .int w47, .int w48, .int w49, .int w50, .ref m51, .ref m52, .ref m53, .ref m54, .ref m55, .int w56, .int w57, .int w58, .int w59, .int w60, .ref m61, .ref m62, .int w63, .int w64, .int w65])), (m3, .inl (cT, 4096, .inl (upd (ar_upto (mo_eb w8 rd) tN i tp) (nI (tN + i)).toNatClampNeg (vp_nar .byte (rd (nI i).toNatClampNeg))))), (m4, .inl (cR, 20, .inl rd))] H := hP
          have hD : va_D A [(o0, .inr (12, [.int w0, .ref m1, .ref m2, .ref m3, .ref m4, .int (nI (tN + (i + 1))), .int 0, .int w7, .int w8, .int w9, .int w10, .int w11, .int w12, .int w13, .int w14, .int w15, .int w16, .int w17, .int w18, .int w19, .int w20, .int w21, .int w22, .ref m23, .ref m24, .ref m25, .ref m26, .ref m27, .ref m28, .ref m29, .ref m30, .ref m31, .ref m32, .ref m33, .ref m34, .int w35, .int w36, .int w37, .ref m38, .int w39, .int w40, .int w41, .int w42, .ref m43, .ref m44, .ref m45, .int w46, .int w47, .int w48, .int w49, .int w50, .ref m51, .ref m52, .ref m53, .ref m54, .ref m55, .int w56, .int w57, .int w58, .int w59, .int w60, .ref m61, .ref m62, .int w63, .int w64, .int w65])), (m3, .inl (cT, 4096, .inl (upd (ar_upto (mo_eb w8 rd) tN i tp) (nI (tN + i)).toNatClampNeg (vp_nar .byte (rd (nI i).toNatClampNeg))))), (m4, .inl (cR, 20, .inl rd))] := hD
          refine lv_iinc (v := nI (i + 1)) (lv' := [(2, .int (nI (i + 1))), (0, .ref o0), (1, .int (nI q))]) hx hb d_Mo_end_72 hl (k := 2) rfl (by exact nI_1 i) (by decide) rfl (fun ls hl => ?_)
          refine lv_goto (tgt := 31) hx hb d_Mo_end_75 (by decide) ?_
          rw [ar_upS (F := mo_eb w8 rd) (nI_clamp (by omega)) (by rw [mo_eb, if_neg c_2]; rw [nI_clamp (by omega)])] at hP hD
          exact ih (i + 1) q _ _ _ (by omega) hlt hq htq hpq hre hP hD hS (lv_sub hl [1, 2, 0] rfl)
  refine lv_aload_n hx hb d_Mo_end_0 rfl (lv_at hl 0 rfl) ?_
  refine lv_iconst (v := 0) hx hb d_Mo_end_1 (by decide) ?_
  refine va_put (D := (dC, dI)) (ci := 12) (v := .int 0) (ty := .int) (C := R_Mo) (T := F_Mo) (N := 66) hx hb hts i_Mo t_Mo t_Mo_ok n_Mo hown hK hP hD hS 0 rfl rfl 6 (by decide) (hts _ (k_Mo_13)) (fun _ h9 => h9) rfl (by decide +kernel) rfl rfl (Nat.le_of_ble_eq_true rfl) d_Mo_end_2 (fun H locs hP hD hS => ?_)
  have hP : va_P (dC, dI) classes [(o0, .inr (12, [.int w0, .ref m1, .ref m2, .ref m3, .ref m4, .int (nI tN), .int 0, .int w7, .int w8, .int w9, .int w10, .int w11, .int w12, .int w13, .int w14, .int w15, .int w16, .int w17, .int w18, .int w19, .int w20, .int w21, .int w22, .ref m23, .ref m24, .ref m25, .ref m26, .ref m27, .ref m28, .ref m29, .ref m30, .ref m31, .ref m32, .ref m33, .ref m34, .int w35, .int w36, .int w37, .ref m38, .int w39, .int w40, .int w41, .int w42, .ref m43, .ref m44, .ref m45, .int w46, .int w47, .int w48, .int w49, .int w50, .ref m51, .ref m52, .ref m53, .ref m54, .ref m55, .int w56, .int w57, .int w58, .int w59, .int w60, .ref m61, .ref m62, .int w63, .int w64, .int w65])), (m3, .inl (cT, 4096, .inl tp)), (m4, .inl (cR, 20, .inl rd))] H := hP
  have hD : va_D A [(o0, .inr (12, [.int w0, .ref m1, .ref m2, .ref m3, .ref m4, .int (nI tN), .int 0, .int w7, .int w8, .int w9, .int w10, .int w11, .int w12, .int w13, .int w14, .int w15, .int w16, .int w17, .int w18, .int w19, .int w20, .int w21, .int w22, .ref m23, .ref m24, .ref m25, .ref m26, .ref m27, .ref m28, .ref m29, .ref m30, .ref m31, .ref m32, .ref m33, .ref m34, .int w35, .int w36, .int w37, .ref m38, .int w39, .int w40, .int w41, .int w42, .ref m43, .ref m44, .ref m45, .int w46, .int w47, .int w48, .int w49, .int w50, .ref m51, .ref m52, .ref m53, .ref m54, .ref m55, .int w56, .int w57, .int w58, .int w59, .int w60, .ref m61, .ref m62, .int w63, .int w64, .int w65])), (m3, .inl (cT, 4096, .inl tp)), (m4, .inl (cR, 20, .inl rd))] := hD
  refine lv_iload_n hx hb d_Mo_end_5 rfl (lv_at hl 1 rfl) ?_
  refine lv_if_lt (tgt := 27) hx hb d_Mo_end_6 (by decide) (fun c_3 => ?_) (fun c_3 => ?_)
  · refine lv_iconst (v := (-1)) hx hb d_Mo_end_27 (by decide) ?_
    rw [hQ]
    exact W.iret (v := ((-1))) hx hb hr (fun t ht hW => ⟨⟨((-1)), (tp, nI tN, w8), rfl, by rw [mo_end, if_pos c_3], by rw [ht]; exact hP, va_K.moved hW.alike hK, hD⟩, hS.F ht⟩) hS.2.2 d_Mo_end_28
  · refine lv_iload_n hx hb d_Mo_end_9 rfl (lv_at hl 1 rfl) ?_
    refine lv_bipush (v := 20) hx hb d_Mo_end_10 (by decide) ?_
    refine lv_icmp_gt (tgt := 27) hx hb d_Mo_end_12 (by decide) (fun c_4 => ?_) (fun c_4 => ?_)
    · refine lv_iconst (v := (-1)) hx hb d_Mo_end_27 (by decide) ?_
      rw [hQ]
      exact W.iret (v := ((-1))) hx hb hr (fun t ht hW => ⟨⟨((-1)), (tp, nI tN, w8), rfl, by rw [mo_end, if_neg c_3, if_pos c_4], by rw [ht]; exact hP, va_K.moved hW.alike hK, hD⟩, hS.F ht⟩) hS.2.2 d_Mo_end_28
    · refine lv_aload_n hx hb d_Mo_end_15 rfl (lv_at hl 0 rfl) ?_
      refine va_get (D := (dC, dI)) (ci := 12) (v := .int (nI tN)) (C := R_Mo) (T := F_Mo) (N := 66) hx hb hts i_Mo hown hK hP 0 rfl rfl 5 (by decide) (hts _ (k_Mo_12)) (fun _ h9 => h9) rfl d_Mo_end_16 ?_
      refine lv_iload_n hx hb d_Mo_end_19 rfl (lv_at hl 1 rfl) ?_
      refine lv_iadd hx hb d_Mo_end_20 ?_
      refine lv_sipush (v := 4096) hx hb d_Mo_end_21 (by decide) ?_
      refine lv_icmp_le (tgt := 29) hx hb d_Mo_end_24 (by decide) (fun c_5 => ?_) (fun c_5 => ?_)
      · refine lv_iconst (v := 0) hx hb d_Mo_end_29 (by decide) ?_
        refine lv_istore_n (lv' := [(2, .int 0), (0, .ref o0), (1, .int p1)]) hx hb d_Mo_end_30 rfl hl (by decide) rfl (fun ls hl => ?_)
        obtain ⟨q, hq9, rfl⟩ := nI_of c_3
        have hq : q ≤ 20 := Nat.le_of_not_lt (fun h => c_4 (nI_lt (a := 20) h hq9))
        have htq : tN + q ≤ 4096 := by have z := c_5; rw [nI_add] at z; exact (nI_leI (b := 4096) (by omega) (by decide)).mp z
        rw [← ar_up0 (mo_eb w8 rd) tN tp] at hP hD
        exact hL31 21 0 q _ _ _ (by omega) (Nat.zero_le _) hq htq rfl (by rw [mo_end, if_neg c_3, if_neg c_4, if_pos c_5, nI_add]) hP hD hS (lv_sub hl [1, 2, 0] rfl)
      · refine lv_iconst (v := (-1)) hx hb d_Mo_end_27 (by decide) ?_
        rw [hQ]
        exact W.iret (v := ((-1))) hx hb hr (fun t ht hW => ⟨⟨((-1)), (tp, nI tN, w8), rfl, by rw [mo_end, if_neg c_3, if_neg c_4, if_neg c_5], by rw [ht]; exact hP, va_K.moved hW.alike hK, hD⟩, hS.F ht⟩) hS.2.2 d_Mo_end_28
