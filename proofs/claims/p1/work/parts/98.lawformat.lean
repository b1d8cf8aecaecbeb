theorem tb_lst_cases (sec c b y : Int32) : ∀ (k i : Nat), (tb_lst sec c b y k i = -1 ∧ ∀ j, i ≤ j → j < i + k → ¬ tb_ok sec c b y (nI j)) ∨ ∃ n, i ≤ n ∧ n < i + k ∧ tb_lst sec c b y k i = nI n ∧ tb_ok sec c b y (nI n) ∧ ∀ j, i ≤ j → j < n → ¬ tb_ok sec c b y (nI j) := by
  intro k
  induction k with
  | zero => intro i; exact Or.inl ⟨by rw [tb_lst], fun j h1 h2 => by omega⟩
  | succ k ih =>
    intro i
    rcases tb_okD sec c b y (nI i) with h | h
    · exact Or.inr ⟨i, Nat.le_refl _, by omega, by rw [tb_lst, if_pos h], h, fun j h1 h2 => by omega⟩
    · rcases ih (i + 1) with ⟨h1, h2⟩ | ⟨n, h1, h2, h3, h4, h5⟩
      · refine Or.inl ⟨by rw [tb_lst, if_neg h]; exact h1, fun j g1 g2 => ?_⟩
        rcases Nat.eq_or_lt_of_le g1 with q | q
        · subst q; exact h
        · exact h2 j q (by omega)
      · refine Or.inr ⟨n, by omega, by omega, by rw [tb_lst, if_neg h]; exact h3, h4, fun j g1 g2 => ?_⟩
        rcases Nat.eq_or_lt_of_le g1 with q | q
        · subst q; exact h
        · exact h5 j q g2
theorem la_cmpF {oo : Nat → Int64} {k : Nat} {a b : Int32} (h : a = b) : lg_cmp (vp_updL oo k a.toInt64 k) b.toInt64 = 0 := by
  subst h
  rw [pk_uLs, lg_cmp, if_neg (Int64.lt_irrefl), if_pos rfl]
theorem la_v {p : Int32} (h8 : ¬ p < 8) (h64 : ¬ 64 < p) : ∃ vN : Nat, p = nI vN ∧ vN ≤ 64 := by
  obtain ⟨j, hj, rfl⟩ := nI_of (x := p) (fun q => h8 (Int32.lt_trans q (by decide)))
  exact ⟨j, rfl, Nat.le_of_not_lt (fun q => h64 (nI_lt (a := 64) q hj))⟩
theorem la_m1 {n : Nat} (h : n < 2 ^ 31) : ¬ nI n = -1 := fun e => by
  have := nI_pos h
  rw [e] at this
  exact this (by decide)
set_option maxHeartbeats 4000000 in
set_option maxRecDepth 100000 in
theorem la_case3 {p : Program} {e : Env} {s : State} {m : MethodId} {below : List Frame} {meth : Method} {c : Code} (l : Launch) (hfl : l.flags = pinnedFlags ++ [noTraceFlag]) (dC : Nat → ClassId) (dI : Nat → Nat → Nat) (v0 h0 t0 b0 e0 r0 d0 g0 u0 i0 fa fw h1 b1 b2 r1 r2 r3 r4 t1 t2 o0 ou m1 m2 m3 m4 m23 m24 m25 m26 m27 m28 m29 m30 m31 m32 m33 m34 m38 m43 m44 m45 m51 m52 m53 m54 m55 m61 m62 : Nat) (cB c1 c2 c3 c4 c5 cD cT cR cO : ClassId) (sN : Nat) (hs0 : 256 ≤ sN) (hs : sN ≤ 1024) {b : Nat} {xs : Nat → Int32} (C0 : lw_At p s m meth c b 7 xs) (hT : x_T R_Vt 137 "java/lang/IllegalArgumentException" 135 "no such volume or label" s) {H : Heap} {locs : List Loc} {ls : Array Slot} (hP : va_P (dC, dI) classes [(v0, .inr (11, [.ref h0, .ref t0, .ref b0, .ref e0, .ref r0, .ref d0, .ref g0, .ref u0, .ref i0, .ref fa, .ref fw, .int 0, .int 0, .int 1, .int 1, .int 0])), (b0, .inr (4, [.ref h0, .int 2, .int 8, .int 1, .int 1, .int 2, .int 10, .int 4, .ref b1, .ref b2])), (b1, .inl (c1, (sN / 2 + 2), .inl ((fun _ => 0)))), (h0, .inr (0, [.int (nI sN), .ref h1, .int ((-1))])), (h1, .inl (cB, (sN * 512), .inl ((fun _ => 0)))), (t0, .inr (3, [.ref t1, .ref t2, .int 0])), (t1, .inl (c2, 4096, .inl ((fun _ => 0)))), (t2, .inl (c3, 20, .inl ((fun _ => 0)))), (ou, .inl (cO, 1, .inr (.inl ((fun _ => 0))))), (o0, .inr (12, [.int (nI sN), .ref m1, .ref m2, .ref m3, .ref m4, .int 0, .int 0, .int 0, .int 0, .int 0, .int 0, .int 0, .int 0, .int 0, .int 0, .int 0, .int 0, .int 0, .int 0, .int 0, .int 0, .int 0, .int 0, .ref m23, .ref m24, .ref m25, .ref m26, .ref m27, .ref m28, .ref m29, .ref m30, .ref m31, .ref m32, .ref m33, .ref m34, .int 0, .int 0, .int 0, .ref m38, .int 0, .int 0, .int 0, .int 0, .ref m43, .ref m44, .ref m45, .int 0, .int 0, .int 0, .int 0, .int 0, .ref m51, .ref m52, .ref m53, .ref m54, .ref m55, .int 0, .int 0, .int 0, .int 0, .int 0, .ref m61, .ref m62, .int 0, .int 0, .int 0])), (m1, .inl (cD, 524288, .inl ((fun _ => 0))))] H) (hD : va_D (fun q => s.heap.size ≤ q) [(v0, .inr (11, [.ref h0, .ref t0, .ref b0, .ref e0, .ref r0, .ref d0, .ref g0, .ref u0, .ref i0, .ref fa, .ref fw, .int 0, .int 0, .int 1, .int 1, .int 0])), (b0, .inr (4, [.ref h0, .int 2, .int 8, .int 1, .int 1, .int 2, .int 10, .int 4, .ref b1, .ref b2])), (b1, .inl (c1, (sN / 2 + 2), .inl ((fun _ => 0)))), (h0, .inr (0, [.int (nI sN), .ref h1, .int ((-1))])), (h1, .inl (cB, (sN * 512), .inl ((fun _ => 0)))), (t0, .inr (3, [.ref t1, .ref t2, .int 0])), (t1, .inl (c2, 4096, .inl ((fun _ => 0)))), (t2, .inl (c3, 20, .inl ((fun _ => 0)))), (ou, .inl (cO, 1, .inr (.inl ((fun _ => 0))))), (o0, .inr (12, [.int (nI sN), .ref m1, .ref m2, .ref m3, .ref m4, .int 0, .int 0, .int 0, .int 0, .int 0, .int 0, .int 0, .int 0, .int 0, .int 0, .int 0, .int 0, .int 0, .int 0, .int 0, .int 0, .int 0, .int 0, .ref m23, .ref m24, .ref m25, .ref m26, .ref m27, .ref m28, .ref m29, .ref m30, .ref m31, .ref m32, .ref m33, .ref m34, .int 0, .int 0, .int 0, .ref m38, .int 0, .int 0, .int 0, .int 0, .ref m43, .ref m44, .ref m45, .int 0, .int 0, .int 0, .int 0, .int 0, .ref m51, .ref m52, .ref m53, .ref m54, .ref m55, .int 0, .int 0, .int 0, .int 0, .int 0, .ref m61, .ref m62, .int 0, .int 0, .int 0])), (m1, .inl (cD, 524288, .inl ((fun _ => 0))))]) (hK : va_K (dC, dI) classes [(c1, .int), (cB, .byte), (c2, .byte), (c3, .byte), (cO, .long), (cD, .byte)] s) (hS : va_S (fun q => s.heap.size ≤ q) s.heap H locs) (hl : lv_has ls 8 [(4, .int 1), (3, .ref ou), (2, .ref o0), (1, .ref v0), (0, .ref b)]) : W p l e room_1 s m #[Value.ref b] below meth c H locs 74 1720373 (lw_Z below #[Value.ref b] s) (F0 m 267 ls []) := by
  have C1 := C0
  obtain ⟨hx, hb, hr, hml, hown, hts1, hX, hbl, hlocks, hgv⟩ := C0
  have hts : ∀ w ∈ V_La, w.before #[Value.ref b] s = true := fun w h => hts1 w (in_V_La w h)
  have hbA : ¬ s.heap.size ≤ b := Nat.not_le.mpr hbl
  have hA : ∀ q : Nat, s.heap.size ≤ q → s.heap.size ≤ q := fun _ h => h
  have hb : c.code = b_La_law := hb
  have hown : s.vm.findClass R_La = some m.cls := hown
  have C0 := C1
  refine lv_aload_n hx hb d_La_law_267 rfl (lv_at hl 3 rfl) ?_
  refine lv_aload_n hx hb d_La_law_268 rfl (lv_at hl 4 rfl) ?_
  refine lv_iload hx hb d_La_law_269 (lv_at hl 0 rfl) ?_
  refine lv_iconst (v := 1) hx hb d_La_law_271 (by decide) ?_
  refine lv_iadd hx hb d_La_law_272 ?_
  refine va_sld hx hb hX hbl hbA hS (by unfold vp_in; decide) d_La_law_273 ?_
  refine lv_topi (fun x_1 ex_1 => ?_)
  refine lv_aload_n hx hb d_La_law_274 rfl (lv_at hl 4 rfl) ?_
  refine lv_iload hx hb d_La_law_275 (lv_at hl 0 rfl) ?_
  refine lv_iconst (v := 2) hx hb d_La_law_277 (by decide) ?_
  refine lv_iadd hx hb d_La_law_278 ?_
  refine va_sld hx hb hX hbl hbA hS (by unfold vp_in; decide) d_La_law_279 ?_
  refine lv_topi (fun x_2 ex_2 => ?_)
  refine lv_aload_n hx hb d_La_law_280 rfl (lv_at hl 4 rfl) ?_
  refine lv_iload hx hb d_La_law_281 (lv_at hl 0 rfl) ?_
  refine lv_iconst (v := 3) hx hb d_La_law_283 (by decide) ?_
  refine lv_iadd hx hb d_La_law_284 ?_
  refine va_sld hx hb hX hbl hbA hS (by unfold vp_in; decide) d_La_law_285 ?_
  refine lv_topi (fun x_3 ex_3 => ?_)
  refine lv_aload_n hx hb d_La_law_286 rfl (lv_at hl 4 rfl) ?_
  refine lv_iload hx hb d_La_law_287 (lv_at hl 0 rfl) ?_
  refine lv_iconst (v := 4) hx hb d_La_law_289 (by decide) ?_
  refine lv_iadd hx hb d_La_law_290 ?_
  refine va_sld hx hb hX hbl hbA hS (by unfold vp_in; decide) d_La_law_291 ?_
  refine lv_topi (fun x_4 ex_4 => ?_)
  refine lv_aload_n hx hb d_La_law_292 rfl (lv_at hl 1 rfl) ?_
  rcases tb_lst_cases (nI sN) x_1 x_2 x_3 32 1 with ⟨hlst, hno⟩ | ⟨lN, hl1, hl33, hlst, hok, hmin⟩
  · have hPc := hP.sub (ws' := [(v0, .inr (11, [.ref h0, .ref t0, .ref b0, .ref e0, .ref r0, .ref d0, .ref g0, .ref u0, .ref i0, .ref fa, .ref fw, .int 0, .int 0, .int 1, .int 1, .int 0])), (b0, .inr (4, [.ref h0, .int 2, .int 8, .int 1, .int 1, .int 2, .int 10, .int 4, .ref b1, .ref b2])), (b1, .inl (c1, (sN / 2 + 2), .inl ((fun _ => 0)))), (h0, .inr (0, [.int (nI sN), .ref h1, .int ((-1))])), (h1, .inl (cB, (sN * 512), .inl ((fun _ => 0)))), (t0, .inr (3, [.ref t1, .ref t2, .int 0])), (t1, .inl (c2, 4096, .inl ((fun _ => 0)))), (t2, .inl (c3, 20, .inl ((fun _ => 0))))]) [0, 1, 2, 3, 4, 5, 6, 7] rfl
    have hDc := hD.sub (ws' := [(v0, .inr (11, [.ref h0, .ref t0, .ref b0, .ref e0, .ref r0, .ref d0, .ref g0, .ref u0, .ref i0, .ref fa, .ref fw, .int 0, .int 0, .int 1, .int 1, .int 0])), (b0, .inr (4, [.ref h0, .int 2, .int 8, .int 1, .int 1, .int 2, .int 10, .int 4, .ref b1, .ref b2])), (b1, .inl (c1, (sN / 2 + 2), .inl ((fun _ => 0)))), (h0, .inr (0, [.int (nI sN), .ref h1, .int ((-1))])), (h1, .inl (cB, (sN * 512), .inl ((fun _ => 0)))), (t0, .inr (3, [.ref t1, .ref t2, .int 0])), (t1, .inl (c2, 4096, .inl ((fun _ => 0)))), (t2, .inl (c3, 20, .inl ((fun _ => 0))))]) [0, 1, 2, 3, 4, 5, 6, 7] (by decide) rfl
    have hKc := hK.sub (tys' := [(c1, .int), (cB, .byte), (c2, .byte), (c3, .byte)]) [0, 1, 2, 3] rfl
    have hFc := va_free (wc := [(v0, .inr (11, [.ref h0, .ref t0, .ref b0, .ref e0, .ref r0, .ref d0, .ref g0, .ref u0, .ref i0, .ref fa, .ref fw, .int 0, .int 0, .int 1, .int 1, .int 0])), (b0, .inr (4, [.ref h0, .int 2, .int 8, .int 1, .int 1, .int 2, .int 10, .int 4, .ref b1, .ref b2])), (b1, .inl (c1, (sN / 2 + 2), .inl ((fun _ => 0)))), (h0, .inr (0, [.int (nI sN), .ref h1, .int ((-1))])), (h1, .inl (cB, (sN * 512), .inl ((fun _ => 0)))), (t0, .inr (3, [.ref t1, .ref t2, .int 0])), (t1, .inl (c2, 4096, .inl ((fun _ => 0)))), (t2, .inl (c3, 20, .inl ((fun _ => 0))))]) hD hS hA [0, 1, 2, 3, 4, 5, 6, 7] rfl
    refine va_calli (x_runSW (handlers := [(0, 14, 17, 13)]) (bytes := b_La_format) (maxL := 7) (ret := (some .int)) (n := 6) (index := 93) (As := [.ref v0, .int x_1, .int x_2, .int x_3, .int x_4, .ref ou]) (rest := []) ⟨hx, hb, hml, hown, hts⟩ (c_La_format0 l hfl dC dI v0 H.size h0 t0 b0 e0 r0 d0 g0 u0 i0 fa fw 0 0 1 1 0 b1 b2 2 8 1 1 2 10 4 c1 (sN / 2 + 2) (fun _ => 0) (by omega) h1 cB (nI sN) (-1) (sN * 512) (fun _ => 0) (by omega) (by omega) (by omega) t1 t2 c2 c3 (fun _ => 0) (fun _ => 0) x_1 x_2 x_3 x_4 hlst ou) rfl rfl (Nat.le_of_ble_eq_true rfl) (Nat.le_of_ble_eq_true rfl) (pay_in hts (fun w h => good_La w (wcs (k_La_18) (fun _ h => h) w h))) List.mem_cons_self (hts _ (k_La_0)) (by decide +kernel) (hlen_of (by decide +kernel)) (hts _ (k_La_16)) (hts _ (k_La_17)) (ps_ofE (fun U V z1 z2 z => x_T.same x_allA z1 z2 z) (fun U z1 z2 => x_T.at x_allA hT z2 (by rw [z1]; exact la_K0 hS)) hPc hKc hDc) rfl rfl hl.1 rfl (lv_room (Nat.le_of_ble_eq_true rfl)) d_La_law_293 ⟨by decide, by decide⟩) hS (fun q _ h => hFc q h) hFc (fun r_5 u t H1 locs ht hvm hw hB hz1 hk1 hS => ?_)
    subst hw
    obtain ⟨hP1, hK1, hD1⟩ := hB
    rw [ht] at hP1
    have hP1 : va_P (dC, dI) classes [] H1 := hP1.sub (ws' := []) [] rfl
    have hD1 : va_D _ [] := hD1.sub (ws' := []) [] (by decide) rfl
    obtain ⟨hP, hD⟩ := va_join (wr := [(ou, .inl (cO, 1, .inr (.inl ((fun _ => 0))))), (o0, .inr (12, [.int (nI sN), .ref m1, .ref m2, .ref m3, .ref m4, .int 0, .int 0, .int 0, .int 0, .int 0, .int 0, .int 0, .int 0, .int 0, .int 0, .int 0, .int 0, .int 0, .int 0, .int 0, .int 0, .int 0, .int 0, .ref m23, .ref m24, .ref m25, .ref m26, .ref m27, .ref m28, .ref m29, .ref m30, .ref m31, .ref m32, .ref m33, .ref m34, .int 0, .int 0, .int 0, .ref m38, .int 0, .int 0, .int 0, .int 0, .ref m43, .ref m44, .ref m45, .int 0, .int 0, .int 0, .int 0, .int 0, .ref m51, .ref m52, .ref m53, .ref m54, .ref m55, .int 0, .int 0, .int 0, .int 0, .int 0, .ref m61, .ref m62, .int 0, .int 0, .int 0])), (m1, .inl (cD, 524288, .inl ((fun _ => 0))))]) (w1 := []) hP hD [0, 1, 2, 3, 4, 5, 6, 7] [8, 9, 10] rfl rfl (by decide) (by decide) hk1 hFc hP1 hD1
    generalize H1 = H at hP hS ⊢
    have hP : va_P (dC, dI) classes [(ou, .inl (cO, 1, .inr (.inl ((fun _ => 0))))), (o0, .inr (12, [.int (nI sN), .ref m1, .ref m2, .ref m3, .ref m4, .int 0, .int 0, .int 0, .int 0, .int 0, .int 0, .int 0, .int 0, .int 0, .int 0, .int 0, .int 0, .int 0, .int 0, .int 0, .int 0, .int 0, .int 0, .ref m23, .ref m24, .ref m25, .ref m26, .ref m27, .ref m28, .ref m29, .ref m30, .ref m31, .ref m32, .ref m33, .ref m34, .int 0, .int 0, .int 0, .ref m38, .int 0, .int 0, .int 0, .int 0, .ref m43, .ref m44, .ref m45, .int 0, .int 0, .int 0, .int 0, .int 0, .ref m51, .ref m52, .ref m53, .ref m54, .ref m55, .int 0, .int 0, .int 0, .int 0, .int 0, .ref m61, .ref m62, .int 0, .int 0, .int 0])), (m1, .inl (cD, 524288, .inl ((fun _ => 0))))] H := hP
    have hD : va_D (fun q => s.heap.size ≤ q) [(ou, .inl (cO, 1, .inr (.inl ((fun _ => 0))))), (o0, .inr (12, [.int (nI sN), .ref m1, .ref m2, .ref m3, .ref m4, .int 0, .int 0, .int 0, .int 0, .int 0, .int 0, .int 0, .int 0, .int 0, .int 0, .int 0, .int 0, .int 0, .int 0, .int 0, .int 0, .int 0, .int 0, .ref m23, .ref m24, .ref m25, .ref m26, .ref m27, .ref m28, .ref m29, .ref m30, .ref m31, .ref m32, .ref m33, .ref m34, .int 0, .int 0, .int 0, .ref m38, .int 0, .int 0, .int 0, .int 0, .ref m43, .ref m44, .ref m45, .int 0, .int 0, .int 0, .int 0, .int 0, .ref m51, .ref m52, .ref m53, .ref m54, .ref m55, .int 0, .int 0, .int 0, .int 0, .int 0, .ref m61, .ref m62, .int 0, .int 0, .int 0])), (m1, .inl (cD, 524288, .inl ((fun _ => 0))))] := hD
    refine lv_istore (lv' := [(5, .int 1), (4, .int 1), (3, .ref ou), (2, .ref o0), (1, .ref v0), (0, .ref b)]) hx hb d_La_law_296 hl (by decide) rfl (fun ls hl => ?_)
    refine lv_aload_n hx hb d_La_law_298 rfl (lv_at hl 3 rfl) ?_
    refine lv_aload_n hx hb d_La_law_299 rfl (lv_at hl 5 rfl) ?_
    refine lv_iload hx hb d_La_law_300 (lv_at hl 1 rfl) ?_
    refine lv_iconst (v := 1) hx hb d_La_law_302 (by decide) ?_
    refine lv_iadd hx hb d_La_law_303 ?_
    refine va_sld hx hb hX hbl hbA hS (by unfold vp_in; decide) d_La_law_304 ?_
    refine lv_topi (fun x_6 ex_6 => ?_)
    rw [show x_6 = x_1 from ex_6.trans ex_1.symm]
    refine lv_aload_n hx hb d_La_law_305 rfl (lv_at hl 5 rfl) ?_
    refine lv_iload hx hb d_La_law_306 (lv_at hl 1 rfl) ?_
    refine lv_iconst (v := 2) hx hb d_La_law_308 (by decide) ?_
    refine lv_iadd hx hb d_La_law_309 ?_
    refine va_sld hx hb hX hbl hbA hS (by unfold vp_in; decide) d_La_law_310 ?_
    refine lv_topi (fun x_7 ex_7 => ?_)
    rw [show x_7 = x_2 from ex_7.trans ex_2.symm]
    refine lv_aload_n hx hb d_La_law_311 rfl (lv_at hl 5 rfl) ?_
    refine lv_iload hx hb d_La_law_312 (lv_at hl 1 rfl) ?_
    refine lv_iconst (v := 3) hx hb d_La_law_314 (by decide) ?_
    refine lv_iadd hx hb d_La_law_315 ?_
    refine va_sld hx hb hX hbl hbA hS (by unfold vp_in; decide) d_La_law_316 ?_
    refine lv_topi (fun x_8 ex_8 => ?_)
    rw [show x_8 = x_3 from ex_8.trans ex_3.symm]
    refine lv_aload_n hx hb d_La_law_317 rfl (lv_at hl 5 rfl) ?_
    refine lv_iload hx hb d_La_law_318 (lv_at hl 1 rfl) ?_
    refine lv_iconst (v := 4) hx hb d_La_law_320 (by decide) ?_
    refine lv_iadd hx hb d_La_law_321 ?_
    refine va_sld hx hb hX hbl hbA hS (by unfold vp_in; decide) d_La_law_322 ?_
    refine lv_topi (fun x_9 ex_9 => ?_)
    rw [show x_9 = x_4 from ex_9.trans ex_4.symm]
    have hPc := hP.sub (ws' := [(o0, .inr (12, [.int (nI sN), .ref m1, .ref m2, .ref m3, .ref m4, .int 0, .int 0, .int 0, .int 0, .int 0, .int 0, .int 0, .int 0, .int 0, .int 0, .int 0, .int 0, .int 0, .int 0, .int 0, .int 0, .int 0, .int 0, .ref m23, .ref m24, .ref m25, .ref m26, .ref m27, .ref m28, .ref m29, .ref m30, .ref m31, .ref m32, .ref m33, .ref m34, .int 0, .int 0, .int 0, .ref m38, .int 0, .int 0, .int 0, .int 0, .ref m43, .ref m44, .ref m45, .int 0, .int 0, .int 0, .int 0, .int 0, .ref m51, .ref m52, .ref m53, .ref m54, .ref m55, .int 0, .int 0, .int 0, .int 0, .int 0, .ref m61, .ref m62, .int 0, .int 0, .int 0])), (m1, .inl (cD, 524288, .inl ((fun _ => 0))))]) [1, 2] rfl
    have hDc := hD.sub (ws' := [(o0, .inr (12, [.int (nI sN), .ref m1, .ref m2, .ref m3, .ref m4, .int 0, .int 0, .int 0, .int 0, .int 0, .int 0, .int 0, .int 0, .int 0, .int 0, .int 0, .int 0, .int 0, .int 0, .int 0, .int 0, .int 0, .int 0, .ref m23, .ref m24, .ref m25, .ref m26, .ref m27, .ref m28, .ref m29, .ref m30, .ref m31, .ref m32, .ref m33, .ref m34, .int 0, .int 0, .int 0, .ref m38, .int 0, .int 0, .int 0, .int 0, .ref m43, .ref m44, .ref m45, .int 0, .int 0, .int 0, .int 0, .int 0, .ref m51, .ref m52, .ref m53, .ref m54, .ref m55, .int 0, .int 0, .int 0, .int 0, .int 0, .ref m61, .ref m62, .int 0, .int 0, .int 0])), (m1, .inl (cD, 524288, .inl ((fun _ => 0))))]) [1, 2] (by decide) rfl
    have hKc := hK.sub (tys' := [(cD, .byte)]) [5] rfl
    have hFc := va_free (wc := [(o0, .inr (12, [.int (nI sN), .ref m1, .ref m2, .ref m3, .ref m4, .int 0, .int 0, .int 0, .int 0, .int 0, .int 0, .int 0, .int 0, .int 0, .int 0, .int 0, .int 0, .int 0, .int 0, .int 0, .int 0, .int 0, .int 0, .ref m23, .ref m24, .ref m25, .ref m26, .ref m27, .ref m28, .ref m29, .ref m30, .ref m31, .ref m32, .ref m33, .ref m34, .int 0, .int 0, .int 0, .ref m38, .int 0, .int 0, .int 0, .int 0, .ref m43, .ref m44, .ref m45, .int 0, .int 0, .int 0, .int 0, .int 0, .ref m51, .ref m52, .ref m53, .ref m54, .ref m55, .int 0, .int 0, .int 0, .int 0, .int 0, .ref m61, .ref m62, .int 0, .int 0, .int 0])), (m1, .inl (cD, 524288, .inl ((fun _ => 0))))]) hD hS hA [1, 2] rfl
    refine va_calli (va_runV (As := [.int x_1, .int x_2, .int x_3, .int x_4]) (rest := []) ⟨hx, hb, hml, hown, hts⟩ (c_Mo_format0 l dC dI o0 H.size m1 m2 m3 m4 m23 m24 m25 m26 m27 m28 m29 m30 m31 m32 m33 m34 m38 m43 m44 m45 m51 m52 m53 m54 m55 m61 m62 0 0 0 0 0 0 0 0 0 0 0 0 0 0 0 0 0 0 0 0 0 0 0 0 0 0 0 0 0 0 0 0 0 0 0 0 0 cD (fun _ => 0) sN hs x_1 x_2 x_3 x_4 (fun i z1 z2 => hno i z1 (by omega))) (cwV 4 hts (gwV good_La (k_La_86) (u_La_Mo _ k_Mo_211) (u_La_Mo _ k_Mo_212) (u_La_Mo _ k_Mo_0) (wcs (u_La_Mo _ k_Mo_213) u_La_Mo)) rfl rfl rfl (by decide +kernel) ⟨Nat.le_of_ble_eq_true rfl, Nat.le_of_ble_eq_true rfl⟩) (pv_of hPc hKc hDc (va_recv hKc hPc (ci := 12) (q0 := 0) rfl rfl)) rfl rfl hl.1 rfl (lv_room (Nat.le_of_ble_eq_true rfl)) d_La_law_323 ⟨by decide, by decide⟩) hS (fun q _ h => hFc q h) hFc (fun r_10 u t H1 locs ht hvm hw hB hz1 hk1 hS => ?_)
    subst hw
    obtain ⟨hP1, hK1, hD1⟩ := hB
    rw [ht] at hP1
    have hP1 : va_P (dC, dI) classes [(o0, .inr (12, [.int (nI sN), .ref m1, .ref m2, .ref m3, .ref m4, .int 0, .int 1, .int 0, .int 0, .int 0, .int 0, .int 0, .int 0, .int 0, .int 0, .int 0, .int 0, .int 0, .int 0, .int 0, .int 0, .int 0, .int 0, .ref m23, .ref m24, .ref m25, .ref m26, .ref m27, .ref m28, .ref m29, .ref m30, .ref m31, .ref m32, .ref m33, .ref m34, .int 0, .int 0, .int 0, .ref m38, .int 0, .int 0, .int 0, .int 0, .ref m43, .ref m44, .ref m45, .int 0, .int 0, .int 0, .int 0, .int 0, .ref m51, .ref m52, .ref m53, .ref m54, .ref m55, .int 0, .int 0, .int 0, .int 0, .int 0, .ref m61, .ref m62, .int 0, .int 0, .int 0])), (m1, .inl (cD, 524288, .inl ((fun _ => 0))))] H1 := hP1
    have hD1 : va_D _ [(o0, .inr (12, [.int (nI sN), .ref m1, .ref m2, .ref m3, .ref m4, .int 0, .int 1, .int 0, .int 0, .int 0, .int 0, .int 0, .int 0, .int 0, .int 0, .int 0, .int 0, .int 0, .int 0, .int 0, .int 0, .int 0, .int 0, .ref m23, .ref m24, .ref m25, .ref m26, .ref m27, .ref m28, .ref m29, .ref m30, .ref m31, .ref m32, .ref m33, .ref m34, .int 0, .int 0, .int 0, .ref m38, .int 0, .int 0, .int 0, .int 0, .ref m43, .ref m44, .ref m45, .int 0, .int 0, .int 0, .int 0, .int 0, .ref m51, .ref m52, .ref m53, .ref m54, .ref m55, .int 0, .int 0, .int 0, .int 0, .int 0, .ref m61, .ref m62, .int 0, .int 0, .int 0])), (m1, .inl (cD, 524288, .inl ((fun _ => 0))))] := hD1
    obtain ⟨hP, hD⟩ := va_join (wr := [(ou, .inl (cO, 1, .inr (.inl ((fun _ => 0)))))]) (w1 := [(o0, .inr (12, [.int (nI sN), .ref m1, .ref m2, .ref m3, .ref m4, .int 0, .int 1, .int 0, .int 0, .int 0, .int 0, .int 0, .int 0, .int 0, .int 0, .int 0, .int 0, .int 0, .int 0, .int 0, .int 0, .int 0, .int 0, .ref m23, .ref m24, .ref m25, .ref m26, .ref m27, .ref m28, .ref m29, .ref m30, .ref m31, .ref m32, .ref m33, .ref m34, .int 0, .int 0, .int 0, .ref m38, .int 0, .int 0, .int 0, .int 0, .ref m43, .ref m44, .ref m45, .int 0, .int 0, .int 0, .int 0, .int 0, .ref m51, .ref m52, .ref m53, .ref m54, .ref m55, .int 0, .int 0, .int 0, .int 0, .int 0, .ref m61, .ref m62, .int 0, .int 0, .int 0])), (m1, .inl (cD, 524288, .inl ((fun _ => 0))))]) hP hD [1, 2] [0] rfl rfl (by decide) (by decide) hk1 hFc hP1 hD1
    generalize H1 = H at hP hS ⊢
    have hP : va_P (dC, dI) classes [(ou, .inl (cO, 1, .inr (.inl ((fun _ => 0))))), (o0, .inr (12, [.int (nI sN), .ref m1, .ref m2, .ref m3, .ref m4, .int 0, .int 1, .int 0, .int 0, .int 0, .int 0, .int 0, .int 0, .int 0, .int 0, .int 0, .int 0, .int 0, .int 0, .int 0, .int 0, .int 0, .int 0, .ref m23, .ref m24, .ref m25, .ref m26, .ref m27, .ref m28, .ref m29, .ref m30, .ref m31, .ref m32, .ref m33, .ref m34, .int 0, .int 0, .int 0, .ref m38, .int 0, .int 0, .int 0, .int 0, .ref m43, .ref m44, .ref m45, .int 0, .int 0, .int 0, .int 0, .int 0, .ref m51, .ref m52, .ref m53, .ref m54, .ref m55, .int 0, .int 0, .int 0, .int 0, .int 0, .ref m61, .ref m62, .int 0, .int 0, .int 0])), (m1, .inl (cD, 524288, .inl ((fun _ => 0))))] H := hP
    have hD : va_D (fun q => s.heap.size ≤ q) [(ou, .inl (cO, 1, .inr (.inl ((fun _ => 0))))), (o0, .inr (12, [.int (nI sN), .ref m1, .ref m2, .ref m3, .ref m4, .int 0, .int 1, .int 0, .int 0, .int 0, .int 0, .int 0, .int 0, .int 0, .int 0, .int 0, .int 0, .int 0, .int 0, .int 0, .int 0, .int 0, .int 0, .ref m23, .ref m24, .ref m25, .ref m26, .ref m27, .ref m28, .ref m29, .ref m30, .ref m31, .ref m32, .ref m33, .ref m34, .int 0, .int 0, .int 0, .ref m38, .int 0, .int 0, .int 0, .int 0, .ref m43, .ref m44, .ref m45, .int 0, .int 0, .int 0, .int 0, .int 0, .ref m51, .ref m52, .ref m53, .ref m54, .ref m55, .int 0, .int 0, .int 0, .int 0, .int 0, .ref m61, .ref m62, .int 0, .int 0, .int 0])), (m1, .inl (cD, 524288, .inl ((fun _ => 0))))] := hD
    refine lv_istore (lv' := [(6, .int 0), (5, .int 1), (4, .int 1), (3, .ref ou), (2, .ref o0), (1, .ref v0), (0, .ref b)]) hx hb d_La_law_326 hl (by decide) rfl (fun ls hl => ?_)
    refine lv_aload_n hx hb d_La_law_328 rfl (lv_at hl 4 rfl) ?_
    have hPc := hP.sub (ws' := [(o0, .inr (12, [.int (nI sN), .ref m1, .ref m2, .ref m3, .ref m4, .int 0, .int 1, .int 0, .int 0, .int 0, .int 0, .int 0, .int 0, .int 0, .int 0, .int 0, .int 0, .int 0, .int 0, .int 0, .int 0, .int 0, .int 0, .ref m23, .ref m24, .ref m25, .ref m26, .ref m27, .ref m28, .ref m29, .ref m30, .ref m31, .ref m32, .ref m33, .ref m34, .int 0, .int 0, .int 0, .ref m38, .int 0, .int 0, .int 0, .int 0, .ref m43, .ref m44, .ref m45, .int 0, .int 0, .int 0, .int 0, .int 0, .ref m51, .ref m52, .ref m53, .ref m54, .ref m55, .int 0, .int 0, .int 0, .int 0, .int 0, .ref m61, .ref m62, .int 0, .int 0, .int 0]))]) [1] rfl
    have hDc := hD.sub (ws' := [(o0, .inr (12, [.int (nI sN), .ref m1, .ref m2, .ref m3, .ref m4, .int 0, .int 1, .int 0, .int 0, .int 0, .int 0, .int 0, .int 0, .int 0, .int 0, .int 0, .int 0, .int 0, .int 0, .int 0, .int 0, .int 0, .int 0, .ref m23, .ref m24, .ref m25, .ref m26, .ref m27, .ref m28, .ref m29, .ref m30, .ref m31, .ref m32, .ref m33, .ref m34, .int 0, .int 0, .int 0, .ref m38, .int 0, .int 0, .int 0, .int 0, .ref m43, .ref m44, .ref m45, .int 0, .int 0, .int 0, .int 0, .int 0, .ref m51, .ref m52, .ref m53, .ref m54, .ref m55, .int 0, .int 0, .int 0, .int 0, .int 0, .ref m61, .ref m62, .int 0, .int 0, .int 0]))]) [1] (by decide) rfl
    have hKc := hK.sub (tys' := []) [] rfl
    have hFc := va_free (wc := [(o0, .inr (12, [.int (nI sN), .ref m1, .ref m2, .ref m3, .ref m4, .int 0, .int 1, .int 0, .int 0, .int 0, .int 0, .int 0, .int 0, .int 0, .int 0, .int 0, .int 0, .int 0, .int 0, .int 0, .int 0, .int 0, .int 0, .ref m23, .ref m24, .ref m25, .ref m26, .ref m27, .ref m28, .ref m29, .ref m30, .ref m31, .ref m32, .ref m33, .ref m34, .int 0, .int 0, .int 0, .ref m38, .int 0, .int 0, .int 0, .int 0, .ref m43, .ref m44, .ref m45, .int 0, .int 0, .int 0, .int 0, .int 0, .ref m51, .ref m52, .ref m53, .ref m54, .ref m55, .int 0, .int 0, .int 0, .int 0, .int 0, .ref m61, .ref m62, .int 0, .int 0, .int 0]))]) hD hS hA [1] rfl
    refine va_calli (va_runV (As := []) (rest := []) ⟨hx, hb, hml, hown, hts⟩ (c_Mo_thrown l dC dI o0 H.size m1 m2 m3 m4 m23 m24 m25 m26 m27 m28 m29 m30 m31 m32 m33 m34 m38 m43 m44 m45 m51 m52 m53 m54 m55 m61 m62 (nI sN) 0 1 0 0 0 0 0 0 0 0 0 0 0 0 0 0 0 0 0 0 0 0 0 0 0 0 0 0 0 0 0 0 0 0 0 0 0 0) (cwV 0 hts (gwV good_La (k_La_78) (u_La_Mo _ k_Mo_73) (u_La_Mo _ k_Mo_74) (u_La_Mo _ k_Mo_0) (wcs (u_La_Mo _ k_Mo_75) u_La_Mo)) rfl rfl rfl (by decide +kernel) ⟨Nat.le_of_ble_eq_true rfl, Nat.le_of_ble_eq_true rfl⟩) (pv_of hPc hKc hDc (va_recv hKc hPc (ci := 12) (q0 := 0) rfl rfl)) rfl rfl hl.1 rfl (lv_room (Nat.le_of_ble_eq_true rfl)) d_La_law_329 ⟨by decide, by decide⟩) hS (fun q _ h => hFc q h) hFc (fun r_11 u t H1 locs ht hvm hw hB hz1 hk1 hS => ?_)
    subst hw
    obtain ⟨hP1, hK1, hD1⟩ := hB
    rw [ht] at hP1
    have hP1 : va_P (dC, dI) classes [] H1 := hP1.sub (ws' := []) [] rfl
    have hD1 : va_D _ [] := hD1.sub (ws' := []) [] (by decide) rfl
    obtain ⟨hP, hD⟩ := va_join (wr := [(ou, .inl (cO, 1, .inr (.inl ((fun _ => 0))))), (m1, .inl (cD, 524288, .inl ((fun _ => 0))))]) (w1 := []) hP hD [1] [0, 2] rfl rfl (by decide) (by decide) hk1 hFc hP1 hD1
    generalize H1 = H at hP hS ⊢
    have hP : va_P (dC, dI) classes [(ou, .inl (cO, 1, .inr (.inl ((fun _ => 0))))), (m1, .inl (cD, 524288, .inl ((fun _ => 0))))] H := hP
    have hD : va_D (fun q => s.heap.size ≤ q) [(ou, .inl (cO, 1, .inr (.inl ((fun _ => 0))))), (m1, .inl (cD, 524288, .inl ((fun _ => 0))))] := hD
    refine lv_iload hx hb d_La_law_332 (lv_at hl 1 rfl) ?_
    refine lv_icmp_eq (tgt := 339) hx hb d_La_law_334 (by decide) (fun c_12 => ?_) (fun c_12 => ?_)
    · refine lv_iload hx hb d_La_law_339 (lv_at hl 1 rfl) ?_
      refine lv_if_ne (tgt := 356) hx hb d_La_law_341 (by decide) (fun c_13 => ?_) (fun c_13 => ?_)
      · refine lv_goto (tgt := 1388) hx hb d_La_law_356 (by decide) ?_
        exact la_tail l C0 hS (lv_sub hl [2, 6] rfl) (by decide) (by decide)
      · exact absurd c_13 (by decide)
    · exact absurd c_12 (by decide)
  · have hl32 : lN ≤ 32 := by omega
    obtain ⟨hfc, hf8, hf64, hfy⟩ := mo_fitN hok.1
    obtain ⟨vN, ev, hv⟩ := la_v hf8 hf64
    obtain ⟨yN, cN, ey, ec, hc2, hc8, hy1, hy2, h128, eqA, eqB, eqC⟩ := tb_kN hs ev hv hfc hfy hl32 hs0
    subst ev
    subst ey
    have hokN := mo_okN hfc hok
    have hrb := tb_rb (yN := 0) (nl := sN / 2 + 2) (p5 := x_4) (u := (2, 8, 1, 1, 2, 10, 4, (fun _ => 0))) hs0 hs hl32 rfl hv hok (f := dk_zero (sN * 512) (fun _ => 0) 0 (nI sN * 512)) (fun j hj => dk_z (by rw [← pk_mul]; rfl) (by omega) hj)
    have hPc := hP.sub (ws' := [(v0, .inr (11, [.ref h0, .ref t0, .ref b0, .ref e0, .ref r0, .ref d0, .ref g0, .ref u0, .ref i0, .ref fa, .ref fw, .int 0, .int 0, .int 1, .int 1, .int 0])), (b0, .inr (4, [.ref h0, .int 2, .int 8, .int 1, .int 1, .int 2, .int 10, .int 4, .ref b1, .ref b2])), (b1, .inl (c1, (sN / 2 + 2), .inl ((fun _ => 0)))), (h0, .inr (0, [.int (nI sN), .ref h1, .int ((-1))])), (h1, .inl (cB, (sN * 512), .inl ((fun _ => 0)))), (t0, .inr (3, [.ref t1, .ref t2, .int 0])), (t1, .inl (c2, 4096, .inl ((fun _ => 0)))), (t2, .inl (c3, 20, .inl ((fun _ => 0)))), (ou, .inl (cO, 1, .inr (.inl ((fun _ => 0)))))]) [0, 1, 2, 3, 4, 5, 6, 7, 8] rfl
    have hDc := hD.sub (ws' := [(v0, .inr (11, [.ref h0, .ref t0, .ref b0, .ref e0, .ref r0, .ref d0, .ref g0, .ref u0, .ref i0, .ref fa, .ref fw, .int 0, .int 0, .int 1, .int 1, .int 0])), (b0, .inr (4, [.ref h0, .int 2, .int 8, .int 1, .int 1, .int 2, .int 10, .int 4, .ref b1, .ref b2])), (b1, .inl (c1, (sN / 2 + 2), .inl ((fun _ => 0)))), (h0, .inr (0, [.int (nI sN), .ref h1, .int ((-1))])), (h1, .inl (cB, (sN * 512), .inl ((fun _ => 0)))), (t0, .inr (3, [.ref t1, .ref t2, .int 0])), (t1, .inl (c2, 4096, .inl ((fun _ => 0)))), (t2, .inl (c3, 20, .inl ((fun _ => 0)))), (ou, .inl (cO, 1, .inr (.inl ((fun _ => 0)))))]) [0, 1, 2, 3, 4, 5, 6, 7, 8] (by decide) rfl
    have hKc := hK.sub (tys' := [(c1, .int), (cB, .byte), (c2, .byte), (c3, .byte), (cO, .long)]) [0, 1, 2, 3, 4] rfl
    have hFc := va_free (wc := [(v0, .inr (11, [.ref h0, .ref t0, .ref b0, .ref e0, .ref r0, .ref d0, .ref g0, .ref u0, .ref i0, .ref fa, .ref fw, .int 0, .int 0, .int 1, .int 1, .int 0])), (b0, .inr (4, [.ref h0, .int 2, .int 8, .int 1, .int 1, .int 2, .int 10, .int 4, .ref b1, .ref b2])), (b1, .inl (c1, (sN / 2 + 2), .inl ((fun _ => 0)))), (h0, .inr (0, [.int (nI sN), .ref h1, .int ((-1))])), (h1, .inl (cB, (sN * 512), .inl ((fun _ => 0)))), (t0, .inr (3, [.ref t1, .ref t2, .int 0])), (t1, .inl (c2, 4096, .inl ((fun _ => 0)))), (t2, .inl (c3, 20, .inl ((fun _ => 0)))), (ou, .inl (cO, 1, .inr (.inl ((fun _ => 0)))))]) hD hS hA [0, 1, 2, 3, 4, 5, 6, 7, 8] rfl
    refine va_calli (x_runSW (handlers := [(0, 14, 17, 13)]) (bytes := b_La_format) (maxL := 7) (ret := (some .int)) (n := 6) (index := 93) (As := [.ref v0, .int x_1, .int (nI vN), .int (nI yN), .int x_4, .ref ou]) (rest := []) ⟨hx, hb, hml, hown, hts⟩ (c_La_format1 l dC dI v0 H.size h0 t0 b0 e0 r0 d0 g0 u0 i0 fa fw 0 0 1 1 0 b1 b2 2 8 1 1 2 10 4 c1 (sN / 2 + 2) (fun _ => 0) (by omega) h1 cB (nI sN) (-1) (sN * 512) (fun _ => 0) (by omega) (by omega) (by omega) t1 t2 c2 c3 (fun _ => 0) (fun _ => 0) x_1 (nI vN) (nI yN) x_4 (nI lN) _ _ _ _ _ _ (tb_cw (nI sN) x_1 (nI vN) (nI yN) (nI lN)) _ hlst (la_m1 (by omega)) hrb (by rcases hfy with h | h <;> rw [h] <;> decide) ou cO (fun _ => 0)) rfl rfl (Nat.le_of_ble_eq_true rfl) (Nat.le_of_ble_eq_true rfl) (pay_in hts (fun w h => good_La w (wcs (k_La_18) (fun _ h => h) w h))) List.mem_cons_self (hts _ (k_La_0)) (by decide +kernel) (hlen_of (by decide +kernel)) (hts _ (k_La_16)) (hts _ (k_La_17)) (ps_ofE (E := fun _ => True) (fun U V z1 z2 z => trivial) (fun U z1 z2 => trivial) hPc hKc hDc) rfl rfl hl.1 rfl (lv_room (Nat.le_of_ble_eq_true rfl)) d_La_law_293 ⟨by decide, by decide⟩) hS (fun q _ h => hFc q h) hFc (fun r_14 u t H1 locs ht hvm hw hB hz1 hk1 hS => ?_)
    subst hw
    obtain ⟨hP1, hK1, hD1⟩ := hB
    rw [ht] at hP1
    have hP1 : va_P (dC, dI) classes [(ou, .inl (cO, 1, .inr (.inl (vp_updL (fun _ => 0) (0 : Int32).toNatClampNeg (tb_cw (nI sN) x_1 (nI vN) (nI yN) (nI lN)).toInt64))))] H1 := hP1
    have hD1 : va_D _ [(ou, .inl (cO, 1, .inr (.inl (vp_updL (fun _ => 0) (0 : Int32).toNatClampNeg (tb_cw (nI sN) x_1 (nI vN) (nI yN) (nI lN)).toInt64))))] := hD1
    obtain ⟨hP, hD⟩ := va_join (wr := [(o0, .inr (12, [.int (nI sN), .ref m1, .ref m2, .ref m3, .ref m4, .int 0, .int 0, .int 0, .int 0, .int 0, .int 0, .int 0, .int 0, .int 0, .int 0, .int 0, .int 0, .int 0, .int 0, .int 0, .int 0, .int 0, .int 0, .ref m23, .ref m24, .ref m25, .ref m26, .ref m27, .ref m28, .ref m29, .ref m30, .ref m31, .ref m32, .ref m33, .ref m34, .int 0, .int 0, .int 0, .ref m38, .int 0, .int 0, .int 0, .int 0, .ref m43, .ref m44, .ref m45, .int 0, .int 0, .int 0, .int 0, .int 0, .ref m51, .ref m52, .ref m53, .ref m54, .ref m55, .int 0, .int 0, .int 0, .int 0, .int 0, .ref m61, .ref m62, .int 0, .int 0, .int 0])), (m1, .inl (cD, 524288, .inl ((fun _ => 0))))]) (w1 := [(ou, .inl (cO, 1, .inr (.inl (vp_updL (fun _ => 0) (0 : Int32).toNatClampNeg (tb_cw (nI sN) x_1 (nI vN) (nI yN) (nI lN)).toInt64))))]) hP hD [0, 1, 2, 3, 4, 5, 6, 7, 8] [9, 10] rfl rfl (by decide) (by decide) hk1 hFc hP1 hD1
    generalize H1 = H at hP hS ⊢
    have hP : va_P (dC, dI) classes [(o0, .inr (12, [.int (nI sN), .ref m1, .ref m2, .ref m3, .ref m4, .int 0, .int 0, .int 0, .int 0, .int 0, .int 0, .int 0, .int 0, .int 0, .int 0, .int 0, .int 0, .int 0, .int 0, .int 0, .int 0, .int 0, .int 0, .ref m23, .ref m24, .ref m25, .ref m26, .ref m27, .ref m28, .ref m29, .ref m30, .ref m31, .ref m32, .ref m33, .ref m34, .int 0, .int 0, .int 0, .ref m38, .int 0, .int 0, .int 0, .int 0, .ref m43, .ref m44, .ref m45, .int 0, .int 0, .int 0, .int 0, .int 0, .ref m51, .ref m52, .ref m53, .ref m54, .ref m55, .int 0, .int 0, .int 0, .int 0, .int 0, .ref m61, .ref m62, .int 0, .int 0, .int 0])), (m1, .inl (cD, 524288, .inl ((fun _ => 0)))), (ou, .inl (cO, 1, .inr (.inl (vp_updL (fun _ => 0) (0 : Int32).toNatClampNeg (tb_cw (nI sN) x_1 (nI vN) (nI yN) (nI lN)).toInt64))))] H := hP
    have hD : va_D (fun q => s.heap.size ≤ q) [(o0, .inr (12, [.int (nI sN), .ref m1, .ref m2, .ref m3, .ref m4, .int 0, .int 0, .int 0, .int 0, .int 0, .int 0, .int 0, .int 0, .int 0, .int 0, .int 0, .int 0, .int 0, .int 0, .int 0, .int 0, .int 0, .int 0, .ref m23, .ref m24, .ref m25, .ref m26, .ref m27, .ref m28, .ref m29, .ref m30, .ref m31, .ref m32, .ref m33, .ref m34, .int 0, .int 0, .int 0, .ref m38, .int 0, .int 0, .int 0, .int 0, .ref m43, .ref m44, .ref m45, .int 0, .int 0, .int 0, .int 0, .int 0, .ref m51, .ref m52, .ref m53, .ref m54, .ref m55, .int 0, .int 0, .int 0, .int 0, .int 0, .ref m61, .ref m62, .int 0, .int 0, .int 0])), (m1, .inl (cD, 524288, .inl ((fun _ => 0)))), (ou, .inl (cO, 1, .inr (.inl (vp_updL (fun _ => 0) (0 : Int32).toNatClampNeg (tb_cw (nI sN) x_1 (nI vN) (nI yN) (nI lN)).toInt64))))] := hD
    refine lv_istore (lv' := [(5, .int 0), (4, .int 1), (3, .ref ou), (2, .ref o0), (1, .ref v0), (0, .ref b)]) hx hb d_La_law_296 hl (by decide) rfl (fun ls hl => ?_)
    refine lv_aload_n hx hb d_La_law_298 rfl (lv_at hl 3 rfl) ?_
    refine lv_aload_n hx hb d_La_law_299 rfl (lv_at hl 5 rfl) ?_
    refine lv_iload hx hb d_La_law_300 (lv_at hl 1 rfl) ?_
    refine lv_iconst (v := 1) hx hb d_La_law_302 (by decide) ?_
    refine lv_iadd hx hb d_La_law_303 ?_
    refine va_sld hx hb hX hbl hbA hS (by unfold vp_in; decide) d_La_law_304 ?_
    refine lv_topi (fun x_15 ex_15 => ?_)
    rw [show x_15 = x_1 from ex_15.trans ex_1.symm]
    refine lv_aload_n hx hb d_La_law_305 rfl (lv_at hl 5 rfl) ?_
    refine lv_iload hx hb d_La_law_306 (lv_at hl 1 rfl) ?_
    refine lv_iconst (v := 2) hx hb d_La_law_308 (by decide) ?_
    refine lv_iadd hx hb d_La_law_309 ?_
    refine va_sld hx hb hX hbl hbA hS (by unfold vp_in; decide) d_La_law_310 ?_
    refine lv_topi (fun x_16 ex_16 => ?_)
    rw [show x_16 = nI vN from ex_16.trans ex_2.symm]
    refine lv_aload_n hx hb d_La_law_311 rfl (lv_at hl 5 rfl) ?_
    refine lv_iload hx hb d_La_law_312 (lv_at hl 1 rfl) ?_
    refine lv_iconst (v := 3) hx hb d_La_law_314 (by decide) ?_
    refine lv_iadd hx hb d_La_law_315 ?_
    refine va_sld hx hb hX hbl hbA hS (by unfold vp_in; decide) d_La_law_316 ?_
    refine lv_topi (fun x_17 ex_17 => ?_)
    rw [show x_17 = nI yN from ex_17.trans ex_3.symm]
    refine lv_aload_n hx hb d_La_law_317 rfl (lv_at hl 5 rfl) ?_
    refine lv_iload hx hb d_La_law_318 (lv_at hl 1 rfl) ?_
    refine lv_iconst (v := 4) hx hb d_La_law_320 (by decide) ?_
    refine lv_iadd hx hb d_La_law_321 ?_
    refine va_sld hx hb hX hbl hbA hS (by unfold vp_in; decide) d_La_law_322 ?_
    refine lv_topi (fun x_18 ex_18 => ?_)
    rw [show x_18 = x_4 from ex_18.trans ex_4.symm]
    have hPc := hP.sub (ws' := [(o0, .inr (12, [.int (nI sN), .ref m1, .ref m2, .ref m3, .ref m4, .int 0, .int 0, .int 0, .int 0, .int 0, .int 0, .int 0, .int 0, .int 0, .int 0, .int 0, .int 0, .int 0, .int 0, .int 0, .int 0, .int 0, .int 0, .ref m23, .ref m24, .ref m25, .ref m26, .ref m27, .ref m28, .ref m29, .ref m30, .ref m31, .ref m32, .ref m33, .ref m34, .int 0, .int 0, .int 0, .ref m38, .int 0, .int 0, .int 0, .int 0, .ref m43, .ref m44, .ref m45, .int 0, .int 0, .int 0, .int 0, .int 0, .ref m51, .ref m52, .ref m53, .ref m54, .ref m55, .int 0, .int 0, .int 0, .int 0, .int 0, .ref m61, .ref m62, .int 0, .int 0, .int 0])), (m1, .inl (cD, 524288, .inl ((fun _ => 0))))]) [0, 1] rfl
    have hDc := hD.sub (ws' := [(o0, .inr (12, [.int (nI sN), .ref m1, .ref m2, .ref m3, .ref m4, .int 0, .int 0, .int 0, .int 0, .int 0, .int 0, .int 0, .int 0, .int 0, .int 0, .int 0, .int 0, .int 0, .int 0, .int 0, .int 0, .int 0, .int 0, .ref m23, .ref m24, .ref m25, .ref m26, .ref m27, .ref m28, .ref m29, .ref m30, .ref m31, .ref m32, .ref m33, .ref m34, .int 0, .int 0, .int 0, .ref m38, .int 0, .int 0, .int 0, .int 0, .ref m43, .ref m44, .ref m45, .int 0, .int 0, .int 0, .int 0, .int 0, .ref m51, .ref m52, .ref m53, .ref m54, .ref m55, .int 0, .int 0, .int 0, .int 0, .int 0, .ref m61, .ref m62, .int 0, .int 0, .int 0])), (m1, .inl (cD, 524288, .inl ((fun _ => 0))))]) [0, 1] (by decide) rfl
    have hKc := hK.sub (tys' := [(cD, .byte)]) [5] rfl
    have hFc := va_free (wc := [(o0, .inr (12, [.int (nI sN), .ref m1, .ref m2, .ref m3, .ref m4, .int 0, .int 0, .int 0, .int 0, .int 0, .int 0, .int 0, .int 0, .int 0, .int 0, .int 0, .int 0, .int 0, .int 0, .int 0, .int 0, .int 0, .int 0, .ref m23, .ref m24, .ref m25, .ref m26, .ref m27, .ref m28, .ref m29, .ref m30, .ref m31, .ref m32, .ref m33, .ref m34, .int 0, .int 0, .int 0, .ref m38, .int 0, .int 0, .int 0, .int 0, .ref m43, .ref m44, .ref m45, .int 0, .int 0, .int 0, .int 0, .int 0, .ref m51, .ref m52, .ref m53, .ref m54, .ref m55, .int 0, .int 0, .int 0, .int 0, .int 0, .ref m61, .ref m62, .int 0, .int 0, .int 0])), (m1, .inl (cD, 524288, .inl ((fun _ => 0))))]) hD hS hA [0, 1] rfl
    refine va_calli (va_runV (As := [.int x_1, .int (nI vN), .int (nI yN), .int x_4]) (rest := []) ⟨hx, hb, hml, hown, hts⟩ (c_Mo_format1 l dC dI o0 H.size m1 m2 m3 m4 m23 m24 m25 m26 m27 m28 m29 m30 m31 m32 m33 m34 m38 m43 m44 m45 m51 m52 m53 m54 m55 m61 m62 0 0 0 0 0 0 0 0 0 0 0 0 0 0 0 0 0 0 0 0 0 0 0 0 0 0 0 0 0 0 0 0 0 0 0 0 0 cD (fun _ => 0) sN hs x_1 vN yN x_4 lN hl1 hl32 hok (fun i z1 z2 => hmin i z1 z2) hv hy2 (mo_h13 hfc) (mo_h14 rfl hv) (mo_h16 hfy) (mo_h36 hl32) mo_h44 mo_h11 mo_h17 mo_h19 mo_h22 (mo_h32 hs) mo_h48 mo_h50 mo_h510 (by rw [eqA]; exact nI_ge (by omega) (by omega)) (by rw [eqC, ← eqB]; exact hokN.1) (by rw [eqC, ← eqB]; exact Int32.not_lt.mpr hokN.2) (by rw [eqC, ← eqB]; exact tb_kb hs rfl hv hfc hfy hl32 hs0)) (cwV 4 hts (gwV good_La (k_La_86) (u_La_Mo _ k_Mo_211) (u_La_Mo _ k_Mo_212) (u_La_Mo _ k_Mo_0) (wcs (u_La_Mo _ k_Mo_213) u_La_Mo)) rfl rfl rfl (by decide +kernel) ⟨Nat.le_of_ble_eq_true rfl, Nat.le_of_ble_eq_true rfl⟩) (pv_of hPc hKc hDc (va_recv hKc hPc (ci := 12) (q0 := 0) rfl rfl)) rfl rfl hl.1 rfl (lv_room (Nat.le_of_ble_eq_true rfl)) d_La_law_323 ⟨by decide, by decide⟩) hS (fun q _ h => hFc q h) hFc (fun r_19 u t H1 locs ht hvm hw hB hz1 hk1 hS => ?_)
    subst hw
    obtain ⟨gg, hgg⟩ : ∃ z : Nat → Int32, z = u := ⟨u, rfl⟩
    subst hgg
    obtain ⟨hP1, hK1, hD1⟩ := hB
    rw [ht] at hP1
    have hP1 : va_P (dC, dI) classes [(o0, .inr (12, [.int (nI sN), .ref m1, .ref m2, .ref m3, .ref m4, .int 0, .int 0, .int 0, .int 0, .int 0, .int 0, .int x_1, .int ((nI vN)), .int ((nI yN)), .int (nI lN), .int 2, .int ((nI vN) + (nI yN) * nI lN), .int (((nI sN - ((nI vN) + (nI yN) * nI lN)) / x_1)), .int 0, .int 0, .int 0, .int 0, .int 0, .ref m23, .ref m24, .ref m25, .ref m26, .ref m27, .ref m28, .ref m29, .ref m30, .ref m31, .ref m32, .ref m33, .ref m34, .int 0, .int 0, .int 0, .ref m38, .int 0, .int 0, .int 0, .int 0, .ref m43, .ref m44, .ref m45, .int 0, .int 0, .int 0, .int 0, .int 0, .ref m51, .ref m52, .ref m53, .ref m54, .ref m55, .int 0, .int 0, .int 0, .int 0, .int 0, .ref m61, .ref m62, .int 0, .int 0, .int 0])), (m1, .inl (cD, 524288, .inl gg))] H1 := hP1
    have hD1 : va_D _ [(o0, .inr (12, [.int (nI sN), .ref m1, .ref m2, .ref m3, .ref m4, .int 0, .int 0, .int 0, .int 0, .int 0, .int 0, .int x_1, .int ((nI vN)), .int ((nI yN)), .int (nI lN), .int 2, .int ((nI vN) + (nI yN) * nI lN), .int (((nI sN - ((nI vN) + (nI yN) * nI lN)) / x_1)), .int 0, .int 0, .int 0, .int 0, .int 0, .ref m23, .ref m24, .ref m25, .ref m26, .ref m27, .ref m28, .ref m29, .ref m30, .ref m31, .ref m32, .ref m33, .ref m34, .int 0, .int 0, .int 0, .ref m38, .int 0, .int 0, .int 0, .int 0, .ref m43, .ref m44, .ref m45, .int 0, .int 0, .int 0, .int 0, .int 0, .ref m51, .ref m52, .ref m53, .ref m54, .ref m55, .int 0, .int 0, .int 0, .int 0, .int 0, .ref m61, .ref m62, .int 0, .int 0, .int 0])), (m1, .inl (cD, 524288, .inl gg))] := hD1
    obtain ⟨hP, hD⟩ := va_join (wr := [(ou, .inl (cO, 1, .inr (.inl (vp_updL (fun _ => 0) (0 : Int32).toNatClampNeg (tb_cw (nI sN) x_1 (nI vN) (nI yN) (nI lN)).toInt64))))]) (w1 := [(o0, .inr (12, [.int (nI sN), .ref m1, .ref m2, .ref m3, .ref m4, .int 0, .int 0, .int 0, .int 0, .int 0, .int 0, .int x_1, .int ((nI vN)), .int ((nI yN)), .int (nI lN), .int 2, .int ((nI vN) + (nI yN) * nI lN), .int (((nI sN - ((nI vN) + (nI yN) * nI lN)) / x_1)), .int 0, .int 0, .int 0, .int 0, .int 0, .ref m23, .ref m24, .ref m25, .ref m26, .ref m27, .ref m28, .ref m29, .ref m30, .ref m31, .ref m32, .ref m33, .ref m34, .int 0, .int 0, .int 0, .ref m38, .int 0, .int 0, .int 0, .int 0, .ref m43, .ref m44, .ref m45, .int 0, .int 0, .int 0, .int 0, .int 0, .ref m51, .ref m52, .ref m53, .ref m54, .ref m55, .int 0, .int 0, .int 0, .int 0, .int 0, .ref m61, .ref m62, .int 0, .int 0, .int 0])), (m1, .inl (cD, 524288, .inl gg))]) hP hD [0, 1] [2] rfl rfl (by decide) (by decide) hk1 hFc hP1 hD1
    generalize H1 = H at hP hS ⊢
    have hP : va_P (dC, dI) classes [(ou, .inl (cO, 1, .inr (.inl (vp_updL (fun _ => 0) (0 : Int32).toNatClampNeg (tb_cw (nI sN) x_1 (nI vN) (nI yN) (nI lN)).toInt64)))), (o0, .inr (12, [.int (nI sN), .ref m1, .ref m2, .ref m3, .ref m4, .int 0, .int 0, .int 0, .int 0, .int 0, .int 0, .int x_1, .int ((nI vN)), .int ((nI yN)), .int (nI lN), .int 2, .int ((nI vN) + (nI yN) * nI lN), .int (((nI sN - ((nI vN) + (nI yN) * nI lN)) / x_1)), .int 0, .int 0, .int 0, .int 0, .int 0, .ref m23, .ref m24, .ref m25, .ref m26, .ref m27, .ref m28, .ref m29, .ref m30, .ref m31, .ref m32, .ref m33, .ref m34, .int 0, .int 0, .int 0, .ref m38, .int 0, .int 0, .int 0, .int 0, .ref m43, .ref m44, .ref m45, .int 0, .int 0, .int 0, .int 0, .int 0, .ref m51, .ref m52, .ref m53, .ref m54, .ref m55, .int 0, .int 0, .int 0, .int 0, .int 0, .ref m61, .ref m62, .int 0, .int 0, .int 0])), (m1, .inl (cD, 524288, .inl gg))] H := hP
    have hD : va_D (fun q => s.heap.size ≤ q) [(ou, .inl (cO, 1, .inr (.inl (vp_updL (fun _ => 0) (0 : Int32).toNatClampNeg (tb_cw (nI sN) x_1 (nI vN) (nI yN) (nI lN)).toInt64)))), (o0, .inr (12, [.int (nI sN), .ref m1, .ref m2, .ref m3, .ref m4, .int 0, .int 0, .int 0, .int 0, .int 0, .int 0, .int x_1, .int ((nI vN)), .int ((nI yN)), .int (nI lN), .int 2, .int ((nI vN) + (nI yN) * nI lN), .int (((nI sN - ((nI vN) + (nI yN) * nI lN)) / x_1)), .int 0, .int 0, .int 0, .int 0, .int 0, .ref m23, .ref m24, .ref m25, .ref m26, .ref m27, .ref m28, .ref m29, .ref m30, .ref m31, .ref m32, .ref m33, .ref m34, .int 0, .int 0, .int 0, .ref m38, .int 0, .int 0, .int 0, .int 0, .ref m43, .ref m44, .ref m45, .int 0, .int 0, .int 0, .int 0, .int 0, .ref m51, .ref m52, .ref m53, .ref m54, .ref m55, .int 0, .int 0, .int 0, .int 0, .int 0, .ref m61, .ref m62, .int 0, .int 0, .int 0])), (m1, .inl (cD, 524288, .inl gg))] := hD
    refine lv_topi (fun x_20 ex_20 => ?_)
    refine lv_istore (lv' := [(6, .int x_20), (5, .int 0), (4, .int 1), (3, .ref ou), (2, .ref o0), (1, .ref v0), (0, .ref b)]) hx hb d_La_law_326 hl (by decide) rfl (fun ls hl => ?_)
    refine lv_aload_n hx hb d_La_law_328 rfl (lv_at hl 4 rfl) ?_
    have hPc := hP.sub (ws' := [(o0, .inr (12, [.int (nI sN), .ref m1, .ref m2, .ref m3, .ref m4, .int 0, .int 0, .int 0, .int 0, .int 0, .int 0, .int x_1, .int ((nI vN)), .int ((nI yN)), .int (nI lN), .int 2, .int ((nI vN) + (nI yN) * nI lN), .int (((nI sN - ((nI vN) + (nI yN) * nI lN)) / x_1)), .int 0, .int 0, .int 0, .int 0, .int 0, .ref m23, .ref m24, .ref m25, .ref m26, .ref m27, .ref m28, .ref m29, .ref m30, .ref m31, .ref m32, .ref m33, .ref m34, .int 0, .int 0, .int 0, .ref m38, .int 0, .int 0, .int 0, .int 0, .ref m43, .ref m44, .ref m45, .int 0, .int 0, .int 0, .int 0, .int 0, .ref m51, .ref m52, .ref m53, .ref m54, .ref m55, .int 0, .int 0, .int 0, .int 0, .int 0, .ref m61, .ref m62, .int 0, .int 0, .int 0]))]) [1] rfl
    have hDc := hD.sub (ws' := [(o0, .inr (12, [.int (nI sN), .ref m1, .ref m2, .ref m3, .ref m4, .int 0, .int 0, .int 0, .int 0, .int 0, .int 0, .int x_1, .int ((nI vN)), .int ((nI yN)), .int (nI lN), .int 2, .int ((nI vN) + (nI yN) * nI lN), .int (((nI sN - ((nI vN) + (nI yN) * nI lN)) / x_1)), .int 0, .int 0, .int 0, .int 0, .int 0, .ref m23, .ref m24, .ref m25, .ref m26, .ref m27, .ref m28, .ref m29, .ref m30, .ref m31, .ref m32, .ref m33, .ref m34, .int 0, .int 0, .int 0, .ref m38, .int 0, .int 0, .int 0, .int 0, .ref m43, .ref m44, .ref m45, .int 0, .int 0, .int 0, .int 0, .int 0, .ref m51, .ref m52, .ref m53, .ref m54, .ref m55, .int 0, .int 0, .int 0, .int 0, .int 0, .ref m61, .ref m62, .int 0, .int 0, .int 0]))]) [1] (by decide) rfl
    have hKc := hK.sub (tys' := []) [] rfl
    have hFc := va_free (wc := [(o0, .inr (12, [.int (nI sN), .ref m1, .ref m2, .ref m3, .ref m4, .int 0, .int 0, .int 0, .int 0, .int 0, .int 0, .int x_1, .int ((nI vN)), .int ((nI yN)), .int (nI lN), .int 2, .int ((nI vN) + (nI yN) * nI lN), .int (((nI sN - ((nI vN) + (nI yN) * nI lN)) / x_1)), .int 0, .int 0, .int 0, .int 0, .int 0, .ref m23, .ref m24, .ref m25, .ref m26, .ref m27, .ref m28, .ref m29, .ref m30, .ref m31, .ref m32, .ref m33, .ref m34, .int 0, .int 0, .int 0, .ref m38, .int 0, .int 0, .int 0, .int 0, .ref m43, .ref m44, .ref m45, .int 0, .int 0, .int 0, .int 0, .int 0, .ref m51, .ref m52, .ref m53, .ref m54, .ref m55, .int 0, .int 0, .int 0, .int 0, .int 0, .ref m61, .ref m62, .int 0, .int 0, .int 0]))]) hD hS hA [1] rfl
    refine va_calli (va_runV (As := []) (rest := []) ⟨hx, hb, hml, hown, hts⟩ (c_Mo_thrown l dC dI o0 H.size m1 m2 m3 m4 m23 m24 m25 m26 m27 m28 m29 m30 m31 m32 m33 m34 m38 m43 m44 m45 m51 m52 m53 m54 m55 m61 m62 (nI sN) 0 0 0 0 0 0 x_1 ((nI vN)) ((nI yN)) (nI lN) 2 ((nI vN) + (nI yN) * nI lN) (((nI sN - ((nI vN) + (nI yN) * nI lN)) / x_1)) 0 0 0 0 0 0 0 0 0 0 0 0 0 0 0 0 0 0 0 0 0 0 0 0 0) (cwV 0 hts (gwV good_La (k_La_78) (u_La_Mo _ k_Mo_73) (u_La_Mo _ k_Mo_74) (u_La_Mo _ k_Mo_0) (wcs (u_La_Mo _ k_Mo_75) u_La_Mo)) rfl rfl rfl (by decide +kernel) ⟨Nat.le_of_ble_eq_true rfl, Nat.le_of_ble_eq_true rfl⟩) (pv_of hPc hKc hDc (va_recv hKc hPc (ci := 12) (q0 := 0) rfl rfl)) rfl rfl hl.1 rfl (lv_room (Nat.le_of_ble_eq_true rfl)) d_La_law_329 ⟨by decide, by decide⟩) hS (fun q _ h => hFc q h) hFc (fun r_21 u t H1 locs ht hvm hw hB hz1 hk1 hS => ?_)
    subst hw
    obtain ⟨hP1, hK1, hD1⟩ := hB
    rw [ht] at hP1
    have hP1 : va_P (dC, dI) classes [] H1 := hP1.sub (ws' := []) [] rfl
    have hD1 : va_D _ [] := hD1.sub (ws' := []) [] (by decide) rfl
    obtain ⟨hP, hD⟩ := va_join (wr := [(ou, .inl (cO, 1, .inr (.inl (vp_updL (fun _ => 0) (0 : Int32).toNatClampNeg (tb_cw (nI sN) x_1 (nI vN) (nI yN) (nI lN)).toInt64)))), (m1, .inl (cD, 524288, .inl gg))]) (w1 := []) hP hD [1] [0, 2] rfl rfl (by decide) (by decide) hk1 hFc hP1 hD1
    generalize H1 = H at hP hS ⊢
    have hP : va_P (dC, dI) classes [(ou, .inl (cO, 1, .inr (.inl (vp_updL (fun _ => 0) (0 : Int32).toNatClampNeg (tb_cw (nI sN) x_1 (nI vN) (nI yN) (nI lN)).toInt64)))), (m1, .inl (cD, 524288, .inl gg))] H := hP
    have hD : va_D (fun q => s.heap.size ≤ q) [(ou, .inl (cO, 1, .inr (.inl (vp_updL (fun _ => 0) (0 : Int32).toNatClampNeg (tb_cw (nI sN) x_1 (nI vN) (nI yN) (nI lN)).toInt64)))), (m1, .inl (cD, 524288, .inl gg))] := hD
    refine lv_iload hx hb d_La_law_332 (lv_at hl 1 rfl) ?_
    refine lv_icmp_eq (tgt := 339) hx hb d_La_law_334 (by decide) (fun c_22 => ?_) (fun c_22 => ?_)
    · refine lv_iload hx hb d_La_law_339 (lv_at hl 1 rfl) ?_
      refine lv_if_ne (tgt := 356) hx hb d_La_law_341 (by decide) (fun c_23 => ?_) (fun c_23 => ?_)
      · exact absurd c_23 (by decide)
      · refine lv_aload_n hx hb d_La_law_344 rfl (lv_at hl 3 rfl) ?_
        refine lv_iconst (v := 0) hx hb d_La_law_345 (by decide) ?_
        refine va_lald hx hb hK hP 0 4 rfl rfl (vp_in_nI (n := 0) (by decide) (by decide)) d_La_law_346 ?_
        refine lv_iload hx hb d_La_law_347 (lv_at hl 0 rfl) ?_
        refine lv_i2l hx hb d_La_law_349 rfl ?_
        refine W.lcmp hx hb d_La_law_350 ?_
        refine lv_if_eq (tgt := 356) hx hb d_La_law_351 (by decide) (fun c_24 => ?_) (fun c_24 => ?_)
        · refine lv_goto (tgt := 1388) hx hb d_La_law_356 (by decide) ?_
          exact la_tail l C0 hS (lv_sub hl [2, 6] rfl) (by decide) (by decide)
        · exact absurd (la_cmpF (by rw [ex_20, tb_cw, if_pos (mo_c1 hfc), eqB, eqC])) c_24
    · exact absurd c_22 (by decide)
