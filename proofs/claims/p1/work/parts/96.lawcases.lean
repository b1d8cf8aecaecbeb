set_option maxHeartbeats 4000000 in
set_option maxRecDepth 100000 in
theorem la_case0 {p : Program} {e : Env} {s : State} {m : MethodId} {below : List Frame} {meth : Method} {c : Code} (l : Launch) (dC : Nat → ClassId) (dI : Nat → Nat → Nat) (v0 h0 t0 b0 e0 r0 d0 g0 u0 i0 fa fw h1 b1 b2 r1 r2 r3 r4 t1 t2 o0 ou m1 m2 m3 m4 m23 m24 m25 m26 m27 m28 m29 m30 m31 m32 m33 m34 m38 m43 m44 m45 m51 m52 m53 m54 m55 m61 m62 : Nat) (cB c1 c2 c3 c4 c5 cD cT cR cO : ClassId) (sN : Nat) (hs0 : 256 ≤ sN) (hs : sN ≤ 1024) {b : Nat} {xs : Nat → Int32} (C0 : lw_At p s m meth c b 7 xs) {H : Heap} {locs : List Loc} {ls : Array Slot} (hP : va_P (dC, dI) classes [(v0, .inr (11, [.ref h0, .ref t0, .ref b0, .ref e0, .ref r0, .ref d0, .ref g0, .ref u0, .ref i0, .ref fa, .ref fw, .int 0, .int 0, .int 1, .int 1, .int 0])), (t0, .inr (3, [.ref t1, .ref t2, .int 0])), (t1, .inl (c2, 4096, .inl ((fun _ => 0)))), (t2, .inl (c3, 20, .inl ((fun _ => 0)))), (o0, .inr (12, [.int (nI sN), .ref m1, .ref m2, .ref m3, .ref m4, .int 0, .int 0, .int 0, .int 0, .int 0, .int 0, .int 0, .int 0, .int 0, .int 0, .int 0, .int 0, .int 0, .int 0, .int 0, .int 0, .int 0, .int 0, .ref m23, .ref m24, .ref m25, .ref m26, .ref m27, .ref m28, .ref m29, .ref m30, .ref m31, .ref m32, .ref m33, .ref m34, .int 0, .int 0, .int 0, .ref m38, .int 0, .int 0, .int 0, .int 0, .ref m43, .ref m44, .ref m45, .int 0, .int 0, .int 0, .int 0, .int 0, .ref m51, .ref m52, .ref m53, .ref m54, .ref m55, .int 0, .int 0, .int 0, .int 0, .int 0, .ref m61, .ref m62, .int 0, .int 0, .int 0])), (m4, .inl (cR, 20, .inl ((fun _ => 0))))] H) (hD : va_D (fun q => s.heap.size ≤ q) [(v0, .inr (11, [.ref h0, .ref t0, .ref b0, .ref e0, .ref r0, .ref d0, .ref g0, .ref u0, .ref i0, .ref fa, .ref fw, .int 0, .int 0, .int 1, .int 1, .int 0])), (t0, .inr (3, [.ref t1, .ref t2, .int 0])), (t1, .inl (c2, 4096, .inl ((fun _ => 0)))), (t2, .inl (c3, 20, .inl ((fun _ => 0)))), (o0, .inr (12, [.int (nI sN), .ref m1, .ref m2, .ref m3, .ref m4, .int 0, .int 0, .int 0, .int 0, .int 0, .int 0, .int 0, .int 0, .int 0, .int 0, .int 0, .int 0, .int 0, .int 0, .int 0, .int 0, .int 0, .int 0, .ref m23, .ref m24, .ref m25, .ref m26, .ref m27, .ref m28, .ref m29, .ref m30, .ref m31, .ref m32, .ref m33, .ref m34, .int 0, .int 0, .int 0, .ref m38, .int 0, .int 0, .int 0, .int 0, .ref m43, .ref m44, .ref m45, .int 0, .int 0, .int 0, .int 0, .int 0, .ref m51, .ref m52, .ref m53, .ref m54, .ref m55, .int 0, .int 0, .int 0, .int 0, .int 0, .ref m61, .ref m62, .int 0, .int 0, .int 0])), (m4, .inl (cR, 20, .inl ((fun _ => 0))))]) (hK : va_K (dC, dI) classes [(c2, .byte), (c3, .byte), (cR, .byte)] s) (hS : va_S (fun q => s.heap.size ≤ q) s.heap H locs) (hl : lv_has ls 8 [(4, .int 1), (3, .ref ou), (2, .ref o0), (1, .ref v0), (0, .ref b)]) : W p l e room_1 s m #[Value.ref b] below meth c H locs 74 1720373 (lw_Z below #[Value.ref b] s) (F0 m 160 ls []) := by
  have C1 := C0
  obtain ⟨hx, hb, hr, hml, hown, hts1, hX, hbl, hlocks, hgv⟩ := C0
  have hts : ∀ w ∈ V_La, w.before #[Value.ref b] s = true := fun w h => hts1 w (in_V_La w h)
  have hbA : ¬ s.heap.size ≤ b := Nat.not_le.mpr hbl
  have hA : ∀ q : Nat, s.heap.size ≤ q → s.heap.size ≤ q := fun _ h => h
  have hb : c.code = b_La_law := hb
  have hown : s.vm.findClass R_La = some m.cls := hown
  have C0 := C1
  refine lv_aload_n hx hb d_La_law_160 rfl (lv_at hl 3 rfl) ?_
  refine lv_aload_n hx hb d_La_law_161 rfl (lv_at hl 4 rfl) ?_
  refine lv_iload hx hb d_La_law_162 (lv_at hl 0 rfl) ?_
  refine lv_iconst (v := 1) hx hb d_La_law_164 (by decide) ?_
  refine lv_iadd hx hb d_La_law_165 ?_
  refine va_sld hx hb hX hbl hbA hS (by unfold vp_in; decide) d_La_law_166 ?_
  refine lv_topi (fun x_1 ex_1 => ?_)
  refine lv_aload_n hx hb d_La_law_167 rfl (lv_at hl 4 rfl) ?_
  refine lv_iload hx hb d_La_law_168 (lv_at hl 0 rfl) ?_
  refine lv_iconst (v := 2) hx hb d_La_law_170 (by decide) ?_
  refine lv_iadd hx hb d_La_law_171 ?_
  refine va_sld hx hb hX hbl hbA hS (by unfold vp_in; decide) d_La_law_172 ?_
  refine lv_topi (fun x_2 ex_2 => ?_)
  refine lv_aload_n hx hb d_La_law_173 rfl (lv_at hl 4 rfl) ?_
  refine lv_iload hx hb d_La_law_174 (lv_at hl 0 rfl) ?_
  refine lv_iconst (v := 3) hx hb d_La_law_176 (by decide) ?_
  refine lv_iadd hx hb d_La_law_177 ?_
  refine va_sld hx hb hX hbl hbA hS (by unfold vp_in; decide) d_La_law_178 ?_
  refine lv_topi (fun x_3 ex_3 => ?_)
  refine lv_aload_n hx hb d_La_law_179 rfl (lv_at hl 4 rfl) ?_
  refine lv_iload hx hb d_La_law_180 (lv_at hl 0 rfl) ?_
  refine lv_iconst (v := 4) hx hb d_La_law_182 (by decide) ?_
  refine lv_iadd hx hb d_La_law_183 ?_
  refine va_sld hx hb hX hbl hbA hS (by unfold vp_in; decide) d_La_law_184 ?_
  refine lv_topi (fun x_4 ex_4 => ?_)
  refine lv_aload_n hx hb d_La_law_185 rfl (lv_at hl 4 rfl) ?_
  refine lv_iload hx hb d_La_law_186 (lv_at hl 0 rfl) ?_
  refine lv_iconst (v := 5) hx hb d_La_law_188 (by decide) ?_
  refine lv_iadd hx hb d_La_law_189 ?_
  refine va_sld hx hb hX hbl hbA hS (by unfold vp_in; decide) d_La_law_190 ?_
  refine lv_topi (fun x_5 ex_5 => ?_)
  have hPc := hP.sub (ws' := [(v0, .inr (11, [.ref h0, .ref t0, .ref b0, .ref e0, .ref r0, .ref d0, .ref g0, .ref u0, .ref i0, .ref fa, .ref fw, .int 0, .int 0, .int 1, .int 1, .int 0])), (t0, .inr (3, [.ref t1, .ref t2, .int 0])), (t1, .inl (c2, 4096, .inl ((fun _ => 0)))), (t2, .inl (c3, 20, .inl ((fun _ => 0))))]) [0, 1, 2, 3] rfl
  have hDc := hD.sub (ws' := [(v0, .inr (11, [.ref h0, .ref t0, .ref b0, .ref e0, .ref r0, .ref d0, .ref g0, .ref u0, .ref i0, .ref fa, .ref fw, .int 0, .int 0, .int 1, .int 1, .int 0])), (t0, .inr (3, [.ref t1, .ref t2, .int 0])), (t1, .inl (c2, 4096, .inl ((fun _ => 0)))), (t2, .inl (c3, 20, .inl ((fun _ => 0))))]) [0, 1, 2, 3] (by decide) rfl
  have hKc := hK.sub (tys' := [(c2, .byte), (c3, .byte)]) [0, 1] rfl
  have hFc := va_free (wc := [(v0, .inr (11, [.ref h0, .ref t0, .ref b0, .ref e0, .ref r0, .ref d0, .ref g0, .ref u0, .ref i0, .ref fa, .ref fw, .int 0, .int 0, .int 1, .int 1, .int 0])), (t0, .inr (3, [.ref t1, .ref t2, .int 0])), (t1, .inl (c2, 4096, .inl ((fun _ => 0)))), (t2, .inl (c3, 20, .inl ((fun _ => 0))))]) hD hS hA [0, 1, 2, 3] rfl
  refine va_callv (va_runV (As := [.int x_1, .int x_2, .int x_3, .int x_4, .int x_5]) (rest := []) ⟨hx, hb, hml, hown, hts⟩ (c_Vt_feed l dC dI v0 H.size h0 t0 b0 e0 r0 d0 g0 u0 i0 fa fw 0 0 1 1 0 t1 t2 c2 c3 (fun _ => 0) (fun _ => 0) 0 x_1 x_2 x_3 x_4 x_5) (cwV 5 hts (gwV good_La (k_La_3) (u_La_Vt _ k_Vt_45) (u_La_Vt _ k_Vt_46) (u_La_Vt _ k_Vt_0) (wcs (u_La_Vt _ k_Vt_47) u_La_Vt)) rfl rfl rfl (by decide +kernel) ⟨Nat.le_of_ble_eq_true rfl, Nat.le_of_ble_eq_true rfl⟩) (pv_of hPc hKc hDc (va_recv hKc hPc (ci := 11) (q0 := 0) rfl rfl)) rfl rfl hl.1 rfl (lv_room (Nat.le_of_ble_eq_true rfl)) d_La_law_191 ⟨by decide, by decide⟩) hS (fun q _ h => hFc q h) hFc (fun u t H1 locs ht hvm hw hB hz1 hk1 hS => ?_)
  obtain ⟨hP1, hK1, hD1⟩ := hB
  rw [ht] at hP1
  have hP1 : va_P (dC, dI) classes [] H1 := hP1.sub (ws' := []) [] rfl
  have hD1 : va_D _ [] := hD1.sub (ws' := []) [] (by decide) rfl
  obtain ⟨hP, hD⟩ := va_join (wr := [(o0, .inr (12, [.int (nI sN), .ref m1, .ref m2, .ref m3, .ref m4, .int 0, .int 0, .int 0, .int 0, .int 0, .int 0, .int 0, .int 0, .int 0, .int 0, .int 0, .int 0, .int 0, .int 0, .int 0, .int 0, .int 0, .int 0, .ref m23, .ref m24, .ref m25, .ref m26, .ref m27, .ref m28, .ref m29, .ref m30, .ref m31, .ref m32, .ref m33, .ref m34, .int 0, .int 0, .int 0, .ref m38, .int 0, .int 0, .int 0, .int 0, .ref m43, .ref m44, .ref m45, .int 0, .int 0, .int 0, .int 0, .int 0, .ref m51, .ref m52, .ref m53, .ref m54, .ref m55, .int 0, .int 0, .int 0, .int 0, .int 0, .ref m61, .ref m62, .int 0, .int 0, .int 0])), (m4, .inl (cR, 20, .inl ((fun _ => 0))))]) (w1 := []) hP hD [0, 1, 2, 3] [4, 5] rfl rfl (by decide) (by decide) hk1 hFc hP1 hD1
  generalize H1 = H at hP hS ⊢
  have hP : va_P (dC, dI) classes [(o0, .inr (12, [.int (nI sN), .ref m1, .ref m2, .ref m3, .ref m4, .int 0, .int 0, .int 0, .int 0, .int 0, .int 0, .int 0, .int 0, .int 0, .int 0, .int 0, .int 0, .int 0, .int 0, .int 0, .int 0, .int 0, .int 0, .ref m23, .ref m24, .ref m25, .ref m26, .ref m27, .ref m28, .ref m29, .ref m30, .ref m31, .ref m32, .ref m33, .ref m34, .int 0, .int 0, .int 0, .ref m38, .int 0, .int 0, .int 0, .int 0, .ref m43, .ref m44, .ref m45, .int 0, .int 0, .int 0, .int 0, .int 0, .ref m51, .ref m52, .ref m53, .ref m54, .ref m55, .int 0, .int 0, .int 0, .int 0, .int 0, .ref m61, .ref m62, .int 0, .int 0, .int 0])), (m4, .inl (cR, 20, .inl ((fun _ => 0))))] H := hP
  have hD : va_D (fun q => s.heap.size ≤ q) [(o0, .inr (12, [.int (nI sN), .ref m1, .ref m2, .ref m3, .ref m4, .int 0, .int 0, .int 0, .int 0, .int 0, .int 0, .int 0, .int 0, .int 0, .int 0, .int 0, .int 0, .int 0, .int 0, .int 0, .int 0, .int 0, .int 0, .ref m23, .ref m24, .ref m25, .ref m26, .ref m27, .ref m28, .ref m29, .ref m30, .ref m31, .ref m32, .ref m33, .ref m34, .int 0, .int 0, .int 0, .ref m38, .int 0, .int 0, .int 0, .int 0, .ref m43, .ref m44, .ref m45, .int 0, .int 0, .int 0, .int 0, .int 0, .ref m51, .ref m52, .ref m53, .ref m54, .ref m55, .int 0, .int 0, .int 0, .int 0, .int 0, .ref m61, .ref m62, .int 0, .int 0, .int 0])), (m4, .inl (cR, 20, .inl ((fun _ => 0))))] := hD
  refine lv_aload_n hx hb d_La_law_194 rfl (lv_at hl 2 rfl) ?_
  refine lv_aload_n hx hb d_La_law_195 rfl (lv_at hl 4 rfl) ?_
  refine lv_iload hx hb d_La_law_196 (lv_at hl 0 rfl) ?_
  refine lv_iconst (v := 1) hx hb d_La_law_198 (by decide) ?_
  refine lv_iadd hx hb d_La_law_199 ?_
  refine va_sld hx hb hX hbl hbA hS (by unfold vp_in; decide) d_La_law_200 ?_
  refine lv_topi (fun x_7 ex_7 => ?_)
  rw [show x_7 = x_1 from ex_7.trans ex_1.symm]
  refine lv_aload_n hx hb d_La_law_201 rfl (lv_at hl 4 rfl) ?_
  refine lv_iload hx hb d_La_law_202 (lv_at hl 0 rfl) ?_
  refine lv_iconst (v := 2) hx hb d_La_law_204 (by decide) ?_
  refine lv_iadd hx hb d_La_law_205 ?_
  refine va_sld hx hb hX hbl hbA hS (by unfold vp_in; decide) d_La_law_206 ?_
  refine lv_topi (fun x_8 ex_8 => ?_)
  rw [show x_8 = x_2 from ex_8.trans ex_2.symm]
  refine lv_aload_n hx hb d_La_law_207 rfl (lv_at hl 4 rfl) ?_
  refine lv_iload hx hb d_La_law_208 (lv_at hl 0 rfl) ?_
  refine lv_iconst (v := 3) hx hb d_La_law_210 (by decide) ?_
  refine lv_iadd hx hb d_La_law_211 ?_
  refine va_sld hx hb hX hbl hbA hS (by unfold vp_in; decide) d_La_law_212 ?_
  refine lv_topi (fun x_9 ex_9 => ?_)
  rw [show x_9 = x_3 from ex_9.trans ex_3.symm]
  refine lv_aload_n hx hb d_La_law_213 rfl (lv_at hl 4 rfl) ?_
  refine lv_iload hx hb d_La_law_214 (lv_at hl 0 rfl) ?_
  refine lv_iconst (v := 4) hx hb d_La_law_216 (by decide) ?_
  refine lv_iadd hx hb d_La_law_217 ?_
  refine va_sld hx hb hX hbl hbA hS (by unfold vp_in; decide) d_La_law_218 ?_
  refine lv_topi (fun x_10 ex_10 => ?_)
  rw [show x_10 = x_4 from ex_10.trans ex_4.symm]
  refine lv_aload_n hx hb d_La_law_219 rfl (lv_at hl 4 rfl) ?_
  refine lv_iload hx hb d_La_law_220 (lv_at hl 0 rfl) ?_
  refine lv_iconst (v := 5) hx hb d_La_law_222 (by decide) ?_
  refine lv_iadd hx hb d_La_law_223 ?_
  refine va_sld hx hb hX hbl hbA hS (by unfold vp_in; decide) d_La_law_224 ?_
  refine lv_topi (fun x_11 ex_11 => ?_)
  rw [show x_11 = x_5 from ex_11.trans ex_5.symm]
  have hPc := hP.sub (ws' := [(o0, .inr (12, [.int (nI sN), .ref m1, .ref m2, .ref m3, .ref m4, .int 0, .int 0, .int 0, .int 0, .int 0, .int 0, .int 0, .int 0, .int 0, .int 0, .int 0, .int 0, .int 0, .int 0, .int 0, .int 0, .int 0, .int 0, .ref m23, .ref m24, .ref m25, .ref m26, .ref m27, .ref m28, .ref m29, .ref m30, .ref m31, .ref m32, .ref m33, .ref m34, .int 0, .int 0, .int 0, .ref m38, .int 0, .int 0, .int 0, .int 0, .ref m43, .ref m44, .ref m45, .int 0, .int 0, .int 0, .int 0, .int 0, .ref m51, .ref m52, .ref m53, .ref m54, .ref m55, .int 0, .int 0, .int 0, .int 0, .int 0, .ref m61, .ref m62, .int 0, .int 0, .int 0])), (m4, .inl (cR, 20, .inl ((fun _ => 0))))]) [0, 1] rfl
  have hDc := hD.sub (ws' := [(o0, .inr (12, [.int (nI sN), .ref m1, .ref m2, .ref m3, .ref m4, .int 0, .int 0, .int 0, .int 0, .int 0, .int 0, .int 0, .int 0, .int 0, .int 0, .int 0, .int 0, .int 0, .int 0, .int 0, .int 0, .int 0, .int 0, .ref m23, .ref m24, .ref m25, .ref m26, .ref m27, .ref m28, .ref m29, .ref m30, .ref m31, .ref m32, .ref m33, .ref m34, .int 0, .int 0, .int 0, .ref m38, .int 0, .int 0, .int 0, .int 0, .ref m43, .ref m44, .ref m45, .int 0, .int 0, .int 0, .int 0, .int 0, .ref m51, .ref m52, .ref m53, .ref m54, .ref m55, .int 0, .int 0, .int 0, .int 0, .int 0, .ref m61, .ref m62, .int 0, .int 0, .int 0])), (m4, .inl (cR, 20, .inl ((fun _ => 0))))]) [0, 1] (by decide) rfl
  have hKc := hK.sub (tys' := [(cR, .byte)]) [2] rfl
  have hFc := va_free (wc := [(o0, .inr (12, [.int (nI sN), .ref m1, .ref m2, .ref m3, .ref m4, .int 0, .int 0, .int 0, .int 0, .int 0, .int 0, .int 0, .int 0, .int 0, .int 0, .int 0, .int 0, .int 0, .int 0, .int 0, .int 0, .int 0, .int 0, .ref m23, .ref m24, .ref m25, .ref m26, .ref m27, .ref m28, .ref m29, .ref m30, .ref m31, .ref m32, .ref m33, .ref m34, .int 0, .int 0, .int 0, .ref m38, .int 0, .int 0, .int 0, .int 0, .ref m43, .ref m44, .ref m45, .int 0, .int 0, .int 0, .int 0, .int 0, .ref m51, .ref m52, .ref m53, .ref m54, .ref m55, .int 0, .int 0, .int 0, .int 0, .int 0, .ref m61, .ref m62, .int 0, .int 0, .int 0])), (m4, .inl (cR, 20, .inl ((fun _ => 0))))]) hD hS hA [0, 1] rfl
  refine va_callv (va_runV (As := [.int x_1, .int x_2, .int x_3, .int x_4, .int x_5]) (rest := []) ⟨hx, hb, hml, hown, hts⟩ (c_Mo_feed l dC dI o0 H.size m1 m2 m3 m4 m23 m24 m25 m26 m27 m28 m29 m30 m31 m32 m33 m34 m38 m43 m44 m45 m51 m52 m53 m54 m55 m61 m62 (nI sN) 0 0 0 0 0 0 0 0 0 0 0 0 0 0 0 0 0 0 0 0 0 0 0 0 0 0 0 0 0 0 0 0 0 0 0 0 0 0 cR (fun _ => 0) x_1 x_2 x_3 x_4 x_5) (cwV 5 hts (gwV good_La (k_La_79) (u_La_Mo _ k_Mo_76) (u_La_Mo _ k_Mo_77) (u_La_Mo _ k_Mo_0) (wcs (u_La_Mo _ k_Mo_78) u_La_Mo)) rfl rfl rfl (by decide +kernel) ⟨Nat.le_of_ble_eq_true rfl, Nat.le_of_ble_eq_true rfl⟩) (pv_of hPc hKc hDc (va_recv hKc hPc (ci := 12) (q0 := 0) rfl rfl)) rfl rfl hl.1 rfl (lv_room (Nat.le_of_ble_eq_true rfl)) d_La_law_225 ⟨by decide, by decide⟩) hS (fun q _ h => hFc q h) hFc (fun u t H1 locs ht hvm hw hB hz1 hk1 hS => ?_)
  obtain ⟨hP1, hK1, hD1⟩ := hB
  rw [ht] at hP1
  have hP1 : va_P (dC, dI) classes [] H1 := hP1.sub (ws' := []) [] rfl
  have hD1 : va_D _ [] := hD1.sub (ws' := []) [] (by decide) rfl
  obtain ⟨hP, hD⟩ := va_join (wr := []) (w1 := []) hP hD [0, 1] [] rfl rfl (by decide) (by decide) hk1 hFc hP1 hD1
  generalize H1 = H at hP hS ⊢
  have hP : va_P (dC, dI) classes [] H := hP
  have hD : va_D (fun q => s.heap.size ≤ q) [] := hD
  refine lv_goto (tgt := 1388) hx hb d_La_law_228 (by decide) ?_
  exact la_tail l C0 hS (lv_sub hl [0, 4] rfl) (by decide) (by decide)
set_option maxHeartbeats 4000000 in
set_option maxRecDepth 100000 in
theorem la_case2 {p : Program} {e : Env} {s : State} {m : MethodId} {below : List Frame} {meth : Method} {c : Code} (l : Launch) (dC : Nat → ClassId) (dI : Nat → Nat → Nat) (v0 h0 t0 b0 e0 r0 d0 g0 u0 i0 fa fw h1 b1 b2 r1 r2 r3 r4 t1 t2 o0 ou m1 m2 m3 m4 m23 m24 m25 m26 m27 m28 m29 m30 m31 m32 m33 m34 m38 m43 m44 m45 m51 m52 m53 m54 m55 m61 m62 : Nat) (cB c1 c2 c3 c4 c5 cD cT cR cO : ClassId) (sN : Nat) (hs0 : 256 ≤ sN) (hs : sN ≤ 1024) {b : Nat} {xs : Nat → Int32} (C0 : lw_At p s m meth c b 7 xs) {H : Heap} {locs : List Loc} {ls : Array Slot} (hP : va_P (dC, dI) classes [(v0, .inr (11, [.ref h0, .ref t0, .ref b0, .ref e0, .ref r0, .ref d0, .ref g0, .ref u0, .ref i0, .ref fa, .ref fw, .int 0, .int 0, .int 1, .int 1, .int 0])), (t0, .inr (3, [.ref t1, .ref t2, .int 0])), (t1, .inl (c2, 4096, .inl ((fun _ => 0)))), (t2, .inl (c3, 20, .inl ((fun _ => 0)))), (o0, .inr (12, [.int (nI sN), .ref m1, .ref m2, .ref m3, .ref m4, .int 0, .int 0, .int 0, .int 0, .int 0, .int 0, .int 0, .int 0, .int 0, .int 0, .int 0, .int 0, .int 0, .int 0, .int 0, .int 0, .int 0, .int 0, .ref m23, .ref m24, .ref m25, .ref m26, .ref m27, .ref m28, .ref m29, .ref m30, .ref m31, .ref m32, .ref m33, .ref m34, .int 0, .int 0, .int 0, .ref m38, .int 0, .int 0, .int 0, .int 0, .ref m43, .ref m44, .ref m45, .int 0, .int 0, .int 0, .int 0, .int 0, .ref m51, .ref m52, .ref m53, .ref m54, .ref m55, .int 0, .int 0, .int 0, .int 0, .int 0, .ref m61, .ref m62, .int 0, .int 0, .int 0]))] H) (hD : va_D (fun q => s.heap.size ≤ q) [(v0, .inr (11, [.ref h0, .ref t0, .ref b0, .ref e0, .ref r0, .ref d0, .ref g0, .ref u0, .ref i0, .ref fa, .ref fw, .int 0, .int 0, .int 1, .int 1, .int 0])), (t0, .inr (3, [.ref t1, .ref t2, .int 0])), (t1, .inl (c2, 4096, .inl ((fun _ => 0)))), (t2, .inl (c3, 20, .inl ((fun _ => 0)))), (o0, .inr (12, [.int (nI sN), .ref m1, .ref m2, .ref m3, .ref m4, .int 0, .int 0, .int 0, .int 0, .int 0, .int 0, .int 0, .int 0, .int 0, .int 0, .int 0, .int 0, .int 0, .int 0, .int 0, .int 0, .int 0, .int 0, .ref m23, .ref m24, .ref m25, .ref m26, .ref m27, .ref m28, .ref m29, .ref m30, .ref m31, .ref m32, .ref m33, .ref m34, .int 0, .int 0, .int 0, .ref m38, .int 0, .int 0, .int 0, .int 0, .ref m43, .ref m44, .ref m45, .int 0, .int 0, .int 0, .int 0, .int 0, .ref m51, .ref m52, .ref m53, .ref m54, .ref m55, .int 0, .int 0, .int 0, .int 0, .int 0, .ref m61, .ref m62, .int 0, .int 0, .int 0]))]) (hK : va_K (dC, dI) classes [(c2, .byte), (c3, .byte)] s) (hS : va_S (fun q => s.heap.size ≤ q) s.heap H locs) (hl : lv_has ls 8 [(4, .int 1), (3, .ref ou), (2, .ref o0), (1, .ref v0), (0, .ref b)]) : W p l e room_1 s m #[Value.ref b] below meth c H locs 74 1720373 (lw_Z below #[Value.ref b] s) (F0 m 256 ls []) := by
  have C1 := C0
  obtain ⟨hx, hb, hr, hml, hown, hts1, hX, hbl, hlocks, hgv⟩ := C0
  have hts : ∀ w ∈ V_La, w.before #[Value.ref b] s = true := fun w h => hts1 w (in_V_La w h)
  have hbA : ¬ s.heap.size ≤ b := Nat.not_le.mpr hbl
  have hA : ∀ q : Nat, s.heap.size ≤ q → s.heap.size ≤ q := fun _ h => h
  have hb : c.code = b_La_law := hb
  have hown : s.vm.findClass R_La = some m.cls := hown
  have C0 := C1
  refine lv_aload_n hx hb d_La_law_256 rfl (lv_at hl 3 rfl) ?_
  have hPc := hP.sub (ws' := [(v0, .inr (11, [.ref h0, .ref t0, .ref b0, .ref e0, .ref r0, .ref d0, .ref g0, .ref u0, .ref i0, .ref fa, .ref fw, .int 0, .int 0, .int 1, .int 1, .int 0])), (t0, .inr (3, [.ref t1, .ref t2, .int 0])), (t1, .inl (c2, 4096, .inl ((fun _ => 0)))), (t2, .inl (c3, 20, .inl ((fun _ => 0))))]) [0, 1, 2, 3] rfl
  have hDc := hD.sub (ws' := [(v0, .inr (11, [.ref h0, .ref t0, .ref b0, .ref e0, .ref r0, .ref d0, .ref g0, .ref u0, .ref i0, .ref fa, .ref fw, .int 0, .int 0, .int 1, .int 1, .int 0])), (t0, .inr (3, [.ref t1, .ref t2, .int 0])), (t1, .inl (c2, 4096, .inl ((fun _ => 0)))), (t2, .inl (c3, 20, .inl ((fun _ => 0))))]) [0, 1, 2, 3] (by decide) rfl
  have hKc := hK.sub (tys' := [(c2, .byte), (c3, .byte)]) [0, 1] rfl
  have hFc := va_free (wc := [(v0, .inr (11, [.ref h0, .ref t0, .ref b0, .ref e0, .ref r0, .ref d0, .ref g0, .ref u0, .ref i0, .ref fa, .ref fw, .int 0, .int 0, .int 1, .int 1, .int 0])), (t0, .inr (3, [.ref t1, .ref t2, .int 0])), (t1, .inl (c2, 4096, .inl ((fun _ => 0)))), (t2, .inl (c3, 20, .inl ((fun _ => 0))))]) hD hS hA [0, 1, 2, 3] rfl
  refine va_callv (va_runV (As := []) (rest := []) ⟨hx, hb, hml, hown, hts⟩ (c_Vt_clear l dC dI v0 H.size h0 t0 b0 e0 r0 d0 g0 u0 i0 fa fw 0 0 1 1 0 t1 t2 c2 c3 (fun _ => 0) (fun _ => 0) 0) (cwV 0 hts (gwV good_La (k_La_5) (u_La_Vt _ k_Vt_53) (u_La_Vt _ k_Vt_54) (u_La_Vt _ k_Vt_0) (wcs (u_La_Vt _ k_Vt_55) u_La_Vt)) rfl rfl rfl (by decide +kernel) ⟨Nat.le_of_ble_eq_true rfl, Nat.le_of_ble_eq_true rfl⟩) (pv_of hPc hKc hDc (va_recv hKc hPc (ci := 11) (q0 := 0) rfl rfl)) rfl rfl hl.1 rfl (lv_room (Nat.le_of_ble_eq_true rfl)) d_La_law_257 ⟨by decide, by decide⟩) hS (fun q _ h => hFc q h) hFc (fun u t H1 locs ht hvm hw hB hz1 hk1 hS => ?_)
  obtain ⟨hP1, hK1, hD1⟩ := hB
  rw [ht] at hP1
  have hP1 : va_P (dC, dI) classes [] H1 := hP1.sub (ws' := []) [] rfl
  have hD1 : va_D _ [] := hD1.sub (ws' := []) [] (by decide) rfl
  obtain ⟨hP, hD⟩ := va_join (wr := [(o0, .inr (12, [.int (nI sN), .ref m1, .ref m2, .ref m3, .ref m4, .int 0, .int 0, .int 0, .int 0, .int 0, .int 0, .int 0, .int 0, .int 0, .int 0, .int 0, .int 0, .int 0, .int 0, .int 0, .int 0, .int 0, .int 0, .ref m23, .ref m24, .ref m25, .ref m26, .ref m27, .ref m28, .ref m29, .ref m30, .ref m31, .ref m32, .ref m33, .ref m34, .int 0, .int 0, .int 0, .ref m38, .int 0, .int 0, .int 0, .int 0, .ref m43, .ref m44, .ref m45, .int 0, .int 0, .int 0, .int 0, .int 0, .ref m51, .ref m52, .ref m53, .ref m54, .ref m55, .int 0, .int 0, .int 0, .int 0, .int 0, .ref m61, .ref m62, .int 0, .int 0, .int 0]))]) (w1 := []) hP hD [0, 1, 2, 3] [4] rfl rfl (by decide) (by decide) hk1 hFc hP1 hD1
  generalize H1 = H at hP hS ⊢
  have hP : va_P (dC, dI) classes [(o0, .inr (12, [.int (nI sN), .ref m1, .ref m2, .ref m3, .ref m4, .int 0, .int 0, .int 0, .int 0, .int 0, .int 0, .int 0, .int 0, .int 0, .int 0, .int 0, .int 0, .int 0, .int 0, .int 0, .int 0, .int 0, .int 0, .ref m23, .ref m24, .ref m25, .ref m26, .ref m27, .ref m28, .ref m29, .ref m30, .ref m31, .ref m32, .ref m33, .ref m34, .int 0, .int 0, .int 0, .ref m38, .int 0, .int 0, .int 0, .int 0, .ref m43, .ref m44, .ref m45, .int 0, .int 0, .int 0, .int 0, .int 0, .ref m51, .ref m52, .ref m53, .ref m54, .ref m55, .int 0, .int 0, .int 0, .int 0, .int 0, .ref m61, .ref m62, .int 0, .int 0, .int 0]))] H := hP
  have hD : va_D (fun q => s.heap.size ≤ q) [(o0, .inr (12, [.int (nI sN), .ref m1, .ref m2, .ref m3, .ref m4, .int 0, .int 0, .int 0, .int 0, .int 0, .int 0, .int 0, .int 0, .int 0, .int 0, .int 0, .int 0, .int 0, .int 0, .int 0, .int 0, .int 0, .int 0, .ref m23, .ref m24, .ref m25, .ref m26, .ref m27, .ref m28, .ref m29, .ref m30, .ref m31, .ref m32, .ref m33, .ref m34, .int 0, .int 0, .int 0, .ref m38, .int 0, .int 0, .int 0, .int 0, .ref m43, .ref m44, .ref m45, .int 0, .int 0, .int 0, .int 0, .int 0, .ref m51, .ref m52, .ref m53, .ref m54, .ref m55, .int 0, .int 0, .int 0, .int 0, .int 0, .ref m61, .ref m62, .int 0, .int 0, .int 0]))] := hD
  refine lv_aload_n hx hb d_La_law_260 rfl (lv_at hl 2 rfl) ?_
  have hPc := hP.sub (ws' := [(o0, .inr (12, [.int (nI sN), .ref m1, .ref m2, .ref m3, .ref m4, .int 0, .int 0, .int 0, .int 0, .int 0, .int 0, .int 0, .int 0, .int 0, .int 0, .int 0, .int 0, .int 0, .int 0, .int 0, .int 0, .int 0, .int 0, .ref m23, .ref m24, .ref m25, .ref m26, .ref m27, .ref m28, .ref m29, .ref m30, .ref m31, .ref m32, .ref m33, .ref m34, .int 0, .int 0, .int 0, .ref m38, .int 0, .int 0, .int 0, .int 0, .ref m43, .ref m44, .ref m45, .int 0, .int 0, .int 0, .int 0, .int 0, .ref m51, .ref m52, .ref m53, .ref m54, .ref m55, .int 0, .int 0, .int 0, .int 0, .int 0, .ref m61, .ref m62, .int 0, .int 0, .int 0]))]) [0] rfl
  have hDc := hD.sub (ws' := [(o0, .inr (12, [.int (nI sN), .ref m1, .ref m2, .ref m3, .ref m4, .int 0, .int 0, .int 0, .int 0, .int 0, .int 0, .int 0, .int 0, .int 0, .int 0, .int 0, .int 0, .int 0, .int 0, .int 0, .int 0, .int 0, .int 0, .ref m23, .ref m24, .ref m25, .ref m26, .ref m27, .ref m28, .ref m29, .ref m30, .ref m31, .ref m32, .ref m33, .ref m34, .int 0, .int 0, .int 0, .ref m38, .int 0, .int 0, .int 0, .int 0, .ref m43, .ref m44, .ref m45, .int 0, .int 0, .int 0, .int 0, .int 0, .ref m51, .ref m52, .ref m53, .ref m54, .ref m55, .int 0, .int 0, .int 0, .int 0, .int 0, .ref m61, .ref m62, .int 0, .int 0, .int 0]))]) [0] (by decide) rfl
  have hKc := hK.sub (tys' := []) [] rfl
  have hFc := va_free (wc := [(o0, .inr (12, [.int (nI sN), .ref m1, .ref m2, .ref m3, .ref m4, .int 0, .int 0, .int 0, .int 0, .int 0, .int 0, .int 0, .int 0, .int 0, .int 0, .int 0, .int 0, .int 0, .int 0, .int 0, .int 0, .int 0, .int 0, .ref m23, .ref m24, .ref m25, .ref m26, .ref m27, .ref m28, .ref m29, .ref m30, .ref m31, .ref m32, .ref m33, .ref m34, .int 0, .int 0, .int 0, .ref m38, .int 0, .int 0, .int 0, .int 0, .ref m43, .ref m44, .ref m45, .int 0, .int 0, .int 0, .int 0, .int 0, .ref m51, .ref m52, .ref m53, .ref m54, .ref m55, .int 0, .int 0, .int 0, .int 0, .int 0, .ref m61, .ref m62, .int 0, .int 0, .int 0]))]) hD hS hA [0] rfl
  refine va_callv (va_runV (As := []) (rest := []) ⟨hx, hb, hml, hown, hts⟩ (c_Mo_clear l dC dI o0 H.size m1 m2 m3 m4 m23 m24 m25 m26 m27 m28 m29 m30 m31 m32 m33 m34 m38 m43 m44 m45 m51 m52 m53 m54 m55 m61 m62 (nI sN) 0 0 0 0 0 0 0 0 0 0 0 0 0 0 0 0 0 0 0 0 0 0 0 0 0 0 0 0 0 0 0 0 0 0 0 0 0 0) (cwV 0 hts (gwV good_La (k_La_81) (u_La_Mo _ k_Mo_82) (u_La_Mo _ k_Mo_83) (u_La_Mo _ k_Mo_0) (wcs (u_La_Mo _ k_Mo_84) u_La_Mo)) rfl rfl rfl (by decide +kernel) ⟨Nat.le_of_ble_eq_true rfl, Nat.le_of_ble_eq_true rfl⟩) (pv_of hPc hKc hDc (va_recv hKc hPc (ci := 12) (q0 := 0) rfl rfl)) rfl rfl hl.1 rfl (lv_room (Nat.le_of_ble_eq_true rfl)) d_La_law_261 ⟨by decide, by decide⟩) hS (fun q _ h => hFc q h) hFc (fun u t H1 locs ht hvm hw hB hz1 hk1 hS => ?_)
  obtain ⟨hP1, hK1, hD1⟩ := hB
  rw [ht] at hP1
  have hP1 : va_P (dC, dI) classes [] H1 := hP1.sub (ws' := []) [] rfl
  have hD1 : va_D _ [] := hD1.sub (ws' := []) [] (by decide) rfl
  obtain ⟨hP, hD⟩ := va_join (wr := []) (w1 := []) hP hD [0] [] rfl rfl (by decide) (by decide) hk1 hFc hP1 hD1
  generalize H1 = H at hP hS ⊢
  have hP : va_P (dC, dI) classes [] H := hP
  have hD : va_D (fun q => s.heap.size ≤ q) [] := hD
  refine lv_goto (tgt := 1388) hx hb d_La_law_264 (by decide) ?_
  exact la_tail l C0 hS (lv_sub hl [0, 4] rfl) (by decide) (by decide)
set_option maxHeartbeats 4000000 in
set_option maxRecDepth 100000 in
theorem la_case1 {p : Program} {e : Env} {s : State} {m : MethodId} {below : List Frame} {meth : Method} {c : Code} (l : Launch) (dC : Nat → ClassId) (dI : Nat → Nat → Nat) (v0 h0 t0 b0 e0 r0 d0 g0 u0 i0 fa fw h1 b1 b2 r1 r2 r3 r4 t1 t2 o0 ou m1 m2 m3 m4 m23 m24 m25 m26 m27 m28 m29 m30 m31 m32 m33 m34 m38 m43 m44 m45 m51 m52 m53 m54 m55 m61 m62 : Nat) (cB c1 c2 c3 c4 c5 cD cT cR cO : ClassId) (sN : Nat) (hs0 : 256 ≤ sN) (hs : sN ≤ 1024) {b : Nat} {xs : Nat → Int32} (C0 : lw_At p s m meth c b 7 xs) {H : Heap} {locs : List Loc} {ls : Array Slot} (hP : va_P (dC, dI) classes [(v0, .inr (11, [.ref h0, .ref t0, .ref b0, .ref e0, .ref r0, .ref d0, .ref g0, .ref u0, .ref i0, .ref fa, .ref fw, .int 0, .int 0, .int 1, .int 1, .int 0])), (t0, .inr (3, [.ref t1, .ref t2, .int 0])), (t1, .inl (c2, 4096, .inl ((fun _ => 0)))), (t2, .inl (c3, 20, .inl ((fun _ => 0)))), (o0, .inr (12, [.int (nI sN), .ref m1, .ref m2, .ref m3, .ref m4, .int 0, .int 0, .int 0, .int 0, .int 0, .int 0, .int 0, .int 0, .int 0, .int 0, .int 0, .int 0, .int 0, .int 0, .int 0, .int 0, .int 0, .int 0, .ref m23, .ref m24, .ref m25, .ref m26, .ref m27, .ref m28, .ref m29, .ref m30, .ref m31, .ref m32, .ref m33, .ref m34, .int 0, .int 0, .int 0, .ref m38, .int 0, .int 0, .int 0, .int 0, .ref m43, .ref m44, .ref m45, .int 0, .int 0, .int 0, .int 0, .int 0, .ref m51, .ref m52, .ref m53, .ref m54, .ref m55, .int 0, .int 0, .int 0, .int 0, .int 0, .ref m61, .ref m62, .int 0, .int 0, .int 0])), (m3, .inl (cT, 4096, .inl ((fun _ => 0)))), (m4, .inl (cR, 20, .inl ((fun _ => 0))))] H) (hD : va_D (fun q => s.heap.size ≤ q) [(v0, .inr (11, [.ref h0, .ref t0, .ref b0, .ref e0, .ref r0, .ref d0, .ref g0, .ref u0, .ref i0, .ref fa, .ref fw, .int 0, .int 0, .int 1, .int 1, .int 0])), (t0, .inr (3, [.ref t1, .ref t2, .int 0])), (t1, .inl (c2, 4096, .inl ((fun _ => 0)))), (t2, .inl (c3, 20, .inl ((fun _ => 0)))), (o0, .inr (12, [.int (nI sN), .ref m1, .ref m2, .ref m3, .ref m4, .int 0, .int 0, .int 0, .int 0, .int 0, .int 0, .int 0, .int 0, .int 0, .int 0, .int 0, .int 0, .int 0, .int 0, .int 0, .int 0, .int 0, .int 0, .ref m23, .ref m24, .ref m25, .ref m26, .ref m27, .ref m28, .ref m29, .ref m30, .ref m31, .ref m32, .ref m33, .ref m34, .int 0, .int 0, .int 0, .ref m38, .int 0, .int 0, .int 0, .int 0, .ref m43, .ref m44, .ref m45, .int 0, .int 0, .int 0, .int 0, .int 0, .ref m51, .ref m52, .ref m53, .ref m54, .ref m55, .int 0, .int 0, .int 0, .int 0, .int 0, .ref m61, .ref m62, .int 0, .int 0, .int 0])), (m3, .inl (cT, 4096, .inl ((fun _ => 0)))), (m4, .inl (cR, 20, .inl ((fun _ => 0))))]) (hK : va_K (dC, dI) classes [(c2, .byte), (c3, .byte), (cT, .byte), (cR, .byte)] s) (hS : va_S (fun q => s.heap.size ≤ q) s.heap H locs) (hl : lv_has ls 8 [(4, .int 1), (3, .ref ou), (2, .ref o0), (1, .ref v0), (0, .ref b)]) : W p l e room_1 s m #[Value.ref b] below meth c H locs 74 1720373 (lw_Z below #[Value.ref b] s) (F0 m 231 ls []) := by
  have C1 := C0
  obtain ⟨hx, hb, hr, hml, hown, hts1, hX, hbl, hlocks, hgv⟩ := C0
  have hts : ∀ w ∈ V_La, w.before #[Value.ref b] s = true := fun w h => hts1 w (in_V_La w h)
  have hbA : ¬ s.heap.size ≤ b := Nat.not_le.mpr hbl
  have hA : ∀ q : Nat, s.heap.size ≤ q → s.heap.size ≤ q := fun _ h => h
  have hb : c.code = b_La_law := hb
  have hown : s.vm.findClass R_La = some m.cls := hown
  have C0 := C1
  refine lv_aload_n hx hb d_La_law_231 rfl (lv_at hl 3 rfl) ?_
  refine lv_aload_n hx hb d_La_law_232 rfl (lv_at hl 4 rfl) ?_
  refine lv_iload hx hb d_La_law_233 (lv_at hl 0 rfl) ?_
  refine lv_iconst (v := 1) hx hb d_La_law_235 (by decide) ?_
  refine lv_iadd hx hb d_La_law_236 ?_
  refine va_sld hx hb hX hbl hbA hS (by unfold vp_in; decide) d_La_law_237 ?_
  refine lv_topi (fun x_1 ex_1 => ?_)
  have hPc := hP.sub (ws' := [(v0, .inr (11, [.ref h0, .ref t0, .ref b0, .ref e0, .ref r0, .ref d0, .ref g0, .ref u0, .ref i0, .ref fa, .ref fw, .int 0, .int 0, .int 1, .int 1, .int 0])), (t0, .inr (3, [.ref t1, .ref t2, .int 0])), (t1, .inl (c2, 4096, .inl ((fun _ => 0)))), (t2, .inl (c3, 20, .inl ((fun _ => 0))))]) [0, 1, 2, 3] rfl
  have hDc := hD.sub (ws' := [(v0, .inr (11, [.ref h0, .ref t0, .ref b0, .ref e0, .ref r0, .ref d0, .ref g0, .ref u0, .ref i0, .ref fa, .ref fw, .int 0, .int 0, .int 1, .int 1, .int 0])), (t0, .inr (3, [.ref t1, .ref t2, .int 0])), (t1, .inl (c2, 4096, .inl ((fun _ => 0)))), (t2, .inl (c3, 20, .inl ((fun _ => 0))))]) [0, 1, 2, 3] (by decide) rfl
  have hKc := hK.sub (tys' := [(c2, .byte), (c3, .byte)]) [0, 1] rfl
  have hFc := va_free (wc := [(v0, .inr (11, [.ref h0, .ref t0, .ref b0, .ref e0, .ref r0, .ref d0, .ref g0, .ref u0, .ref i0, .ref fa, .ref fw, .int 0, .int 0, .int 1, .int 1, .int 0])), (t0, .inr (3, [.ref t1, .ref t2, .int 0])), (t1, .inl (c2, 4096, .inl ((fun _ => 0)))), (t2, .inl (c3, 20, .inl ((fun _ => 0))))]) hD hS hA [0, 1, 2, 3] rfl
  refine va_calli (va_runV (As := [.int x_1]) (rest := []) ⟨hx, hb, hml, hown, hts⟩ (c_Vt_end l dC dI v0 H.size h0 t0 b0 e0 r0 d0 g0 u0 i0 fa fw 0 0 1 1 0 t1 t2 c2 c3 (fun _ => 0) (fun _ => 0) 0 (by decide) la_fit x_1) (cwV 1 hts (gwV good_La (k_La_4) (u_La_Vt _ k_Vt_49) (u_La_Vt _ k_Vt_50) (u_La_Vt _ k_Vt_0) (wcs (u_La_Vt _ k_Vt_51) u_La_Vt)) rfl rfl rfl (by decide +kernel) ⟨Nat.le_of_ble_eq_true rfl, Nat.le_of_ble_eq_true rfl⟩) (pv_of hPc hKc hDc (va_recv hKc hPc (ci := 11) (q0 := 0) rfl rfl)) rfl rfl hl.1 rfl (lv_room (Nat.le_of_ble_eq_true rfl)) d_La_law_238 ⟨by decide, by decide⟩) hS (fun q _ h => hFc q h) hFc (fun r_2 u t H1 locs ht hvm hw hB hz1 hk1 hS => ?_)
  have er_2 := hw
  obtain ⟨hP1, hK1, hD1⟩ := hB
  rw [ht] at hP1
  have hP1 : va_P (dC, dI) classes [] H1 := hP1.sub (ws' := []) [] rfl
  have hD1 : va_D _ [] := hD1.sub (ws' := []) [] (by decide) rfl
  obtain ⟨hP, hD⟩ := va_join (wr := [(o0, .inr (12, [.int (nI sN), .ref m1, .ref m2, .ref m3, .ref m4, .int 0, .int 0, .int 0, .int 0, .int 0, .int 0, .int 0, .int 0, .int 0, .int 0, .int 0, .int 0, .int 0, .int 0, .int 0, .int 0, .int 0, .int 0, .ref m23, .ref m24, .ref m25, .ref m26, .ref m27, .ref m28, .ref m29, .ref m30, .ref m31, .ref m32, .ref m33, .ref m34, .int 0, .int 0, .int 0, .ref m38, .int 0, .int 0, .int 0, .int 0, .ref m43, .ref m44, .ref m45, .int 0, .int 0, .int 0, .int 0, .int 0, .ref m51, .ref m52, .ref m53, .ref m54, .ref m55, .int 0, .int 0, .int 0, .int 0, .int 0, .ref m61, .ref m62, .int 0, .int 0, .int 0])), (m3, .inl (cT, 4096, .inl ((fun _ => 0)))), (m4, .inl (cR, 20, .inl ((fun _ => 0))))]) (w1 := []) hP hD [0, 1, 2, 3] [4, 5, 6] rfl rfl (by decide) (by decide) hk1 hFc hP1 hD1
  generalize H1 = H at hP hS ⊢
  have hP : va_P (dC, dI) classes [(o0, .inr (12, [.int (nI sN), .ref m1, .ref m2, .ref m3, .ref m4, .int 0, .int 0, .int 0, .int 0, .int 0, .int 0, .int 0, .int 0, .int 0, .int 0, .int 0, .int 0, .int 0, .int 0, .int 0, .int 0, .int 0, .int 0, .ref m23, .ref m24, .ref m25, .ref m26, .ref m27, .ref m28, .ref m29, .ref m30, .ref m31, .ref m32, .ref m33, .ref m34, .int 0, .int 0, .int 0, .ref m38, .int 0, .int 0, .int 0, .int 0, .ref m43, .ref m44, .ref m45, .int 0, .int 0, .int 0, .int 0, .int 0, .ref m51, .ref m52, .ref m53, .ref m54, .ref m55, .int 0, .int 0, .int 0, .int 0, .int 0, .ref m61, .ref m62, .int 0, .int 0, .int 0])), (m3, .inl (cT, 4096, .inl ((fun _ => 0)))), (m4, .inl (cR, 20, .inl ((fun _ => 0))))] H := hP
  have hD : va_D (fun q => s.heap.size ≤ q) [(o0, .inr (12, [.int (nI sN), .ref m1, .ref m2, .ref m3, .ref m4, .int 0, .int 0, .int 0, .int 0, .int 0, .int 0, .int 0, .int 0, .int 0, .int 0, .int 0, .int 0, .int 0, .int 0, .int 0, .int 0, .int 0, .int 0, .ref m23, .ref m24, .ref m25, .ref m26, .ref m27, .ref m28, .ref m29, .ref m30, .ref m31, .ref m32, .ref m33, .ref m34, .int 0, .int 0, .int 0, .ref m38, .int 0, .int 0, .int 0, .int 0, .ref m43, .ref m44, .ref m45, .int 0, .int 0, .int 0, .int 0, .int 0, .ref m51, .ref m52, .ref m53, .ref m54, .ref m55, .int 0, .int 0, .int 0, .int 0, .int 0, .ref m61, .ref m62, .int 0, .int 0, .int 0])), (m3, .inl (cT, 4096, .inl ((fun _ => 0)))), (m4, .inl (cR, 20, .inl ((fun _ => 0))))] := hD
  refine lv_aload_n hx hb d_La_law_241 rfl (lv_at hl 2 rfl) ?_
  refine lv_aload_n hx hb d_La_law_242 rfl (lv_at hl 4 rfl) ?_
  refine lv_iload hx hb d_La_law_243 (lv_at hl 0 rfl) ?_
  refine lv_iconst (v := 1) hx hb d_La_law_245 (by decide) ?_
  refine lv_iadd hx hb d_La_law_246 ?_
  refine va_sld hx hb hX hbl hbA hS (by unfold vp_in; decide) d_La_law_247 ?_
  refine lv_topi (fun x_3 ex_3 => ?_)
  rw [show x_3 = x_1 from ex_3.trans ex_1.symm]
  have hPc := hP.sub (ws' := [(o0, .inr (12, [.int (nI sN), .ref m1, .ref m2, .ref m3, .ref m4, .int 0, .int 0, .int 0, .int 0, .int 0, .int 0, .int 0, .int 0, .int 0, .int 0, .int 0, .int 0, .int 0, .int 0, .int 0, .int 0, .int 0, .int 0, .ref m23, .ref m24, .ref m25, .ref m26, .ref m27, .ref m28, .ref m29, .ref m30, .ref m31, .ref m32, .ref m33, .ref m34, .int 0, .int 0, .int 0, .ref m38, .int 0, .int 0, .int 0, .int 0, .ref m43, .ref m44, .ref m45, .int 0, .int 0, .int 0, .int 0, .int 0, .ref m51, .ref m52, .ref m53, .ref m54, .ref m55, .int 0, .int 0, .int 0, .int 0, .int 0, .ref m61, .ref m62, .int 0, .int 0, .int 0])), (m3, .inl (cT, 4096, .inl ((fun _ => 0)))), (m4, .inl (cR, 20, .inl ((fun _ => 0))))]) [0, 1, 2] rfl
  have hDc := hD.sub (ws' := [(o0, .inr (12, [.int (nI sN), .ref m1, .ref m2, .ref m3, .ref m4, .int 0, .int 0, .int 0, .int 0, .int 0, .int 0, .int 0, .int 0, .int 0, .int 0, .int 0, .int 0, .int 0, .int 0, .int 0, .int 0, .int 0, .int 0, .ref m23, .ref m24, .ref m25, .ref m26, .ref m27, .ref m28, .ref m29, .ref m30, .ref m31, .ref m32, .ref m33, .ref m34, .int 0, .int 0, .int 0, .ref m38, .int 0, .int 0, .int 0, .int 0, .ref m43, .ref m44, .ref m45, .int 0, .int 0, .int 0, .int 0, .int 0, .ref m51, .ref m52, .ref m53, .ref m54, .ref m55, .int 0, .int 0, .int 0, .int 0, .int 0, .ref m61, .ref m62, .int 0, .int 0, .int 0])), (m3, .inl (cT, 4096, .inl ((fun _ => 0)))), (m4, .inl (cR, 20, .inl ((fun _ => 0))))]) [0, 1, 2] (by decide) rfl
  have hKc := hK.sub (tys' := [(cT, .byte), (cR, .byte)]) [2, 3] rfl
  have hFc := va_free (wc := [(o0, .inr (12, [.int (nI sN), .ref m1, .ref m2, .ref m3, .ref m4, .int 0, .int 0, .int 0, .int 0, .int 0, .int 0, .int 0, .int 0, .int 0, .int 0, .int 0, .int 0, .int 0, .int 0, .int 0, .int 0, .int 0, .int 0, .ref m23, .ref m24, .ref m25, .ref m26, .ref m27, .ref m28, .ref m29, .ref m30, .ref m31, .ref m32, .ref m33, .ref m34, .int 0, .int 0, .int 0, .ref m38, .int 0, .int 0, .int 0, .int 0, .ref m43, .ref m44, .ref m45, .int 0, .int 0, .int 0, .int 0, .int 0, .ref m51, .ref m52, .ref m53, .ref m54, .ref m55, .int 0, .int 0, .int 0, .int 0, .int 0, .ref m61, .ref m62, .int 0, .int 0, .int 0])), (m3, .inl (cT, 4096, .inl ((fun _ => 0)))), (m4, .inl (cR, 20, .inl ((fun _ => 0))))]) hD hS hA [0, 1, 2] rfl
  refine va_calli (va_runV (As := [.int x_1]) (rest := [.int r_2]) ⟨hx, hb, hml, hown, hts⟩ (c_Mo_end l dC dI o0 H.size m1 m2 m3 m4 m23 m24 m25 m26 m27 m28 m29 m30 m31 m32 m33 m34 m38 m43 m44 m45 m51 m52 m53 m54 m55 m61 m62 (nI sN) 0 0 0 0 0 0 0 0 0 0 0 0 0 0 0 0 0 0 0 0 0 0 0 0 0 0 0 0 0 0 0 0 0 0 0 0 0 cT cR (fun _ => 0) (fun _ => 0) 0 (by decide) x_1) (cwV 1 hts (gwV good_La (k_La_80) (u_La_Mo _ k_Mo_79) (u_La_Mo _ k_Mo_80) (u_La_Mo _ k_Mo_0) (wcs (u_La_Mo _ k_Mo_81) u_La_Mo)) rfl rfl rfl (by decide +kernel) ⟨Nat.le_of_ble_eq_true rfl, Nat.le_of_ble_eq_true rfl⟩) (pv_of hPc hKc hDc (va_recv hKc hPc (ci := 12) (q0 := 0) rfl rfl)) rfl rfl hl.1 rfl (lv_room (Nat.le_of_ble_eq_true rfl)) d_La_law_248 ⟨by decide, by decide⟩) hS (fun q _ h => hFc q h) hFc (fun r_4 u t H1 locs ht hvm hw hB hz1 hk1 hS => ?_)
  have er_4 := hw
  obtain ⟨hP1, hK1, hD1⟩ := hB
  rw [ht] at hP1
  have hP1 : va_P (dC, dI) classes [] H1 := hP1.sub (ws' := []) [] rfl
  have hD1 : va_D _ [] := hD1.sub (ws' := []) [] (by decide) rfl
  obtain ⟨hP, hD⟩ := va_join (wr := []) (w1 := []) hP hD [0, 1, 2] [] rfl rfl (by decide) (by decide) hk1 hFc hP1 hD1
  generalize H1 = H at hP hS ⊢
  have hP : va_P (dC, dI) classes [] H := hP
  have hD : va_D (fun q => s.heap.size ≤ q) [] := hD
  refine lv_icmp_eq (tgt := 1388) hx hb d_La_law_251 (by decide) (fun c_5 => ?_) (fun c_5 => ?_)
  · exact la_tail l C0 hS (lv_sub hl [0, 4] rfl) (by decide) (by decide)
  · exact absurd (la_end er_2 er_4) c_5
set_option maxHeartbeats 4000000 in
set_option maxRecDepth 100000 in
theorem la_case4 {p : Program} {e : Env} {s : State} {m : MethodId} {below : List Frame} {meth : Method} {c : Code} (l : Launch) (dC : Nat → ClassId) (dI : Nat → Nat → Nat) (v0 h0 t0 b0 e0 r0 d0 g0 u0 i0 fa fw h1 b1 b2 r1 r2 r3 r4 t1 t2 o0 ou m1 m2 m3 m4 m23 m24 m25 m26 m27 m28 m29 m30 m31 m32 m33 m34 m38 m43 m44 m45 m51 m52 m53 m54 m55 m61 m62 : Nat) (cB c1 c2 c3 c4 c5 cD cT cR cO : ClassId) (sN : Nat) (hs0 : 256 ≤ sN) (hs : sN ≤ 1024) {b : Nat} {xs : Nat → Int32} (C0 : lw_At p s m meth c b 7 xs) {H : Heap} {locs : List Loc} {ls : Array Slot} (hP : va_P (dC, dI) classes [(v0, .inr (11, [.ref h0, .ref t0, .ref b0, .ref e0, .ref r0, .ref d0, .ref g0, .ref u0, .ref i0, .ref fa, .ref fw, .int 0, .int 0, .int 1, .int 1, .int 0])), (h0, .inr (0, [.int (nI sN), .ref h1, .int ((-1))])), (h1, .inl (cB, (sN * 512), .inl ((fun _ => 0)))), (o0, .inr (12, [.int (nI sN), .ref m1, .ref m2, .ref m3, .ref m4, .int 0, .int 0, .int 0, .int 0, .int 0, .int 0, .int 0, .int 0, .int 0, .int 0, .int 0, .int 0, .int 0, .int 0, .int 0, .int 0, .int 0, .int 0, .ref m23, .ref m24, .ref m25, .ref m26, .ref m27, .ref m28, .ref m29, .ref m30, .ref m31, .ref m32, .ref m33, .ref m34, .int 0, .int 0, .int 0, .ref m38, .int 0, .int 0, .int 0, .int 0, .ref m43, .ref m44, .ref m45, .int 0, .int 0, .int 0, .int 0, .int 0, .ref m51, .ref m52, .ref m53, .ref m54, .ref m55, .int 0, .int 0, .int 0, .int 0, .int 0, .ref m61, .ref m62, .int 0, .int 0, .int 0])), (m1, .inl (cD, 524288, .inl ((fun _ => 0))))] H) (hD : va_D (fun q => s.heap.size ≤ q) [(v0, .inr (11, [.ref h0, .ref t0, .ref b0, .ref e0, .ref r0, .ref d0, .ref g0, .ref u0, .ref i0, .ref fa, .ref fw, .int 0, .int 0, .int 1, .int 1, .int 0])), (h0, .inr (0, [.int (nI sN), .ref h1, .int ((-1))])), (h1, .inl (cB, (sN * 512), .inl ((fun _ => 0)))), (o0, .inr (12, [.int (nI sN), .ref m1, .ref m2, .ref m3, .ref m4, .int 0, .int 0, .int 0, .int 0, .int 0, .int 0, .int 0, .int 0, .int 0, .int 0, .int 0, .int 0, .int 0, .int 0, .int 0, .int 0, .int 0, .int 0, .ref m23, .ref m24, .ref m25, .ref m26, .ref m27, .ref m28, .ref m29, .ref m30, .ref m31, .ref m32, .ref m33, .ref m34, .int 0, .int 0, .int 0, .ref m38, .int 0, .int 0, .int 0, .int 0, .ref m43, .ref m44, .ref m45, .int 0, .int 0, .int 0, .int 0, .int 0, .ref m51, .ref m52, .ref m53, .ref m54, .ref m55, .int 0, .int 0, .int 0, .int 0, .int 0, .ref m61, .ref m62, .int 0, .int 0, .int 0])), (m1, .inl (cD, 524288, .inl ((fun _ => 0))))]) (hK : va_K (dC, dI) classes [(cB, .byte), (cD, .byte)] s) (hS : va_S (fun q => s.heap.size ≤ q) s.heap H locs) (hl : lv_has ls 8 [(4, .int 1), (3, .ref ou), (2, .ref o0), (1, .ref v0), (0, .ref b)]) : W p l e room_1 s m #[Value.ref b] below meth c H locs 74 1720373 (lw_Z below #[Value.ref b] s) (F0 m 359 ls []) := by
  have C1 := C0
  obtain ⟨hx, hb, hr, hml, hown, hts1, hX, hbl, hlocks, hgv⟩ := C0
  have hts : ∀ w ∈ V_La, w.before #[Value.ref b] s = true := fun w h => hts1 w (in_V_La w h)
  have hbA : ¬ s.heap.size ≤ b := Nat.not_le.mpr hbl
  have hA : ∀ q : Nat, s.heap.size ≤ q → s.heap.size ≤ q := fun _ h => h
  have hb : c.code = b_La_law := hb
  have hown : s.vm.findClass R_La = some m.cls := hown
  have C0 := C1
  refine lv_aload_n hx hb d_La_law_359 rfl (lv_at hl 3 rfl) ?_
  refine lv_aload_n hx hb d_La_law_360 rfl (lv_at hl 4 rfl) ?_
  refine lv_iload hx hb d_La_law_361 (lv_at hl 0 rfl) ?_
  refine lv_iconst (v := 1) hx hb d_La_law_363 (by decide) ?_
  refine lv_iadd hx hb d_La_law_364 ?_
  refine va_sld hx hb hX hbl hbA hS (by unfold vp_in; decide) d_La_law_365 ?_
  refine lv_topi (fun x_1 ex_1 => ?_)
  refine lv_aload_n hx hb d_La_law_366 rfl (lv_at hl 4 rfl) ?_
  refine lv_iload hx hb d_La_law_367 (lv_at hl 0 rfl) ?_
  refine lv_iconst (v := 2) hx hb d_La_law_369 (by decide) ?_
  refine lv_iadd hx hb d_La_law_370 ?_
  refine va_sld hx hb hX hbl hbA hS (by unfold vp_in; decide) d_La_law_371 ?_
  refine lv_topi (fun x_2 ex_2 => ?_)
  refine lv_aload_n hx hb d_La_law_372 rfl (lv_at hl 4 rfl) ?_
  refine lv_iload hx hb d_La_law_373 (lv_at hl 0 rfl) ?_
  refine lv_iconst (v := 3) hx hb d_La_law_375 (by decide) ?_
  refine lv_iadd hx hb d_La_law_376 ?_
  refine va_sld hx hb hX hbl hbA hS (by unfold vp_in; decide) d_La_law_377 ?_
  refine lv_topi (fun x_3 ex_3 => ?_)
  have hPc := hP.sub (ws' := [(v0, .inr (11, [.ref h0, .ref t0, .ref b0, .ref e0, .ref r0, .ref d0, .ref g0, .ref u0, .ref i0, .ref fa, .ref fw, .int 0, .int 0, .int 1, .int 1, .int 0])), (h0, .inr (0, [.int (nI sN), .ref h1, .int ((-1))])), (h1, .inl (cB, (sN * 512), .inl ((fun _ => 0))))]) [0, 1, 2] rfl
  have hDc := hD.sub (ws' := [(v0, .inr (11, [.ref h0, .ref t0, .ref b0, .ref e0, .ref r0, .ref d0, .ref g0, .ref u0, .ref i0, .ref fa, .ref fw, .int 0, .int 0, .int 1, .int 1, .int 0])), (h0, .inr (0, [.int (nI sN), .ref h1, .int ((-1))])), (h1, .inl (cB, (sN * 512), .inl ((fun _ => 0))))]) [0, 1, 2] (by decide) rfl
  have hKc := hK.sub (tys' := [(cB, .byte)]) [0] rfl
  have hFc := va_free (wc := [(v0, .inr (11, [.ref h0, .ref t0, .ref b0, .ref e0, .ref r0, .ref d0, .ref g0, .ref u0, .ref i0, .ref fa, .ref fw, .int 0, .int 0, .int 1, .int 1, .int 0])), (h0, .inr (0, [.int (nI sN), .ref h1, .int ((-1))])), (h1, .inl (cB, (sN * 512), .inl ((fun _ => 0))))]) hD hS hA [0, 1, 2] rfl
  refine va_calli (va_runV (As := [.int x_1, .int x_2, .int x_3]) (rest := []) ⟨hx, hb, hml, hown, hts⟩ (c_Vt_poke l dC dI v0 H.size h0 t0 b0 e0 r0 d0 g0 u0 i0 fa fw 0 0 1 1 0 h1 cB (nI sN) (-1) (sN * 512) (fun _ => 0) (by omega) (by omega) x_1 x_2 x_3) (cwV 3 hts (gwV good_La (k_La_6) (u_La_Vt _ k_Vt_57) (u_La_Vt _ k_Vt_58) (u_La_Vt _ k_Vt_0) (wcs (u_La_Vt _ k_Vt_59) u_La_Vt)) rfl rfl rfl (by decide +kernel) ⟨Nat.le_of_ble_eq_true rfl, Nat.le_of_ble_eq_true rfl⟩) (pv_of hPc hKc hDc (va_recv hKc hPc (ci := 11) (q0 := 0) rfl rfl)) rfl rfl hl.1 rfl (lv_room (Nat.le_of_ble_eq_true rfl)) d_La_law_378 ⟨by decide, by decide⟩) hS (fun q _ h => hFc q h) hFc (fun r_4 u t H1 locs ht hvm hw hB hz1 hk1 hS => ?_)
  have er_4 := hw
  obtain ⟨hP1, hK1, hD1⟩ := hB
  rw [ht] at hP1
  have hP1 : va_P (dC, dI) classes [] H1 := hP1.sub (ws' := []) [] rfl
  have hD1 : va_D _ [] := hD1.sub (ws' := []) [] (by decide) rfl
  obtain ⟨hP, hD⟩ := va_join (wr := [(o0, .inr (12, [.int (nI sN), .ref m1, .ref m2, .ref m3, .ref m4, .int 0, .int 0, .int 0, .int 0, .int 0, .int 0, .int 0, .int 0, .int 0, .int 0, .int 0, .int 0, .int 0, .int 0, .int 0, .int 0, .int 0, .int 0, .ref m23, .ref m24, .ref m25, .ref m26, .ref m27, .ref m28, .ref m29, .ref m30, .ref m31, .ref m32, .ref m33, .ref m34, .int 0, .int 0, .int 0, .ref m38, .int 0, .int 0, .int 0, .int 0, .ref m43, .ref m44, .ref m45, .int 0, .int 0, .int 0, .int 0, .int 0, .ref m51, .ref m52, .ref m53, .ref m54, .ref m55, .int 0, .int 0, .int 0, .int 0, .int 0, .ref m61, .ref m62, .int 0, .int 0, .int 0])), (m1, .inl (cD, 524288, .inl ((fun _ => 0))))]) (w1 := []) hP hD [0, 1, 2] [3, 4] rfl rfl (by decide) (by decide) hk1 hFc hP1 hD1
  generalize H1 = H at hP hS ⊢
  have hP : va_P (dC, dI) classes [(o0, .inr (12, [.int (nI sN), .ref m1, .ref m2, .ref m3, .ref m4, .int 0, .int 0, .int 0, .int 0, .int 0, .int 0, .int 0, .int 0, .int 0, .int 0, .int 0, .int 0, .int 0, .int 0, .int 0, .int 0, .int 0, .int 0, .ref m23, .ref m24, .ref m25, .ref m26, .ref m27, .ref m28, .ref m29, .ref m30, .ref m31, .ref m32, .ref m33, .ref m34, .int 0, .int 0, .int 0, .ref m38, .int 0, .int 0, .int 0, .int 0, .ref m43, .ref m44, .ref m45, .int 0, .int 0, .int 0, .int 0, .int 0, .ref m51, .ref m52, .ref m53, .ref m54, .ref m55, .int 0, .int 0, .int 0, .int 0, .int 0, .ref m61, .ref m62, .int 0, .int 0, .int 0])), (m1, .inl (cD, 524288, .inl ((fun _ => 0))))] H := hP
  have hD : va_D (fun q => s.heap.size ≤ q) [(o0, .inr (12, [.int (nI sN), .ref m1, .ref m2, .ref m3, .ref m4, .int 0, .int 0, .int 0, .int 0, .int 0, .int 0, .int 0, .int 0, .int 0, .int 0, .int 0, .int 0, .int 0, .int 0, .int 0, .int 0, .int 0, .int 0, .ref m23, .ref m24, .ref m25, .ref m26, .ref m27, .ref m28, .ref m29, .ref m30, .ref m31, .ref m32, .ref m33, .ref m34, .int 0, .int 0, .int 0, .ref m38, .int 0, .int 0, .int 0, .int 0, .ref m43, .ref m44, .ref m45, .int 0, .int 0, .int 0, .int 0, .int 0, .ref m51, .ref m52, .ref m53, .ref m54, .ref m55, .int 0, .int 0, .int 0, .int 0, .int 0, .ref m61, .ref m62, .int 0, .int 0, .int 0])), (m1, .inl (cD, 524288, .inl ((fun _ => 0))))] := hD
  refine lv_aload_n hx hb d_La_law_381 rfl (lv_at hl 2 rfl) ?_
  refine lv_aload_n hx hb d_La_law_382 rfl (lv_at hl 4 rfl) ?_
  refine lv_iload hx hb d_La_law_383 (lv_at hl 0 rfl) ?_
  refine lv_iconst (v := 1) hx hb d_La_law_385 (by decide) ?_
  refine lv_iadd hx hb d_La_law_386 ?_
  refine va_sld hx hb hX hbl hbA hS (by unfold vp_in; decide) d_La_law_387 ?_
  refine lv_topi (fun x_5 ex_5 => ?_)
  rw [show x_5 = x_1 from ex_5.trans ex_1.symm]
  refine lv_aload_n hx hb d_La_law_388 rfl (lv_at hl 4 rfl) ?_
  refine lv_iload hx hb d_La_law_389 (lv_at hl 0 rfl) ?_
  refine lv_iconst (v := 2) hx hb d_La_law_391 (by decide) ?_
  refine lv_iadd hx hb d_La_law_392 ?_
  refine va_sld hx hb hX hbl hbA hS (by unfold vp_in; decide) d_La_law_393 ?_
  refine lv_topi (fun x_6 ex_6 => ?_)
  rw [show x_6 = x_2 from ex_6.trans ex_2.symm]
  refine lv_aload_n hx hb d_La_law_394 rfl (lv_at hl 4 rfl) ?_
  refine lv_iload hx hb d_La_law_395 (lv_at hl 0 rfl) ?_
  refine lv_iconst (v := 3) hx hb d_La_law_397 (by decide) ?_
  refine lv_iadd hx hb d_La_law_398 ?_
  refine va_sld hx hb hX hbl hbA hS (by unfold vp_in; decide) d_La_law_399 ?_
  refine lv_topi (fun x_7 ex_7 => ?_)
  rw [show x_7 = x_3 from ex_7.trans ex_3.symm]
  have hPc := hP.sub (ws' := [(o0, .inr (12, [.int (nI sN), .ref m1, .ref m2, .ref m3, .ref m4, .int 0, .int 0, .int 0, .int 0, .int 0, .int 0, .int 0, .int 0, .int 0, .int 0, .int 0, .int 0, .int 0, .int 0, .int 0, .int 0, .int 0, .int 0, .ref m23, .ref m24, .ref m25, .ref m26, .ref m27, .ref m28, .ref m29, .ref m30, .ref m31, .ref m32, .ref m33, .ref m34, .int 0, .int 0, .int 0, .ref m38, .int 0, .int 0, .int 0, .int 0, .ref m43, .ref m44, .ref m45, .int 0, .int 0, .int 0, .int 0, .int 0, .ref m51, .ref m52, .ref m53, .ref m54, .ref m55, .int 0, .int 0, .int 0, .int 0, .int 0, .ref m61, .ref m62, .int 0, .int 0, .int 0])), (m1, .inl (cD, 524288, .inl ((fun _ => 0))))]) [0, 1] rfl
  have hDc := hD.sub (ws' := [(o0, .inr (12, [.int (nI sN), .ref m1, .ref m2, .ref m3, .ref m4, .int 0, .int 0, .int 0, .int 0, .int 0, .int 0, .int 0, .int 0, .int 0, .int 0, .int 0, .int 0, .int 0, .int 0, .int 0, .int 0, .int 0, .int 0, .ref m23, .ref m24, .ref m25, .ref m26, .ref m27, .ref m28, .ref m29, .ref m30, .ref m31, .ref m32, .ref m33, .ref m34, .int 0, .int 0, .int 0, .ref m38, .int 0, .int 0, .int 0, .int 0, .ref m43, .ref m44, .ref m45, .int 0, .int 0, .int 0, .int 0, .int 0, .ref m51, .ref m52, .ref m53, .ref m54, .ref m55, .int 0, .int 0, .int 0, .int 0, .int 0, .ref m61, .ref m62, .int 0, .int 0, .int 0])), (m1, .inl (cD, 524288, .inl ((fun _ => 0))))]) [0, 1] (by decide) rfl
  have hKc := hK.sub (tys' := [(cD, .byte)]) [1] rfl
  have hFc := va_free (wc := [(o0, .inr (12, [.int (nI sN), .ref m1, .ref m2, .ref m3, .ref m4, .int 0, .int 0, .int 0, .int 0, .int 0, .int 0, .int 0, .int 0, .int 0, .int 0, .int 0, .int 0, .int 0, .int 0, .int 0, .int 0, .int 0, .int 0, .ref m23, .ref m24, .ref m25, .ref m26, .ref m27, .ref m28, .ref m29, .ref m30, .ref m31, .ref m32, .ref m33, .ref m34, .int 0, .int 0, .int 0, .ref m38, .int 0, .int 0, .int 0, .int 0, .ref m43, .ref m44, .ref m45, .int 0, .int 0, .int 0, .int 0, .int 0, .ref m51, .ref m52, .ref m53, .ref m54, .ref m55, .int 0, .int 0, .int 0, .int 0, .int 0, .ref m61, .ref m62, .int 0, .int 0, .int 0])), (m1, .inl (cD, 524288, .inl ((fun _ => 0))))]) hD hS hA [0, 1] rfl
  refine va_calli (va_runV (As := [.int x_1, .int x_2, .int x_3]) (rest := [.int r_4]) ⟨hx, hb, hml, hown, hts⟩ (c_Mo_poke l dC dI o0 H.size m1 m2 m3 m4 m23 m24 m25 m26 m27 m28 m29 m30 m31 m32 m33 m34 m38 m43 m44 m45 m51 m52 m53 m54 m55 m61 m62 0 0 0 0 0 0 0 0 0 0 0 0 0 0 0 0 0 0 0 0 0 0 0 0 0 0 0 0 0 0 0 0 0 0 0 0 0 0 cD (fun _ => 0) sN hs x_1 x_2 x_3) (cwV 3 hts (gwV good_La (k_La_84) (u_La_Mo _ k_Mo_202) (u_La_Mo _ k_Mo_203) (u_La_Mo _ k_Mo_0) (wcs (u_La_Mo _ k_Mo_204) u_La_Mo)) rfl rfl rfl (by decide +kernel) ⟨Nat.le_of_ble_eq_true rfl, Nat.le_of_ble_eq_true rfl⟩) (pv_of hPc hKc hDc (va_recv hKc hPc (ci := 12) (q0 := 0) rfl rfl)) rfl rfl hl.1 rfl (lv_room (Nat.le_of_ble_eq_true rfl)) d_La_law_400 ⟨by decide, by decide⟩) hS (fun q _ h => hFc q h) hFc (fun r_8 u t H1 locs ht hvm hw hB hz1 hk1 hS => ?_)
  have er_8 := hw
  obtain ⟨hP1, hK1, hD1⟩ := hB
  rw [ht] at hP1
  have hP1 : va_P (dC, dI) classes [] H1 := hP1.sub (ws' := []) [] rfl
  have hD1 : va_D _ [] := hD1.sub (ws' := []) [] (by decide) rfl
  obtain ⟨hP, hD⟩ := va_join (wr := []) (w1 := []) hP hD [0, 1] [] rfl rfl (by decide) (by decide) hk1 hFc hP1 hD1
  generalize H1 = H at hP hS ⊢
  have hP : va_P (dC, dI) classes [] H := hP
  have hD : va_D (fun q => s.heap.size ≤ q) [] := hD
  refine lv_icmp_eq (tgt := 1388) hx hb d_La_law_403 (by decide) (fun c_9 => ?_) (fun c_9 => ?_)
  · exact la_tail l C0 hS (lv_sub hl [0, 4] rfl) (by decide) (by decide)
  · exact absurd (la_poke er_4 er_8) c_9
set_option maxHeartbeats 4000000 in
set_option maxRecDepth 100000 in
theorem la_case5 {p : Program} {e : Env} {s : State} {m : MethodId} {below : List Frame} {meth : Method} {c : Code} (l : Launch) (dC : Nat → ClassId) (dI : Nat → Nat → Nat) (v0 h0 t0 b0 e0 r0 d0 g0 u0 i0 fa fw h1 b1 b2 r1 r2 r3 r4 t1 t2 o0 ou m1 m2 m3 m4 m23 m24 m25 m26 m27 m28 m29 m30 m31 m32 m33 m34 m38 m43 m44 m45 m51 m52 m53 m54 m55 m61 m62 : Nat) (cB c1 c2 c3 c4 c5 cD cT cR cO : ClassId) (sN : Nat) (hs0 : 256 ≤ sN) (hs : sN ≤ 1024) {b : Nat} {xs : Nat → Int32} (C0 : lw_At p s m meth c b 7 xs) {H : Heap} {locs : List Loc} {ls : Array Slot} (hP : va_P (dC, dI) classes [(v0, .inr (11, [.ref h0, .ref t0, .ref b0, .ref e0, .ref r0, .ref d0, .ref g0, .ref u0, .ref i0, .ref fa, .ref fw, .int 0, .int 0, .int 1, .int 1, .int 0])), (i0, .inr (6, [.ref h0, .int 0])), (h0, .inr (0, [.int (nI sN), .ref h1, .int ((-1))])), (h1, .inl (cB, (sN * 512), .inl ((fun _ => 0)))), (r0, .inr (7, [.ref h0, .ref b0, .ref e0, .ref r1, .ref r2, .ref r3, .ref r4, .int 0, .int 0, .int 0])), (b0, .inr (4, [.ref h0, .int 2, .int 8, .int 1, .int 1, .int 2, .int 10, .int 4, .ref b1, .ref b2])), (b1, .inl (c1, (sN / 2 + 2), .inl ((fun _ => 0)))), (o0, .inr (12, [.int (nI sN), .ref m1, .ref m2, .ref m3, .ref m4, .int 0, .int 0, .int 0, .int 0, .int 0, .int 0, .int 0, .int 0, .int 0, .int 0, .int 0, .int 0, .int 0, .int 0, .int 0, .int 0, .int 0, .int 0, .ref m23, .ref m24, .ref m25, .ref m26, .ref m27, .ref m28, .ref m29, .ref m30, .ref m31, .ref m32, .ref m33, .ref m34, .int 0, .int 0, .int 0, .ref m38, .int 0, .int 0, .int 0, .int 0, .ref m43, .ref m44, .ref m45, .int 0, .int 0, .int 0, .int 0, .int 0, .ref m51, .ref m52, .ref m53, .ref m54, .ref m55, .int 0, .int 0, .int 0, .int 0, .int 0, .ref m61, .ref m62, .int 0, .int 0, .int 0])), (m1, .inl (cD, 524288, .inl ((fun _ => 0))))] H) (hD : va_D (fun q => s.heap.size ≤ q) [(v0, .inr (11, [.ref h0, .ref t0, .ref b0, .ref e0, .ref r0, .ref d0, .ref g0, .ref u0, .ref i0, .ref fa, .ref fw, .int 0, .int 0, .int 1, .int 1, .int 0])), (i0, .inr (6, [.ref h0, .int 0])), (h0, .inr (0, [.int (nI sN), .ref h1, .int ((-1))])), (h1, .inl (cB, (sN * 512), .inl ((fun _ => 0)))), (r0, .inr (7, [.ref h0, .ref b0, .ref e0, .ref r1, .ref r2, .ref r3, .ref r4, .int 0, .int 0, .int 0])), (b0, .inr (4, [.ref h0, .int 2, .int 8, .int 1, .int 1, .int 2, .int 10, .int 4, .ref b1, .ref b2])), (b1, .inl (c1, (sN / 2 + 2), .inl ((fun _ => 0)))), (o0, .inr (12, [.int (nI sN), .ref m1, .ref m2, .ref m3, .ref m4, .int 0, .int 0, .int 0, .int 0, .int 0, .int 0, .int 0, .int 0, .int 0, .int 0, .int 0, .int 0, .int 0, .int 0, .int 0, .int 0, .int 0, .int 0, .ref m23, .ref m24, .ref m25, .ref m26, .ref m27, .ref m28, .ref m29, .ref m30, .ref m31, .ref m32, .ref m33, .ref m34, .int 0, .int 0, .int 0, .ref m38, .int 0, .int 0, .int 0, .int 0, .ref m43, .ref m44, .ref m45, .int 0, .int 0, .int 0, .int 0, .int 0, .ref m51, .ref m52, .ref m53, .ref m54, .ref m55, .int 0, .int 0, .int 0, .int 0, .int 0, .ref m61, .ref m62, .int 0, .int 0, .int 0])), (m1, .inl (cD, 524288, .inl ((fun _ => 0))))]) (hK : va_K (dC, dI) classes [(cB, .byte), (c1, .int), (cD, .byte)] s) (hS : va_S (fun q => s.heap.size ≤ q) s.heap H locs) (hl : lv_has ls 8 [(4, .int 1), (3, .ref ou), (2, .ref o0), (1, .ref v0), (0, .ref b)]) : W p l e room_1 s m #[Value.ref b] below meth c H locs 74 1720373 (lw_Z below #[Value.ref b] s) (F0 m 408 ls []) := by
  have C1 := C0
  obtain ⟨hx, hb, hr, hml, hown, hts1, hX, hbl, hlocks, hgv⟩ := C0
  have hts : ∀ w ∈ V_La, w.before #[Value.ref b] s = true := fun w h => hts1 w (in_V_La w h)
  have hbA : ¬ s.heap.size ≤ b := Nat.not_le.mpr hbl
  have hA : ∀ q : Nat, s.heap.size ≤ q → s.heap.size ≤ q := fun _ h => h
  have hb : c.code = b_La_law := hb
  have hown : s.vm.findClass R_La = some m.cls := hown
  have C0 := C1
  refine lv_aload_n hx hb d_La_law_408 rfl (lv_at hl 3 rfl) ?_
  have hPc := hP.sub (ws' := [(v0, .inr (11, [.ref h0, .ref t0, .ref b0, .ref e0, .ref r0, .ref d0, .ref g0, .ref u0, .ref i0, .ref fa, .ref fw, .int 0, .int 0, .int 1, .int 1, .int 0])), (i0, .inr (6, [.ref h0, .int 0])), (h0, .inr (0, [.int (nI sN), .ref h1, .int ((-1))])), (h1, .inl (cB, (sN * 512), .inl ((fun _ => 0)))), (r0, .inr (7, [.ref h0, .ref b0, .ref e0, .ref r1, .ref r2, .ref r3, .ref r4, .int 0, .int 0, .int 0])), (b0, .inr (4, [.ref h0, .int 2, .int 8, .int 1, .int 1, .int 2, .int 10, .int 4, .ref b1, .ref b2])), (b1, .inl (c1, (sN / 2 + 2), .inl ((fun _ => 0))))]) [0, 1, 2, 3, 4, 5, 6] rfl
  have hDc := hD.sub (ws' := [(v0, .inr (11, [.ref h0, .ref t0, .ref b0, .ref e0, .ref r0, .ref d0, .ref g0, .ref u0, .ref i0, .ref fa, .ref fw, .int 0, .int 0, .int 1, .int 1, .int 0])), (i0, .inr (6, [.ref h0, .int 0])), (h0, .inr (0, [.int (nI sN), .ref h1, .int ((-1))])), (h1, .inl (cB, (sN * 512), .inl ((fun _ => 0)))), (r0, .inr (7, [.ref h0, .ref b0, .ref e0, .ref r1, .ref r2, .ref r3, .ref r4, .int 0, .int 0, .int 0])), (b0, .inr (4, [.ref h0, .int 2, .int 8, .int 1, .int 1, .int 2, .int 10, .int 4, .ref b1, .ref b2])), (b1, .inl (c1, (sN / 2 + 2), .inl ((fun _ => 0))))]) [0, 1, 2, 3, 4, 5, 6] (by decide) rfl
  have hKc := hK.sub (tys' := [(c1, .int), (cB, .byte)]) [1, 0] rfl
  have hFc := va_free (wc := [(v0, .inr (11, [.ref h0, .ref t0, .ref b0, .ref e0, .ref r0, .ref d0, .ref g0, .ref u0, .ref i0, .ref fa, .ref fw, .int 0, .int 0, .int 1, .int 1, .int 0])), (i0, .inr (6, [.ref h0, .int 0])), (h0, .inr (0, [.int (nI sN), .ref h1, .int ((-1))])), (h1, .inl (cB, (sN * 512), .inl ((fun _ => 0)))), (r0, .inr (7, [.ref h0, .ref b0, .ref e0, .ref r1, .ref r2, .ref r3, .ref r4, .int 0, .int 0, .int 0])), (b0, .inr (4, [.ref h0, .int 2, .int 8, .int 1, .int 1, .int 2, .int 10, .int 4, .ref b1, .ref b2])), (b1, .inl (c1, (sN / 2 + 2), .inl ((fun _ => 0))))]) hD hS hA [0, 1, 2, 3, 4, 5, 6] rfl
  refine va_calli (va_runV (As := []) (rest := []) ⟨hx, hb, hml, hown, hts⟩ (c_Vt_kind0 l dC dI v0 H.size h0 t0 b0 e0 r0 d0 g0 u0 i0 fa fw 0 0 1 0 0 r1 r2 r3 r4 0 0 0 b1 b2 2 8 1 1 2 10 4 c1 (sN / 2 + 2) (fun _ => 0) (by omega) h1 cB (nI sN) (-1) (sN * 512) (fun _ => 0) (by omega) (by omega) (la_rd _ _ _ _) (la_it _)) (cwV 0 hts (gwV good_La (k_La_7) (u_La_Vt _ k_Vt_65) (u_La_Vt _ k_Vt_66) (u_La_Vt _ k_Vt_0) (wcs (u_La_Vt _ k_Vt_67) u_La_Vt)) rfl rfl rfl (by decide +kernel) ⟨Nat.le_of_ble_eq_true rfl, Nat.le_of_ble_eq_true rfl⟩) (pv_of hPc hKc hDc (va_recv hKc hPc (ci := 11) (q0 := 0) rfl rfl)) rfl rfl hl.1 rfl (lv_room (Nat.le_of_ble_eq_true rfl)) d_La_law_409 ⟨by decide, by decide⟩) hS (fun q _ h => hFc q h) hFc (fun r_1 u t H1 locs ht hvm hw hB hz1 hk1 hS => ?_)
  subst hw
  obtain ⟨hP1, hK1, hD1⟩ := hB
  rw [ht] at hP1
  have hP1 : va_P (dC, dI) classes [] H1 := hP1.sub (ws' := []) [] rfl
  have hD1 : va_D _ [] := hD1.sub (ws' := []) [] (by decide) rfl
  obtain ⟨hP, hD⟩ := va_join (wr := [(o0, .inr (12, [.int (nI sN), .ref m1, .ref m2, .ref m3, .ref m4, .int 0, .int 0, .int 0, .int 0, .int 0, .int 0, .int 0, .int 0, .int 0, .int 0, .int 0, .int 0, .int 0, .int 0, .int 0, .int 0, .int 0, .int 0, .ref m23, .ref m24, .ref m25, .ref m26, .ref m27, .ref m28, .ref m29, .ref m30, .ref m31, .ref m32, .ref m33, .ref m34, .int 0, .int 0, .int 0, .ref m38, .int 0, .int 0, .int 0, .int 0, .ref m43, .ref m44, .ref m45, .int 0, .int 0, .int 0, .int 0, .int 0, .ref m51, .ref m52, .ref m53, .ref m54, .ref m55, .int 0, .int 0, .int 0, .int 0, .int 0, .ref m61, .ref m62, .int 0, .int 0, .int 0])), (m1, .inl (cD, 524288, .inl ((fun _ => 0))))]) (w1 := []) hP hD [0, 1, 2, 3, 4, 5, 6] [7, 8] rfl rfl (by decide) (by decide) hk1 hFc hP1 hD1
  generalize H1 = H at hP hS ⊢
  have hP : va_P (dC, dI) classes [(o0, .inr (12, [.int (nI sN), .ref m1, .ref m2, .ref m3, .ref m4, .int 0, .int 0, .int 0, .int 0, .int 0, .int 0, .int 0, .int 0, .int 0, .int 0, .int 0, .int 0, .int 0, .int 0, .int 0, .int 0, .int 0, .int 0, .ref m23, .ref m24, .ref m25, .ref m26, .ref m27, .ref m28, .ref m29, .ref m30, .ref m31, .ref m32, .ref m33, .ref m34, .int 0, .int 0, .int 0, .ref m38, .int 0, .int 0, .int 0, .int 0, .ref m43, .ref m44, .ref m45, .int 0, .int 0, .int 0, .int 0, .int 0, .ref m51, .ref m52, .ref m53, .ref m54, .ref m55, .int 0, .int 0, .int 0, .int 0, .int 0, .ref m61, .ref m62, .int 0, .int 0, .int 0])), (m1, .inl (cD, 524288, .inl ((fun _ => 0))))] H := hP
  have hD : va_D (fun q => s.heap.size ≤ q) [(o0, .inr (12, [.int (nI sN), .ref m1, .ref m2, .ref m3, .ref m4, .int 0, .int 0, .int 0, .int 0, .int 0, .int 0, .int 0, .int 0, .int 0, .int 0, .int 0, .int 0, .int 0, .int 0, .int 0, .int 0, .int 0, .int 0, .ref m23, .ref m24, .ref m25, .ref m26, .ref m27, .ref m28, .ref m29, .ref m30, .ref m31, .ref m32, .ref m33, .ref m34, .int 0, .int 0, .int 0, .ref m38, .int 0, .int 0, .int 0, .int 0, .ref m43, .ref m44, .ref m45, .int 0, .int 0, .int 0, .int 0, .int 0, .ref m51, .ref m52, .ref m53, .ref m54, .ref m55, .int 0, .int 0, .int 0, .int 0, .int 0, .ref m61, .ref m62, .int 0, .int 0, .int 0])), (m1, .inl (cD, 524288, .inl ((fun _ => 0))))] := hD
  refine lv_aload_n hx hb d_La_law_412 rfl (lv_at hl 2 rfl) ?_
  have hPc := hP.sub (ws' := [(o0, .inr (12, [.int (nI sN), .ref m1, .ref m2, .ref m3, .ref m4, .int 0, .int 0, .int 0, .int 0, .int 0, .int 0, .int 0, .int 0, .int 0, .int 0, .int 0, .int 0, .int 0, .int 0, .int 0, .int 0, .int 0, .int 0, .ref m23, .ref m24, .ref m25, .ref m26, .ref m27, .ref m28, .ref m29, .ref m30, .ref m31, .ref m32, .ref m33, .ref m34, .int 0, .int 0, .int 0, .ref m38, .int 0, .int 0, .int 0, .int 0, .ref m43, .ref m44, .ref m45, .int 0, .int 0, .int 0, .int 0, .int 0, .ref m51, .ref m52, .ref m53, .ref m54, .ref m55, .int 0, .int 0, .int 0, .int 0, .int 0, .ref m61, .ref m62, .int 0, .int 0, .int 0])), (m1, .inl (cD, 524288, .inl ((fun _ => 0))))]) [0, 1] rfl
  have hDc := hD.sub (ws' := [(o0, .inr (12, [.int (nI sN), .ref m1, .ref m2, .ref m3, .ref m4, .int 0, .int 0, .int 0, .int 0, .int 0, .int 0, .int 0, .int 0, .int 0, .int 0, .int 0, .int 0, .int 0, .int 0, .int 0, .int 0, .int 0, .int 0, .ref m23, .ref m24, .ref m25, .ref m26, .ref m27, .ref m28, .ref m29, .ref m30, .ref m31, .ref m32, .ref m33, .ref m34, .int 0, .int 0, .int 0, .ref m38, .int 0, .int 0, .int 0, .int 0, .ref m43, .ref m44, .ref m45, .int 0, .int 0, .int 0, .int 0, .int 0, .ref m51, .ref m52, .ref m53, .ref m54, .ref m55, .int 0, .int 0, .int 0, .int 0, .int 0, .ref m61, .ref m62, .int 0, .int 0, .int 0])), (m1, .inl (cD, 524288, .inl ((fun _ => 0))))]) [0, 1] (by decide) rfl
  have hKc := hK.sub (tys' := [(cD, .byte)]) [2] rfl
  have hFc := va_free (wc := [(o0, .inr (12, [.int (nI sN), .ref m1, .ref m2, .ref m3, .ref m4, .int 0, .int 0, .int 0, .int 0, .int 0, .int 0, .int 0, .int 0, .int 0, .int 0, .int 0, .int 0, .int 0, .int 0, .int 0, .int 0, .int 0, .int 0, .ref m23, .ref m24, .ref m25, .ref m26, .ref m27, .ref m28, .ref m29, .ref m30, .ref m31, .ref m32, .ref m33, .ref m34, .int 0, .int 0, .int 0, .ref m38, .int 0, .int 0, .int 0, .int 0, .ref m43, .ref m44, .ref m45, .int 0, .int 0, .int 0, .int 0, .int 0, .ref m51, .ref m52, .ref m53, .ref m54, .ref m55, .int 0, .int 0, .int 0, .int 0, .int 0, .ref m61, .ref m62, .int 0, .int 0, .int 0])), (m1, .inl (cD, 524288, .inl ((fun _ => 0))))]) hD hS hA [0, 1] rfl
  refine va_calli (va_runV (As := []) (rest := [.int 0]) ⟨hx, hb, hml, hown, hts⟩ (c_Mo_kind0 l dC dI o0 H.size m1 m2 m3 m4 m23 m24 m25 m26 m27 m28 m29 m30 m31 m32 m33 m34 m38 m43 m44 m45 m51 m52 m53 m54 m55 m61 m62 (nI sN) 0 0 0 0 0 0 0 0 0 0 0 0 0 0 0 0 0 0 0 0 0 0 0 0 0 0 0 0 0 0 0 0 0 0 0 0 cD (fun _ => 0) la_h11) (cwV 0 hts (gwV good_La (k_La_82) (u_La_Mo _ k_Mo_85) (u_La_Mo _ k_Mo_86) (u_La_Mo _ k_Mo_0) (wcs (u_La_Mo _ k_Mo_87) u_La_Mo)) rfl rfl rfl (by decide +kernel) ⟨Nat.le_of_ble_eq_true rfl, Nat.le_of_ble_eq_true rfl⟩) (pv_of hPc hKc hDc (va_recv hKc hPc (ci := 12) (q0 := 0) rfl rfl)) rfl rfl hl.1 rfl (lv_room (Nat.le_of_ble_eq_true rfl)) d_La_law_413 ⟨by decide, by decide⟩) hS (fun q _ h => hFc q h) hFc (fun r_2 u t H1 locs ht hvm hw hB hz1 hk1 hS => ?_)
  subst hw
  obtain ⟨hP1, hK1, hD1⟩ := hB
  rw [ht] at hP1
  have hP1 : va_P (dC, dI) classes [] H1 := hP1.sub (ws' := []) [] rfl
  have hD1 : va_D _ [] := hD1.sub (ws' := []) [] (by decide) rfl
  obtain ⟨hP, hD⟩ := va_join (wr := []) (w1 := []) hP hD [0, 1] [] rfl rfl (by decide) (by decide) hk1 hFc hP1 hD1
  generalize H1 = H at hP hS ⊢
  have hP : va_P (dC, dI) classes [] H := hP
  have hD : va_D (fun q => s.heap.size ≤ q) [] := hD
  refine lv_icmp_eq (tgt := 1388) hx hb d_La_law_416 (by decide) (fun c_3 => ?_) (fun c_3 => ?_)
  · exact la_tail l C0 hS (lv_sub hl [0, 4] rfl) (by decide) (by decide)
  · exact absurd c_3 (by decide)
set_option maxHeartbeats 4000000 in
set_option maxRecDepth 100000 in
theorem la_case6 {p : Program} {e : Env} {s : State} {m : MethodId} {below : List Frame} {meth : Method} {c : Code} (l : Launch) (dC : Nat → ClassId) (dI : Nat → Nat → Nat) (v0 h0 t0 b0 e0 r0 d0 g0 u0 i0 fa fw h1 b1 b2 r1 r2 r3 r4 t1 t2 o0 ou m1 m2 m3 m4 m23 m24 m25 m26 m27 m28 m29 m30 m31 m32 m33 m34 m38 m43 m44 m45 m51 m52 m53 m54 m55 m61 m62 : Nat) (cB c1 c2 c3 c4 c5 cD cT cR cO : ClassId) (sN : Nat) (hs0 : 256 ≤ sN) (hs : sN ≤ 1024) {b : Nat} {xs : Nat → Int32} (C0 : lw_At p s m meth c b 7 xs) {H : Heap} {locs : List Loc} {ls : Array Slot} (hP : va_P (dC, dI) classes [(v0, .inr (11, [.ref h0, .ref t0, .ref b0, .ref e0, .ref r0, .ref d0, .ref g0, .ref u0, .ref i0, .ref fa, .ref fw, .int 0, .int 0, .int 1, .int 1, .int 0])), (i0, .inr (6, [.ref h0, .int 0])), (h0, .inr (0, [.int (nI sN), .ref h1, .int ((-1))])), (h1, .inl (cB, (sN * 512), .inl ((fun _ => 0)))), (r0, .inr (7, [.ref h0, .ref b0, .ref e0, .ref r1, .ref r2, .ref r3, .ref r4, .int 0, .int 0, .int 0])), (b0, .inr (4, [.ref h0, .int 2, .int 8, .int 1, .int 1, .int 2, .int 10, .int 4, .ref b1, .ref b2])), (b1, .inl (c1, (sN / 2 + 2), .inl ((fun _ => 0)))), (o0, .inr (12, [.int (nI sN), .ref m1, .ref m2, .ref m3, .ref m4, .int 0, .int 0, .int 0, .int 0, .int 0, .int 0, .int 0, .int 0, .int 0, .int 0, .int 0, .int 0, .int 0, .int 0, .int 0, .int 0, .int 0, .int 0, .ref m23, .ref m24, .ref m25, .ref m26, .ref m27, .ref m28, .ref m29, .ref m30, .ref m31, .ref m32, .ref m33, .ref m34, .int 0, .int 0, .int 0, .ref m38, .int 0, .int 0, .int 0, .int 0, .ref m43, .ref m44, .ref m45, .int 0, .int 0, .int 0, .int 0, .int 0, .ref m51, .ref m52, .ref m53, .ref m54, .ref m55, .int 0, .int 0, .int 0, .int 0, .int 0, .ref m61, .ref m62, .int 0, .int 0, .int 0])), (m1, .inl (cD, 524288, .inl ((fun _ => 0))))] H) (hD : va_D (fun q => s.heap.size ≤ q) [(v0, .inr (11, [.ref h0, .ref t0, .ref b0, .ref e0, .ref r0, .ref d0, .ref g0, .ref u0, .ref i0, .ref fa, .ref fw, .int 0, .int 0, .int 1, .int 1, .int 0])), (i0, .inr (6, [.ref h0, .int 0])), (h0, .inr (0, [.int (nI sN), .ref h1, .int ((-1))])), (h1, .inl (cB, (sN * 512), .inl ((fun _ => 0)))), (r0, .inr (7, [.ref h0, .ref b0, .ref e0, .ref r1, .ref r2, .ref r3, .ref r4, .int 0, .int 0, .int 0])), (b0, .inr (4, [.ref h0, .int 2, .int 8, .int 1, .int 1, .int 2, .int 10, .int 4, .ref b1, .ref b2])), (b1, .inl (c1, (sN / 2 + 2), .inl ((fun _ => 0)))), (o0, .inr (12, [.int (nI sN), .ref m1, .ref m2, .ref m3, .ref m4, .int 0, .int 0, .int 0, .int 0, .int 0, .int 0, .int 0, .int 0, .int 0, .int 0, .int 0, .int 0, .int 0, .int 0, .int 0, .int 0, .int 0, .int 0, .ref m23, .ref m24, .ref m25, .ref m26, .ref m27, .ref m28, .ref m29, .ref m30, .ref m31, .ref m32, .ref m33, .ref m34, .int 0, .int 0, .int 0, .ref m38, .int 0, .int 0, .int 0, .int 0, .ref m43, .ref m44, .ref m45, .int 0, .int 0, .int 0, .int 0, .int 0, .ref m51, .ref m52, .ref m53, .ref m54, .ref m55, .int 0, .int 0, .int 0, .int 0, .int 0, .ref m61, .ref m62, .int 0, .int 0, .int 0])), (m1, .inl (cD, 524288, .inl ((fun _ => 0))))]) (hK : va_K (dC, dI) classes [(cB, .byte), (c1, .int), (cD, .byte)] s) (hS : va_S (fun q => s.heap.size ≤ q) s.heap H locs) (hl : lv_has ls 8 [(4, .int 1), (3, .ref ou), (2, .ref o0), (1, .ref v0), (0, .ref b)]) : W p l e room_1 s m #[Value.ref b] below meth c H locs 74 1720373 (lw_Z below #[Value.ref b] s) (F0 m 421 ls []) := by
  have C1 := C0
  obtain ⟨hx, hb, hr, hml, hown, hts1, hX, hbl, hlocks, hgv⟩ := C0
  have hts : ∀ w ∈ V_La, w.before #[Value.ref b] s = true := fun w h => hts1 w (in_V_La w h)
  have hbA : ¬ s.heap.size ≤ b := Nat.not_le.mpr hbl
  have hA : ∀ q : Nat, s.heap.size ≤ q → s.heap.size ≤ q := fun _ h => h
  have hb : c.code = b_La_law := hb
  have hown : s.vm.findClass R_La = some m.cls := hown
  have C0 := C1
  refine lv_aload_n hx hb d_La_law_421 rfl (lv_at hl 3 rfl) ?_
  have hPc := hP.sub (ws' := [(v0, .inr (11, [.ref h0, .ref t0, .ref b0, .ref e0, .ref r0, .ref d0, .ref g0, .ref u0, .ref i0, .ref fa, .ref fw, .int 0, .int 0, .int 1, .int 1, .int 0])), (i0, .inr (6, [.ref h0, .int 0])), (h0, .inr (0, [.int (nI sN), .ref h1, .int ((-1))])), (h1, .inl (cB, (sN * 512), .inl ((fun _ => 0)))), (r0, .inr (7, [.ref h0, .ref b0, .ref e0, .ref r1, .ref r2, .ref r3, .ref r4, .int 0, .int 0, .int 0])), (b0, .inr (4, [.ref h0, .int 2, .int 8, .int 1, .int 1, .int 2, .int 10, .int 4, .ref b1, .ref b2])), (b1, .inl (c1, (sN / 2 + 2), .inl ((fun _ => 0))))]) [0, 1, 2, 3, 4, 5, 6] rfl
  have hDc := hD.sub (ws' := [(v0, .inr (11, [.ref h0, .ref t0, .ref b0, .ref e0, .ref r0, .ref d0, .ref g0, .ref u0, .ref i0, .ref fa, .ref fw, .int 0, .int 0, .int 1, .int 1, .int 0])), (i0, .inr (6, [.ref h0, .int 0])), (h0, .inr (0, [.int (nI sN), .ref h1, .int ((-1))])), (h1, .inl (cB, (sN * 512), .inl ((fun _ => 0)))), (r0, .inr (7, [.ref h0, .ref b0, .ref e0, .ref r1, .ref r2, .ref r3, .ref r4, .int 0, .int 0, .int 0])), (b0, .inr (4, [.ref h0, .int 2, .int 8, .int 1, .int 1, .int 2, .int 10, .int 4, .ref b1, .ref b2])), (b1, .inl (c1, (sN / 2 + 2), .inl ((fun _ => 0))))]) [0, 1, 2, 3, 4, 5, 6] (by decide) rfl
  have hKc := hK.sub (tys' := [(c1, .int), (cB, .byte)]) [1, 0] rfl
  have hFc := va_free (wc := [(v0, .inr (11, [.ref h0, .ref t0, .ref b0, .ref e0, .ref r0, .ref d0, .ref g0, .ref u0, .ref i0, .ref fa, .ref fw, .int 0, .int 0, .int 1, .int 1, .int 0])), (i0, .inr (6, [.ref h0, .int 0])), (h0, .inr (0, [.int (nI sN), .ref h1, .int ((-1))])), (h1, .inl (cB, (sN * 512), .inl ((fun _ => 0)))), (r0, .inr (7, [.ref h0, .ref b0, .ref e0, .ref r1, .ref r2, .ref r3, .ref r4, .int 0, .int 0, .int 0])), (b0, .inr (4, [.ref h0, .int 2, .int 8, .int 1, .int 1, .int 2, .int 10, .int 4, .ref b1, .ref b2])), (b1, .inl (c1, (sN / 2 + 2), .inl ((fun _ => 0))))]) hD hS hA [0, 1, 2, 3, 4, 5, 6] rfl
  refine va_calli (va_runV (As := []) (rest := []) ⟨hx, hb, hml, hown, hts⟩ (c_Vt_fault0 l dC dI v0 H.size h0 t0 b0 e0 r0 d0 g0 u0 i0 fa fw 0 0 1 0 0 r1 r2 r3 r4 0 0 0 b1 b2 2 8 1 1 2 10 4 c1 (sN / 2 + 2) (fun _ => 0) (by omega) h1 cB (nI sN) (-1) (sN * 512) (fun _ => 0) (by omega) (by omega) (la_rd _ _ _ _) (la_it _)) (cwV 0 hts (gwV good_La (k_La_8) (u_La_Vt _ k_Vt_73) (u_La_Vt _ k_Vt_74) (u_La_Vt _ k_Vt_0) (wcs (u_La_Vt _ k_Vt_75) u_La_Vt)) rfl rfl rfl (by decide +kernel) ⟨Nat.le_of_ble_eq_true rfl, Nat.le_of_ble_eq_true rfl⟩) (pv_of hPc hKc hDc (va_recv hKc hPc (ci := 11) (q0 := 0) rfl rfl)) rfl rfl hl.1 rfl (lv_room (Nat.le_of_ble_eq_true rfl)) d_La_law_422 ⟨by decide, by decide⟩) hS (fun q _ h => hFc q h) hFc (fun r_1 u t H1 locs ht hvm hw hB hz1 hk1 hS => ?_)
  subst hw
  obtain ⟨hP1, hK1, hD1⟩ := hB
  rw [ht] at hP1
  have hP1 : va_P (dC, dI) classes [] H1 := hP1.sub (ws' := []) [] rfl
  have hD1 : va_D _ [] := hD1.sub (ws' := []) [] (by decide) rfl
  obtain ⟨hP, hD⟩ := va_join (wr := [(o0, .inr (12, [.int (nI sN), .ref m1, .ref m2, .ref m3, .ref m4, .int 0, .int 0, .int 0, .int 0, .int 0, .int 0, .int 0, .int 0, .int 0, .int 0, .int 0, .int 0, .int 0, .int 0, .int 0, .int 0, .int 0, .int 0, .ref m23, .ref m24, .ref m25, .ref m26, .ref m27, .ref m28, .ref m29, .ref m30, .ref m31, .ref m32, .ref m33, .ref m34, .int 0, .int 0, .int 0, .ref m38, .int 0, .int 0, .int 0, .int 0, .ref m43, .ref m44, .ref m45, .int 0, .int 0, .int 0, .int 0, .int 0, .ref m51, .ref m52, .ref m53, .ref m54, .ref m55, .int 0, .int 0, .int 0, .int 0, .int 0, .ref m61, .ref m62, .int 0, .int 0, .int 0])), (m1, .inl (cD, 524288, .inl ((fun _ => 0))))]) (w1 := []) hP hD [0, 1, 2, 3, 4, 5, 6] [7, 8] rfl rfl (by decide) (by decide) hk1 hFc hP1 hD1
  generalize H1 = H at hP hS ⊢
  have hP : va_P (dC, dI) classes [(o0, .inr (12, [.int (nI sN), .ref m1, .ref m2, .ref m3, .ref m4, .int 0, .int 0, .int 0, .int 0, .int 0, .int 0, .int 0, .int 0, .int 0, .int 0, .int 0, .int 0, .int 0, .int 0, .int 0, .int 0, .int 0, .int 0, .ref m23, .ref m24, .ref m25, .ref m26, .ref m27, .ref m28, .ref m29, .ref m30, .ref m31, .ref m32, .ref m33, .ref m34, .int 0, .int 0, .int 0, .ref m38, .int 0, .int 0, .int 0, .int 0, .ref m43, .ref m44, .ref m45, .int 0, .int 0, .int 0, .int 0, .int 0, .ref m51, .ref m52, .ref m53, .ref m54, .ref m55, .int 0, .int 0, .int 0, .int 0, .int 0, .ref m61, .ref m62, .int 0, .int 0, .int 0])), (m1, .inl (cD, 524288, .inl ((fun _ => 0))))] H := hP
  have hD : va_D (fun q => s.heap.size ≤ q) [(o0, .inr (12, [.int (nI sN), .ref m1, .ref m2, .ref m3, .ref m4, .int 0, .int 0, .int 0, .int 0, .int 0, .int 0, .int 0, .int 0, .int 0, .int 0, .int 0, .int 0, .int 0, .int 0, .int 0, .int 0, .int 0, .int 0, .ref m23, .ref m24, .ref m25, .ref m26, .ref m27, .ref m28, .ref m29, .ref m30, .ref m31, .ref m32, .ref m33, .ref m34, .int 0, .int 0, .int 0, .ref m38, .int 0, .int 0, .int 0, .int 0, .ref m43, .ref m44, .ref m45, .int 0, .int 0, .int 0, .int 0, .int 0, .ref m51, .ref m52, .ref m53, .ref m54, .ref m55, .int 0, .int 0, .int 0, .int 0, .int 0, .ref m61, .ref m62, .int 0, .int 0, .int 0])), (m1, .inl (cD, 524288, .inl ((fun _ => 0))))] := hD
  refine lv_aload_n hx hb d_La_law_425 rfl (lv_at hl 2 rfl) ?_
  have hPc := hP.sub (ws' := [(o0, .inr (12, [.int (nI sN), .ref m1, .ref m2, .ref m3, .ref m4, .int 0, .int 0, .int 0, .int 0, .int 0, .int 0, .int 0, .int 0, .int 0, .int 0, .int 0, .int 0, .int 0, .int 0, .int 0, .int 0, .int 0, .int 0, .ref m23, .ref m24, .ref m25, .ref m26, .ref m27, .ref m28, .ref m29, .ref m30, .ref m31, .ref m32, .ref m33, .ref m34, .int 0, .int 0, .int 0, .ref m38, .int 0, .int 0, .int 0, .int 0, .ref m43, .ref m44, .ref m45, .int 0, .int 0, .int 0, .int 0, .int 0, .ref m51, .ref m52, .ref m53, .ref m54, .ref m55, .int 0, .int 0, .int 0, .int 0, .int 0, .ref m61, .ref m62, .int 0, .int 0, .int 0])), (m1, .inl (cD, 524288, .inl ((fun _ => 0))))]) [0, 1] rfl
  have hDc := hD.sub (ws' := [(o0, .inr (12, [.int (nI sN), .ref m1, .ref m2, .ref m3, .ref m4, .int 0, .int 0, .int 0, .int 0, .int 0, .int 0, .int 0, .int 0, .int 0, .int 0, .int 0, .int 0, .int 0, .int 0, .int 0, .int 0, .int 0, .int 0, .ref m23, .ref m24, .ref m25, .ref m26, .ref m27, .ref m28, .ref m29, .ref m30, .ref m31, .ref m32, .ref m33, .ref m34, .int 0, .int 0, .int 0, .ref m38, .int 0, .int 0, .int 0, .int 0, .ref m43, .ref m44, .ref m45, .int 0, .int 0, .int 0, .int 0, .int 0, .ref m51, .ref m52, .ref m53, .ref m54, .ref m55, .int 0, .int 0, .int 0, .int 0, .int 0, .ref m61, .ref m62, .int 0, .int 0, .int 0])), (m1, .inl (cD, 524288, .inl ((fun _ => 0))))]) [0, 1] (by decide) rfl
  have hKc := hK.sub (tys' := [(cD, .byte)]) [2] rfl
  have hFc := va_free (wc := [(o0, .inr (12, [.int (nI sN), .ref m1, .ref m2, .ref m3, .ref m4, .int 0, .int 0, .int 0, .int 0, .int 0, .int 0, .int 0, .int 0, .int 0, .int 0, .int 0, .int 0, .int 0, .int 0, .int 0, .int 0, .int 0, .int 0, .ref m23, .ref m24, .ref m25, .ref m26, .ref m27, .ref m28, .ref m29, .ref m30, .ref m31, .ref m32, .ref m33, .ref m34, .int 0, .int 0, .int 0, .ref m38, .int 0, .int 0, .int 0, .int 0, .ref m43, .ref m44, .ref m45, .int 0, .int 0, .int 0, .int 0, .int 0, .ref m51, .ref m52, .ref m53, .ref m54, .ref m55, .int 0, .int 0, .int 0, .int 0, .int 0, .ref m61, .ref m62, .int 0, .int 0, .int 0])), (m1, .inl (cD, 524288, .inl ((fun _ => 0))))]) hD hS hA [0, 1] rfl
  refine va_calli (va_runV (As := []) (rest := [.int 1]) ⟨hx, hb, hml, hown, hts⟩ (c_Mo_fault0 l dC dI o0 H.size m1 m2 m3 m4 m23 m24 m25 m26 m27 m28 m29 m30 m31 m32 m33 m34 m38 m43 m44 m45 m51 m52 m53 m54 m55 m61 m62 (nI sN) 0 0 0 0 0 0 0 0 0 0 0 0 0 0 0 0 0 0 0 0 0 0 0 0 0 0 0 0 0 0 0 0 0 0 0 0 cD (fun _ => 0) la_h11) (cwV 0 hts (gwV good_La (k_La_83) (u_La_Mo _ k_Mo_199) (u_La_Mo _ k_Mo_200) (u_La_Mo _ k_Mo_0) (wcs (u_La_Mo _ k_Mo_201) u_La_Mo)) rfl rfl rfl (by decide +kernel) ⟨Nat.le_of_ble_eq_true rfl, Nat.le_of_ble_eq_true rfl⟩) (pv_of hPc hKc hDc (va_recv hKc hPc (ci := 12) (q0 := 0) rfl rfl)) rfl rfl hl.1 rfl (lv_room (Nat.le_of_ble_eq_true rfl)) d_La_law_426 ⟨by decide, by decide⟩) hS (fun q _ h => hFc q h) hFc (fun r_2 u t H1 locs ht hvm hw hB hz1 hk1 hS => ?_)
  subst hw
  obtain ⟨hP1, hK1, hD1⟩ := hB
  rw [ht] at hP1
  have hP1 : va_P (dC, dI) classes [] H1 := hP1.sub (ws' := []) [] rfl
  have hD1 : va_D _ [] := hD1.sub (ws' := []) [] (by decide) rfl
  obtain ⟨hP, hD⟩ := va_join (wr := []) (w1 := []) hP hD [0, 1] [] rfl rfl (by decide) (by decide) hk1 hFc hP1 hD1
  generalize H1 = H at hP hS ⊢
  have hP : va_P (dC, dI) classes [] H := hP
  have hD : va_D (fun q => s.heap.size ≤ q) [] := hD
  refine lv_icmp_eq (tgt := 1388) hx hb d_La_law_429 (by decide) (fun c_3 => ?_) (fun c_3 => ?_)
  · exact la_tail l C0 hS (lv_sub hl [0, 4] rfl) (by decide) (by decide)
  · exact absurd c_3 (by decide)
set_option maxHeartbeats 4000000 in
set_option maxRecDepth 100000 in
theorem la_case20 {p : Program} {e : Env} {s : State} {m : MethodId} {below : List Frame} {meth : Method} {c : Code} (l : Launch) (dC : Nat → ClassId) (dI : Nat → Nat → Nat) (v0 h0 t0 b0 e0 r0 d0 g0 u0 i0 fa fw h1 b1 b2 r1 r2 r3 r4 t1 t2 o0 ou m1 m2 m3 m4 m23 m24 m25 m26 m27 m28 m29 m30 m31 m32 m33 m34 m38 m43 m44 m45 m51 m52 m53 m54 m55 m61 m62 : Nat) (cB c1 c2 c3 c4 c5 cD cT cR cO : ClassId) (sN : Nat) (hs0 : 256 ≤ sN) (hs : sN ≤ 1024) {b : Nat} {xs : Nat → Int32} (C0 : lw_At p s m meth c b 7 xs) {H : Heap} {locs : List Loc} {ls : Array Slot} (hP : va_P (dC, dI) classes [(v0, .inr (11, [.ref h0, .ref t0, .ref b0, .ref e0, .ref r0, .ref d0, .ref g0, .ref u0, .ref i0, .ref fa, .ref fw, .int 0, .int 0, .int 1, .int 1, .int 0])), (i0, .inr (6, [.ref h0, .int 0])), (h0, .inr (0, [.int (nI sN), .ref h1, .int ((-1))])), (h1, .inl (cB, (sN * 512), .inl ((fun _ => 0)))), (r0, .inr (7, [.ref h0, .ref b0, .ref e0, .ref r1, .ref r2, .ref r3, .ref r4, .int 0, .int 0, .int 0])), (b0, .inr (4, [.ref h0, .int 2, .int 8, .int 1, .int 1, .int 2, .int 10, .int 4, .ref b1, .ref b2])), (b1, .inl (c1, (sN / 2 + 2), .inl ((fun _ => 0)))), (o0, .inr (12, [.int (nI sN), .ref m1, .ref m2, .ref m3, .ref m4, .int 0, .int 0, .int 0, .int 0, .int 0, .int 0, .int 0, .int 0, .int 0, .int 0, .int 0, .int 0, .int 0, .int 0, .int 0, .int 0, .int 0, .int 0, .ref m23, .ref m24, .ref m25, .ref m26, .ref m27, .ref m28, .ref m29, .ref m30, .ref m31, .ref m32, .ref m33, .ref m34, .int 0, .int 0, .int 0, .ref m38, .int 0, .int 0, .int 0, .int 0, .ref m43, .ref m44, .ref m45, .int 0, .int 0, .int 0, .int 0, .int 0, .ref m51, .ref m52, .ref m53, .ref m54, .ref m55, .int 0, .int 0, .int 0, .int 0, .int 0, .ref m61, .ref m62, .int 0, .int 0, .int 0])), (m1, .inl (cD, 524288, .inl ((fun _ => 0))))] H) (hD : va_D (fun q => s.heap.size ≤ q) [(v0, .inr (11, [.ref h0, .ref t0, .ref b0, .ref e0, .ref r0, .ref d0, .ref g0, .ref u0, .ref i0, .ref fa, .ref fw, .int 0, .int 0, .int 1, .int 1, .int 0])), (i0, .inr (6, [.ref h0, .int 0])), (h0, .inr (0, [.int (nI sN), .ref h1, .int ((-1))])), (h1, .inl (cB, (sN * 512), .inl ((fun _ => 0)))), (r0, .inr (7, [.ref h0, .ref b0, .ref e0, .ref r1, .ref r2, .ref r3, .ref r4, .int 0, .int 0, .int 0])), (b0, .inr (4, [.ref h0, .int 2, .int 8, .int 1, .int 1, .int 2, .int 10, .int 4, .ref b1, .ref b2])), (b1, .inl (c1, (sN / 2 + 2), .inl ((fun _ => 0)))), (o0, .inr (12, [.int (nI sN), .ref m1, .ref m2, .ref m3, .ref m4, .int 0, .int 0, .int 0, .int 0, .int 0, .int 0, .int 0, .int 0, .int 0, .int 0, .int 0, .int 0, .int 0, .int 0, .int 0, .int 0, .int 0, .int 0, .ref m23, .ref m24, .ref m25, .ref m26, .ref m27, .ref m28, .ref m29, .ref m30, .ref m31, .ref m32, .ref m33, .ref m34, .int 0, .int 0, .int 0, .ref m38, .int 0, .int 0, .int 0, .int 0, .ref m43, .ref m44, .ref m45, .int 0, .int 0, .int 0, .int 0, .int 0, .ref m51, .ref m52, .ref m53, .ref m54, .ref m55, .int 0, .int 0, .int 0, .int 0, .int 0, .ref m61, .ref m62, .int 0, .int 0, .int 0])), (m1, .inl (cD, 524288, .inl ((fun _ => 0))))]) (hK : va_K (dC, dI) classes [(cB, .byte), (c1, .int), (cD, .byte)] s) (hS : va_S (fun q => s.heap.size ≤ q) s.heap H locs) (hl : lv_has ls 8 [(4, .int 1), (3, .ref ou), (2, .ref o0), (1, .ref v0), (0, .ref b)]) : W p l e room_1 s m #[Value.ref b] below meth c H locs 74 1720373 (lw_Z below #[Value.ref b] s) (F0 m 1209 ls []) := by
  have C1 := C0
  obtain ⟨hx, hb, hr, hml, hown, hts1, hX, hbl, hlocks, hgv⟩ := C0
  have hts : ∀ w ∈ V_La, w.before #[Value.ref b] s = true := fun w h => hts1 w (in_V_La w h)
  have hbA : ¬ s.heap.size ≤ b := Nat.not_le.mpr hbl
  have hA : ∀ q : Nat, s.heap.size ≤ q → s.heap.size ≤ q := fun _ h => h
  have hb : c.code = b_La_law := hb
  have hown : s.vm.findClass R_La = some m.cls := hown
  have C0 := C1
  refine lv_aload_n hx hb d_La_law_1209 rfl (lv_at hl 3 rfl) ?_
  refine lv_aload_n hx hb d_La_law_1210 rfl (lv_at hl 4 rfl) ?_
  refine lv_iload hx hb d_La_law_1211 (lv_at hl 0 rfl) ?_
  refine lv_iconst (v := 1) hx hb d_La_law_1213 (by decide) ?_
  refine lv_iadd hx hb d_La_law_1214 ?_
  refine va_sld hx hb hX hbl hbA hS (by unfold vp_in; decide) d_La_law_1215 ?_
  refine lv_topi (fun x_1 ex_1 => ?_)
  refine lv_aload_n hx hb d_La_law_1216 rfl (lv_at hl 4 rfl) ?_
  refine lv_iload hx hb d_La_law_1217 (lv_at hl 0 rfl) ?_
  refine lv_iconst (v := 2) hx hb d_La_law_1219 (by decide) ?_
  refine lv_iadd hx hb d_La_law_1220 ?_
  refine va_sld hx hb hX hbl hbA hS (by unfold vp_in; decide) d_La_law_1221 ?_
  refine lv_topi (fun x_2 ex_2 => ?_)
  have hPc := hP.sub (ws' := [(v0, .inr (11, [.ref h0, .ref t0, .ref b0, .ref e0, .ref r0, .ref d0, .ref g0, .ref u0, .ref i0, .ref fa, .ref fw, .int 0, .int 0, .int 1, .int 1, .int 0])), (i0, .inr (6, [.ref h0, .int 0])), (h0, .inr (0, [.int (nI sN), .ref h1, .int ((-1))])), (h1, .inl (cB, (sN * 512), .inl ((fun _ => 0)))), (r0, .inr (7, [.ref h0, .ref b0, .ref e0, .ref r1, .ref r2, .ref r3, .ref r4, .int 0, .int 0, .int 0])), (b0, .inr (4, [.ref h0, .int 2, .int 8, .int 1, .int 1, .int 2, .int 10, .int 4, .ref b1, .ref b2])), (b1, .inl (c1, (sN / 2 + 2), .inl ((fun _ => 0))))]) [0, 1, 2, 3, 4, 5, 6] rfl
  have hDc := hD.sub (ws' := [(v0, .inr (11, [.ref h0, .ref t0, .ref b0, .ref e0, .ref r0, .ref d0, .ref g0, .ref u0, .ref i0, .ref fa, .ref fw, .int 0, .int 0, .int 1, .int 1, .int 0])), (i0, .inr (6, [.ref h0, .int 0])), (h0, .inr (0, [.int (nI sN), .ref h1, .int ((-1))])), (h1, .inl (cB, (sN * 512), .inl ((fun _ => 0)))), (r0, .inr (7, [.ref h0, .ref b0, .ref e0, .ref r1, .ref r2, .ref r3, .ref r4, .int 0, .int 0, .int 0])), (b0, .inr (4, [.ref h0, .int 2, .int 8, .int 1, .int 1, .int 2, .int 10, .int 4, .ref b1, .ref b2])), (b1, .inl (c1, (sN / 2 + 2), .inl ((fun _ => 0))))]) [0, 1, 2, 3, 4, 5, 6] (by decide) rfl
  have hKc := hK.sub (tys' := [(c1, .int), (cB, .byte)]) [1, 0] rfl
  have hFc := va_free (wc := [(v0, .inr (11, [.ref h0, .ref t0, .ref b0, .ref e0, .ref r0, .ref d0, .ref g0, .ref u0, .ref i0, .ref fa, .ref fw, .int 0, .int 0, .int 1, .int 1, .int 0])), (i0, .inr (6, [.ref h0, .int 0])), (h0, .inr (0, [.int (nI sN), .ref h1, .int ((-1))])), (h1, .inl (cB, (sN * 512), .inl ((fun _ => 0)))), (r0, .inr (7, [.ref h0, .ref b0, .ref e0, .ref r1, .ref r2, .ref r3, .ref r4, .int 0, .int 0, .int 0])), (b0, .inr (4, [.ref h0, .int 2, .int 8, .int 1, .int 1, .int 2, .int 10, .int 4, .ref b1, .ref b2])), (b1, .inl (c1, (sN / 2 + 2), .inl ((fun _ => 0))))]) hD hS hA [0, 1, 2, 3, 4, 5, 6] rfl
  refine va_calli (va_runV (As := [.int x_1, .int x_2]) (rest := []) ⟨hx, hb, hml, hown, hts⟩ (c_Vt_plan0 l dC dI v0 H.size h0 t0 b0 e0 r0 d0 g0 u0 i0 fa fw 0 0 1 0 0 r1 r2 r3 r4 0 0 0 b1 b2 2 8 1 1 2 10 4 c1 (sN / 2 + 2) (fun _ => 0) (by omega) h1 cB (nI sN) (-1) (sN * 512) (fun _ => 0) (by omega) (by omega) (la_rd _ _ _ _) (la_it _) x_1 x_2) (cwV 2 hts (gwV good_La (k_La_10) (u_La_Vt _ k_Vt_82) (u_La_Vt _ k_Vt_83) (u_La_Vt _ k_Vt_0) (wcs (u_La_Vt _ k_Vt_84) u_La_Vt)) rfl rfl rfl (by decide +kernel) ⟨Nat.le_of_ble_eq_true rfl, Nat.le_of_ble_eq_true rfl⟩) (pv_of hPc hKc hDc (va_recv hKc hPc (ci := 11) (q0 := 0) rfl rfl)) rfl rfl hl.1 rfl (lv_room (Nat.le_of_ble_eq_true rfl)) d_La_law_1222 ⟨by decide, by decide⟩) hS (fun q _ h => hFc q h) hFc (fun r_3 u t H1 locs ht hvm hw hB hz1 hk1 hS => ?_)
  subst hw
  obtain ⟨hP1, hK1, hD1⟩ := hB
  rw [ht] at hP1
  have hP1 : va_P (dC, dI) classes [] H1 := hP1.sub (ws' := []) [] rfl
  have hD1 : va_D _ [] := hD1.sub (ws' := []) [] (by decide) rfl
  obtain ⟨hP, hD⟩ := va_join (wr := [(o0, .inr (12, [.int (nI sN), .ref m1, .ref m2, .ref m3, .ref m4, .int 0, .int 0, .int 0, .int 0, .int 0, .int 0, .int 0, .int 0, .int 0, .int 0, .int 0, .int 0, .int 0, .int 0, .int 0, .int 0, .int 0, .int 0, .ref m23, .ref m24, .ref m25, .ref m26, .ref m27, .ref m28, .ref m29, .ref m30, .ref m31, .ref m32, .ref m33, .ref m34, .int 0, .int 0, .int 0, .ref m38, .int 0, .int 0, .int 0, .int 0, .ref m43, .ref m44, .ref m45, .int 0, .int 0, .int 0, .int 0, .int 0, .ref m51, .ref m52, .ref m53, .ref m54, .ref m55, .int 0, .int 0, .int 0, .int 0, .int 0, .ref m61, .ref m62, .int 0, .int 0, .int 0])), (m1, .inl (cD, 524288, .inl ((fun _ => 0))))]) (w1 := []) hP hD [0, 1, 2, 3, 4, 5, 6] [7, 8] rfl rfl (by decide) (by decide) hk1 hFc hP1 hD1
  generalize H1 = H at hP hS ⊢
  have hP : va_P (dC, dI) classes [(o0, .inr (12, [.int (nI sN), .ref m1, .ref m2, .ref m3, .ref m4, .int 0, .int 0, .int 0, .int 0, .int 0, .int 0, .int 0, .int 0, .int 0, .int 0, .int 0, .int 0, .int 0, .int 0, .int 0, .int 0, .int 0, .int 0, .ref m23, .ref m24, .ref m25, .ref m26, .ref m27, .ref m28, .ref m29, .ref m30, .ref m31, .ref m32, .ref m33, .ref m34, .int 0, .int 0, .int 0, .ref m38, .int 0, .int 0, .int 0, .int 0, .ref m43, .ref m44, .ref m45, .int 0, .int 0, .int 0, .int 0, .int 0, .ref m51, .ref m52, .ref m53, .ref m54, .ref m55, .int 0, .int 0, .int 0, .int 0, .int 0, .ref m61, .ref m62, .int 0, .int 0, .int 0])), (m1, .inl (cD, 524288, .inl ((fun _ => 0))))] H := hP
  have hD : va_D (fun q => s.heap.size ≤ q) [(o0, .inr (12, [.int (nI sN), .ref m1, .ref m2, .ref m3, .ref m4, .int 0, .int 0, .int 0, .int 0, .int 0, .int 0, .int 0, .int 0, .int 0, .int 0, .int 0, .int 0, .int 0, .int 0, .int 0, .int 0, .int 0, .int 0, .ref m23, .ref m24, .ref m25, .ref m26, .ref m27, .ref m28, .ref m29, .ref m30, .ref m31, .ref m32, .ref m33, .ref m34, .int 0, .int 0, .int 0, .ref m38, .int 0, .int 0, .int 0, .int 0, .ref m43, .ref m44, .ref m45, .int 0, .int 0, .int 0, .int 0, .int 0, .ref m51, .ref m52, .ref m53, .ref m54, .ref m55, .int 0, .int 0, .int 0, .int 0, .int 0, .ref m61, .ref m62, .int 0, .int 0, .int 0])), (m1, .inl (cD, 524288, .inl ((fun _ => 0))))] := hD
  refine lv_aload_n hx hb d_La_law_1225 rfl (lv_at hl 2 rfl) ?_
  refine lv_aload_n hx hb d_La_law_1226 rfl (lv_at hl 4 rfl) ?_
  refine lv_iload hx hb d_La_law_1227 (lv_at hl 0 rfl) ?_
  refine lv_iconst (v := 1) hx hb d_La_law_1229 (by decide) ?_
  refine lv_iadd hx hb d_La_law_1230 ?_
  refine va_sld hx hb hX hbl hbA hS (by unfold vp_in; decide) d_La_law_1231 ?_
  refine lv_topi (fun x_4 ex_4 => ?_)
  rw [show x_4 = x_1 from ex_4.trans ex_1.symm]
  refine lv_aload_n hx hb d_La_law_1232 rfl (lv_at hl 4 rfl) ?_
  refine lv_iload hx hb d_La_law_1233 (lv_at hl 0 rfl) ?_
  refine lv_iconst (v := 2) hx hb d_La_law_1235 (by decide) ?_
  refine lv_iadd hx hb d_La_law_1236 ?_
  refine va_sld hx hb hX hbl hbA hS (by unfold vp_in; decide) d_La_law_1237 ?_
  refine lv_topi (fun x_5 ex_5 => ?_)
  rw [show x_5 = x_2 from ex_5.trans ex_2.symm]
  have hPc := hP.sub (ws' := [(o0, .inr (12, [.int (nI sN), .ref m1, .ref m2, .ref m3, .ref m4, .int 0, .int 0, .int 0, .int 0, .int 0, .int 0, .int 0, .int 0, .int 0, .int 0, .int 0, .int 0, .int 0, .int 0, .int 0, .int 0, .int 0, .int 0, .ref m23, .ref m24, .ref m25, .ref m26, .ref m27, .ref m28, .ref m29, .ref m30, .ref m31, .ref m32, .ref m33, .ref m34, .int 0, .int 0, .int 0, .ref m38, .int 0, .int 0, .int 0, .int 0, .ref m43, .ref m44, .ref m45, .int 0, .int 0, .int 0, .int 0, .int 0, .ref m51, .ref m52, .ref m53, .ref m54, .ref m55, .int 0, .int 0, .int 0, .int 0, .int 0, .ref m61, .ref m62, .int 0, .int 0, .int 0])), (m1, .inl (cD, 524288, .inl ((fun _ => 0))))]) [0, 1] rfl
  have hDc := hD.sub (ws' := [(o0, .inr (12, [.int (nI sN), .ref m1, .ref m2, .ref m3, .ref m4, .int 0, .int 0, .int 0, .int 0, .int 0, .int 0, .int 0, .int 0, .int 0, .int 0, .int 0, .int 0, .int 0, .int 0, .int 0, .int 0, .int 0, .int 0, .ref m23, .ref m24, .ref m25, .ref m26, .ref m27, .ref m28, .ref m29, .ref m30, .ref m31, .ref m32, .ref m33, .ref m34, .int 0, .int 0, .int 0, .ref m38, .int 0, .int 0, .int 0, .int 0, .ref m43, .ref m44, .ref m45, .int 0, .int 0, .int 0, .int 0, .int 0, .ref m51, .ref m52, .ref m53, .ref m54, .ref m55, .int 0, .int 0, .int 0, .int 0, .int 0, .ref m61, .ref m62, .int 0, .int 0, .int 0])), (m1, .inl (cD, 524288, .inl ((fun _ => 0))))]) [0, 1] (by decide) rfl
  have hKc := hK.sub (tys' := [(cD, .byte)]) [2] rfl
  have hFc := va_free (wc := [(o0, .inr (12, [.int (nI sN), .ref m1, .ref m2, .ref m3, .ref m4, .int 0, .int 0, .int 0, .int 0, .int 0, .int 0, .int 0, .int 0, .int 0, .int 0, .int 0, .int 0, .int 0, .int 0, .int 0, .int 0, .int 0, .int 0, .ref m23, .ref m24, .ref m25, .ref m26, .ref m27, .ref m28, .ref m29, .ref m30, .ref m31, .ref m32, .ref m33, .ref m34, .int 0, .int 0, .int 0, .ref m38, .int 0, .int 0, .int 0, .int 0, .ref m43, .ref m44, .ref m45, .int 0, .int 0, .int 0, .int 0, .int 0, .ref m51, .ref m52, .ref m53, .ref m54, .ref m55, .int 0, .int 0, .int 0, .int 0, .int 0, .ref m61, .ref m62, .int 0, .int 0, .int 0])), (m1, .inl (cD, 524288, .inl ((fun _ => 0))))]) hD hS hA [0, 1] rfl
  refine va_calli (va_runV (As := [.int x_1, .int x_2]) (rest := [.int ((-1))]) ⟨hx, hb, hml, hown, hts⟩ (c_Mo_plan0 l dC dI o0 H.size m1 m2 m3 m4 m23 m24 m25 m26 m27 m28 m29 m30 m31 m32 m33 m34 m38 m43 m44 m45 m51 m52 m53 m54 m55 m61 m62 (nI sN) 0 0 0 0 0 0 0 0 0 0 0 0 0 0 0 0 0 0 0 0 0 0 0 0 0 0 0 0 0 0 0 0 0 0 0 0 cD (fun _ => 0) la_h11 x_1 x_2) (cwV 2 hts (gwV good_La (k_La_99) (u_La_Mo _ k_Mo_364) (u_La_Mo _ k_Mo_365) (u_La_Mo _ k_Mo_0) (wcs (u_La_Mo _ k_Mo_366) u_La_Mo)) rfl rfl rfl (by decide +kernel) ⟨Nat.le_of_ble_eq_true rfl, Nat.le_of_ble_eq_true rfl⟩) (pv_of hPc hKc hDc (va_recv hKc hPc (ci := 12) (q0 := 0) rfl rfl)) rfl rfl hl.1 rfl (lv_room (Nat.le_of_ble_eq_true rfl)) d_La_law_1238 ⟨by decide, by decide⟩) hS (fun q _ h => hFc q h) hFc (fun r_6 u t H1 locs ht hvm hw hB hz1 hk1 hS => ?_)
  subst hw
  obtain ⟨hP1, hK1, hD1⟩ := hB
  rw [ht] at hP1
  have hP1 : va_P (dC, dI) classes [] H1 := hP1.sub (ws' := []) [] rfl
  have hD1 : va_D _ [] := hD1.sub (ws' := []) [] (by decide) rfl
  obtain ⟨hP, hD⟩ := va_join (wr := []) (w1 := []) hP hD [0, 1] [] rfl rfl (by decide) (by decide) hk1 hFc hP1 hD1
  generalize H1 = H at hP hS ⊢
  have hP : va_P (dC, dI) classes [] H := hP
  have hD : va_D (fun q => s.heap.size ≤ q) [] := hD
  refine lv_icmp_eq (tgt := 1388) hx hb d_La_law_1241 (by decide) (fun c_7 => ?_) (fun c_7 => ?_)
  · exact la_tail l C0 hS (lv_sub hl [0, 4] rfl) (by decide) (by decide)
  · exact absurd c_7 (by decide)
set_option maxHeartbeats 4000000 in
set_option maxRecDepth 100000 in
theorem la_case21 {p : Program} {e : Env} {s : State} {m : MethodId} {below : List Frame} {meth : Method} {c : Code} (l : Launch) (dC : Nat → ClassId) (dI : Nat → Nat → Nat) (v0 h0 t0 b0 e0 r0 d0 g0 u0 i0 fa fw h1 b1 b2 r1 r2 r3 r4 t1 t2 o0 ou m1 m2 m3 m4 m23 m24 m25 m26 m27 m28 m29 m30 m31 m32 m33 m34 m38 m43 m44 m45 m51 m52 m53 m54 m55 m61 m62 : Nat) (cB c1 c2 c3 c4 c5 cD cT cR cO : ClassId) (sN : Nat) (hs0 : 256 ≤ sN) (hs : sN ≤ 1024) {b : Nat} {xs : Nat → Int32} (C0 : lw_At p s m meth c b 7 xs) {H : Heap} {locs : List Loc} {ls : Array Slot} (hP : va_P (dC, dI) classes [(v0, .inr (11, [.ref h0, .ref t0, .ref b0, .ref e0, .ref r0, .ref d0, .ref g0, .ref u0, .ref i0, .ref fa, .ref fw, .int 0, .int 0, .int 1, .int 1, .int 0])), (i0, .inr (6, [.ref h0, .int 0])), (h0, .inr (0, [.int (nI sN), .ref h1, .int ((-1))])), (h1, .inl (cB, (sN * 512), .inl ((fun _ => 0)))), (r0, .inr (7, [.ref h0, .ref b0, .ref e0, .ref r1, .ref r2, .ref r3, .ref r4, .int 0, .int 0, .int 0])), (b0, .inr (4, [.ref h0, .int 2, .int 8, .int 1, .int 1, .int 2, .int 10, .int 4, .ref b1, .ref b2])), (b1, .inl (c1, (sN / 2 + 2), .inl ((fun _ => 0)))), (o0, .inr (12, [.int (nI sN), .ref m1, .ref m2, .ref m3, .ref m4, .int 0, .int 0, .int 0, .int 0, .int 0, .int 0, .int 0, .int 0, .int 0, .int 0, .int 0, .int 0, .int 0, .int 0, .int 0, .int 0, .int 0, .int 0, .ref m23, .ref m24, .ref m25, .ref m26, .ref m27, .ref m28, .ref m29, .ref m30, .ref m31, .ref m32, .ref m33, .ref m34, .int 0, .int 0, .int 0, .ref m38, .int 0, .int 0, .int 0, .int 0, .ref m43, .ref m44, .ref m45, .int 0, .int 0, .int 0, .int 0, .int 0, .ref m51, .ref m52, .ref m53, .ref m54, .ref m55, .int 0, .int 0, .int 0, .int 0, .int 0, .ref m61, .ref m62, .int 0, .int 0, .int 0])), (m1, .inl (cD, 524288, .inl ((fun _ => 0))))] H) (hD : va_D (fun q => s.heap.size ≤ q) [(v0, .inr (11, [.ref h0, .ref t0, .ref b0, .ref e0, .ref r0, .ref d0, .ref g0, .ref u0, .ref i0, .ref fa, .ref fw, .int 0, .int 0, .int 1, .int 1, .int 0])), (i0, .inr (6, [.ref h0, .int 0])), (h0, .inr (0, [.int (nI sN), .ref h1, .int ((-1))])), (h1, .inl (cB, (sN * 512), .inl ((fun _ => 0)))), (r0, .inr (7, [.ref h0, .ref b0, .ref e0, .ref r1, .ref r2, .ref r3, .ref r4, .int 0, .int 0, .int 0])), (b0, .inr (4, [.ref h0, .int 2, .int 8, .int 1, .int 1, .int 2, .int 10, .int 4, .ref b1, .ref b2])), (b1, .inl (c1, (sN / 2 + 2), .inl ((fun _ => 0)))), (o0, .inr (12, [.int (nI sN), .ref m1, .ref m2, .ref m3, .ref m4, .int 0, .int 0, .int 0, .int 0, .int 0, .int 0, .int 0, .int 0, .int 0, .int 0, .int 0, .int 0, .int 0, .int 0, .int 0, .int 0, .int 0, .int 0, .ref m23, .ref m24, .ref m25, .ref m26, .ref m27, .ref m28, .ref m29, .ref m30, .ref m31, .ref m32, .ref m33, .ref m34, .int 0, .int 0, .int 0, .ref m38, .int 0, .int 0, .int 0, .int 0, .ref m43, .ref m44, .ref m45, .int 0, .int 0, .int 0, .int 0, .int 0, .ref m51, .ref m52, .ref m53, .ref m54, .ref m55, .int 0, .int 0, .int 0, .int 0, .int 0, .ref m61, .ref m62, .int 0, .int 0, .int 0])), (m1, .inl (cD, 524288, .inl ((fun _ => 0))))]) (hK : va_K (dC, dI) classes [(cB, .byte), (c1, .int), (cD, .byte)] s) (hS : va_S (fun q => s.heap.size ≤ q) s.heap H locs) (hl : lv_has ls 8 [(4, .int 1), (3, .ref ou), (2, .ref o0), (1, .ref v0), (0, .ref b)]) : W p l e room_1 s m #[Value.ref b] below meth c H locs 74 1720373 (lw_Z below #[Value.ref b] s) (F0 m 1246 ls []) := by
  have C1 := C0
  obtain ⟨hx, hb, hr, hml, hown, hts1, hX, hbl, hlocks, hgv⟩ := C0
  have hts : ∀ w ∈ V_La, w.before #[Value.ref b] s = true := fun w h => hts1 w (in_V_La w h)
  have hbA : ¬ s.heap.size ≤ b := Nat.not_le.mpr hbl
  have hA : ∀ q : Nat, s.heap.size ≤ q → s.heap.size ≤ q := fun _ h => h
  have hb : c.code = b_La_law := hb
  have hown : s.vm.findClass R_La = some m.cls := hown
  have C0 := C1
  refine lv_aload_n hx hb d_La_law_1246 rfl (lv_at hl 3 rfl) ?_
  refine lv_aload_n hx hb d_La_law_1247 rfl (lv_at hl 4 rfl) ?_
  refine lv_iload hx hb d_La_law_1248 (lv_at hl 0 rfl) ?_
  refine lv_iconst (v := 1) hx hb d_La_law_1250 (by decide) ?_
  refine lv_iadd hx hb d_La_law_1251 ?_
  refine va_sld hx hb hX hbl hbA hS (by unfold vp_in; decide) d_La_law_1252 ?_
  refine lv_topi (fun x_1 ex_1 => ?_)
  refine lv_aload_n hx hb d_La_law_1253 rfl (lv_at hl 4 rfl) ?_
  refine lv_iload hx hb d_La_law_1254 (lv_at hl 0 rfl) ?_
  refine lv_iconst (v := 2) hx hb d_La_law_1256 (by decide) ?_
  refine lv_iadd hx hb d_La_law_1257 ?_
  refine va_sld hx hb hX hbl hbA hS (by unfold vp_in; decide) d_La_law_1258 ?_
  refine lv_topi (fun x_2 ex_2 => ?_)
  have hPc := hP.sub (ws' := [(v0, .inr (11, [.ref h0, .ref t0, .ref b0, .ref e0, .ref r0, .ref d0, .ref g0, .ref u0, .ref i0, .ref fa, .ref fw, .int 0, .int 0, .int 1, .int 1, .int 0])), (i0, .inr (6, [.ref h0, .int 0])), (h0, .inr (0, [.int (nI sN), .ref h1, .int ((-1))])), (h1, .inl (cB, (sN * 512), .inl ((fun _ => 0)))), (r0, .inr (7, [.ref h0, .ref b0, .ref e0, .ref r1, .ref r2, .ref r3, .ref r4, .int 0, .int 0, .int 0])), (b0, .inr (4, [.ref h0, .int 2, .int 8, .int 1, .int 1, .int 2, .int 10, .int 4, .ref b1, .ref b2])), (b1, .inl (c1, (sN / 2 + 2), .inl ((fun _ => 0))))]) [0, 1, 2, 3, 4, 5, 6] rfl
  have hDc := hD.sub (ws' := [(v0, .inr (11, [.ref h0, .ref t0, .ref b0, .ref e0, .ref r0, .ref d0, .ref g0, .ref u0, .ref i0, .ref fa, .ref fw, .int 0, .int 0, .int 1, .int 1, .int 0])), (i0, .inr (6, [.ref h0, .int 0])), (h0, .inr (0, [.int (nI sN), .ref h1, .int ((-1))])), (h1, .inl (cB, (sN * 512), .inl ((fun _ => 0)))), (r0, .inr (7, [.ref h0, .ref b0, .ref e0, .ref r1, .ref r2, .ref r3, .ref r4, .int 0, .int 0, .int 0])), (b0, .inr (4, [.ref h0, .int 2, .int 8, .int 1, .int 1, .int 2, .int 10, .int 4, .ref b1, .ref b2])), (b1, .inl (c1, (sN / 2 + 2), .inl ((fun _ => 0))))]) [0, 1, 2, 3, 4, 5, 6] (by decide) rfl
  have hKc := hK.sub (tys' := [(c1, .int), (cB, .byte)]) [1, 0] rfl
  have hFc := va_free (wc := [(v0, .inr (11, [.ref h0, .ref t0, .ref b0, .ref e0, .ref r0, .ref d0, .ref g0, .ref u0, .ref i0, .ref fa, .ref fw, .int 0, .int 0, .int 1, .int 1, .int 0])), (i0, .inr (6, [.ref h0, .int 0])), (h0, .inr (0, [.int (nI sN), .ref h1, .int ((-1))])), (h1, .inl (cB, (sN * 512), .inl ((fun _ => 0)))), (r0, .inr (7, [.ref h0, .ref b0, .ref e0, .ref r1, .ref r2, .ref r3, .ref r4, .int 0, .int 0, .int 0])), (b0, .inr (4, [.ref h0, .int 2, .int 8, .int 1, .int 1, .int 2, .int 10, .int 4, .ref b1, .ref b2])), (b1, .inl (c1, (sN / 2 + 2), .inl ((fun _ => 0))))]) hD hS hA [0, 1, 2, 3, 4, 5, 6] rfl
  refine va_calli (va_runV (As := [.int x_1, .int x_2]) (rest := []) ⟨hx, hb, hml, hown, hts⟩ (c_Vt_target0 l dC dI v0 H.size h0 t0 b0 e0 r0 d0 g0 u0 i0 fa fw 0 0 1 0 0 r1 r2 r3 r4 0 0 0 b1 b2 2 8 1 1 2 10 4 c1 (sN / 2 + 2) (fun _ => 0) (by omega) h1 cB (nI sN) (-1) (sN * 512) (fun _ => 0) (by omega) (by omega) (la_rd _ _ _ _) (la_it _) x_1 x_2) (cwV 2 hts (gwV good_La (k_La_11) (u_La_Vt _ k_Vt_87) (u_La_Vt _ k_Vt_88) (u_La_Vt _ k_Vt_0) (wcs (u_La_Vt _ k_Vt_89) u_La_Vt)) rfl rfl rfl (by decide +kernel) ⟨Nat.le_of_ble_eq_true rfl, Nat.le_of_ble_eq_true rfl⟩) (pv_of hPc hKc hDc (va_recv hKc hPc (ci := 11) (q0 := 0) rfl rfl)) rfl rfl hl.1 rfl (lv_room (Nat.le_of_ble_eq_true rfl)) d_La_law_1259 ⟨by decide, by decide⟩) hS (fun q _ h => hFc q h) hFc (fun r_3 u t H1 locs ht hvm hw hB hz1 hk1 hS => ?_)
  subst hw
  obtain ⟨hP1, hK1, hD1⟩ := hB
  rw [ht] at hP1
  have hP1 : va_P (dC, dI) classes [] H1 := hP1.sub (ws' := []) [] rfl
  have hD1 : va_D _ [] := hD1.sub (ws' := []) [] (by decide) rfl
  obtain ⟨hP, hD⟩ := va_join (wr := [(o0, .inr (12, [.int (nI sN), .ref m1, .ref m2, .ref m3, .ref m4, .int 0, .int 0, .int 0, .int 0, .int 0, .int 0, .int 0, .int 0, .int 0, .int 0, .int 0, .int 0, .int 0, .int 0, .int 0, .int 0, .int 0, .int 0, .ref m23, .ref m24, .ref m25, .ref m26, .ref m27, .ref m28, .ref m29, .ref m30, .ref m31, .ref m32, .ref m33, .ref m34, .int 0, .int 0, .int 0, .ref m38, .int 0, .int 0, .int 0, .int 0, .ref m43, .ref m44, .ref m45, .int 0, .int 0, .int 0, .int 0, .int 0, .ref m51, .ref m52, .ref m53, .ref m54, .ref m55, .int 0, .int 0, .int 0, .int 0, .int 0, .ref m61, .ref m62, .int 0, .int 0, .int 0])), (m1, .inl (cD, 524288, .inl ((fun _ => 0))))]) (w1 := []) hP hD [0, 1, 2, 3, 4, 5, 6] [7, 8] rfl rfl (by decide) (by decide) hk1 hFc hP1 hD1
  generalize H1 = H at hP hS ⊢
  have hP : va_P (dC, dI) classes [(o0, .inr (12, [.int (nI sN), .ref m1, .ref m2, .ref m3, .ref m4, .int 0, .int 0, .int 0, .int 0, .int 0, .int 0, .int 0, .int 0, .int 0, .int 0, .int 0, .int 0, .int 0, .int 0, .int 0, .int 0, .int 0, .int 0, .ref m23, .ref m24, .ref m25, .ref m26, .ref m27, .ref m28, .ref m29, .ref m30, .ref m31, .ref m32, .ref m33, .ref m34, .int 0, .int 0, .int 0, .ref m38, .int 0, .int 0, .int 0, .int 0, .ref m43, .ref m44, .ref m45, .int 0, .int 0, .int 0, .int 0, .int 0, .ref m51, .ref m52, .ref m53, .ref m54, .ref m55, .int 0, .int 0, .int 0, .int 0, .int 0, .ref m61, .ref m62, .int 0, .int 0, .int 0])), (m1, .inl (cD, 524288, .inl ((fun _ => 0))))] H := hP
  have hD : va_D (fun q => s.heap.size ≤ q) [(o0, .inr (12, [.int (nI sN), .ref m1, .ref m2, .ref m3, .ref m4, .int 0, .int 0, .int 0, .int 0, .int 0, .int 0, .int 0, .int 0, .int 0, .int 0, .int 0, .int 0, .int 0, .int 0, .int 0, .int 0, .int 0, .int 0, .ref m23, .ref m24, .ref m25, .ref m26, .ref m27, .ref m28, .ref m29, .ref m30, .ref m31, .ref m32, .ref m33, .ref m34, .int 0, .int 0, .int 0, .ref m38, .int 0, .int 0, .int 0, .int 0, .ref m43, .ref m44, .ref m45, .int 0, .int 0, .int 0, .int 0, .int 0, .ref m51, .ref m52, .ref m53, .ref m54, .ref m55, .int 0, .int 0, .int 0, .int 0, .int 0, .ref m61, .ref m62, .int 0, .int 0, .int 0])), (m1, .inl (cD, 524288, .inl ((fun _ => 0))))] := hD
  refine lv_aload_n hx hb d_La_law_1262 rfl (lv_at hl 2 rfl) ?_
  refine lv_aload_n hx hb d_La_law_1263 rfl (lv_at hl 4 rfl) ?_
  refine lv_iload hx hb d_La_law_1264 (lv_at hl 0 rfl) ?_
  refine lv_iconst (v := 1) hx hb d_La_law_1266 (by decide) ?_
  refine lv_iadd hx hb d_La_law_1267 ?_
  refine va_sld hx hb hX hbl hbA hS (by unfold vp_in; decide) d_La_law_1268 ?_
  refine lv_topi (fun x_4 ex_4 => ?_)
  rw [show x_4 = x_1 from ex_4.trans ex_1.symm]
  refine lv_aload_n hx hb d_La_law_1269 rfl (lv_at hl 4 rfl) ?_
  refine lv_iload hx hb d_La_law_1270 (lv_at hl 0 rfl) ?_
  refine lv_iconst (v := 2) hx hb d_La_law_1272 (by decide) ?_
  refine lv_iadd hx hb d_La_law_1273 ?_
  refine va_sld hx hb hX hbl hbA hS (by unfold vp_in; decide) d_La_law_1274 ?_
  refine lv_topi (fun x_5 ex_5 => ?_)
  rw [show x_5 = x_2 from ex_5.trans ex_2.symm]
  have hPc := hP.sub (ws' := [(o0, .inr (12, [.int (nI sN), .ref m1, .ref m2, .ref m3, .ref m4, .int 0, .int 0, .int 0, .int 0, .int 0, .int 0, .int 0, .int 0, .int 0, .int 0, .int 0, .int 0, .int 0, .int 0, .int 0, .int 0, .int 0, .int 0, .ref m23, .ref m24, .ref m25, .ref m26, .ref m27, .ref m28, .ref m29, .ref m30, .ref m31, .ref m32, .ref m33, .ref m34, .int 0, .int 0, .int 0, .ref m38, .int 0, .int 0, .int 0, .int 0, .ref m43, .ref m44, .ref m45, .int 0, .int 0, .int 0, .int 0, .int 0, .ref m51, .ref m52, .ref m53, .ref m54, .ref m55, .int 0, .int 0, .int 0, .int 0, .int 0, .ref m61, .ref m62, .int 0, .int 0, .int 0])), (m1, .inl (cD, 524288, .inl ((fun _ => 0))))]) [0, 1] rfl
  have hDc := hD.sub (ws' := [(o0, .inr (12, [.int (nI sN), .ref m1, .ref m2, .ref m3, .ref m4, .int 0, .int 0, .int 0, .int 0, .int 0, .int 0, .int 0, .int 0, .int 0, .int 0, .int 0, .int 0, .int 0, .int 0, .int 0, .int 0, .int 0, .int 0, .ref m23, .ref m24, .ref m25, .ref m26, .ref m27, .ref m28, .ref m29, .ref m30, .ref m31, .ref m32, .ref m33, .ref m34, .int 0, .int 0, .int 0, .ref m38, .int 0, .int 0, .int 0, .int 0, .ref m43, .ref m44, .ref m45, .int 0, .int 0, .int 0, .int 0, .int 0, .ref m51, .ref m52, .ref m53, .ref m54, .ref m55, .int 0, .int 0, .int 0, .int 0, .int 0, .ref m61, .ref m62, .int 0, .int 0, .int 0])), (m1, .inl (cD, 524288, .inl ((fun _ => 0))))]) [0, 1] (by decide) rfl
  have hKc := hK.sub (tys' := [(cD, .byte)]) [2] rfl
  have hFc := va_free (wc := [(o0, .inr (12, [.int (nI sN), .ref m1, .ref m2, .ref m3, .ref m4, .int 0, .int 0, .int 0, .int 0, .int 0, .int 0, .int 0, .int 0, .int 0, .int 0, .int 0, .int 0, .int 0, .int 0, .int 0, .int 0, .int 0, .int 0, .ref m23, .ref m24, .ref m25, .ref m26, .ref m27, .ref m28, .ref m29, .ref m30, .ref m31, .ref m32, .ref m33, .ref m34, .int 0, .int 0, .int 0, .ref m38, .int 0, .int 0, .int 0, .int 0, .ref m43, .ref m44, .ref m45, .int 0, .int 0, .int 0, .int 0, .int 0, .ref m51, .ref m52, .ref m53, .ref m54, .ref m55, .int 0, .int 0, .int 0, .int 0, .int 0, .ref m61, .ref m62, .int 0, .int 0, .int 0])), (m1, .inl (cD, 524288, .inl ((fun _ => 0))))]) hD hS hA [0, 1] rfl
  refine va_calli (va_runV (As := [.int x_1, .int x_2]) (rest := [.int ((-1))]) ⟨hx, hb, hml, hown, hts⟩ (c_Mo_target0 l dC dI o0 H.size m1 m2 m3 m4 m23 m24 m25 m26 m27 m28 m29 m30 m31 m32 m33 m34 m38 m43 m44 m45 m51 m52 m53 m54 m55 m61 m62 (nI sN) 0 0 0 0 0 0 0 0 0 0 0 0 0 0 0 0 0 0 0 0 0 0 0 0 0 0 0 0 0 0 0 0 0 0 0 0 cD (fun _ => 0) la_h11 x_1 x_2) (cwV 2 hts (gwV good_La (k_La_100) (u_La_Mo _ k_Mo_400) (u_La_Mo _ k_Mo_401) (u_La_Mo _ k_Mo_0) (wcs (u_La_Mo _ k_Mo_402) u_La_Mo)) rfl rfl rfl (by decide +kernel) ⟨Nat.le_of_ble_eq_true rfl, Nat.le_of_ble_eq_true rfl⟩) (pv_of hPc hKc hDc (va_recv hKc hPc (ci := 12) (q0 := 0) rfl rfl)) rfl rfl hl.1 rfl (lv_room (Nat.le_of_ble_eq_true rfl)) d_La_law_1275 ⟨by decide, by decide⟩) hS (fun q _ h => hFc q h) hFc (fun r_6 u t H1 locs ht hvm hw hB hz1 hk1 hS => ?_)
  subst hw
  obtain ⟨hP1, hK1, hD1⟩ := hB
  rw [ht] at hP1
  have hP1 : va_P (dC, dI) classes [] H1 := hP1.sub (ws' := []) [] rfl
  have hD1 : va_D _ [] := hD1.sub (ws' := []) [] (by decide) rfl
  obtain ⟨hP, hD⟩ := va_join (wr := []) (w1 := []) hP hD [0, 1] [] rfl rfl (by decide) (by decide) hk1 hFc hP1 hD1
  generalize H1 = H at hP hS ⊢
  have hP : va_P (dC, dI) classes [] H := hP
  have hD : va_D (fun q => s.heap.size ≤ q) [] := hD
  refine lv_icmp_eq (tgt := 1388) hx hb d_La_law_1278 (by decide) (fun c_7 => ?_) (fun c_7 => ?_)
  · exact la_tail l C0 hS (lv_sub hl [0, 4] rfl) (by decide) (by decide)
  · exact absurd c_7 (by decide)
set_option maxHeartbeats 4000000 in
set_option maxRecDepth 100000 in
theorem la_case7 {p : Program} {e : Env} {s : State} {m : MethodId} {below : List Frame} {meth : Method} {c : Code} (l : Launch) (dC : Nat → ClassId) (dI : Nat → Nat → Nat) (v0 h0 t0 b0 e0 r0 d0 g0 u0 i0 fa fw h1 b1 b2 r1 r2 r3 r4 t1 t2 o0 ou m1 m2 m3 m4 m23 m24 m25 m26 m27 m28 m29 m30 m31 m32 m33 m34 m38 m43 m44 m45 m51 m52 m53 m54 m55 m61 m62 : Nat) (cB c1 c2 c3 c4 c5 cD cT cR cO : ClassId) (sN : Nat) (hs0 : 256 ≤ sN) (hs : sN ≤ 1024) {b : Nat} {xs : Nat → Int32} (C0 : lw_At p s m meth c b 7 xs) {H : Heap} {locs : List Loc} {ls : Array Slot} (hP : va_P (dC, dI) classes [(v0, .inr (11, [.ref h0, .ref t0, .ref b0, .ref e0, .ref r0, .ref d0, .ref g0, .ref u0, .ref i0, .ref fa, .ref fw, .int 0, .int 0, .int 1, .int 1, .int 0])), (i0, .inr (6, [.ref h0, .int 0])), (h0, .inr (0, [.int (nI sN), .ref h1, .int ((-1))])), (h1, .inl (cB, (sN * 512), .inl ((fun _ => 0)))), (r0, .inr (7, [.ref h0, .ref b0, .ref e0, .ref r1, .ref r2, .ref r3, .ref r4, .int 0, .int 0, .int 0])), (b0, .inr (4, [.ref h0, .int 2, .int 8, .int 1, .int 1, .int 2, .int 10, .int 4, .ref b1, .ref b2])), (b1, .inl (c1, (sN / 2 + 2), .inl ((fun _ => 0)))), (o0, .inr (12, [.int (nI sN), .ref m1, .ref m2, .ref m3, .ref m4, .int 0, .int 0, .int 0, .int 0, .int 0, .int 0, .int 0, .int 0, .int 0, .int 0, .int 0, .int 0, .int 0, .int 0, .int 0, .int 0, .int 0, .int 0, .ref m23, .ref m24, .ref m25, .ref m26, .ref m27, .ref m28, .ref m29, .ref m30, .ref m31, .ref m32, .ref m33, .ref m34, .int 0, .int 0, .int 0, .ref m38, .int 0, .int 0, .int 0, .int 0, .ref m43, .ref m44, .ref m45, .int 0, .int 0, .int 0, .int 0, .int 0, .ref m51, .ref m52, .ref m53, .ref m54, .ref m55, .int 0, .int 0, .int 0, .int 0, .int 0, .ref m61, .ref m62, .int 0, .int 0, .int 0])), (m1, .inl (cD, 524288, .inl ((fun _ => 0))))] H) (hD : va_D (fun q => s.heap.size ≤ q) [(v0, .inr (11, [.ref h0, .ref t0, .ref b0, .ref e0, .ref r0, .ref d0, .ref g0, .ref u0, .ref i0, .ref fa, .ref fw, .int 0, .int 0, .int 1, .int 1, .int 0])), (i0, .inr (6, [.ref h0, .int 0])), (h0, .inr (0, [.int (nI sN), .ref h1, .int ((-1))])), (h1, .inl (cB, (sN * 512), .inl ((fun _ => 0)))), (r0, .inr (7, [.ref h0, .ref b0, .ref e0, .ref r1, .ref r2, .ref r3, .ref r4, .int 0, .int 0, .int 0])), (b0, .inr (4, [.ref h0, .int 2, .int 8, .int 1, .int 1, .int 2, .int 10, .int 4, .ref b1, .ref b2])), (b1, .inl (c1, (sN / 2 + 2), .inl ((fun _ => 0)))), (o0, .inr (12, [.int (nI sN), .ref m1, .ref m2, .ref m3, .ref m4, .int 0, .int 0, .int 0, .int 0, .int 0, .int 0, .int 0, .int 0, .int 0, .int 0, .int 0, .int 0, .int 0, .int 0, .int 0, .int 0, .int 0, .int 0, .ref m23, .ref m24, .ref m25, .ref m26, .ref m27, .ref m28, .ref m29, .ref m30, .ref m31, .ref m32, .ref m33, .ref m34, .int 0, .int 0, .int 0, .ref m38, .int 0, .int 0, .int 0, .int 0, .ref m43, .ref m44, .ref m45, .int 0, .int 0, .int 0, .int 0, .int 0, .ref m51, .ref m52, .ref m53, .ref m54, .ref m55, .int 0, .int 0, .int 0, .int 0, .int 0, .ref m61, .ref m62, .int 0, .int 0, .int 0])), (m1, .inl (cD, 524288, .inl ((fun _ => 0))))]) (hK : va_K (dC, dI) classes [(cB, .byte), (c1, .int), (cD, .byte)] s) (hS : va_S (fun q => s.heap.size ≤ q) s.heap H locs) (hl : lv_has ls 8 [(4, .int 1), (3, .ref ou), (2, .ref o0), (1, .ref v0), (0, .ref b)]) : W p l e room_1 s m #[Value.ref b] below meth c H locs 74 1720373 (lw_Z below #[Value.ref b] s) (F0 m 434 ls []) := by
  have C1 := C0
  obtain ⟨hx, hb, hr, hml, hown, hts1, hX, hbl, hlocks, hgv⟩ := C0
  have hts : ∀ w ∈ V_La, w.before #[Value.ref b] s = true := fun w h => hts1 w (in_V_La w h)
  have hbA : ¬ s.heap.size ≤ b := Nat.not_le.mpr hbl
  have hA : ∀ q : Nat, s.heap.size ≤ q → s.heap.size ≤ q := fun _ h => h
  have hb : c.code = b_La_law := hb
  have hown : s.vm.findClass R_La = some m.cls := hown
  have C0 := C1
  refine lv_aload_n hx hb d_La_law_434 rfl (lv_at hl 3 rfl) ?_
  refine lv_aload_n hx hb d_La_law_435 rfl (lv_at hl 4 rfl) ?_
  refine lv_iload hx hb d_La_law_436 (lv_at hl 0 rfl) ?_
  refine lv_iconst (v := 1) hx hb d_La_law_438 (by decide) ?_
  refine lv_iadd hx hb d_La_law_439 ?_
  refine va_sld hx hb hX hbl hbA hS (by unfold vp_in; decide) d_La_law_440 ?_
  refine lv_topi (fun x_1 ex_1 => ?_)
  refine lv_aload_n hx hb d_La_law_441 rfl (lv_at hl 4 rfl) ?_
  refine lv_iload hx hb d_La_law_442 (lv_at hl 0 rfl) ?_
  refine lv_iconst (v := 2) hx hb d_La_law_444 (by decide) ?_
  refine lv_iadd hx hb d_La_law_445 ?_
  refine va_sld hx hb hX hbl hbA hS (by unfold vp_in; decide) d_La_law_446 ?_
  refine lv_topi (fun x_2 ex_2 => ?_)
  have hPc := hP.sub (ws' := [(v0, .inr (11, [.ref h0, .ref t0, .ref b0, .ref e0, .ref r0, .ref d0, .ref g0, .ref u0, .ref i0, .ref fa, .ref fw, .int 0, .int 0, .int 1, .int 1, .int 0])), (i0, .inr (6, [.ref h0, .int 0])), (h0, .inr (0, [.int (nI sN), .ref h1, .int ((-1))])), (h1, .inl (cB, (sN * 512), .inl ((fun _ => 0)))), (r0, .inr (7, [.ref h0, .ref b0, .ref e0, .ref r1, .ref r2, .ref r3, .ref r4, .int 0, .int 0, .int 0])), (b0, .inr (4, [.ref h0, .int 2, .int 8, .int 1, .int 1, .int 2, .int 10, .int 4, .ref b1, .ref b2])), (b1, .inl (c1, (sN / 2 + 2), .inl ((fun _ => 0))))]) [0, 1, 2, 3, 4, 5, 6] rfl
  have hDc := hD.sub (ws' := [(v0, .inr (11, [.ref h0, .ref t0, .ref b0, .ref e0, .ref r0, .ref d0, .ref g0, .ref u0, .ref i0, .ref fa, .ref fw, .int 0, .int 0, .int 1, .int 1, .int 0])), (i0, .inr (6, [.ref h0, .int 0])), (h0, .inr (0, [.int (nI sN), .ref h1, .int ((-1))])), (h1, .inl (cB, (sN * 512), .inl ((fun _ => 0)))), (r0, .inr (7, [.ref h0, .ref b0, .ref e0, .ref r1, .ref r2, .ref r3, .ref r4, .int 0, .int 0, .int 0])), (b0, .inr (4, [.ref h0, .int 2, .int 8, .int 1, .int 1, .int 2, .int 10, .int 4, .ref b1, .ref b2])), (b1, .inl (c1, (sN / 2 + 2), .inl ((fun _ => 0))))]) [0, 1, 2, 3, 4, 5, 6] (by decide) rfl
  have hKc := hK.sub (tys' := [(c1, .int), (cB, .byte)]) [1, 0] rfl
  have hFc := va_free (wc := [(v0, .inr (11, [.ref h0, .ref t0, .ref b0, .ref e0, .ref r0, .ref d0, .ref g0, .ref u0, .ref i0, .ref fa, .ref fw, .int 0, .int 0, .int 1, .int 1, .int 0])), (i0, .inr (6, [.ref h0, .int 0])), (h0, .inr (0, [.int (nI sN), .ref h1, .int ((-1))])), (h1, .inl (cB, (sN * 512), .inl ((fun _ => 0)))), (r0, .inr (7, [.ref h0, .ref b0, .ref e0, .ref r1, .ref r2, .ref r3, .ref r4, .int 0, .int 0, .int 0])), (b0, .inr (4, [.ref h0, .int 2, .int 8, .int 1, .int 1, .int 2, .int 10, .int 4, .ref b1, .ref b2])), (b1, .inl (c1, (sN / 2 + 2), .inl ((fun _ => 0))))]) hD hS hA [0, 1, 2, 3, 4, 5, 6] rfl
  refine va_calli (va_runV (As := [.int x_1, .int x_2]) (rest := []) ⟨hx, hb, hml, hown, hts⟩ (c_Vt_byteAt0 l dC dI v0 H.size h0 t0 b0 e0 r0 d0 g0 u0 i0 fa fw 0 0 1 0 0 r1 r2 r3 r4 0 0 0 b1 b2 2 8 1 1 2 10 4 c1 (sN / 2 + 2) (fun _ => 0) (by omega) h1 cB (nI sN) (-1) (sN * 512) (fun _ => 0) (by omega) (by omega) (la_rd _ _ _ _) (la_it _) x_1 x_2) (cwV 2 hts (gwV good_La (k_La_9) (u_La_Vt _ k_Vt_76) (u_La_Vt _ k_Vt_77) (u_La_Vt _ k_Vt_0) (wcs (u_La_Vt _ k_Vt_78) u_La_Vt)) rfl rfl rfl (by decide +kernel) ⟨Nat.le_of_ble_eq_true rfl, Nat.le_of_ble_eq_true rfl⟩) (pv_of hPc hKc hDc (va_recv hKc hPc (ci := 11) (q0 := 0) rfl rfl)) rfl rfl hl.1 rfl (lv_room (Nat.le_of_ble_eq_true rfl)) d_La_law_447 ⟨by decide, by decide⟩) hS (fun q _ h => hFc q h) hFc (fun r_3 u t H1 locs ht hvm hw hB hz1 hk1 hS => ?_)
  have er_3 := hw
  obtain ⟨hP1, hK1, hD1⟩ := hB
  rw [ht] at hP1
  have hP1 : va_P (dC, dI) classes [] H1 := hP1.sub (ws' := []) [] rfl
  have hD1 : va_D _ [] := hD1.sub (ws' := []) [] (by decide) rfl
  obtain ⟨hP, hD⟩ := va_join (wr := [(o0, .inr (12, [.int (nI sN), .ref m1, .ref m2, .ref m3, .ref m4, .int 0, .int 0, .int 0, .int 0, .int 0, .int 0, .int 0, .int 0, .int 0, .int 0, .int 0, .int 0, .int 0, .int 0, .int 0, .int 0, .int 0, .int 0, .ref m23, .ref m24, .ref m25, .ref m26, .ref m27, .ref m28, .ref m29, .ref m30, .ref m31, .ref m32, .ref m33, .ref m34, .int 0, .int 0, .int 0, .ref m38, .int 0, .int 0, .int 0, .int 0, .ref m43, .ref m44, .ref m45, .int 0, .int 0, .int 0, .int 0, .int 0, .ref m51, .ref m52, .ref m53, .ref m54, .ref m55, .int 0, .int 0, .int 0, .int 0, .int 0, .ref m61, .ref m62, .int 0, .int 0, .int 0])), (m1, .inl (cD, 524288, .inl ((fun _ => 0))))]) (w1 := []) hP hD [0, 1, 2, 3, 4, 5, 6] [7, 8] rfl rfl (by decide) (by decide) hk1 hFc hP1 hD1
  generalize H1 = H at hP hS ⊢
  have hP : va_P (dC, dI) classes [(o0, .inr (12, [.int (nI sN), .ref m1, .ref m2, .ref m3, .ref m4, .int 0, .int 0, .int 0, .int 0, .int 0, .int 0, .int 0, .int 0, .int 0, .int 0, .int 0, .int 0, .int 0, .int 0, .int 0, .int 0, .int 0, .int 0, .ref m23, .ref m24, .ref m25, .ref m26, .ref m27, .ref m28, .ref m29, .ref m30, .ref m31, .ref m32, .ref m33, .ref m34, .int 0, .int 0, .int 0, .ref m38, .int 0, .int 0, .int 0, .int 0, .ref m43, .ref m44, .ref m45, .int 0, .int 0, .int 0, .int 0, .int 0, .ref m51, .ref m52, .ref m53, .ref m54, .ref m55, .int 0, .int 0, .int 0, .int 0, .int 0, .ref m61, .ref m62, .int 0, .int 0, .int 0])), (m1, .inl (cD, 524288, .inl ((fun _ => 0))))] H := hP
  have hD : va_D (fun q => s.heap.size ≤ q) [(o0, .inr (12, [.int (nI sN), .ref m1, .ref m2, .ref m3, .ref m4, .int 0, .int 0, .int 0, .int 0, .int 0, .int 0, .int 0, .int 0, .int 0, .int 0, .int 0, .int 0, .int 0, .int 0, .int 0, .int 0, .int 0, .int 0, .ref m23, .ref m24, .ref m25, .ref m26, .ref m27, .ref m28, .ref m29, .ref m30, .ref m31, .ref m32, .ref m33, .ref m34, .int 0, .int 0, .int 0, .ref m38, .int 0, .int 0, .int 0, .int 0, .ref m43, .ref m44, .ref m45, .int 0, .int 0, .int 0, .int 0, .int 0, .ref m51, .ref m52, .ref m53, .ref m54, .ref m55, .int 0, .int 0, .int 0, .int 0, .int 0, .ref m61, .ref m62, .int 0, .int 0, .int 0])), (m1, .inl (cD, 524288, .inl ((fun _ => 0))))] := hD
  refine lv_aload_n hx hb d_La_law_450 rfl (lv_at hl 2 rfl) ?_
  refine lv_aload_n hx hb d_La_law_451 rfl (lv_at hl 4 rfl) ?_
  refine lv_iload hx hb d_La_law_452 (lv_at hl 0 rfl) ?_
  refine lv_iconst (v := 1) hx hb d_La_law_454 (by decide) ?_
  refine lv_iadd hx hb d_La_law_455 ?_
  refine va_sld hx hb hX hbl hbA hS (by unfold vp_in; decide) d_La_law_456 ?_
  refine lv_topi (fun x_4 ex_4 => ?_)
  rw [show x_4 = x_1 from ex_4.trans ex_1.symm]
  refine lv_aload_n hx hb d_La_law_457 rfl (lv_at hl 4 rfl) ?_
  refine lv_iload hx hb d_La_law_458 (lv_at hl 0 rfl) ?_
  refine lv_iconst (v := 2) hx hb d_La_law_460 (by decide) ?_
  refine lv_iadd hx hb d_La_law_461 ?_
  refine va_sld hx hb hX hbl hbA hS (by unfold vp_in; decide) d_La_law_462 ?_
  refine lv_topi (fun x_5 ex_5 => ?_)
  rw [show x_5 = x_2 from ex_5.trans ex_2.symm]
  have hPc := hP.sub (ws' := [(o0, .inr (12, [.int (nI sN), .ref m1, .ref m2, .ref m3, .ref m4, .int 0, .int 0, .int 0, .int 0, .int 0, .int 0, .int 0, .int 0, .int 0, .int 0, .int 0, .int 0, .int 0, .int 0, .int 0, .int 0, .int 0, .int 0, .ref m23, .ref m24, .ref m25, .ref m26, .ref m27, .ref m28, .ref m29, .ref m30, .ref m31, .ref m32, .ref m33, .ref m34, .int 0, .int 0, .int 0, .ref m38, .int 0, .int 0, .int 0, .int 0, .ref m43, .ref m44, .ref m45, .int 0, .int 0, .int 0, .int 0, .int 0, .ref m51, .ref m52, .ref m53, .ref m54, .ref m55, .int 0, .int 0, .int 0, .int 0, .int 0, .ref m61, .ref m62, .int 0, .int 0, .int 0])), (m1, .inl (cD, 524288, .inl ((fun _ => 0))))]) [0, 1] rfl
  have hDc := hD.sub (ws' := [(o0, .inr (12, [.int (nI sN), .ref m1, .ref m2, .ref m3, .ref m4, .int 0, .int 0, .int 0, .int 0, .int 0, .int 0, .int 0, .int 0, .int 0, .int 0, .int 0, .int 0, .int 0, .int 0, .int 0, .int 0, .int 0, .int 0, .ref m23, .ref m24, .ref m25, .ref m26, .ref m27, .ref m28, .ref m29, .ref m30, .ref m31, .ref m32, .ref m33, .ref m34, .int 0, .int 0, .int 0, .ref m38, .int 0, .int 0, .int 0, .int 0, .ref m43, .ref m44, .ref m45, .int 0, .int 0, .int 0, .int 0, .int 0, .ref m51, .ref m52, .ref m53, .ref m54, .ref m55, .int 0, .int 0, .int 0, .int 0, .int 0, .ref m61, .ref m62, .int 0, .int 0, .int 0])), (m1, .inl (cD, 524288, .inl ((fun _ => 0))))]) [0, 1] (by decide) rfl
  have hKc := hK.sub (tys' := [(cD, .byte)]) [2] rfl
  have hFc := va_free (wc := [(o0, .inr (12, [.int (nI sN), .ref m1, .ref m2, .ref m3, .ref m4, .int 0, .int 0, .int 0, .int 0, .int 0, .int 0, .int 0, .int 0, .int 0, .int 0, .int 0, .int 0, .int 0, .int 0, .int 0, .int 0, .int 0, .int 0, .ref m23, .ref m24, .ref m25, .ref m26, .ref m27, .ref m28, .ref m29, .ref m30, .ref m31, .ref m32, .ref m33, .ref m34, .int 0, .int 0, .int 0, .ref m38, .int 0, .int 0, .int 0, .int 0, .ref m43, .ref m44, .ref m45, .int 0, .int 0, .int 0, .int 0, .int 0, .ref m51, .ref m52, .ref m53, .ref m54, .ref m55, .int 0, .int 0, .int 0, .int 0, .int 0, .ref m61, .ref m62, .int 0, .int 0, .int 0])), (m1, .inl (cD, 524288, .inl ((fun _ => 0))))]) hD hS hA [0, 1] rfl
  refine va_calli (va_runV (As := [.int x_1, .int x_2]) (rest := [.int r_3]) ⟨hx, hb, hml, hown, hts⟩ (c_Mo_byteAt0 l dC dI o0 H.size m1 m2 m3 m4 m23 m24 m25 m26 m27 m28 m29 m30 m31 m32 m33 m34 m38 m43 m44 m45 m51 m52 m53 m54 m55 m61 m62 0 0 0 0 0 0 0 0 0 0 0 0 0 0 0 0 0 0 0 0 0 0 0 0 0 0 0 0 0 0 0 0 0 0 0 0 cD (fun _ => 0) la_h11 sN hs x_1 x_2) (cwV 2 hts (gwV good_La (k_La_85) (u_La_Mo _ k_Mo_208) (u_La_Mo _ k_Mo_209) (u_La_Mo _ k_Mo_0) (wcs (u_La_Mo _ k_Mo_210) u_La_Mo)) rfl rfl rfl (by decide +kernel) ⟨Nat.le_of_ble_eq_true rfl, Nat.le_of_ble_eq_true rfl⟩) (pv_of hPc hKc hDc (va_recv hKc hPc (ci := 12) (q0 := 0) rfl rfl)) rfl rfl hl.1 rfl (lv_room (Nat.le_of_ble_eq_true rfl)) d_La_law_463 ⟨by decide, by decide⟩) hS (fun q _ h => hFc q h) hFc (fun r_6 u t H1 locs ht hvm hw hB hz1 hk1 hS => ?_)
  have er_6 := hw
  obtain ⟨hP1, hK1, hD1⟩ := hB
  rw [ht] at hP1
  have hP1 : va_P (dC, dI) classes [] H1 := hP1.sub (ws' := []) [] rfl
  have hD1 : va_D _ [] := hD1.sub (ws' := []) [] (by decide) rfl
  obtain ⟨hP, hD⟩ := va_join (wr := []) (w1 := []) hP hD [0, 1] [] rfl rfl (by decide) (by decide) hk1 hFc hP1 hD1
  generalize H1 = H at hP hS ⊢
  have hP : va_P (dC, dI) classes [] H := hP
  have hD : va_D (fun q => s.heap.size ≤ q) [] := hD
  refine lv_icmp_eq (tgt := 1388) hx hb d_La_law_466 (by decide) (fun c_7 => ?_) (fun c_7 => ?_)
  · exact la_tail l C0 hS (lv_sub hl [0, 4] rfl) (by decide) (by decide)
  · exact absurd (la_byte er_3 er_6) c_7
set_option maxHeartbeats 4000000 in
set_option maxRecDepth 100000 in
theorem la_case22 {p : Program} {e : Env} {s : State} {m : MethodId} {below : List Frame} {meth : Method} {c : Code} (l : Launch) (dC : Nat → ClassId) (dI : Nat → Nat → Nat) (v0 h0 t0 b0 e0 r0 d0 g0 u0 i0 fa fw h1 b1 b2 r1 r2 r3 r4 t1 t2 o0 ou m1 m2 m3 m4 m23 m24 m25 m26 m27 m28 m29 m30 m31 m32 m33 m34 m38 m43 m44 m45 m51 m52 m53 m54 m55 m61 m62 : Nat) (cB c1 c2 c3 c4 c5 cD cT cR cO : ClassId) (sN : Nat) (hs0 : 256 ≤ sN) (hs : sN ≤ 1024) {b : Nat} {xs : Nat → Int32} (C0 : lw_At p s m meth c b 7 xs) {H : Heap} {locs : List Loc} {ls : Array Slot} (hP : va_P (dC, dI) classes [(v0, .inr (11, [.ref h0, .ref t0, .ref b0, .ref e0, .ref r0, .ref d0, .ref g0, .ref u0, .ref i0, .ref fa, .ref fw, .int 0, .int 0, .int 1, .int 1, .int 0])), (fa, .inl (c4, 16, .inl ((fun _ => 0)))), (fw, .inl (c5, 16, .inl ((fun _ => 0)))), (o0, .inr (12, [.int (nI sN), .ref m1, .ref m2, .ref m3, .ref m4, .int 0, .int 0, .int 0, .int 0, .int 0, .int 0, .int 0, .int 0, .int 0, .int 0, .int 0, .int 0, .int 0, .int 0, .int 0, .int 0, .int 0, .int 0, .ref m23, .ref m24, .ref m25, .ref m26, .ref m27, .ref m28, .ref m29, .ref m30, .ref m31, .ref m32, .ref m33, .ref m34, .int 0, .int 0, .int 0, .ref m38, .int 0, .int 0, .int 0, .int 0, .ref m43, .ref m44, .ref m45, .int 0, .int 0, .int 0, .int 0, .int 0, .ref m51, .ref m52, .ref m53, .ref m54, .ref m55, .int 0, .int 0, .int 0, .int 0, .int 0, .ref m61, .ref m62, .int 0, .int 0, .int 0]))] H) (hD : va_D (fun q => s.heap.size ≤ q) [(v0, .inr (11, [.ref h0, .ref t0, .ref b0, .ref e0, .ref r0, .ref d0, .ref g0, .ref u0, .ref i0, .ref fa, .ref fw, .int 0, .int 0, .int 1, .int 1, .int 0])), (fa, .inl (c4, 16, .inl ((fun _ => 0)))), (fw, .inl (c5, 16, .inl ((fun _ => 0)))), (o0, .inr (12, [.int (nI sN), .ref m1, .ref m2, .ref m3, .ref m4, .int 0, .int 0, .int 0, .int 0, .int 0, .int 0, .int 0, .int 0, .int 0, .int 0, .int 0, .int 0, .int 0, .int 0, .int 0, .int 0, .int 0, .int 0, .ref m23, .ref m24, .ref m25, .ref m26, .ref m27, .ref m28, .ref m29, .ref m30, .ref m31, .ref m32, .ref m33, .ref m34, .int 0, .int 0, .int 0, .ref m38, .int 0, .int 0, .int 0, .int 0, .ref m43, .ref m44, .ref m45, .int 0, .int 0, .int 0, .int 0, .int 0, .ref m51, .ref m52, .ref m53, .ref m54, .ref m55, .int 0, .int 0, .int 0, .int 0, .int 0, .ref m61, .ref m62, .int 0, .int 0, .int 0]))]) (hK : va_K (dC, dI) classes [(c4, .int), (c5, .int)] s) (hS : va_S (fun q => s.heap.size ≤ q) s.heap H locs) (hl : lv_has ls 8 [(4, .int 1), (3, .ref ou), (2, .ref o0), (1, .ref v0), (0, .ref b)]) : W p l e room_1 s m #[Value.ref b] below meth c H locs 74 1720373 (lw_Z below #[Value.ref b] s) (F0 m 1283 ls []) := by
  have C1 := C0
  obtain ⟨hx, hb, hr, hml, hown, hts1, hX, hbl, hlocks, hgv⟩ := C0
  have hts : ∀ w ∈ V_La, w.before #[Value.ref b] s = true := fun w h => hts1 w (in_V_La w h)
  have hbA : ¬ s.heap.size ≤ b := Nat.not_le.mpr hbl
  have hA : ∀ q : Nat, s.heap.size ≤ q → s.heap.size ≤ q := fun _ h => h
  have hb : c.code = b_La_law := hb
  have hown : s.vm.findClass R_La = some m.cls := hown
  have C0 := C1
  refine lv_aload_n hx hb d_La_law_1283 rfl (lv_at hl 3 rfl) ?_
  refine lv_aload_n hx hb d_La_law_1284 rfl (lv_at hl 4 rfl) ?_
  refine lv_iload hx hb d_La_law_1285 (lv_at hl 0 rfl) ?_
  refine lv_iconst (v := 1) hx hb d_La_law_1287 (by decide) ?_
  refine lv_iadd hx hb d_La_law_1288 ?_
  refine va_sld hx hb hX hbl hbA hS (by unfold vp_in; decide) d_La_law_1289 ?_
  refine lv_topi (fun x_1 ex_1 => ?_)
  refine lv_aload_n hx hb d_La_law_1290 rfl (lv_at hl 4 rfl) ?_
  refine lv_iload hx hb d_La_law_1291 (lv_at hl 0 rfl) ?_
  refine lv_iconst (v := 2) hx hb d_La_law_1293 (by decide) ?_
  refine lv_iadd hx hb d_La_law_1294 ?_
  refine va_sld hx hb hX hbl hbA hS (by unfold vp_in; decide) d_La_law_1295 ?_
  refine lv_topi (fun x_2 ex_2 => ?_)
  have hPc := hP.sub (ws' := [(v0, .inr (11, [.ref h0, .ref t0, .ref b0, .ref e0, .ref r0, .ref d0, .ref g0, .ref u0, .ref i0, .ref fa, .ref fw, .int 0, .int 0, .int 1, .int 1, .int 0])), (fa, .inl (c4, 16, .inl ((fun _ => 0)))), (fw, .inl (c5, 16, .inl ((fun _ => 0))))]) [0, 1, 2] rfl
  have hDc := hD.sub (ws' := [(v0, .inr (11, [.ref h0, .ref t0, .ref b0, .ref e0, .ref r0, .ref d0, .ref g0, .ref u0, .ref i0, .ref fa, .ref fw, .int 0, .int 0, .int 1, .int 1, .int 0])), (fa, .inl (c4, 16, .inl ((fun _ => 0)))), (fw, .inl (c5, 16, .inl ((fun _ => 0))))]) [0, 1, 2] (by decide) rfl
  have hKc := hK.sub (tys' := [(c4, .int), (c5, .int)]) [0, 1] rfl
  have hFc := va_free (wc := [(v0, .inr (11, [.ref h0, .ref t0, .ref b0, .ref e0, .ref r0, .ref d0, .ref g0, .ref u0, .ref i0, .ref fa, .ref fw, .int 0, .int 0, .int 1, .int 1, .int 0])), (fa, .inl (c4, 16, .inl ((fun _ => 0)))), (fw, .inl (c5, 16, .inl ((fun _ => 0))))]) hD hS hA [0, 1, 2] rfl
  refine va_calli (va_runV (As := [.int x_1, .int x_2]) (rest := []) ⟨hx, hb, hml, hown, hts⟩ (c_Vt_fail l dC dI v0 H.size h0 t0 b0 e0 r0 d0 g0 u0 i0 fa fw 0 1 1 0 c4 c5 (fun _ => 0) (fun _ => 0) 0 (by decide) x_1 x_2) (cwV 2 hts (gwV good_La (k_La_12) (u_La_Vt _ k_Vt_92) (u_La_Vt _ k_Vt_93) (u_La_Vt _ k_Vt_0) (wcs (u_La_Vt _ k_Vt_94) u_La_Vt)) rfl rfl rfl (by decide +kernel) ⟨Nat.le_of_ble_eq_true rfl, Nat.le_of_ble_eq_true rfl⟩) (pv_of hPc hKc hDc (va_recv hKc hPc (ci := 11) (q0 := 0) rfl rfl)) rfl rfl hl.1 rfl (lv_room (Nat.le_of_ble_eq_true rfl)) d_La_law_1296 ⟨by decide, by decide⟩) hS (fun q _ h => hFc q h) hFc (fun r_3 u t H1 locs ht hvm hw hB hz1 hk1 hS => ?_)
  have er_3 := hw
  obtain ⟨hP1, hK1, hD1⟩ := hB
  rw [ht] at hP1
  have hP1 : va_P (dC, dI) classes [] H1 := hP1.sub (ws' := []) [] rfl
  have hD1 : va_D _ [] := hD1.sub (ws' := []) [] (by decide) rfl
  obtain ⟨hP, hD⟩ := va_join (wr := [(o0, .inr (12, [.int (nI sN), .ref m1, .ref m2, .ref m3, .ref m4, .int 0, .int 0, .int 0, .int 0, .int 0, .int 0, .int 0, .int 0, .int 0, .int 0, .int 0, .int 0, .int 0, .int 0, .int 0, .int 0, .int 0, .int 0, .ref m23, .ref m24, .ref m25, .ref m26, .ref m27, .ref m28, .ref m29, .ref m30, .ref m31, .ref m32, .ref m33, .ref m34, .int 0, .int 0, .int 0, .ref m38, .int 0, .int 0, .int 0, .int 0, .ref m43, .ref m44, .ref m45, .int 0, .int 0, .int 0, .int 0, .int 0, .ref m51, .ref m52, .ref m53, .ref m54, .ref m55, .int 0, .int 0, .int 0, .int 0, .int 0, .ref m61, .ref m62, .int 0, .int 0, .int 0]))]) (w1 := []) hP hD [0, 1, 2] [3] rfl rfl (by decide) (by decide) hk1 hFc hP1 hD1
  generalize H1 = H at hP hS ⊢
  have hP : va_P (dC, dI) classes [(o0, .inr (12, [.int (nI sN), .ref m1, .ref m2, .ref m3, .ref m4, .int 0, .int 0, .int 0, .int 0, .int 0, .int 0, .int 0, .int 0, .int 0, .int 0, .int 0, .int 0, .int 0, .int 0, .int 0, .int 0, .int 0, .int 0, .ref m23, .ref m24, .ref m25, .ref m26, .ref m27, .ref m28, .ref m29, .ref m30, .ref m31, .ref m32, .ref m33, .ref m34, .int 0, .int 0, .int 0, .ref m38, .int 0, .int 0, .int 0, .int 0, .ref m43, .ref m44, .ref m45, .int 0, .int 0, .int 0, .int 0, .int 0, .ref m51, .ref m52, .ref m53, .ref m54, .ref m55, .int 0, .int 0, .int 0, .int 0, .int 0, .ref m61, .ref m62, .int 0, .int 0, .int 0]))] H := hP
  have hD : va_D (fun q => s.heap.size ≤ q) [(o0, .inr (12, [.int (nI sN), .ref m1, .ref m2, .ref m3, .ref m4, .int 0, .int 0, .int 0, .int 0, .int 0, .int 0, .int 0, .int 0, .int 0, .int 0, .int 0, .int 0, .int 0, .int 0, .int 0, .int 0, .int 0, .int 0, .ref m23, .ref m24, .ref m25, .ref m26, .ref m27, .ref m28, .ref m29, .ref m30, .ref m31, .ref m32, .ref m33, .ref m34, .int 0, .int 0, .int 0, .ref m38, .int 0, .int 0, .int 0, .int 0, .ref m43, .ref m44, .ref m45, .int 0, .int 0, .int 0, .int 0, .int 0, .ref m51, .ref m52, .ref m53, .ref m54, .ref m55, .int 0, .int 0, .int 0, .int 0, .int 0, .ref m61, .ref m62, .int 0, .int 0, .int 0]))] := hD
  refine lv_aload_n hx hb d_La_law_1299 rfl (lv_at hl 2 rfl) ?_
  refine lv_aload_n hx hb d_La_law_1300 rfl (lv_at hl 4 rfl) ?_
  refine lv_iload hx hb d_La_law_1301 (lv_at hl 0 rfl) ?_
  refine lv_iconst (v := 1) hx hb d_La_law_1303 (by decide) ?_
  refine lv_iadd hx hb d_La_law_1304 ?_
  refine va_sld hx hb hX hbl hbA hS (by unfold vp_in; decide) d_La_law_1305 ?_
  refine lv_topi (fun x_4 ex_4 => ?_)
  rw [show x_4 = x_1 from ex_4.trans ex_1.symm]
  refine lv_aload_n hx hb d_La_law_1306 rfl (lv_at hl 4 rfl) ?_
  refine lv_iload hx hb d_La_law_1307 (lv_at hl 0 rfl) ?_
  refine lv_iconst (v := 2) hx hb d_La_law_1309 (by decide) ?_
  refine lv_iadd hx hb d_La_law_1310 ?_
  refine va_sld hx hb hX hbl hbA hS (by unfold vp_in; decide) d_La_law_1311 ?_
  refine lv_topi (fun x_5 ex_5 => ?_)
  rw [show x_5 = x_2 from ex_5.trans ex_2.symm]
  have hPc := hP.sub (ws' := [(o0, .inr (12, [.int (nI sN), .ref m1, .ref m2, .ref m3, .ref m4, .int 0, .int 0, .int 0, .int 0, .int 0, .int 0, .int 0, .int 0, .int 0, .int 0, .int 0, .int 0, .int 0, .int 0, .int 0, .int 0, .int 0, .int 0, .ref m23, .ref m24, .ref m25, .ref m26, .ref m27, .ref m28, .ref m29, .ref m30, .ref m31, .ref m32, .ref m33, .ref m34, .int 0, .int 0, .int 0, .ref m38, .int 0, .int 0, .int 0, .int 0, .ref m43, .ref m44, .ref m45, .int 0, .int 0, .int 0, .int 0, .int 0, .ref m51, .ref m52, .ref m53, .ref m54, .ref m55, .int 0, .int 0, .int 0, .int 0, .int 0, .ref m61, .ref m62, .int 0, .int 0, .int 0]))]) [0] rfl
  have hDc := hD.sub (ws' := [(o0, .inr (12, [.int (nI sN), .ref m1, .ref m2, .ref m3, .ref m4, .int 0, .int 0, .int 0, .int 0, .int 0, .int 0, .int 0, .int 0, .int 0, .int 0, .int 0, .int 0, .int 0, .int 0, .int 0, .int 0, .int 0, .int 0, .ref m23, .ref m24, .ref m25, .ref m26, .ref m27, .ref m28, .ref m29, .ref m30, .ref m31, .ref m32, .ref m33, .ref m34, .int 0, .int 0, .int 0, .ref m38, .int 0, .int 0, .int 0, .int 0, .ref m43, .ref m44, .ref m45, .int 0, .int 0, .int 0, .int 0, .int 0, .ref m51, .ref m52, .ref m53, .ref m54, .ref m55, .int 0, .int 0, .int 0, .int 0, .int 0, .ref m61, .ref m62, .int 0, .int 0, .int 0]))]) [0] (by decide) rfl
  have hKc := hK.sub (tys' := []) [] rfl
  have hFc := va_free (wc := [(o0, .inr (12, [.int (nI sN), .ref m1, .ref m2, .ref m3, .ref m4, .int 0, .int 0, .int 0, .int 0, .int 0, .int 0, .int 0, .int 0, .int 0, .int 0, .int 0, .int 0, .int 0, .int 0, .int 0, .int 0, .int 0, .int 0, .ref m23, .ref m24, .ref m25, .ref m26, .ref m27, .ref m28, .ref m29, .ref m30, .ref m31, .ref m32, .ref m33, .ref m34, .int 0, .int 0, .int 0, .ref m38, .int 0, .int 0, .int 0, .int 0, .ref m43, .ref m44, .ref m45, .int 0, .int 0, .int 0, .int 0, .int 0, .ref m51, .ref m52, .ref m53, .ref m54, .ref m55, .int 0, .int 0, .int 0, .int 0, .int 0, .ref m61, .ref m62, .int 0, .int 0, .int 0]))]) hD hS hA [0] rfl
  refine va_calli (va_runV (As := [.int x_1, .int x_2]) (rest := [.int r_3]) ⟨hx, hb, hml, hown, hts⟩ (c_Mo_fail l dC dI o0 H.size m1 m2 m3 m4 m23 m24 m25 m26 m27 m28 m29 m30 m31 m32 m33 m34 m38 m43 m44 m45 m51 m52 m53 m54 m55 m61 m62 (nI sN) 0 0 0 0 0 0 0 0 0 0 0 0 0 0 0 0 0 0 0 0 0 0 0 0 0 0 0 0 0 0 0 0 0 0 0 0 0 0 x_1 x_2) (cwV 2 hts (gwV good_La (k_La_101) (u_La_Mo _ k_Mo_403) (u_La_Mo _ k_Mo_404) (u_La_Mo _ k_Mo_0) (wcs (u_La_Mo _ k_Mo_405) u_La_Mo)) rfl rfl rfl (by decide +kernel) ⟨Nat.le_of_ble_eq_true rfl, Nat.le_of_ble_eq_true rfl⟩) (pv_of hPc hKc hDc (va_recv hKc hPc (ci := 12) (q0 := 0) rfl rfl)) rfl rfl hl.1 rfl (lv_room (Nat.le_of_ble_eq_true rfl)) d_La_law_1312 ⟨by decide, by decide⟩) hS (fun q _ h => hFc q h) hFc (fun r_6 u t H1 locs ht hvm hw hB hz1 hk1 hS => ?_)
  have er_6 := hw
  obtain ⟨hP1, hK1, hD1⟩ := hB
  rw [ht] at hP1
  have hP1 : va_P (dC, dI) classes [] H1 := hP1.sub (ws' := []) [] rfl
  have hD1 : va_D _ [] := hD1.sub (ws' := []) [] (by decide) rfl
  obtain ⟨hP, hD⟩ := va_join (wr := []) (w1 := []) hP hD [0] [] rfl rfl (by decide) (by decide) hk1 hFc hP1 hD1
  generalize H1 = H at hP hS ⊢
  have hP : va_P (dC, dI) classes [] H := hP
  have hD : va_D (fun q => s.heap.size ≤ q) [] := hD
  refine lv_icmp_eq (tgt := 1388) hx hb d_La_law_1315 (by decide) (fun c_7 => ?_) (fun c_7 => ?_)
  · exact la_tail l C0 hS (lv_sub hl [0, 4] rfl) (by decide) (by decide)
  · exact absurd (la_fail er_3 er_6) c_7
