def R_law : String := "VolumeTurnerLaw"
def lw_P (b : Addr) (xs : List Int32) (args : Array Value) (s : State) : Prop := args = #[.ref b] ∧ s.IntsAt b xs ∧ xs.length ≤ 3073 ∧ (Jvm.Cond.and given_1 narrow_1).before args s = true
def lw_Q (_ : Array Value) (s : State) (o : Outcome) (t : State) : Prop := o = .returned (some (.int 1)) ∧ Framed s o t [] 601024 7293000
def lw_Z (below : List Frame) (a : Array Value) (s : State) : State → Prop := fun t => ∃ o, t.status = .running ∧ Ended t below o ∧ lw_Q a s o t
/-- the law's own end, with 1 on the stack, nothing written that was there before, its room as the claim has it -/
theorem lw_ret {p : Program} {l : Launch} {e : Env} {s : State} {m : MethodId} {below : List Frame} {meth : Method} {c : Code} {b : Nat} (hx : p.tables.exec = Jvm.exec) (hb : c.code = code) (hr : meth.sig.returnType = ret) (hlocks : meth.locks = false) {pc : Nat} {H : Heap} {ls : Array Slot} (hdg : decode code pc = .ok (.ireturn, 1)) : W p l e room_1 s m #[Value.ref b] below meth c H [] 601024 7293000 (lw_Z below #[Value.ref b] s) (F0 m pc ls [.int 1]) := by
  intro T hT X
  obtain ⟨fs, hret, hrun, hended, hW, hframe⟩ := X.leave (v := some (.int 1)) (hlocks := hlocks) (fun h => by rw [hr] at h; cases h)
  have hmeth' : T.vm.method? m = some meth := X.method'
  refine ⟨T.setFrames fs, ?_, .returned (some (.int 1)), hrun, hended, rfl, ⟨_, rfl⟩, hW, hframe⟩
  jvm_step X.here [X.here.top, hx, hb, hdg, hmeth', hr, ret, narrow_b1]
  (try refine ⟨rfl, ?_⟩); (try refine ⟨rfl, ?_⟩)
  first | (intro acts; rw [hret _ acts rfl rfl rfl]) | rw [hret _ _ rfl rfl rfl]
  exact Steps.refl _
/-- what holds at the law's entry: the machine, the code, the tables' words (any of lw_tbl by 'hts w (by decide +kernel)'), the script of L ints xs at the cell b, what the Statement gives of the start (any of its parts by flat_of_before) -/
def lw_At (p : Program) (s : State) (m : MethodId) (meth : Method) (c : Code) (b L : Nat) (xs : Nat → Int32) : Prop :=
  p.tables.exec = Jvm.exec ∧ c.code = code ∧ meth.sig.returnType = ret ∧ c.maxLocals = 8 ∧ s.vm.findClass R_law = some m.cls ∧ (∀ w ∈ lw_tbl, w.before #[Value.ref b] s = true) ∧ va_X b L xs s s.heap ∧ b < s.heap.size ∧ meth.locks = false ∧ (Jvm.Cond.and given_1 narrow_1).before #[Value.ref b] s = true

set_option maxHeartbeats 4000000 in
set_option maxRecDepth 100000 in
theorem la_loop {p : Program} {e : Env} {s : State} {m : MethodId} {below : List Frame} {meth : Method} {c : Code} (l : Launch) (hfl : l.flags = pinnedFlags ++ [noTraceFlag]) (dC : Nat → ClassId) (dI : Nat → Nat → Nat) {K : Nat} {M : CA} {M2 : MA} {E : (Nat → Prop) → State → Prop} (X : ly_X l dC dI K M E) (X2 : lx_X l dC dI K M2 E) (Xm : lz_miss E) (ou : Nat) (kL : ClassId) {b L : Nat} {xs : Nat → Int32} (hx : p.tables.exec = Jvm.exec) (hb : c.code = b_La_law) (hr : meth.sig.returnType = ret) (hml : c.maxLocals = 8) (hown : s.vm.findClass R_La = some m.cls) (hts : ∀ w ∈ V_Lq, w.before #[Value.ref b] s = true) (hX : va_X b L xs s s.heap) (hbl : b < s.heap.size) (hlocks : meth.locks = false) (hE : E (fun q => s.heap.size ≤ q) s) (hK : va_K (dC, dI) classes (tM M2 ++ ((kL, .long) :: tV M)) s) (cB sB : Nat) {G' : CG} {S' : CS} (hGc : cB + G'.gc ≤ 601024) (hGs : sB + G'.gs ≤ 7293000) : ∀ (k : Nat), ∀ (y_4 : Int32) (Y : CT) (G : CG) (S : CS) (T : MS) (oo : Nat → Int64) (H : Heap) (locs : List Loc) (ls : Array Slot), f_law_33 K L xs k y_4 G S T oo = some (1, G', S') → va_P (dC, dI) classes (wM M2 T ++ ((ou, .inl (kL, 1, .inr (.inl oo))) :: wV M Y G S)) H → va_D (fun q => s.heap.size ≤ q) (wM M2 T ++ ((ou, .inl (kL, 1, .inr (.inl oo))) :: wV M Y G S)) → va_S (fun q => s.heap.size ≤ q) s.heap H locs → lv_has ls 8 [(0, .ref b), (1, .ref M.o_Vt), (2, .ref M2.o), (3, .ref ou), (4, .int y_4)] → W p l e room_1 s m #[Value.ref b] below meth c H locs (cB + G.gc) (sB + G.gs) (lw_Z below #[Value.ref b] s) (F0 m 33 ls []) := by
  have hbA : ¬ s.heap.size ≤ b := Nat.not_le.mpr hbl
  have hA : ∀ q : Nat, s.heap.size ≤ q → s.heap.size ≤ q := fun _ h => h
  have hEw : ∀ (H : Heap) (locs : List Loc), va_S (fun q => s.heap.size ≤ q) s.heap H locs → ∀ U : State, U.heap = H → s.WarmedH U.vm → E (fun q => s.heap.size ≤ q) U := fun H locs hS U hU hW => X.kept _ s U H locs hE hS hU hW
  have hKM := hK.sub (tys' := tM M2) [0, 1, 2, 3, 4, 5, 6, 7, 8, 9, 10, 11, 12, 13, 14, 15, 16, 17, 18, 19, 20, 21, 22, 23, 24, 25, 26] rfl
  have hKV := hK.sub (tys' := tV M) [28, 29, 30] rfl
  have hKH := hK.sub (tys' := ((kL, .long) :: tV M)) [27, 28, 29, 30] rfl
  have hB_1388 : ∀ (rec_33 : Int32 → CG → CS → MS → (Nat → Int64) → Option (Int32 × CG × CS)) (hr_33 : ∀ (y_4 : Int32) (Y : CT) (G : CG) (S : CS) (T : MS) (oo : Nat → Int64) (H : Heap) (locs : List Loc) (ls : Array Slot), rec_33 y_4 G S T oo = some (1, G', S') → va_P (dC, dI) classes (wM M2 T ++ ((ou, .inl (kL, 1, .inr (.inl oo))) :: wV M Y G S)) H → va_D (fun q => s.heap.size ≤ q) (wM M2 T ++ ((ou, .inl (kL, 1, .inr (.inl oo))) :: wV M Y G S)) → va_S (fun q => s.heap.size ≤ q) s.heap H locs → lv_has ls 8 [(0, .ref b), (1, .ref M.o_Vt), (2, .ref M2.o), (3, .ref ou), (4, .int y_4)] → W p l e room_1 s m #[Value.ref b] below meth c H locs (cB + G.gc) (sB + G.gs) (lw_Z below #[Value.ref b] s) (F0 m 33 ls [])) (hm_33 : ∀ (y_4 : Int32) (G : CG) (S : CS) (T : MS) (oo : Nat → Int64) {x : Int32} {G1 : CG} {S1 : CS}, rec_33 y_4 G S T oo = some (x, G1, S1) → CG.le G G1), ∀ (y_4 : Int32) (Y : CT) (G : CG) (S : CS) (T : MS) (oo : Nat → Int64) (H : Heap) (locs : List Loc) (ls : Array Slot), f_law_1388 K L xs rec_33 y_4 G S T oo = some (1, G', S') → va_P (dC, dI) classes (wM M2 T ++ ((ou, .inl (kL, 1, .inr (.inl oo))) :: wV M Y G S)) H → va_D (fun q => s.heap.size ≤ q) (wM M2 T ++ ((ou, .inl (kL, 1, .inr (.inl oo))) :: wV M Y G S)) → va_S (fun q => s.heap.size ≤ q) s.heap H locs → lv_has ls 8 [(0, .ref b), (1, .ref M.o_Vt), (2, .ref M2.o), (3, .ref ou), (4, .int y_4)] → W p l e room_1 s m #[Value.ref b] below meth c H locs (cB + G.gc) (sB + G.gs) (lw_Z below #[Value.ref b] s) (F0 m 1388 ls []) := by
    intro rec_33 hr_33 hm_33 y_4 Y G S T oo H locs ls h hP hD hS hl
    have mF := mo_law_1388 hm_33 h
    rw [f_law_1388] at h
    obtain ⟨x_112, ex_112, h⟩ := lf_lX h
    refine lv_iinc (v := x_112) (lv' := [(4, .int x_112), (0, .ref b), (1, .ref M.o_Vt), (2, .ref M2.o), (3, .ref ou)]) hx hb d_La_law_1388 hl (k := 4) rfl (by rw [ex_112]; rfl) (by decide) rfl (fun ls hl => ?_)
    refine lv_goto (tgt := 33) hx hb d_La_law_1391 (by decide) ?_
    exact hr_33 x_112 Y G S T oo _ _ _ h hP hD hS (lv_sub hl [1, 2, 3, 4, 0] rfl)
  have hB_160 : ∀ (rec_33 : Int32 → CG → CS → MS → (Nat → Int64) → Option (Int32 × CG × CS)) (hr_33 : ∀ (y_4 : Int32) (Y : CT) (G : CG) (S : CS) (T : MS) (oo : Nat → Int64) (H : Heap) (locs : List Loc) (ls : Array Slot), rec_33 y_4 G S T oo = some (1, G', S') → va_P (dC, dI) classes (wM M2 T ++ ((ou, .inl (kL, 1, .inr (.inl oo))) :: wV M Y G S)) H → va_D (fun q => s.heap.size ≤ q) (wM M2 T ++ ((ou, .inl (kL, 1, .inr (.inl oo))) :: wV M Y G S)) → va_S (fun q => s.heap.size ≤ q) s.heap H locs → lv_has ls 8 [(0, .ref b), (1, .ref M.o_Vt), (2, .ref M2.o), (3, .ref ou), (4, .int y_4)] → W p l e room_1 s m #[Value.ref b] below meth c H locs (cB + G.gc) (sB + G.gs) (lw_Z below #[Value.ref b] s) (F0 m 33 ls [])) (hm_33 : ∀ (y_4 : Int32) (G : CG) (S : CS) (T : MS) (oo : Nat → Int64) {x : Int32} {G1 : CG} {S1 : CS}, rec_33 y_4 G S T oo = some (x, G1, S1) → CG.le G G1), ∀ (y_4 : Int32) (Y : CT) (G : CG) (S : CS) (T : MS) (oo : Nat → Int64) (H : Heap) (locs : List Loc) (ls : Array Slot), f_law_160 K L xs rec_33 y_4 G S T oo = some (1, G', S') → va_P (dC, dI) classes (wM M2 T ++ ((ou, .inl (kL, 1, .inr (.inl oo))) :: wV M Y G S)) H → va_D (fun q => s.heap.size ≤ q) (wM M2 T ++ ((ou, .inl (kL, 1, .inr (.inl oo))) :: wV M Y G S)) → va_S (fun q => s.heap.size ≤ q) s.heap H locs → lv_has ls 8 [(0, .ref b), (1, .ref M.o_Vt), (2, .ref M2.o), (3, .ref ou), (4, .int y_4)] → W p l e room_1 s m #[Value.ref b] below meth c H locs (cB + G.gc) (sB + G.gs) (lw_Z below #[Value.ref b] s) (F0 m 160 ls []) := by
    intro rec_33 hr_33 hm_33 y_4 Y G S T oo H locs ls h hP hD hS hl
    have mF := mo_law_160 hm_33 h
    rw [f_law_160] at h
    refine lv_aload_n hx hb d_La_law_160 rfl (lv_at hl 1 rfl) ?_
    refine lv_aload_n hx hb d_La_law_161 rfl (lv_at hl 0 rfl) ?_
    refine lv_iload hx hb d_La_law_162 (lv_at hl 4 rfl) ?_
    refine lv_iconst (v := 1) hx hb d_La_law_164 (by decide) ?_
    refine lv_iadd hx hb d_La_law_165 ?_
    obtain ⟨g_27, h⟩ := lf_gE h
    refine va_sld hx hb hX hbl hbA hS g_27 d_La_law_166 ?_
    refine lv_aload_n hx hb d_La_law_167 rfl (lv_at hl 0 rfl) ?_
    refine lv_iload hx hb d_La_law_168 (lv_at hl 4 rfl) ?_
    refine lv_iconst (v := 2) hx hb d_La_law_170 (by decide) ?_
    refine lv_iadd hx hb d_La_law_171 ?_
    obtain ⟨g_28, h⟩ := lf_gE h
    refine va_sld hx hb hX hbl hbA hS g_28 d_La_law_172 ?_
    refine lv_aload_n hx hb d_La_law_173 rfl (lv_at hl 0 rfl) ?_
    refine lv_iload hx hb d_La_law_174 (lv_at hl 4 rfl) ?_
    refine lv_iconst (v := 3) hx hb d_La_law_176 (by decide) ?_
    refine lv_iadd hx hb d_La_law_177 ?_
    obtain ⟨g_29, h⟩ := lf_gE h
    refine va_sld hx hb hX hbl hbA hS g_29 d_La_law_178 ?_
    refine lv_aload_n hx hb d_La_law_179 rfl (lv_at hl 0 rfl) ?_
    refine lv_iload hx hb d_La_law_180 (lv_at hl 4 rfl) ?_
    refine lv_iconst (v := 4) hx hb d_La_law_182 (by decide) ?_
    refine lv_iadd hx hb d_La_law_183 ?_
    obtain ⟨g_30, h⟩ := lf_gE h
    refine va_sld hx hb hX hbl hbA hS g_30 d_La_law_184 ?_
    refine lv_aload_n hx hb d_La_law_185 rfl (lv_at hl 0 rfl) ?_
    refine lv_iload hx hb d_La_law_186 (lv_at hl 4 rfl) ?_
    refine lv_iconst (v := 5) hx hb d_La_law_188 (by decide) ?_
    refine lv_iadd hx hb d_La_law_189 ?_
    obtain ⟨g_31, h⟩ := lf_gE h
    refine va_sld hx hb hX hbl hbA hS g_31 d_La_law_190 ?_
    obtain ⟨S_32, hc_32, h⟩ := lf_bE h
    have hPa := lw_as hP
    have hDa := lw_asD hD
    have hPc := lw_PR hPa
    have hDc := lw_DR hDa
    have hFc := lx_free hDc hS hA
    refine va_callv (va_runV (As := [.int (xs (y_4 + 1).toNatClampNeg), .int (xs (y_4 + 2).toNatClampNeg), .int (xs (y_4 + 3).toNatClampNeg), .int (xs (y_4 + 4).toNatClampNeg), .int (xs (y_4 + 5).toNatClampNeg)]) (rest := []) ⟨hx, hb, hml, hown, hts⟩ (l_Vt_feed l dC dI X _ hc_32) (cwV 5 hts (gwV good_Lq (u_Lq_La _ k_La_3) (u_Lq_Vt _ k_Vt_45) (u_Lq_Vt _ k_Vt_46) (u_Lq_Vt _ k_Vt_0) (wcs (u_Lq_Vt _ k_Vt_47) u_Lq_Vq)) rfl rfl rfl (by decide +kernel) ⟨Nat.le_of_ble_eq_true rfl, Nat.le_of_ble_eq_true rfl⟩) (pv_ofE (X.same _) (fun U z1 z2 => X.mono _ _ U hFc (hEw _ _ hS U z1 z2)) hPc hKV hDc (va_recv hKV hPc (ci := 11) (q0 := 0) rfl rfl)) rfl rfl hl.1 rfl (lv_room (Nat.le_of_ble_eq_true rfl)) d_La_law_191 ⟨lw_c0 mF.1 hGc, lw_c0 mF.2 hGs⟩) hS (fun q _ h => hFc q h) hFc (fun u t H locs ht hvm hw hB hz1 hk1 hS => ?_)
    obtain ⟨hP1, -, hD1⟩ := hB
    rw [ht] at hP1
    obtain ⟨hP, hD⟩ := lw_jR hPa hDa hk1 hFc hP1 hD1
    have hP := lw_sa hP
    have hD := lw_saD hD
    refine lv_aload_n hx hb d_La_law_194 rfl (lv_at hl 2 rfl) ?_
    refine lv_aload_n hx hb d_La_law_195 rfl (lv_at hl 0 rfl) ?_
    refine lv_iload hx hb d_La_law_196 (lv_at hl 4 rfl) ?_
    refine lv_iconst (v := 1) hx hb d_La_law_198 (by decide) ?_
    refine lv_iadd hx hb d_La_law_199 ?_
    obtain ⟨g_33, h⟩ := lf_gE h
    refine va_sld hx hb hX hbl hbA hS g_33 d_La_law_200 ?_
    refine lv_aload_n hx hb d_La_law_201 rfl (lv_at hl 0 rfl) ?_
    refine lv_iload hx hb d_La_law_202 (lv_at hl 4 rfl) ?_
    refine lv_iconst (v := 2) hx hb d_La_law_204 (by decide) ?_
    refine lv_iadd hx hb d_La_law_205 ?_
    obtain ⟨g_34, h⟩ := lf_gE h
    refine va_sld hx hb hX hbl hbA hS g_34 d_La_law_206 ?_
    refine lv_aload_n hx hb d_La_law_207 rfl (lv_at hl 0 rfl) ?_
    refine lv_iload hx hb d_La_law_208 (lv_at hl 4 rfl) ?_
    refine lv_iconst (v := 3) hx hb d_La_law_210 (by decide) ?_
    refine lv_iadd hx hb d_La_law_211 ?_
    obtain ⟨g_35, h⟩ := lf_gE h
    refine va_sld hx hb hX hbl hbA hS g_35 d_La_law_212 ?_
    refine lv_aload_n hx hb d_La_law_213 rfl (lv_at hl 0 rfl) ?_
    refine lv_iload hx hb d_La_law_214 (lv_at hl 4 rfl) ?_
    refine lv_iconst (v := 4) hx hb d_La_law_216 (by decide) ?_
    refine lv_iadd hx hb d_La_law_217 ?_
    obtain ⟨g_36, h⟩ := lf_gE h
    refine va_sld hx hb hX hbl hbA hS g_36 d_La_law_218 ?_
    refine lv_aload_n hx hb d_La_law_219 rfl (lv_at hl 0 rfl) ?_
    refine lv_iload hx hb d_La_law_220 (lv_at hl 4 rfl) ?_
    refine lv_iconst (v := 5) hx hb d_La_law_222 (by decide) ?_
    refine lv_iadd hx hb d_La_law_223 ?_
    obtain ⟨g_37, h⟩ := lf_gE h
    refine va_sld hx hb hX hbl hbA hS g_37 d_La_law_224 ?_
    obtain ⟨T_38, hc_38, h⟩ := lf_bE h
    have hPc := lw_PL hP
    have hDc := lw_DL hD
    have hFc := lx_free hDc hS hA
    refine va_callv (va_runV (As := [.int (xs (y_4 + 1).toNatClampNeg), .int (xs (y_4 + 2).toNatClampNeg), .int (xs (y_4 + 3).toNatClampNeg), .int (xs (y_4 + 4).toNatClampNeg), .int (xs (y_4 + 5).toNatClampNeg)]) (rest := []) ⟨hx, hb, hml, hown, hts⟩ (l_Mo_feed l dC dI X2 _ hc_38) (cwV 5 hts (gwV good_Lq (u_Lq_La _ k_La_79) (u_Lq_Mo _ k_Mo_76) (u_Lq_Mo _ k_Mo_77) (u_Lq_Mo _ k_Mo_0) (wcs (u_Lq_Mo _ k_Mo_78) u_Lq_Mq)) rfl rfl rfl (by decide +kernel) ⟨Nat.le_of_ble_eq_true rfl, Nat.le_of_ble_eq_true rfl⟩) (pv_ofE (X2.same _) (fun U z1 z2 => X2.mono _ _ U hFc (hEw _ _ hS U z1 z2)) hPc hKM hDc (va_recv hKM hPc (ci := 12) (q0 := 0) rfl rfl)) rfl rfl hl.1 rfl (lv_room (Nat.le_of_ble_eq_true rfl)) d_La_law_225 ⟨lw_c0 mF.1 hGc, lw_c0 mF.2 hGs⟩) hS (fun q _ h => hFc q h) hFc (fun u t H locs ht hvm hw hB hz1 hk1 hS => ?_)
    obtain ⟨hP1, -, hD1⟩ := hB
    rw [ht] at hP1
    obtain ⟨hP, hD⟩ := lw_jL hP hD hk1 hFc hP1 hD1
    refine lv_goto (tgt := 1388) hx hb d_La_law_228 (by decide) ?_
    exact hB_1388 _ hr_33 hm_33 y_4 Y G S_32 T_38 oo _ _ _ h hP hD hS (lv_sub hl [0, 1, 2, 3, 4] rfl)
  have hB_231 : ∀ (rec_33 : Int32 → CG → CS → MS → (Nat → Int64) → Option (Int32 × CG × CS)) (hr_33 : ∀ (y_4 : Int32) (Y : CT) (G : CG) (S : CS) (T : MS) (oo : Nat → Int64) (H : Heap) (locs : List Loc) (ls : Array Slot), rec_33 y_4 G S T oo = some (1, G', S') → va_P (dC, dI) classes (wM M2 T ++ ((ou, .inl (kL, 1, .inr (.inl oo))) :: wV M Y G S)) H → va_D (fun q => s.heap.size ≤ q) (wM M2 T ++ ((ou, .inl (kL, 1, .inr (.inl oo))) :: wV M Y G S)) → va_S (fun q => s.heap.size ≤ q) s.heap H locs → lv_has ls 8 [(0, .ref b), (1, .ref M.o_Vt), (2, .ref M2.o), (3, .ref ou), (4, .int y_4)] → W p l e room_1 s m #[Value.ref b] below meth c H locs (cB + G.gc) (sB + G.gs) (lw_Z below #[Value.ref b] s) (F0 m 33 ls [])) (hm_33 : ∀ (y_4 : Int32) (G : CG) (S : CS) (T : MS) (oo : Nat → Int64) {x : Int32} {G1 : CG} {S1 : CS}, rec_33 y_4 G S T oo = some (x, G1, S1) → CG.le G G1), ∀ (y_4 : Int32) (Y : CT) (G : CG) (S : CS) (T : MS) (oo : Nat → Int64) (H : Heap) (locs : List Loc) (ls : Array Slot), f_law_231 K L xs rec_33 y_4 G S T oo = some (1, G', S') → va_P (dC, dI) classes (wM M2 T ++ ((ou, .inl (kL, 1, .inr (.inl oo))) :: wV M Y G S)) H → va_D (fun q => s.heap.size ≤ q) (wM M2 T ++ ((ou, .inl (kL, 1, .inr (.inl oo))) :: wV M Y G S)) → va_S (fun q => s.heap.size ≤ q) s.heap H locs → lv_has ls 8 [(0, .ref b), (1, .ref M.o_Vt), (2, .ref M2.o), (3, .ref ou), (4, .int y_4)] → W p l e room_1 s m #[Value.ref b] below meth c H locs (cB + G.gc) (sB + G.gs) (lw_Z below #[Value.ref b] s) (F0 m 231 ls []) := by
    intro rec_33 hr_33 hm_33 y_4 Y G S T oo H locs ls h hP hD hS hl
    have mF := mo_law_231 hm_33 h
    rw [f_law_231] at h
    refine lv_aload_n hx hb d_La_law_231 rfl (lv_at hl 1 rfl) ?_
    refine lv_aload_n hx hb d_La_law_232 rfl (lv_at hl 0 rfl) ?_
    refine lv_iload hx hb d_La_law_233 (lv_at hl 4 rfl) ?_
    refine lv_iconst (v := 1) hx hb d_La_law_235 (by decide) ?_
    refine lv_iadd hx hb d_La_law_236 ?_
    obtain ⟨g_39, h⟩ := lf_gE h
    refine va_sld hx hb hX hbl hbA hS g_39 d_La_law_237 ?_
    obtain ⟨r_40, S_40, hc_40, h⟩ := lf_cE h
    have hPa := lw_as hP
    have hDa := lw_asD hD
    have hPc := lw_PR hPa
    have hDc := lw_DR hDa
    have hFc := lx_free hDc hS hA
    refine va_calli (va_runV (As := [.int (xs (y_4 + 1).toNatClampNeg)]) (rest := []) ⟨hx, hb, hml, hown, hts⟩ (l_Vt_end l dC dI X _ hc_40) (cwV 1 hts (gwV good_Lq (u_Lq_La _ k_La_4) (u_Lq_Vt _ k_Vt_49) (u_Lq_Vt _ k_Vt_50) (u_Lq_Vt _ k_Vt_0) (wcs (u_Lq_Vt _ k_Vt_51) u_Lq_Vq)) rfl rfl rfl (by decide +kernel) ⟨Nat.le_of_ble_eq_true rfl, Nat.le_of_ble_eq_true rfl⟩) (pv_ofE (X.same _) (fun U z1 z2 => X.mono _ _ U hFc (hEw _ _ hS U z1 z2)) hPc hKV hDc (va_recv hKV hPc (ci := 11) (q0 := 0) rfl rfl)) rfl rfl hl.1 rfl (lv_room (Nat.le_of_ble_eq_true rfl)) d_La_law_238 ⟨lw_c0 mF.1 hGc, lw_c0 mF.2 hGs⟩) hS (fun q _ h => hFc q h) hFc (fun r_ u t H locs ht hvm hw hB hz1 hk1 hS => ?_)
    rw [hw]
    obtain ⟨hP1, -, hD1⟩ := hB
    rw [ht] at hP1
    obtain ⟨hP, hD⟩ := lw_jR hPa hDa hk1 hFc hP1 hD1
    have hP := lw_sa hP
    have hD := lw_saD hD
    refine lv_aload_n hx hb d_La_law_241 rfl (lv_at hl 2 rfl) ?_
    refine lv_aload_n hx hb d_La_law_242 rfl (lv_at hl 0 rfl) ?_
    refine lv_iload hx hb d_La_law_243 (lv_at hl 4 rfl) ?_
    refine lv_iconst (v := 1) hx hb d_La_law_245 (by decide) ?_
    refine lv_iadd hx hb d_La_law_246 ?_
    obtain ⟨g_41, h⟩ := lf_gE h
    refine va_sld hx hb hX hbl hbA hS g_41 d_La_law_247 ?_
    obtain ⟨r_42, T_42, hc_42, h⟩ := lf_cE h
    have hPc := lw_PL hP
    have hDc := lw_DL hD
    have hFc := lx_free hDc hS hA
    refine va_calli (va_runV (As := [.int (xs (y_4 + 1).toNatClampNeg)]) (rest := [.int r_40]) ⟨hx, hb, hml, hown, hts⟩ (l_Mo_end l dC dI X2 _ hc_42) (cwV 1 hts (gwV good_Lq (u_Lq_La _ k_La_80) (u_Lq_Mo _ k_Mo_79) (u_Lq_Mo _ k_Mo_80) (u_Lq_Mo _ k_Mo_0) (wcs (u_Lq_Mo _ k_Mo_81) u_Lq_Mq)) rfl rfl rfl (by decide +kernel) ⟨Nat.le_of_ble_eq_true rfl, Nat.le_of_ble_eq_true rfl⟩) (pv_ofE (X2.same _) (fun U z1 z2 => X2.mono _ _ U hFc (hEw _ _ hS U z1 z2)) hPc hKM hDc (va_recv hKM hPc (ci := 12) (q0 := 0) rfl rfl)) rfl rfl hl.1 rfl (lv_room (Nat.le_of_ble_eq_true rfl)) d_La_law_248 ⟨lw_c0 mF.1 hGc, lw_c0 mF.2 hGs⟩) hS (fun q _ h => hFc q h) hFc (fun r_ u t H locs ht hvm hw hB hz1 hk1 hS => ?_)
    rw [hw]
    obtain ⟨hP1, -, hD1⟩ := hB
    rw [ht] at hP1
    obtain ⟨hP, hD⟩ := lw_jL hP hD hk1 hFc hP1 hD1
    refine lv_icmp_eq (tgt := 1388) hx hb d_La_law_251 (by decide) (fun c_43 => ?_) (fun c_43 => ?_)
    · have h := lf_t h c_43
      exact hB_1388 _ hr_33 hm_33 y_4 Y G S_40 T_42 oo _ _ _ h hP hD hS (lv_sub hl [0, 1, 2, 3, 4] rfl)
    · have h := lf_f h c_43
      refine lv_iconst (v := 0) hx hb d_La_law_254 (by decide) ?_
      exact lf_01 h
  have hB_256 : ∀ (rec_33 : Int32 → CG → CS → MS → (Nat → Int64) → Option (Int32 × CG × CS)) (hr_33 : ∀ (y_4 : Int32) (Y : CT) (G : CG) (S : CS) (T : MS) (oo : Nat → Int64) (H : Heap) (locs : List Loc) (ls : Array Slot), rec_33 y_4 G S T oo = some (1, G', S') → va_P (dC, dI) classes (wM M2 T ++ ((ou, .inl (kL, 1, .inr (.inl oo))) :: wV M Y G S)) H → va_D (fun q => s.heap.size ≤ q) (wM M2 T ++ ((ou, .inl (kL, 1, .inr (.inl oo))) :: wV M Y G S)) → va_S (fun q => s.heap.size ≤ q) s.heap H locs → lv_has ls 8 [(0, .ref b), (1, .ref M.o_Vt), (2, .ref M2.o), (3, .ref ou), (4, .int y_4)] → W p l e room_1 s m #[Value.ref b] below meth c H locs (cB + G.gc) (sB + G.gs) (lw_Z below #[Value.ref b] s) (F0 m 33 ls [])) (hm_33 : ∀ (y_4 : Int32) (G : CG) (S : CS) (T : MS) (oo : Nat → Int64) {x : Int32} {G1 : CG} {S1 : CS}, rec_33 y_4 G S T oo = some (x, G1, S1) → CG.le G G1), ∀ (y_4 : Int32) (Y : CT) (G : CG) (S : CS) (T : MS) (oo : Nat → Int64) (H : Heap) (locs : List Loc) (ls : Array Slot), f_law_256 K L xs rec_33 y_4 G S T oo = some (1, G', S') → va_P (dC, dI) classes (wM M2 T ++ ((ou, .inl (kL, 1, .inr (.inl oo))) :: wV M Y G S)) H → va_D (fun q => s.heap.size ≤ q) (wM M2 T ++ ((ou, .inl (kL, 1, .inr (.inl oo))) :: wV M Y G S)) → va_S (fun q => s.heap.size ≤ q) s.heap H locs → lv_has ls 8 [(0, .ref b), (1, .ref M.o_Vt), (2, .ref M2.o), (3, .ref ou), (4, .int y_4)] → W p l e room_1 s m #[Value.ref b] below meth c H locs (cB + G.gc) (sB + G.gs) (lw_Z below #[Value.ref b] s) (F0 m 256 ls []) := by
    intro rec_33 hr_33 hm_33 y_4 Y G S T oo H locs ls h hP hD hS hl
    have mF := mo_law_256 hm_33 h
    rw [f_law_256] at h
    refine lv_aload_n hx hb d_La_law_256 rfl (lv_at hl 1 rfl) ?_
    obtain ⟨S_44, hc_44, h⟩ := lf_bE h
    have hPa := lw_as hP
    have hDa := lw_asD hD
    have hPc := lw_PR hPa
    have hDc := lw_DR hDa
    have hFc := lx_free hDc hS hA
    refine va_callv (va_runV (As := []) (rest := []) ⟨hx, hb, hml, hown, hts⟩ (l_Vt_clear l dC dI X _ hc_44) (cwV 0 hts (gwV good_Lq (u_Lq_La _ k_La_5) (u_Lq_Vt _ k_Vt_53) (u_Lq_Vt _ k_Vt_54) (u_Lq_Vt _ k_Vt_0) (wcs (u_Lq_Vt _ k_Vt_55) u_Lq_Vq)) rfl rfl rfl (by decide +kernel) ⟨Nat.le_of_ble_eq_true rfl, Nat.le_of_ble_eq_true rfl⟩) (pv_ofE (X.same _) (fun U z1 z2 => X.mono _ _ U hFc (hEw _ _ hS U z1 z2)) hPc hKV hDc (va_recv hKV hPc (ci := 11) (q0 := 0) rfl rfl)) rfl rfl hl.1 rfl (lv_room (Nat.le_of_ble_eq_true rfl)) d_La_law_257 ⟨lw_c0 mF.1 hGc, lw_c0 mF.2 hGs⟩) hS (fun q _ h => hFc q h) hFc (fun u t H locs ht hvm hw hB hz1 hk1 hS => ?_)
    obtain ⟨hP1, -, hD1⟩ := hB
    rw [ht] at hP1
    obtain ⟨hP, hD⟩ := lw_jR hPa hDa hk1 hFc hP1 hD1
    have hP := lw_sa hP
    have hD := lw_saD hD
    refine lv_aload_n hx hb d_La_law_260 rfl (lv_at hl 2 rfl) ?_
    obtain ⟨T_45, hc_45, h⟩ := lf_bE h
    have hPc := lw_PL hP
    have hDc := lw_DL hD
    have hFc := lx_free hDc hS hA
    refine va_callv (va_runV (As := []) (rest := []) ⟨hx, hb, hml, hown, hts⟩ (l_Mo_clear l dC dI X2 _ hc_45) (cwV 0 hts (gwV good_Lq (u_Lq_La _ k_La_81) (u_Lq_Mo _ k_Mo_82) (u_Lq_Mo _ k_Mo_83) (u_Lq_Mo _ k_Mo_0) (wcs (u_Lq_Mo _ k_Mo_84) u_Lq_Mq)) rfl rfl rfl (by decide +kernel) ⟨Nat.le_of_ble_eq_true rfl, Nat.le_of_ble_eq_true rfl⟩) (pv_ofE (X2.same _) (fun U z1 z2 => X2.mono _ _ U hFc (hEw _ _ hS U z1 z2)) hPc hKM hDc (va_recv hKM hPc (ci := 12) (q0 := 0) rfl rfl)) rfl rfl hl.1 rfl (lv_room (Nat.le_of_ble_eq_true rfl)) d_La_law_261 ⟨lw_c0 mF.1 hGc, lw_c0 mF.2 hGs⟩) hS (fun q _ h => hFc q h) hFc (fun u t H locs ht hvm hw hB hz1 hk1 hS => ?_)
    obtain ⟨hP1, -, hD1⟩ := hB
    rw [ht] at hP1
    obtain ⟨hP, hD⟩ := lw_jL hP hD hk1 hFc hP1 hD1
    refine lv_goto (tgt := 1388) hx hb d_La_law_264 (by decide) ?_
    exact hB_1388 _ hr_33 hm_33 y_4 Y G S_44 T_45 oo _ _ _ h hP hD hS (lv_sub hl [0, 1, 2, 3, 4] rfl)
  have hB_356 : ∀ (rec_33 : Int32 → CG → CS → MS → (Nat → Int64) → Option (Int32 × CG × CS)) (hr_33 : ∀ (y_4 : Int32) (Y : CT) (G : CG) (S : CS) (T : MS) (oo : Nat → Int64) (H : Heap) (locs : List Loc) (ls : Array Slot), rec_33 y_4 G S T oo = some (1, G', S') → va_P (dC, dI) classes (wM M2 T ++ ((ou, .inl (kL, 1, .inr (.inl oo))) :: wV M Y G S)) H → va_D (fun q => s.heap.size ≤ q) (wM M2 T ++ ((ou, .inl (kL, 1, .inr (.inl oo))) :: wV M Y G S)) → va_S (fun q => s.heap.size ≤ q) s.heap H locs → lv_has ls 8 [(0, .ref b), (1, .ref M.o_Vt), (2, .ref M2.o), (3, .ref ou), (4, .int y_4)] → W p l e room_1 s m #[Value.ref b] below meth c H locs (cB + G.gc) (sB + G.gs) (lw_Z below #[Value.ref b] s) (F0 m 33 ls [])) (hm_33 : ∀ (y_4 : Int32) (G : CG) (S : CS) (T : MS) (oo : Nat → Int64) {x : Int32} {G1 : CG} {S1 : CS}, rec_33 y_4 G S T oo = some (x, G1, S1) → CG.le G G1), ∀ (y_4 : Int32) (Y : CT) (G : CG) (S : CS) (T : MS) (oo : Nat → Int64) (H : Heap) (locs : List Loc) (ls : Array Slot), f_law_356 K L xs rec_33 y_4 G S T oo = some (1, G', S') → va_P (dC, dI) classes (wM M2 T ++ ((ou, .inl (kL, 1, .inr (.inl oo))) :: wV M Y G S)) H → va_D (fun q => s.heap.size ≤ q) (wM M2 T ++ ((ou, .inl (kL, 1, .inr (.inl oo))) :: wV M Y G S)) → va_S (fun q => s.heap.size ≤ q) s.heap H locs → lv_has ls 8 [(0, .ref b), (1, .ref M.o_Vt), (2, .ref M2.o), (3, .ref ou), (4, .int y_4)] → W p l e room_1 s m #[Value.ref b] below meth c H locs (cB + G.gc) (sB + G.gs) (lw_Z below #[Value.ref b] s) (F0 m 356 ls []) := by
    intro rec_33 hr_33 hm_33 y_4 Y G S T oo H locs ls h hP hD hS hl
    have mF := mo_law_356 hm_33 h
    rw [f_law_356] at h
    refine lv_goto (tgt := 1388) hx hb d_La_law_356 (by decide) ?_
    exact hB_1388 _ hr_33 hm_33 y_4 Y G S T oo _ _ _ h hP hD hS (lv_sub hl [0, 1, 2, 3, 4] rfl)
  have hB_296 : ∀ (rec_33 : Int32 → CG → CS → MS → (Nat → Int64) → Option (Int32 × CG × CS)) (hr_33 : ∀ (y_4 : Int32) (Y : CT) (G : CG) (S : CS) (T : MS) (oo : Nat → Int64) (H : Heap) (locs : List Loc) (ls : Array Slot), rec_33 y_4 G S T oo = some (1, G', S') → va_P (dC, dI) classes (wM M2 T ++ ((ou, .inl (kL, 1, .inr (.inl oo))) :: wV M Y G S)) H → va_D (fun q => s.heap.size ≤ q) (wM M2 T ++ ((ou, .inl (kL, 1, .inr (.inl oo))) :: wV M Y G S)) → va_S (fun q => s.heap.size ≤ q) s.heap H locs → lv_has ls 8 [(0, .ref b), (1, .ref M.o_Vt), (2, .ref M2.o), (3, .ref ou), (4, .int y_4)] → W p l e room_1 s m #[Value.ref b] below meth c H locs (cB + G.gc) (sB + G.gs) (lw_Z below #[Value.ref b] s) (F0 m 33 ls [])) (hm_33 : ∀ (y_4 : Int32) (G : CG) (S : CS) (T : MS) (oo : Nat → Int64) {x : Int32} {G1 : CG} {S1 : CS}, rec_33 y_4 G S T oo = some (x, G1, S1) → CG.le G G1), ∀ (y_4 : Int32) (z_0 : Int32) (Y : CT) (G : CG) (S : CS) (T : MS) (oo : Nat → Int64) (H : Heap) (locs : List Loc) (ls : Array Slot), f_law_296 K L xs rec_33 y_4 z_0 G S T oo = some (1, G', S') → va_P (dC, dI) classes (wM M2 T ++ ((ou, .inl (kL, 1, .inr (.inl oo))) :: wV M Y G S)) H → va_D (fun q => s.heap.size ≤ q) (wM M2 T ++ ((ou, .inl (kL, 1, .inr (.inl oo))) :: wV M Y G S)) → va_S (fun q => s.heap.size ≤ q) s.heap H locs → lv_has ls 8 [(0, .ref b), (1, .ref M.o_Vt), (2, .ref M2.o), (3, .ref ou), (4, .int y_4)] → W p l e room_1 s m #[Value.ref b] below meth c H locs (cB + G.gc) (sB + G.gs) (lw_Z below #[Value.ref b] s) (F0 m 296 ls [.int z_0]) := by
    intro rec_33 hr_33 hm_33 y_4 z_0 Y G S T oo H locs ls h hP hD hS hl
    have mF := mo_law_296 hm_33 h
    rw [f_law_296] at h
    refine lv_istore (lv' := [(5, .int z_0), (0, .ref b), (1, .ref M.o_Vt), (2, .ref M2.o), (3, .ref ou), (4, .int y_4)]) hx hb d_La_law_296 hl (by decide) rfl (fun ls hl => ?_)
    refine lv_aload_n hx hb d_La_law_298 rfl (lv_at hl 3 rfl) ?_
    refine lv_aload_n hx hb d_La_law_299 rfl (lv_at hl 1 rfl) ?_
    refine lv_iload hx hb d_La_law_300 (lv_at hl 5 rfl) ?_
    refine lv_iconst (v := 1) hx hb d_La_law_302 (by decide) ?_
    refine lv_iadd hx hb d_La_law_303 ?_
    obtain ⟨g_113, h⟩ := lf_gE h
    refine va_sld hx hb hX hbl hbA hS g_113 d_La_law_304 ?_
    refine lv_aload_n hx hb d_La_law_305 rfl (lv_at hl 1 rfl) ?_
    refine lv_iload hx hb d_La_law_306 (lv_at hl 5 rfl) ?_
    refine lv_iconst (v := 2) hx hb d_La_law_308 (by decide) ?_
    refine lv_iadd hx hb d_La_law_309 ?_
    obtain ⟨g_114, h⟩ := lf_gE h
    refine va_sld hx hb hX hbl hbA hS g_114 d_La_law_310 ?_
    refine lv_aload_n hx hb d_La_law_311 rfl (lv_at hl 1 rfl) ?_
    refine lv_iload hx hb d_La_law_312 (lv_at hl 5 rfl) ?_
    refine lv_iconst (v := 3) hx hb d_La_law_314 (by decide) ?_
    refine lv_iadd hx hb d_La_law_315 ?_
    obtain ⟨g_115, h⟩ := lf_gE h
    refine va_sld hx hb hX hbl hbA hS g_115 d_La_law_316 ?_
    refine lv_aload_n hx hb d_La_law_317 rfl (lv_at hl 1 rfl) ?_
    refine lv_iload hx hb d_La_law_318 (lv_at hl 5 rfl) ?_
    refine lv_iconst (v := 4) hx hb d_La_law_320 (by decide) ?_
    refine lv_iadd hx hb d_La_law_321 ?_
    obtain ⟨g_116, h⟩ := lf_gE h
    refine va_sld hx hb hX hbl hbA hS g_116 d_La_law_322 ?_
    obtain ⟨r_117, T_117, hc_117, h⟩ := lf_cE h
    have hPc := lw_PL hP
    have hDc := lw_DL hD
    have hFc := lx_free hDc hS hA
    refine va_calli (va_runV (As := [.int (xs (y_4 + 1).toNatClampNeg), .int (xs (y_4 + 2).toNatClampNeg), .int (xs (y_4 + 3).toNatClampNeg), .int (xs (y_4 + 4).toNatClampNeg)]) (rest := []) ⟨hx, hb, hml, hown, hts⟩ (l_Mo_format l dC dI X2 _ hc_117) (cwV 4 hts (gwV good_Lq (u_Lq_La _ k_La_86) (u_Lq_Mo _ k_Mo_211) (u_Lq_Mo _ k_Mo_212) (u_Lq_Mo _ k_Mo_0) (wcs (u_Lq_Mo _ k_Mo_213) u_Lq_Mq)) rfl rfl rfl (by decide +kernel) ⟨Nat.le_of_ble_eq_true rfl, Nat.le_of_ble_eq_true rfl⟩) (pv_ofE (X2.same _) (fun U z1 z2 => X2.mono _ _ U hFc (hEw _ _ hS U z1 z2)) hPc hKM hDc (va_recv hKM hPc (ci := 12) (q0 := 0) rfl rfl)) rfl rfl hl.1 rfl (lv_room (Nat.le_of_ble_eq_true rfl)) d_La_law_323 ⟨lw_c0 mF.1 hGc, lw_c0 mF.2 hGs⟩) hS (fun q _ h => hFc q h) hFc (fun r_ u t H locs ht hvm hw hB hz1 hk1 hS => ?_)
    rw [hw]
    obtain ⟨hP1, -, hD1⟩ := hB
    rw [ht] at hP1
    obtain ⟨hP, hD⟩ := lw_jL hP hD hk1 hFc hP1 hD1
    refine lv_istore (lv' := [(6, .int r_117), (5, .int z_0), (0, .ref b), (1, .ref M.o_Vt), (2, .ref M2.o), (3, .ref ou), (4, .int y_4)]) hx hb d_La_law_326 hl (by decide) rfl (fun ls hl => ?_)
    refine lv_aload_n hx hb d_La_law_328 rfl (lv_at hl 4 rfl) ?_
    obtain ⟨r_118, T_118, hc_118, h⟩ := lf_cE h
    have hPc := lw_PL hP
    have hDc := lw_DL hD
    have hFc := lx_free hDc hS hA
    refine va_calli (va_runV (As := []) (rest := []) ⟨hx, hb, hml, hown, hts⟩ (l_Mo_thrown l dC dI X2 _ hc_118) (cwV 0 hts (gwV good_Lq (u_Lq_La _ k_La_78) (u_Lq_Mo _ k_Mo_73) (u_Lq_Mo _ k_Mo_74) (u_Lq_Mo _ k_Mo_0) (wcs (u_Lq_Mo _ k_Mo_75) u_Lq_Mq)) rfl rfl rfl (by decide +kernel) ⟨Nat.le_of_ble_eq_true rfl, Nat.le_of_ble_eq_true rfl⟩) (pv_ofE (X2.same _) (fun U z1 z2 => X2.mono _ _ U hFc (hEw _ _ hS U z1 z2)) hPc hKM hDc (va_recv hKM hPc (ci := 12) (q0 := 0) rfl rfl)) rfl rfl hl.1 rfl (lv_room (Nat.le_of_ble_eq_true rfl)) d_La_law_329 ⟨lw_c0 mF.1 hGc, lw_c0 mF.2 hGs⟩) hS (fun q _ h => hFc q h) hFc (fun r_ u t H locs ht hvm hw hB hz1 hk1 hS => ?_)
    rw [hw]
    obtain ⟨hP1, -, hD1⟩ := hB
    rw [ht] at hP1
    obtain ⟨hP, hD⟩ := lw_jL hP hD hk1 hFc hP1 hD1
    refine lv_iload hx hb d_La_law_332 (lv_at hl 1 rfl) ?_
    refine lv_icmp_eq (tgt := 339) hx hb d_La_law_334 (by decide) (fun c_119 => ?_) (fun c_119 => ?_)
    · have h := lf_t h c_119
      refine lv_iload hx hb d_La_law_339 (lv_at hl 1 rfl) ?_
      refine lv_if_ne (tgt := 356) hx hb d_La_law_341 (by decide) (fun c_120 => ?_) (fun c_120 => ?_)
      · have h := lf_f h c_120
        exact hB_356 _ hr_33 hm_33 y_4 Y G S T_118 oo _ _ _ h hP hD hS (lv_sub hl [2, 3, 4, 5, 6] rfl)
      · have h := lf_t h c_120
        refine lv_aload_n hx hb d_La_law_344 rfl (lv_at hl 5 rfl) ?_
        refine lv_iconst (v := 0) hx hb d_La_law_345 (by decide) ?_
        refine va_lald hx hb hK hP 28 27 rfl rfl (by unfold vp_in; decide) d_La_law_346 ?_
        refine lv_iload hx hb d_La_law_347 (lv_at hl 0 rfl) ?_
        refine lv_i2l hx hb d_La_law_349 rfl ?_
        refine W.lcmp hx hb d_La_law_350 ?_
        refine lv_if_eq (tgt := 356) hx hb d_La_law_351 (by decide) (fun c_121 => ?_) (fun c_121 => ?_)
        · have h := lf_t h c_121
          exact hB_356 _ hr_33 hm_33 y_4 Y G S T_118 oo _ _ _ h hP hD hS (lv_sub hl [2, 3, 4, 5, 6] rfl)
        · have h := lf_f h c_121
          refine lv_iconst (v := 0) hx hb d_La_law_354 (by decide) ?_
          exact lf_01 h
    · have h := lf_f h c_119
      refine lv_iconst (v := 0) hx hb d_La_law_337 (by decide) ?_
      exact lf_01 h
  have hB_267 : ∀ (rec_33 : Int32 → CG → CS → MS → (Nat → Int64) → Option (Int32 × CG × CS)) (hr_33 : ∀ (y_4 : Int32) (Y : CT) (G : CG) (S : CS) (T : MS) (oo : Nat → Int64) (H : Heap) (locs : List Loc) (ls : Array Slot), rec_33 y_4 G S T oo = some (1, G', S') → va_P (dC, dI) classes (wM M2 T ++ ((ou, .inl (kL, 1, .inr (.inl oo))) :: wV M Y G S)) H → va_D (fun q => s.heap.size ≤ q) (wM M2 T ++ ((ou, .inl (kL, 1, .inr (.inl oo))) :: wV M Y G S)) → va_S (fun q => s.heap.size ≤ q) s.heap H locs → lv_has ls 8 [(0, .ref b), (1, .ref M.o_Vt), (2, .ref M2.o), (3, .ref ou), (4, .int y_4)] → W p l e room_1 s m #[Value.ref b] below meth c H locs (cB + G.gc) (sB + G.gs) (lw_Z below #[Value.ref b] s) (F0 m 33 ls [])) (hm_33 : ∀ (y_4 : Int32) (G : CG) (S : CS) (T : MS) (oo : Nat → Int64) {x : Int32} {G1 : CG} {S1 : CS}, rec_33 y_4 G S T oo = some (x, G1, S1) → CG.le G G1), ∀ (y_4 : Int32) (Y : CT) (G : CG) (S : CS) (T : MS) (oo : Nat → Int64) (H : Heap) (locs : List Loc) (ls : Array Slot), f_law_267 K L xs rec_33 y_4 G S T oo = some (1, G', S') → va_P (dC, dI) classes (wM M2 T ++ ((ou, .inl (kL, 1, .inr (.inl oo))) :: wV M Y G S)) H → va_D (fun q => s.heap.size ≤ q) (wM M2 T ++ ((ou, .inl (kL, 1, .inr (.inl oo))) :: wV M Y G S)) → va_S (fun q => s.heap.size ≤ q) s.heap H locs → lv_has ls 8 [(0, .ref b), (1, .ref M.o_Vt), (2, .ref M2.o), (3, .ref ou), (4, .int y_4)] → W p l e room_1 s m #[Value.ref b] below meth c H locs (cB + G.gc) (sB + G.gs) (lw_Z below #[Value.ref b] s) (F0 m 267 ls []) := by
    intro rec_33 hr_33 hm_33 y_4 Y G S T oo H locs ls h hP hD hS hl
    have mF := mo_law_267 hm_33 h
    rw [f_law_267] at h
    refine lv_aload_n hx hb d_La_law_267 rfl (lv_at hl 1 rfl) ?_
    refine lv_aload_n hx hb d_La_law_268 rfl (lv_at hl 0 rfl) ?_
    refine lv_iload hx hb d_La_law_269 (lv_at hl 4 rfl) ?_
    refine lv_iconst (v := 1) hx hb d_La_law_271 (by decide) ?_
    refine lv_iadd hx hb d_La_law_272 ?_
    obtain ⟨g_46, h⟩ := lf_gE h
    refine va_sld hx hb hX hbl hbA hS g_46 d_La_law_273 ?_
    refine lv_aload_n hx hb d_La_law_274 rfl (lv_at hl 0 rfl) ?_
    refine lv_iload hx hb d_La_law_275 (lv_at hl 4 rfl) ?_
    refine lv_iconst (v := 2) hx hb d_La_law_277 (by decide) ?_
    refine lv_iadd hx hb d_La_law_278 ?_
    obtain ⟨g_47, h⟩ := lf_gE h
    refine va_sld hx hb hX hbl hbA hS g_47 d_La_law_279 ?_
    refine lv_aload_n hx hb d_La_law_280 rfl (lv_at hl 0 rfl) ?_
    refine lv_iload hx hb d_La_law_281 (lv_at hl 4 rfl) ?_
    refine lv_iconst (v := 3) hx hb d_La_law_283 (by decide) ?_
    refine lv_iadd hx hb d_La_law_284 ?_
    obtain ⟨g_48, h⟩ := lf_gE h
    refine va_sld hx hb hX hbl hbA hS g_48 d_La_law_285 ?_
    refine lv_aload_n hx hb d_La_law_286 rfl (lv_at hl 0 rfl) ?_
    refine lv_iload hx hb d_La_law_287 (lv_at hl 4 rfl) ?_
    refine lv_iconst (v := 4) hx hb d_La_law_289 (by decide) ?_
    refine lv_iadd hx hb d_La_law_290 ?_
    obtain ⟨g_49, h⟩ := lf_gE h
    refine va_sld hx hb hX hbl hbA hS g_49 d_La_law_291 ?_
    refine lv_aload_n hx hb d_La_law_292 rfl (lv_at hl 3 rfl) ?_
    rcases lf_hE h with ⟨r_50, G_50, S_50, hc_50, h⟩ | ⟨k_50, G_50, S_50, hc_50, h⟩
    · obtain ⟨oo_50, eo_50, h⟩ := lf_lX h
      have ml_50 := mo_Vt_format hc_50
      have mc := mo_Vt_format hc_50
      have mF1 := mo_law_296 hm_33 h
      have hPa := hP
      have hDa := hD
      have hPc := lw_PR hPa
      have hDc := lw_DR hDa
      have hFc := lx_free hDc hS hA
      refine va_calli (x_runSW (handlers := [(0, 14, 17, 13)]) (bytes := b_La_format) (maxL := 7) (ret := (some .int)) (n := 6) (index := 93) (As := [.ref M.o_Vt, .int (xs (y_4 + 1).toNatClampNeg), .int (xs (y_4 + 2).toNatClampNeg), .int (xs (y_4 + 3).toNatClampNeg), .int (xs (y_4 + 4).toNatClampNeg), .ref ou]) (rest := []) ⟨hx, hb, hml, hown, hts⟩ (la_format_ok l hfl dC dI X _ ou kL oo hc_50) rfl rfl (Nat.le_of_ble_eq_true rfl) (Nat.le_of_ble_eq_true rfl) (pay_in hts (fun w h => good_Lq w (wcs (u_Lq_La _ k_La_18) (fun _ h => h) w h))) List.mem_cons_self (hts _ (u_Lq_La _ k_La_0)) ⟨(by decide), (by decide)⟩ (hlen_of (by decide +kernel)) (hts _ (u_Lq_La _ k_La_16)) (hts _ (u_Lq_La _ k_La_17)) (ps_ofE (X.same _) (fun U z1 z2 => X.mono _ _ U hFc (hEw _ _ hS U z1 z2)) hPc hKH hDc) rfl rfl hl.1 rfl (lv_room (Nat.le_of_ble_eq_true rfl)) d_La_law_293 ⟨lw_c1 mc.1 mF1.1 hGc, lw_c1 mc.2 mF1.2 hGs⟩) hS (fun q _ h => hFc q h) hFc (fun r_ Y_50 t H locs ht hvm hw hB hz1 hk1 hS => ?_)
      rw [hw]
      obtain ⟨hP1, -, hD1⟩ := hB
      rw [ht] at hP1
      rw [← eo_50] at hP1 hD1
      obtain ⟨hP, hD⟩ := lw_jR hPa hDa hk1 hFc hP1 hD1
      refine W.widen (k := cB + G_50.gc) (n := sB + G_50.gs) (lw_c2 mc.1) (lw_c2 mc.2) ?_
      exact hB_296 _ hr_33 hm_33 y_4 0 Y_50 G_50 S_50 T oo_50 _ _ _ h hP hD hS (lv_sub hl [0, 1, 2, 3, 4] rfl)
    · by_cases c_50_0 : k_50 = 0
      · have h := lf_t h c_50_0
        rw [c_50_0] at hc_50
        have ml_50 := mo_Vt_format hc_50
        have mc := mo_Vt_format hc_50
        have mF1 := mo_law_296 hm_33 h
        have hPa := hP
        have hDa := hD
        have hPc := lw_PR hPa
        have hDc := lw_DR hDa
        have hFc := lx_free hDc hS hA
        refine va_calli (x_runSW (handlers := [(0, 14, 17, 13)]) (bytes := b_La_format) (maxL := 7) (ret := (some .int)) (n := 6) (index := 93) (As := [.ref M.o_Vt, .int (xs (y_4 + 1).toNatClampNeg), .int (xs (y_4 + 2).toNatClampNeg), .int (xs (y_4 + 3).toNatClampNeg), .int (xs (y_4 + 4).toNatClampNeg), .ref ou]) (rest := []) ⟨hx, hb, hml, hown, hts⟩ (la_format_0 l hfl dC dI X _ ou kL oo hc_50) rfl rfl (Nat.le_of_ble_eq_true rfl) (Nat.le_of_ble_eq_true rfl) (pay_in hts (fun w h => good_Lq w (wcs (u_Lq_La _ k_La_18) (fun _ h => h) w h))) List.mem_cons_self (hts _ (u_Lq_La _ k_La_0)) ⟨(by decide), (by decide)⟩ (hlen_of (by decide +kernel)) (hts _ (u_Lq_La _ k_La_16)) (hts _ (u_Lq_La _ k_La_17)) (ps_ofE (X.same _) (fun U z1 z2 => X.mono _ _ U hFc (hEw _ _ hS U z1 z2)) hPc hKH hDc) rfl rfl hl.1 rfl (lv_room (Nat.le_of_ble_eq_true rfl)) d_La_law_293 ⟨lw_c1 mc.1 mF1.1 hGc, lw_c1 mc.2 mF1.2 hGs⟩) hS (fun q _ h => hFc q h) hFc (fun r_ Y_50 t H locs ht hvm hw hB hz1 hk1 hS => ?_)
        rw [hw]
        obtain ⟨hP1, -, hD1⟩ := hB
        rw [ht] at hP1
        obtain ⟨hP, hD⟩ := lw_jR hPa hDa hk1 hFc hP1 hD1
        refine W.widen (k := cB + G_50.gc) (n := sB + G_50.gs) (lw_c2 mc.1) (lw_c2 mc.2) ?_
        exact hB_296 _ hr_33 hm_33 y_4 1 Y_50 G_50 S_50 T oo _ _ _ h hP hD hS (lv_sub hl [0, 1, 2, 3, 4] rfl)
      · have h := lf_f h c_50_0
        exact lf_no h
  have hB_359 : ∀ (rec_33 : Int32 → CG → CS → MS → (Nat → Int64) → Option (Int32 × CG × CS)) (hr_33 : ∀ (y_4 : Int32) (Y : CT) (G : CG) (S : CS) (T : MS) (oo : Nat → Int64) (H : Heap) (locs : List Loc) (ls : Array Slot), rec_33 y_4 G S T oo = some (1, G', S') → va_P (dC, dI) classes (wM M2 T ++ ((ou, .inl (kL, 1, .inr (.inl oo))) :: wV M Y G S)) H → va_D (fun q => s.heap.size ≤ q) (wM M2 T ++ ((ou, .inl (kL, 1, .inr (.inl oo))) :: wV M Y G S)) → va_S (fun q => s.heap.size ≤ q) s.heap H locs → lv_has ls 8 [(0, .ref b), (1, .ref M.o_Vt), (2, .ref M2.o), (3, .ref ou), (4, .int y_4)] → W p l e room_1 s m #[Value.ref b] below meth c H locs (cB + G.gc) (sB + G.gs) (lw_Z below #[Value.ref b] s) (F0 m 33 ls [])) (hm_33 : ∀ (y_4 : Int32) (G : CG) (S : CS) (T : MS) (oo : Nat → Int64) {x : Int32} {G1 : CG} {S1 : CS}, rec_33 y_4 G S T oo = some (x, G1, S1) → CG.le G G1), ∀ (y_4 : Int32) (Y : CT) (G : CG) (S : CS) (T : MS) (oo : Nat → Int64) (H : Heap) (locs : List Loc) (ls : Array Slot), f_law_359 K L xs rec_33 y_4 G S T oo = some (1, G', S') → va_P (dC, dI) classes (wM M2 T ++ ((ou, .inl (kL, 1, .inr (.inl oo))) :: wV M Y G S)) H → va_D (fun q => s.heap.size ≤ q) (wM M2 T ++ ((ou, .inl (kL, 1, .inr (.inl oo))) :: wV M Y G S)) → va_S (fun q => s.heap.size ≤ q) s.heap H locs → lv_has ls 8 [(0, .ref b), (1, .ref M.o_Vt), (2, .ref M2.o), (3, .ref ou), (4, .int y_4)] → W p l e room_1 s m #[Value.ref b] below meth c H locs (cB + G.gc) (sB + G.gs) (lw_Z below #[Value.ref b] s) (F0 m 359 ls []) := by
    intro rec_33 hr_33 hm_33 y_4 Y G S T oo H locs ls h hP hD hS hl
    have mF := mo_law_359 hm_33 h
    rw [f_law_359] at h
    refine lv_aload_n hx hb d_La_law_359 rfl (lv_at hl 1 rfl) ?_
    refine lv_aload_n hx hb d_La_law_360 rfl (lv_at hl 0 rfl) ?_
    refine lv_iload hx hb d_La_law_361 (lv_at hl 4 rfl) ?_
    refine lv_iconst (v := 1) hx hb d_La_law_363 (by decide) ?_
    refine lv_iadd hx hb d_La_law_364 ?_
    obtain ⟨g_51, h⟩ := lf_gE h
    refine va_sld hx hb hX hbl hbA hS g_51 d_La_law_365 ?_
    refine lv_aload_n hx hb d_La_law_366 rfl (lv_at hl 0 rfl) ?_
    refine lv_iload hx hb d_La_law_367 (lv_at hl 4 rfl) ?_
    refine lv_iconst (v := 2) hx hb d_La_law_369 (by decide) ?_
    refine lv_iadd hx hb d_La_law_370 ?_
    obtain ⟨g_52, h⟩ := lf_gE h
    refine va_sld hx hb hX hbl hbA hS g_52 d_La_law_371 ?_
    refine lv_aload_n hx hb d_La_law_372 rfl (lv_at hl 0 rfl) ?_
    refine lv_iload hx hb d_La_law_373 (lv_at hl 4 rfl) ?_
    refine lv_iconst (v := 3) hx hb d_La_law_375 (by decide) ?_
    refine lv_iadd hx hb d_La_law_376 ?_
    obtain ⟨g_53, h⟩ := lf_gE h
    refine va_sld hx hb hX hbl hbA hS g_53 d_La_law_377 ?_
    obtain ⟨r_54, S_54, hc_54, h⟩ := lf_cE h
    have hPa := lw_as hP
    have hDa := lw_asD hD
    have hPc := lw_PR hPa
    have hDc := lw_DR hDa
    have hFc := lx_free hDc hS hA
    refine va_calli (va_runV (As := [.int (xs (y_4 + 1).toNatClampNeg), .int (xs (y_4 + 2).toNatClampNeg), .int (xs (y_4 + 3).toNatClampNeg)]) (rest := []) ⟨hx, hb, hml, hown, hts⟩ (l_Vt_poke l dC dI X _ hc_54) (cwV 3 hts (gwV good_Lq (u_Lq_La _ k_La_6) (u_Lq_Vt _ k_Vt_57) (u_Lq_Vt _ k_Vt_58) (u_Lq_Vt _ k_Vt_0) (wcs (u_Lq_Vt _ k_Vt_59) u_Lq_Vq)) rfl rfl rfl (by decide +kernel) ⟨Nat.le_of_ble_eq_true rfl, Nat.le_of_ble_eq_true rfl⟩) (pv_ofE (X.same _) (fun U z1 z2 => X.mono _ _ U hFc (hEw _ _ hS U z1 z2)) hPc hKV hDc (va_recv hKV hPc (ci := 11) (q0 := 0) rfl rfl)) rfl rfl hl.1 rfl (lv_room (Nat.le_of_ble_eq_true rfl)) d_La_law_378 ⟨lw_c0 mF.1 hGc, lw_c0 mF.2 hGs⟩) hS (fun q _ h => hFc q h) hFc (fun r_ u t H locs ht hvm hw hB hz1 hk1 hS => ?_)
    rw [hw]
    obtain ⟨hP1, -, hD1⟩ := hB
    rw [ht] at hP1
    obtain ⟨hP, hD⟩ := lw_jR hPa hDa hk1 hFc hP1 hD1
    have hP := lw_sa hP
    have hD := lw_saD hD
    refine lv_aload_n hx hb d_La_law_381 rfl (lv_at hl 2 rfl) ?_
    refine lv_aload_n hx hb d_La_law_382 rfl (lv_at hl 0 rfl) ?_
    refine lv_iload hx hb d_La_law_383 (lv_at hl 4 rfl) ?_
    refine lv_iconst (v := 1) hx hb d_La_law_385 (by decide) ?_
    refine lv_iadd hx hb d_La_law_386 ?_
    obtain ⟨g_55, h⟩ := lf_gE h
    refine va_sld hx hb hX hbl hbA hS g_55 d_La_law_387 ?_
    refine lv_aload_n hx hb d_La_law_388 rfl (lv_at hl 0 rfl) ?_
    refine lv_iload hx hb d_La_law_389 (lv_at hl 4 rfl) ?_
    refine lv_iconst (v := 2) hx hb d_La_law_391 (by decide) ?_
    refine lv_iadd hx hb d_La_law_392 ?_
    obtain ⟨g_56, h⟩ := lf_gE h
    refine va_sld hx hb hX hbl hbA hS g_56 d_La_law_393 ?_
    refine lv_aload_n hx hb d_La_law_394 rfl (lv_at hl 0 rfl) ?_
    refine lv_iload hx hb d_La_law_395 (lv_at hl 4 rfl) ?_
    refine lv_iconst (v := 3) hx hb d_La_law_397 (by decide) ?_
    refine lv_iadd hx hb d_La_law_398 ?_
    obtain ⟨g_57, h⟩ := lf_gE h
    refine va_sld hx hb hX hbl hbA hS g_57 d_La_law_399 ?_
    obtain ⟨r_58, T_58, hc_58, h⟩ := lf_cE h
    have hPc := lw_PL hP
    have hDc := lw_DL hD
    have hFc := lx_free hDc hS hA
    refine va_calli (va_runV (As := [.int (xs (y_4 + 1).toNatClampNeg), .int (xs (y_4 + 2).toNatClampNeg), .int (xs (y_4 + 3).toNatClampNeg)]) (rest := [.int r_54]) ⟨hx, hb, hml, hown, hts⟩ (l_Mo_poke l dC dI X2 _ hc_58) (cwV 3 hts (gwV good_Lq (u_Lq_La _ k_La_84) (u_Lq_Mo _ k_Mo_202) (u_Lq_Mo _ k_Mo_203) (u_Lq_Mo _ k_Mo_0) (wcs (u_Lq_Mo _ k_Mo_204) u_Lq_Mq)) rfl rfl rfl (by decide +kernel) ⟨Nat.le_of_ble_eq_true rfl, Nat.le_of_ble_eq_true rfl⟩) (pv_ofE (X2.same _) (fun U z1 z2 => X2.mono _ _ U hFc (hEw _ _ hS U z1 z2)) hPc hKM hDc (va_recv hKM hPc (ci := 12) (q0 := 0) rfl rfl)) rfl rfl hl.1 rfl (lv_room (Nat.le_of_ble_eq_true rfl)) d_La_law_400 ⟨lw_c0 mF.1 hGc, lw_c0 mF.2 hGs⟩) hS (fun q _ h => hFc q h) hFc (fun r_ u t H locs ht hvm hw hB hz1 hk1 hS => ?_)
    rw [hw]
    obtain ⟨hP1, -, hD1⟩ := hB
    rw [ht] at hP1
    obtain ⟨hP, hD⟩ := lw_jL hP hD hk1 hFc hP1 hD1
    refine lv_icmp_eq (tgt := 1388) hx hb d_La_law_403 (by decide) (fun c_59 => ?_) (fun c_59 => ?_)
    · have h := lf_t h c_59
      exact hB_1388 _ hr_33 hm_33 y_4 Y G S_54 T_58 oo _ _ _ h hP hD hS (lv_sub hl [0, 1, 2, 3, 4] rfl)
    · have h := lf_f h c_59
      refine lv_iconst (v := 0) hx hb d_La_law_406 (by decide) ?_
      exact lf_01 h
  have hB_412 : ∀ (rec_33 : Int32 → CG → CS → MS → (Nat → Int64) → Option (Int32 × CG × CS)) (hr_33 : ∀ (y_4 : Int32) (Y : CT) (G : CG) (S : CS) (T : MS) (oo : Nat → Int64) (H : Heap) (locs : List Loc) (ls : Array Slot), rec_33 y_4 G S T oo = some (1, G', S') → va_P (dC, dI) classes (wM M2 T ++ ((ou, .inl (kL, 1, .inr (.inl oo))) :: wV M Y G S)) H → va_D (fun q => s.heap.size ≤ q) (wM M2 T ++ ((ou, .inl (kL, 1, .inr (.inl oo))) :: wV M Y G S)) → va_S (fun q => s.heap.size ≤ q) s.heap H locs → lv_has ls 8 [(0, .ref b), (1, .ref M.o_Vt), (2, .ref M2.o), (3, .ref ou), (4, .int y_4)] → W p l e room_1 s m #[Value.ref b] below meth c H locs (cB + G.gc) (sB + G.gs) (lw_Z below #[Value.ref b] s) (F0 m 33 ls [])) (hm_33 : ∀ (y_4 : Int32) (G : CG) (S : CS) (T : MS) (oo : Nat → Int64) {x : Int32} {G1 : CG} {S1 : CS}, rec_33 y_4 G S T oo = some (x, G1, S1) → CG.le G G1), ∀ (y_4 : Int32) (z_0 : Int32) (Y : CT) (G : CG) (S : CS) (T : MS) (oo : Nat → Int64) (H : Heap) (locs : List Loc) (ls : Array Slot), f_law_412 K L xs rec_33 y_4 z_0 G S T oo = some (1, G', S') → va_P (dC, dI) classes (wM M2 T ++ ((ou, .inl (kL, 1, .inr (.inl oo))) :: wV M Y G S)) H → va_D (fun q => s.heap.size ≤ q) (wM M2 T ++ ((ou, .inl (kL, 1, .inr (.inl oo))) :: wV M Y G S)) → va_S (fun q => s.heap.size ≤ q) s.heap H locs → lv_has ls 8 [(0, .ref b), (1, .ref M.o_Vt), (2, .ref M2.o), (3, .ref ou), (4, .int y_4)] → W p l e room_1 s m #[Value.ref b] below meth c H locs (cB + G.gc) (sB + G.gs) (lw_Z below #[Value.ref b] s) (F0 m 412 ls [.int z_0]) := by
    intro rec_33 hr_33 hm_33 y_4 z_0 Y G S T oo H locs ls h hP hD hS hl
    have mF := mo_law_412 hm_33 h
    rw [f_law_412] at h
    refine lv_aload_n hx hb d_La_law_412 rfl (lv_at hl 2 rfl) ?_
    obtain ⟨r_122, T_122, hc_122, h⟩ := lf_cE h
    have hPc := lw_PL hP
    have hDc := lw_DL hD
    have hFc := lx_free hDc hS hA
    refine va_calli (va_runV (As := []) (rest := [.int z_0]) ⟨hx, hb, hml, hown, hts⟩ (l_Mo_kind l dC dI X2 _ hc_122) (cwV 0 hts (gwV good_Lq (u_Lq_La _ k_La_82) (u_Lq_Mo _ k_Mo_85) (u_Lq_Mo _ k_Mo_86) (u_Lq_Mo _ k_Mo_0) (wcs (u_Lq_Mo _ k_Mo_87) u_Lq_Mq)) rfl rfl rfl (by decide +kernel) ⟨Nat.le_of_ble_eq_true rfl, Nat.le_of_ble_eq_true rfl⟩) (pv_ofE (X2.same _) (fun U z1 z2 => X2.mono _ _ U hFc (hEw _ _ hS U z1 z2)) hPc hKM hDc (va_recv hKM hPc (ci := 12) (q0 := 0) rfl rfl)) rfl rfl hl.1 rfl (lv_room (Nat.le_of_ble_eq_true rfl)) d_La_law_413 ⟨lw_c0 mF.1 hGc, lw_c0 mF.2 hGs⟩) hS (fun q _ h => hFc q h) hFc (fun r_ u t H locs ht hvm hw hB hz1 hk1 hS => ?_)
    rw [hw]
    obtain ⟨hP1, -, hD1⟩ := hB
    rw [ht] at hP1
    obtain ⟨hP, hD⟩ := lw_jL hP hD hk1 hFc hP1 hD1
    refine lv_icmp_eq (tgt := 1388) hx hb d_La_law_416 (by decide) (fun c_123 => ?_) (fun c_123 => ?_)
    · have h := lf_t h c_123
      exact hB_1388 _ hr_33 hm_33 y_4 Y G S T_122 oo _ _ _ h hP hD hS (lv_sub hl [0, 1, 2, 3, 4] rfl)
    · have h := lf_f h c_123
      refine lv_iconst (v := 0) hx hb d_La_law_419 (by decide) ?_
      exact lf_01 h
  have hB_408 : ∀ (rec_33 : Int32 → CG → CS → MS → (Nat → Int64) → Option (Int32 × CG × CS)) (hr_33 : ∀ (y_4 : Int32) (Y : CT) (G : CG) (S : CS) (T : MS) (oo : Nat → Int64) (H : Heap) (locs : List Loc) (ls : Array Slot), rec_33 y_4 G S T oo = some (1, G', S') → va_P (dC, dI) classes (wM M2 T ++ ((ou, .inl (kL, 1, .inr (.inl oo))) :: wV M Y G S)) H → va_D (fun q => s.heap.size ≤ q) (wM M2 T ++ ((ou, .inl (kL, 1, .inr (.inl oo))) :: wV M Y G S)) → va_S (fun q => s.heap.size ≤ q) s.heap H locs → lv_has ls 8 [(0, .ref b), (1, .ref M.o_Vt), (2, .ref M2.o), (3, .ref ou), (4, .int y_4)] → W p l e room_1 s m #[Value.ref b] below meth c H locs (cB + G.gc) (sB + G.gs) (lw_Z below #[Value.ref b] s) (F0 m 33 ls [])) (hm_33 : ∀ (y_4 : Int32) (G : CG) (S : CS) (T : MS) (oo : Nat → Int64) {x : Int32} {G1 : CG} {S1 : CS}, rec_33 y_4 G S T oo = some (x, G1, S1) → CG.le G G1), ∀ (y_4 : Int32) (Y : CT) (G : CG) (S : CS) (T : MS) (oo : Nat → Int64) (H : Heap) (locs : List Loc) (ls : Array Slot), f_law_408 K L xs rec_33 y_4 G S T oo = some (1, G', S') → va_P (dC, dI) classes (wM M2 T ++ ((ou, .inl (kL, 1, .inr (.inl oo))) :: wV M Y G S)) H → va_D (fun q => s.heap.size ≤ q) (wM M2 T ++ ((ou, .inl (kL, 1, .inr (.inl oo))) :: wV M Y G S)) → va_S (fun q => s.heap.size ≤ q) s.heap H locs → lv_has ls 8 [(0, .ref b), (1, .ref M.o_Vt), (2, .ref M2.o), (3, .ref ou), (4, .int y_4)] → W p l e room_1 s m #[Value.ref b] below meth c H locs (cB + G.gc) (sB + G.gs) (lw_Z below #[Value.ref b] s) (F0 m 408 ls []) := by
    intro rec_33 hr_33 hm_33 y_4 Y G S T oo H locs ls h hP hD hS hl
    have mF := mo_law_408 hm_33 h
    rw [f_law_408] at h
    refine lv_aload_n hx hb d_La_law_408 rfl (lv_at hl 1 rfl) ?_
    obtain ⟨r_60, G_60, S_60, hc_60, h⟩ := lf_nE h
    have ml_60 := mo_Vt_kind hc_60
    have mc := mo_Vt_kind hc_60
    have mF1 := mo_law_412 hm_33 h
    have hPa := lw_as hP
    have hDa := lw_asD hD
    have hPc := lw_PR hPa
    have hDc := lw_DR hDa
    have hFc := lx_free hDc hS hA
    refine va_calli (va_runV (As := []) (rest := []) ⟨hx, hb, hml, hown, hts⟩ (l_Vt_kind l dC dI X _ hc_60) (cwV 0 hts (gwV good_Lq (u_Lq_La _ k_La_7) (u_Lq_Vt _ k_Vt_65) (u_Lq_Vt _ k_Vt_66) (u_Lq_Vt _ k_Vt_0) (wcs (u_Lq_Vt _ k_Vt_67) u_Lq_Vq)) rfl rfl rfl (by decide +kernel) ⟨Nat.le_of_ble_eq_true rfl, Nat.le_of_ble_eq_true rfl⟩) (pv_ofE (X.same _) (fun U z1 z2 => X.mono _ _ U hFc (hEw _ _ hS U z1 z2)) hPc hKV hDc (va_recv hKV hPc (ci := 11) (q0 := 0) rfl rfl)) rfl rfl hl.1 rfl (lv_room (Nat.le_of_ble_eq_true rfl)) d_La_law_409 ⟨lw_c1 mc.1 mF1.1 hGc, lw_c1 mc.2 mF1.2 hGs⟩) hS (fun q _ h => hFc q h) hFc (fun r_ Y_60 t H locs ht hvm hw hB hz1 hk1 hS => ?_)
    rw [hw]
    obtain ⟨hP1, -, hD1⟩ := hB
    rw [ht] at hP1
    obtain ⟨hP, hD⟩ := lw_jR hPa hDa hk1 hFc hP1 hD1
    have hP := lw_sa hP
    have hD := lw_saD hD
    refine W.widen (k := cB + G_60.gc) (n := sB + G_60.gs) (lw_c2 mc.1) (lw_c2 mc.2) ?_
    exact hB_412 _ hr_33 hm_33 y_4 r_60 Y_60 G_60 S_60 T oo _ _ _ h hP hD hS (lv_sub hl [0, 1, 2, 3, 4] rfl)
  have hB_425 : ∀ (rec_33 : Int32 → CG → CS → MS → (Nat → Int64) → Option (Int32 × CG × CS)) (hr_33 : ∀ (y_4 : Int32) (Y : CT) (G : CG) (S : CS) (T : MS) (oo : Nat → Int64) (H : Heap) (locs : List Loc) (ls : Array Slot), rec_33 y_4 G S T oo = some (1, G', S') → va_P (dC, dI) classes (wM M2 T ++ ((ou, .inl (kL, 1, .inr (.inl oo))) :: wV M Y G S)) H → va_D (fun q => s.heap.size ≤ q) (wM M2 T ++ ((ou, .inl (kL, 1, .inr (.inl oo))) :: wV M Y G S)) → va_S (fun q => s.heap.size ≤ q) s.heap H locs → lv_has ls 8 [(0, .ref b), (1, .ref M.o_Vt), (2, .ref M2.o), (3, .ref ou), (4, .int y_4)] → W p l e room_1 s m #[Value.ref b] below meth c H locs (cB + G.gc) (sB + G.gs) (lw_Z below #[Value.ref b] s) (F0 m 33 ls [])) (hm_33 : ∀ (y_4 : Int32) (G : CG) (S : CS) (T : MS) (oo : Nat → Int64) {x : Int32} {G1 : CG} {S1 : CS}, rec_33 y_4 G S T oo = some (x, G1, S1) → CG.le G G1), ∀ (y_4 : Int32) (z_0 : Int32) (Y : CT) (G : CG) (S : CS) (T : MS) (oo : Nat → Int64) (H : Heap) (locs : List Loc) (ls : Array Slot), f_law_425 K L xs rec_33 y_4 z_0 G S T oo = some (1, G', S') → va_P (dC, dI) classes (wM M2 T ++ ((ou, .inl (kL, 1, .inr (.inl oo))) :: wV M Y G S)) H → va_D (fun q => s.heap.size ≤ q) (wM M2 T ++ ((ou, .inl (kL, 1, .inr (.inl oo))) :: wV M Y G S)) → va_S (fun q => s.heap.size ≤ q) s.heap H locs → lv_has ls 8 [(0, .ref b), (1, .ref M.o_Vt), (2, .ref M2.o), (3, .ref ou), (4, .int y_4)] → W p l e room_1 s m #[Value.ref b] below meth c H locs (cB + G.gc) (sB + G.gs) (lw_Z below #[Value.ref b] s) (F0 m 425 ls [.int z_0]) := by
    intro rec_33 hr_33 hm_33 y_4 z_0 Y G S T oo H locs ls h hP hD hS hl
    have mF := mo_law_425 hm_33 h
    rw [f_law_425] at h
    refine lv_aload_n hx hb d_La_law_425 rfl (lv_at hl 2 rfl) ?_
    obtain ⟨r_124, T_124, hc_124, h⟩ := lf_cE h
    have hPc := lw_PL hP
    have hDc := lw_DL hD
    have hFc := lx_free hDc hS hA
    refine va_calli (va_runV (As := []) (rest := [.int z_0]) ⟨hx, hb, hml, hown, hts⟩ (l_Mo_fault l dC dI X2 _ hc_124) (cwV 0 hts (gwV good_Lq (u_Lq_La _ k_La_83) (u_Lq_Mo _ k_Mo_199) (u_Lq_Mo _ k_Mo_200) (u_Lq_Mo _ k_Mo_0) (wcs (u_Lq_Mo _ k_Mo_201) u_Lq_Mq)) rfl rfl rfl (by decide +kernel) ⟨Nat.le_of_ble_eq_true rfl, Nat.le_of_ble_eq_true rfl⟩) (pv_ofE (X2.same _) (fun U z1 z2 => X2.mono _ _ U hFc (hEw _ _ hS U z1 z2)) hPc hKM hDc (va_recv hKM hPc (ci := 12) (q0 := 0) rfl rfl)) rfl rfl hl.1 rfl (lv_room (Nat.le_of_ble_eq_true rfl)) d_La_law_426 ⟨lw_c0 mF.1 hGc, lw_c0 mF.2 hGs⟩) hS (fun q _ h => hFc q h) hFc (fun r_ u t H locs ht hvm hw hB hz1 hk1 hS => ?_)
    rw [hw]
    obtain ⟨hP1, -, hD1⟩ := hB
    rw [ht] at hP1
    obtain ⟨hP, hD⟩ := lw_jL hP hD hk1 hFc hP1 hD1
    refine lv_icmp_eq (tgt := 1388) hx hb d_La_law_429 (by decide) (fun c_125 => ?_) (fun c_125 => ?_)
    · have h := lf_t h c_125
      exact hB_1388 _ hr_33 hm_33 y_4 Y G S T_124 oo _ _ _ h hP hD hS (lv_sub hl [0, 1, 2, 3, 4] rfl)
    · have h := lf_f h c_125
      refine lv_iconst (v := 0) hx hb d_La_law_432 (by decide) ?_
      exact lf_01 h
  have hB_421 : ∀ (rec_33 : Int32 → CG → CS → MS → (Nat → Int64) → Option (Int32 × CG × CS)) (hr_33 : ∀ (y_4 : Int32) (Y : CT) (G : CG) (S : CS) (T : MS) (oo : Nat → Int64) (H : Heap) (locs : List Loc) (ls : Array Slot), rec_33 y_4 G S T oo = some (1, G', S') → va_P (dC, dI) classes (wM M2 T ++ ((ou, .inl (kL, 1, .inr (.inl oo))) :: wV M Y G S)) H → va_D (fun q => s.heap.size ≤ q) (wM M2 T ++ ((ou, .inl (kL, 1, .inr (.inl oo))) :: wV M Y G S)) → va_S (fun q => s.heap.size ≤ q) s.heap H locs → lv_has ls 8 [(0, .ref b), (1, .ref M.o_Vt), (2, .ref M2.o), (3, .ref ou), (4, .int y_4)] → W p l e room_1 s m #[Value.ref b] below meth c H locs (cB + G.gc) (sB + G.gs) (lw_Z below #[Value.ref b] s) (F0 m 33 ls [])) (hm_33 : ∀ (y_4 : Int32) (G : CG) (S : CS) (T : MS) (oo : Nat → Int64) {x : Int32} {G1 : CG} {S1 : CS}, rec_33 y_4 G S T oo = some (x, G1, S1) → CG.le G G1), ∀ (y_4 : Int32) (Y : CT) (G : CG) (S : CS) (T : MS) (oo : Nat → Int64) (H : Heap) (locs : List Loc) (ls : Array Slot), f_law_421 K L xs rec_33 y_4 G S T oo = some (1, G', S') → va_P (dC, dI) classes (wM M2 T ++ ((ou, .inl (kL, 1, .inr (.inl oo))) :: wV M Y G S)) H → va_D (fun q => s.heap.size ≤ q) (wM M2 T ++ ((ou, .inl (kL, 1, .inr (.inl oo))) :: wV M Y G S)) → va_S (fun q => s.heap.size ≤ q) s.heap H locs → lv_has ls 8 [(0, .ref b), (1, .ref M.o_Vt), (2, .ref M2.o), (3, .ref ou), (4, .int y_4)] → W p l e room_1 s m #[Value.ref b] below meth c H locs (cB + G.gc) (sB + G.gs) (lw_Z below #[Value.ref b] s) (F0 m 421 ls []) := by
    intro rec_33 hr_33 hm_33 y_4 Y G S T oo H locs ls h hP hD hS hl
    have mF := mo_law_421 hm_33 h
    rw [f_law_421] at h
    refine lv_aload_n hx hb d_La_law_421 rfl (lv_at hl 1 rfl) ?_
    obtain ⟨r_61, G_61, S_61, hc_61, h⟩ := lf_nE h
    have ml_61 := mo_Vt_fault hc_61
    have mc := mo_Vt_fault hc_61
    have mF1 := mo_law_425 hm_33 h
    have hPa := lw_as hP
    have hDa := lw_asD hD
    have hPc := lw_PR hPa
    have hDc := lw_DR hDa
    have hFc := lx_free hDc hS hA
    refine va_calli (va_runV (As := []) (rest := []) ⟨hx, hb, hml, hown, hts⟩ (l_Vt_fault l dC dI X _ hc_61) (cwV 0 hts (gwV good_Lq (u_Lq_La _ k_La_8) (u_Lq_Vt _ k_Vt_73) (u_Lq_Vt _ k_Vt_74) (u_Lq_Vt _ k_Vt_0) (wcs (u_Lq_Vt _ k_Vt_75) u_Lq_Vq)) rfl rfl rfl (by decide +kernel) ⟨Nat.le_of_ble_eq_true rfl, Nat.le_of_ble_eq_true rfl⟩) (pv_ofE (X.same _) (fun U z1 z2 => X.mono _ _ U hFc (hEw _ _ hS U z1 z2)) hPc hKV hDc (va_recv hKV hPc (ci := 11) (q0 := 0) rfl rfl)) rfl rfl hl.1 rfl (lv_room (Nat.le_of_ble_eq_true rfl)) d_La_law_422 ⟨lw_c1 mc.1 mF1.1 hGc, lw_c1 mc.2 mF1.2 hGs⟩) hS (fun q _ h => hFc q h) hFc (fun r_ Y_61 t H locs ht hvm hw hB hz1 hk1 hS => ?_)
    rw [hw]
    obtain ⟨hP1, -, hD1⟩ := hB
    rw [ht] at hP1
    obtain ⟨hP, hD⟩ := lw_jR hPa hDa hk1 hFc hP1 hD1
    have hP := lw_sa hP
    have hD := lw_saD hD
    refine W.widen (k := cB + G_61.gc) (n := sB + G_61.gs) (lw_c2 mc.1) (lw_c2 mc.2) ?_
    exact hB_425 _ hr_33 hm_33 y_4 r_61 Y_61 G_61 S_61 T oo _ _ _ h hP hD hS (lv_sub hl [0, 1, 2, 3, 4] rfl)
  have hB_450 : ∀ (rec_33 : Int32 → CG → CS → MS → (Nat → Int64) → Option (Int32 × CG × CS)) (hr_33 : ∀ (y_4 : Int32) (Y : CT) (G : CG) (S : CS) (T : MS) (oo : Nat → Int64) (H : Heap) (locs : List Loc) (ls : Array Slot), rec_33 y_4 G S T oo = some (1, G', S') → va_P (dC, dI) classes (wM M2 T ++ ((ou, .inl (kL, 1, .inr (.inl oo))) :: wV M Y G S)) H → va_D (fun q => s.heap.size ≤ q) (wM M2 T ++ ((ou, .inl (kL, 1, .inr (.inl oo))) :: wV M Y G S)) → va_S (fun q => s.heap.size ≤ q) s.heap H locs → lv_has ls 8 [(0, .ref b), (1, .ref M.o_Vt), (2, .ref M2.o), (3, .ref ou), (4, .int y_4)] → W p l e room_1 s m #[Value.ref b] below meth c H locs (cB + G.gc) (sB + G.gs) (lw_Z below #[Value.ref b] s) (F0 m 33 ls [])) (hm_33 : ∀ (y_4 : Int32) (G : CG) (S : CS) (T : MS) (oo : Nat → Int64) {x : Int32} {G1 : CG} {S1 : CS}, rec_33 y_4 G S T oo = some (x, G1, S1) → CG.le G G1), ∀ (y_4 : Int32) (z_0 : Int32) (Y : CT) (G : CG) (S : CS) (T : MS) (oo : Nat → Int64) (H : Heap) (locs : List Loc) (ls : Array Slot), f_law_450 K L xs rec_33 y_4 z_0 G S T oo = some (1, G', S') → va_P (dC, dI) classes (wM M2 T ++ ((ou, .inl (kL, 1, .inr (.inl oo))) :: wV M Y G S)) H → va_D (fun q => s.heap.size ≤ q) (wM M2 T ++ ((ou, .inl (kL, 1, .inr (.inl oo))) :: wV M Y G S)) → va_S (fun q => s.heap.size ≤ q) s.heap H locs → lv_has ls 8 [(0, .ref b), (1, .ref M.o_Vt), (2, .ref M2.o), (3, .ref ou), (4, .int y_4)] → W p l e room_1 s m #[Value.ref b] below meth c H locs (cB + G.gc) (sB + G.gs) (lw_Z below #[Value.ref b] s) (F0 m 450 ls [.int z_0]) := by
    intro rec_33 hr_33 hm_33 y_4 z_0 Y G S T oo H locs ls h hP hD hS hl
    have mF := mo_law_450 hm_33 h
    rw [f_law_450] at h
    refine lv_aload_n hx hb d_La_law_450 rfl (lv_at hl 2 rfl) ?_
    refine lv_aload_n hx hb d_La_law_451 rfl (lv_at hl 0 rfl) ?_
    refine lv_iload hx hb d_La_law_452 (lv_at hl 4 rfl) ?_
    refine lv_iconst (v := 1) hx hb d_La_law_454 (by decide) ?_
    refine lv_iadd hx hb d_La_law_455 ?_
    obtain ⟨g_126, h⟩ := lf_gE h
    refine va_sld hx hb hX hbl hbA hS g_126 d_La_law_456 ?_
    refine lv_aload_n hx hb d_La_law_457 rfl (lv_at hl 0 rfl) ?_
    refine lv_iload hx hb d_La_law_458 (lv_at hl 4 rfl) ?_
    refine lv_iconst (v := 2) hx hb d_La_law_460 (by decide) ?_
    refine lv_iadd hx hb d_La_law_461 ?_
    obtain ⟨g_127, h⟩ := lf_gE h
    refine va_sld hx hb hX hbl hbA hS g_127 d_La_law_462 ?_
    obtain ⟨r_128, T_128, hc_128, h⟩ := lf_cE h
    have hPc := lw_PL hP
    have hDc := lw_DL hD
    have hFc := lx_free hDc hS hA
    refine va_calli (va_runV (As := [.int (xs (y_4 + 1).toNatClampNeg), .int (xs (y_4 + 2).toNatClampNeg)]) (rest := [.int z_0]) ⟨hx, hb, hml, hown, hts⟩ (l_Mo_byteAt l dC dI X2 _ hc_128) (cwV 2 hts (gwV good_Lq (u_Lq_La _ k_La_85) (u_Lq_Mo _ k_Mo_208) (u_Lq_Mo _ k_Mo_209) (u_Lq_Mo _ k_Mo_0) (wcs (u_Lq_Mo _ k_Mo_210) u_Lq_Mq)) rfl rfl rfl (by decide +kernel) ⟨Nat.le_of_ble_eq_true rfl, Nat.le_of_ble_eq_true rfl⟩) (pv_ofE (X2.same _) (fun U z1 z2 => X2.mono _ _ U hFc (hEw _ _ hS U z1 z2)) hPc hKM hDc (va_recv hKM hPc (ci := 12) (q0 := 0) rfl rfl)) rfl rfl hl.1 rfl (lv_room (Nat.le_of_ble_eq_true rfl)) d_La_law_463 ⟨lw_c0 mF.1 hGc, lw_c0 mF.2 hGs⟩) hS (fun q _ h => hFc q h) hFc (fun r_ u t H locs ht hvm hw hB hz1 hk1 hS => ?_)
    rw [hw]
    obtain ⟨hP1, -, hD1⟩ := hB
    rw [ht] at hP1
    obtain ⟨hP, hD⟩ := lw_jL hP hD hk1 hFc hP1 hD1
    refine lv_icmp_eq (tgt := 1388) hx hb d_La_law_466 (by decide) (fun c_129 => ?_) (fun c_129 => ?_)
    · have h := lf_t h c_129
      exact hB_1388 _ hr_33 hm_33 y_4 Y G S T_128 oo _ _ _ h hP hD hS (lv_sub hl [0, 1, 2, 3, 4] rfl)
    · have h := lf_f h c_129
      refine lv_iconst (v := 0) hx hb d_La_law_469 (by decide) ?_
      exact lf_01 h
  have hB_434 : ∀ (rec_33 : Int32 → CG → CS → MS → (Nat → Int64) → Option (Int32 × CG × CS)) (hr_33 : ∀ (y_4 : Int32) (Y : CT) (G : CG) (S : CS) (T : MS) (oo : Nat → Int64) (H : Heap) (locs : List Loc) (ls : Array Slot), rec_33 y_4 G S T oo = some (1, G', S') → va_P (dC, dI) classes (wM M2 T ++ ((ou, .inl (kL, 1, .inr (.inl oo))) :: wV M Y G S)) H → va_D (fun q => s.heap.size ≤ q) (wM M2 T ++ ((ou, .inl (kL, 1, .inr (.inl oo))) :: wV M Y G S)) → va_S (fun q => s.heap.size ≤ q) s.heap H locs → lv_has ls 8 [(0, .ref b), (1, .ref M.o_Vt), (2, .ref M2.o), (3, .ref ou), (4, .int y_4)] → W p l e room_1 s m #[Value.ref b] below meth c H locs (cB + G.gc) (sB + G.gs) (lw_Z below #[Value.ref b] s) (F0 m 33 ls [])) (hm_33 : ∀ (y_4 : Int32) (G : CG) (S : CS) (T : MS) (oo : Nat → Int64) {x : Int32} {G1 : CG} {S1 : CS}, rec_33 y_4 G S T oo = some (x, G1, S1) → CG.le G G1), ∀ (y_4 : Int32) (Y : CT) (G : CG) (S : CS) (T : MS) (oo : Nat → Int64) (H : Heap) (locs : List Loc) (ls : Array Slot), f_law_434 K L xs rec_33 y_4 G S T oo = some (1, G', S') → va_P (dC, dI) classes (wM M2 T ++ ((ou, .inl (kL, 1, .inr (.inl oo))) :: wV M Y G S)) H → va_D (fun q => s.heap.size ≤ q) (wM M2 T ++ ((ou, .inl (kL, 1, .inr (.inl oo))) :: wV M Y G S)) → va_S (fun q => s.heap.size ≤ q) s.heap H locs → lv_has ls 8 [(0, .ref b), (1, .ref M.o_Vt), (2, .ref M2.o), (3, .ref ou), (4, .int y_4)] → W p l e room_1 s m #[Value.ref b] below meth c H locs (cB + G.gc) (sB + G.gs) (lw_Z below #[Value.ref b] s) (F0 m 434 ls []) := by
    intro rec_33 hr_33 hm_33 y_4 Y G S T oo H locs ls h hP hD hS hl
    have mF := mo_law_434 hm_33 h
    rw [f_law_434] at h
    refine lv_aload_n hx hb d_La_law_434 rfl (lv_at hl 1 rfl) ?_
    refine lv_aload_n hx hb d_La_law_435 rfl (lv_at hl 0 rfl) ?_
    refine lv_iload hx hb d_La_law_436 (lv_at hl 4 rfl) ?_
    refine lv_iconst (v := 1) hx hb d_La_law_438 (by decide) ?_
    refine lv_iadd hx hb d_La_law_439 ?_
    obtain ⟨g_62, h⟩ := lf_gE h
    refine va_sld hx hb hX hbl hbA hS g_62 d_La_law_440 ?_
    refine lv_aload_n hx hb d_La_law_441 rfl (lv_at hl 0 rfl) ?_
    refine lv_iload hx hb d_La_law_442 (lv_at hl 4 rfl) ?_
    refine lv_iconst (v := 2) hx hb d_La_law_444 (by decide) ?_
    refine lv_iadd hx hb d_La_law_445 ?_
    obtain ⟨g_63, h⟩ := lf_gE h
    refine va_sld hx hb hX hbl hbA hS g_63 d_La_law_446 ?_
    obtain ⟨r_64, G_64, S_64, hc_64, h⟩ := lf_nE h
    have ml_64 := mo_Vt_byteAt hc_64
    have mc := mo_Vt_byteAt hc_64
    have mF1 := mo_law_450 hm_33 h
    have hPa := lw_as hP
    have hDa := lw_asD hD
    have hPc := lw_PR hPa
    have hDc := lw_DR hDa
    have hFc := lx_free hDc hS hA
    refine va_calli (va_runV (As := [.int (xs (y_4 + 1).toNatClampNeg), .int (xs (y_4 + 2).toNatClampNeg)]) (rest := []) ⟨hx, hb, hml, hown, hts⟩ (l_Vt_byteAt l dC dI X _ hc_64) (cwV 2 hts (gwV good_Lq (u_Lq_La _ k_La_9) (u_Lq_Vt _ k_Vt_76) (u_Lq_Vt _ k_Vt_77) (u_Lq_Vt _ k_Vt_0) (wcs (u_Lq_Vt _ k_Vt_78) u_Lq_Vq)) rfl rfl rfl (by decide +kernel) ⟨Nat.le_of_ble_eq_true rfl, Nat.le_of_ble_eq_true rfl⟩) (pv_ofE (X.same _) (fun U z1 z2 => X.mono _ _ U hFc (hEw _ _ hS U z1 z2)) hPc hKV hDc (va_recv hKV hPc (ci := 11) (q0 := 0) rfl rfl)) rfl rfl hl.1 rfl (lv_room (Nat.le_of_ble_eq_true rfl)) d_La_law_447 ⟨lw_c1 mc.1 mF1.1 hGc, lw_c1 mc.2 mF1.2 hGs⟩) hS (fun q _ h => hFc q h) hFc (fun r_ Y_64 t H locs ht hvm hw hB hz1 hk1 hS => ?_)
    rw [hw]
    obtain ⟨hP1, -, hD1⟩ := hB
    rw [ht] at hP1
    obtain ⟨hP, hD⟩ := lw_jR hPa hDa hk1 hFc hP1 hD1
    have hP := lw_sa hP
    have hD := lw_saD hD
    refine W.widen (k := cB + G_64.gc) (n := sB + G_64.gs) (lw_c2 mc.1) (lw_c2 mc.2) ?_
    exact hB_450 _ hr_33 hm_33 y_4 r_64 Y_64 G_64 S_64 T oo _ _ _ h hP hD hS (lv_sub hl [0, 1, 2, 3, 4] rfl)
  have hB_512 : ∀ (rec_33 : Int32 → CG → CS → MS → (Nat → Int64) → Option (Int32 × CG × CS)) (hr_33 : ∀ (y_4 : Int32) (Y : CT) (G : CG) (S : CS) (T : MS) (oo : Nat → Int64) (H : Heap) (locs : List Loc) (ls : Array Slot), rec_33 y_4 G S T oo = some (1, G', S') → va_P (dC, dI) classes (wM M2 T ++ ((ou, .inl (kL, 1, .inr (.inl oo))) :: wV M Y G S)) H → va_D (fun q => s.heap.size ≤ q) (wM M2 T ++ ((ou, .inl (kL, 1, .inr (.inl oo))) :: wV M Y G S)) → va_S (fun q => s.heap.size ≤ q) s.heap H locs → lv_has ls 8 [(0, .ref b), (1, .ref M.o_Vt), (2, .ref M2.o), (3, .ref ou), (4, .int y_4)] → W p l e room_1 s m #[Value.ref b] below meth c H locs (cB + G.gc) (sB + G.gs) (lw_Z below #[Value.ref b] s) (F0 m 33 ls [])) (hm_33 : ∀ (y_4 : Int32) (G : CG) (S : CS) (T : MS) (oo : Nat → Int64) {x : Int32} {G1 : CG} {S1 : CS}, rec_33 y_4 G S T oo = some (x, G1, S1) → CG.le G G1), ∀ (y_4 : Int32) (Y : CT) (G : CG) (S : CS) (T : MS) (oo : Nat → Int64) (H : Heap) (locs : List Loc) (ls : Array Slot), f_law_512 K L xs rec_33 y_4 G S T oo = some (1, G', S') → va_P (dC, dI) classes (wM M2 T ++ ((ou, .inl (kL, 1, .inr (.inl oo))) :: wV M Y G S)) H → va_D (fun q => s.heap.size ≤ q) (wM M2 T ++ ((ou, .inl (kL, 1, .inr (.inl oo))) :: wV M Y G S)) → va_S (fun q => s.heap.size ≤ q) s.heap H locs → lv_has ls 8 [(0, .ref b), (1, .ref M.o_Vt), (2, .ref M2.o), (3, .ref ou), (4, .int y_4)] → W p l e room_1 s m #[Value.ref b] below meth c H locs (cB + G.gc) (sB + G.gs) (lw_Z below #[Value.ref b] s) (F0 m 512 ls []) := by
    intro rec_33 hr_33 hm_33 y_4 Y G S T oo H locs ls h hP hD hS hl
    have mF := mo_law_512 hm_33 h
    rw [f_law_512] at h
    refine lv_goto (tgt := 1388) hx hb d_La_law_512 (by decide) ?_
    exact hB_1388 _ hr_33 hm_33 y_4 Y G S T oo _ _ _ h hP hD hS (lv_sub hl [0, 1, 2, 3, 4] rfl)
  have hB_476 : ∀ (rec_33 : Int32 → CG → CS → MS → (Nat → Int64) → Option (Int32 × CG × CS)) (hr_33 : ∀ (y_4 : Int32) (Y : CT) (G : CG) (S : CS) (T : MS) (oo : Nat → Int64) (H : Heap) (locs : List Loc) (ls : Array Slot), rec_33 y_4 G S T oo = some (1, G', S') → va_P (dC, dI) classes (wM M2 T ++ ((ou, .inl (kL, 1, .inr (.inl oo))) :: wV M Y G S)) H → va_D (fun q => s.heap.size ≤ q) (wM M2 T ++ ((ou, .inl (kL, 1, .inr (.inl oo))) :: wV M Y G S)) → va_S (fun q => s.heap.size ≤ q) s.heap H locs → lv_has ls 8 [(0, .ref b), (1, .ref M.o_Vt), (2, .ref M2.o), (3, .ref ou), (4, .int y_4)] → W p l e room_1 s m #[Value.ref b] below meth c H locs (cB + G.gc) (sB + G.gs) (lw_Z below #[Value.ref b] s) (F0 m 33 ls [])) (hm_33 : ∀ (y_4 : Int32) (G : CG) (S : CS) (T : MS) (oo : Nat → Int64) {x : Int32} {G1 : CG} {S1 : CS}, rec_33 y_4 G S T oo = some (x, G1, S1) → CG.le G G1), ∀ (y_4 : Int32) (z_0 : Int32) (Y : CT) (G : CG) (S : CS) (T : MS) (oo : Nat → Int64) (H : Heap) (locs : List Loc) (ls : Array Slot), f_law_476 K L xs rec_33 y_4 z_0 G S T oo = some (1, G', S') → va_P (dC, dI) classes (wM M2 T ++ ((ou, .inl (kL, 1, .inr (.inl oo))) :: wV M Y G S)) H → va_D (fun q => s.heap.size ≤ q) (wM M2 T ++ ((ou, .inl (kL, 1, .inr (.inl oo))) :: wV M Y G S)) → va_S (fun q => s.heap.size ≤ q) s.heap H locs → lv_has ls 8 [(0, .ref b), (1, .ref M.o_Vt), (2, .ref M2.o), (3, .ref ou), (4, .int y_4)] → W p l e room_1 s m #[Value.ref b] below meth c H locs (cB + G.gc) (sB + G.gs) (lw_Z below #[Value.ref b] s) (F0 m 476 ls [.int z_0]) := by
    intro rec_33 hr_33 hm_33 y_4 z_0 Y G S T oo H locs ls h hP hD hS hl
    have mF := mo_law_476 hm_33 h
    rw [f_law_476] at h
    refine lv_istore (lv' := [(5, .int z_0), (0, .ref b), (1, .ref M.o_Vt), (2, .ref M2.o), (3, .ref ou), (4, .int y_4)]) hx hb d_La_law_476 hl (by decide) rfl (fun ls hl => ?_)
    refine lv_aload_n hx hb d_La_law_478 rfl (lv_at hl 3 rfl) ?_
    obtain ⟨r_130, T_130, hc_130, h⟩ := lf_cE h
    have hPc := lw_PL hP
    have hDc := lw_DL hD
    have hFc := lx_free hDc hS hA
    refine va_calli (va_runV (As := []) (rest := []) ⟨hx, hb, hml, hown, hts⟩ (l_Mo_items l dC dI X2 _ hc_130) (cwV 0 hts (gwV good_Lq (u_Lq_La _ k_La_87) (u_Lq_Mo _ k_Mo_237) (u_Lq_Mo _ k_Mo_238) (u_Lq_Mo _ k_Mo_0) (wcs (u_Lq_Mo _ k_Mo_239) u_Lq_Mq)) rfl rfl rfl (by decide +kernel) ⟨Nat.le_of_ble_eq_true rfl, Nat.le_of_ble_eq_true rfl⟩) (pv_ofE (X2.same _) (fun U z1 z2 => X2.mono _ _ U hFc (hEw _ _ hS U z1 z2)) hPc hKM hDc (va_recv hKM hPc (ci := 12) (q0 := 0) rfl rfl)) rfl rfl hl.1 rfl (lv_room (Nat.le_of_ble_eq_true rfl)) d_La_law_479 ⟨lw_c0 mF.1 hGc, lw_c0 mF.2 hGs⟩) hS (fun q _ h => hFc q h) hFc (fun r_ u t H locs ht hvm hw hB hz1 hk1 hS => ?_)
    rw [hw]
    obtain ⟨hP1, -, hD1⟩ := hB
    rw [ht] at hP1
    obtain ⟨hP, hD⟩ := lw_jL hP hD hk1 hFc hP1 hD1
    refine lv_istore (lv' := [(6, .int r_130), (5, .int z_0), (0, .ref b), (1, .ref M.o_Vt), (2, .ref M2.o), (3, .ref ou), (4, .int y_4)]) hx hb d_La_law_482 hl (by decide) rfl (fun ls hl => ?_)
    refine lv_aload_n hx hb d_La_law_484 rfl (lv_at hl 4 rfl) ?_
    obtain ⟨r_131, T_131, hc_131, h⟩ := lf_cE h
    have hPc := lw_PL hP
    have hDc := lw_DL hD
    have hFc := lx_free hDc hS hA
    refine va_calli (va_runV (As := []) (rest := []) ⟨hx, hb, hml, hown, hts⟩ (l_Mo_thrown l dC dI X2 _ hc_131) (cwV 0 hts (gwV good_Lq (u_Lq_La _ k_La_78) (u_Lq_Mo _ k_Mo_73) (u_Lq_Mo _ k_Mo_74) (u_Lq_Mo _ k_Mo_0) (wcs (u_Lq_Mo _ k_Mo_75) u_Lq_Mq)) rfl rfl rfl (by decide +kernel) ⟨Nat.le_of_ble_eq_true rfl, Nat.le_of_ble_eq_true rfl⟩) (pv_ofE (X2.same _) (fun U z1 z2 => X2.mono _ _ U hFc (hEw _ _ hS U z1 z2)) hPc hKM hDc (va_recv hKM hPc (ci := 12) (q0 := 0) rfl rfl)) rfl rfl hl.1 rfl (lv_room (Nat.le_of_ble_eq_true rfl)) d_La_law_485 ⟨lw_c0 mF.1 hGc, lw_c0 mF.2 hGs⟩) hS (fun q _ h => hFc q h) hFc (fun r_ u t H locs ht hvm hw hB hz1 hk1 hS => ?_)
    rw [hw]
    obtain ⟨hP1, -, hD1⟩ := hB
    rw [ht] at hP1
    obtain ⟨hP, hD⟩ := lw_jL hP hD hk1 hFc hP1 hD1
    refine lv_iload hx hb d_La_law_488 (lv_at hl 1 rfl) ?_
    refine lv_icmp_eq (tgt := 495) hx hb d_La_law_490 (by decide) (fun c_132 => ?_) (fun c_132 => ?_)
    · have h := lf_t h c_132
      refine lv_iload hx hb d_La_law_495 (lv_at hl 1 rfl) ?_
      refine lv_if_ne (tgt := 512) hx hb d_La_law_497 (by decide) (fun c_133 => ?_) (fun c_133 => ?_)
      · have h := lf_f h c_133
        exact hB_512 _ hr_33 hm_33 y_4 Y G S T_131 oo _ _ _ h hP hD hS (lv_sub hl [2, 3, 4, 5, 6] rfl)
      · have h := lf_t h c_133
        refine lv_aload_n hx hb d_La_law_500 rfl (lv_at hl 5 rfl) ?_
        refine lv_iconst (v := 0) hx hb d_La_law_501 (by decide) ?_
        refine va_lald hx hb hK hP 28 27 rfl rfl (by unfold vp_in; decide) d_La_law_502 ?_
        refine lv_iload hx hb d_La_law_503 (lv_at hl 0 rfl) ?_
        refine lv_i2l hx hb d_La_law_505 rfl ?_
        refine W.lcmp hx hb d_La_law_506 ?_
        refine lv_if_eq (tgt := 512) hx hb d_La_law_507 (by decide) (fun c_134 => ?_) (fun c_134 => ?_)
        · have h := lf_t h c_134
          exact hB_512 _ hr_33 hm_33 y_4 Y G S T_131 oo _ _ _ h hP hD hS (lv_sub hl [2, 3, 4, 5, 6] rfl)
        · have h := lf_f h c_134
          refine lv_iconst (v := 0) hx hb d_La_law_510 (by decide) ?_
          exact lf_01 h
    · have h := lf_f h c_132
      refine lv_iconst (v := 0) hx hb d_La_law_493 (by decide) ?_
      exact lf_01 h
  have hB_471 : ∀ (rec_33 : Int32 → CG → CS → MS → (Nat → Int64) → Option (Int32 × CG × CS)) (hr_33 : ∀ (y_4 : Int32) (Y : CT) (G : CG) (S : CS) (T : MS) (oo : Nat → Int64) (H : Heap) (locs : List Loc) (ls : Array Slot), rec_33 y_4 G S T oo = some (1, G', S') → va_P (dC, dI) classes (wM M2 T ++ ((ou, .inl (kL, 1, .inr (.inl oo))) :: wV M Y G S)) H → va_D (fun q => s.heap.size ≤ q) (wM M2 T ++ ((ou, .inl (kL, 1, .inr (.inl oo))) :: wV M Y G S)) → va_S (fun q => s.heap.size ≤ q) s.heap H locs → lv_has ls 8 [(0, .ref b), (1, .ref M.o_Vt), (2, .ref M2.o), (3, .ref ou), (4, .int y_4)] → W p l e room_1 s m #[Value.ref b] below meth c H locs (cB + G.gc) (sB + G.gs) (lw_Z below #[Value.ref b] s) (F0 m 33 ls [])) (hm_33 : ∀ (y_4 : Int32) (G : CG) (S : CS) (T : MS) (oo : Nat → Int64) {x : Int32} {G1 : CG} {S1 : CS}, rec_33 y_4 G S T oo = some (x, G1, S1) → CG.le G G1), ∀ (y_4 : Int32) (Y : CT) (G : CG) (S : CS) (T : MS) (oo : Nat → Int64) (H : Heap) (locs : List Loc) (ls : Array Slot), f_law_471 K L xs rec_33 y_4 G S T oo = some (1, G', S') → va_P (dC, dI) classes (wM M2 T ++ ((ou, .inl (kL, 1, .inr (.inl oo))) :: wV M Y G S)) H → va_D (fun q => s.heap.size ≤ q) (wM M2 T ++ ((ou, .inl (kL, 1, .inr (.inl oo))) :: wV M Y G S)) → va_S (fun q => s.heap.size ≤ q) s.heap H locs → lv_has ls 8 [(0, .ref b), (1, .ref M.o_Vt), (2, .ref M2.o), (3, .ref ou), (4, .int y_4)] → W p l e room_1 s m #[Value.ref b] below meth c H locs (cB + G.gc) (sB + G.gs) (lw_Z below #[Value.ref b] s) (F0 m 471 ls []) := by
    intro rec_33 hr_33 hm_33 y_4 Y G S T oo H locs ls h hP hD hS hl
    have mF := mo_law_471 hm_33 h
    rw [f_law_471] at h
    refine lv_aload_n hx hb d_La_law_471 rfl (lv_at hl 1 rfl) ?_
    refine lv_aload_n hx hb d_La_law_472 rfl (lv_at hl 3 rfl) ?_
    rcases lf_hE h with ⟨r_65, G_65, S_65, hc_65, h⟩ | ⟨k_65, G_65, S_65, hc_65, h⟩
    · obtain ⟨oo_65, eo_65, h⟩ := lf_lX h
      have ml_65 := mo_Vt_items hc_65
      have mc := mo_Vt_items hc_65
      have mF1 := mo_law_476 hm_33 h
      have hPa := hP
      have hDa := hD
      have hPc := lw_PR hPa
      have hDc := lw_DR hDa
      have hFc := lx_free hDc hS hA
      refine va_calli (x_runSW (handlers := [(0, 8, 11, 19)]) (bytes := b_La_items) (maxL := 3) (ret := (some .int)) (n := 2) (index := 117) (As := [.ref M.o_Vt, .ref ou]) (rest := []) ⟨hx, hb, hml, hown, hts⟩ (la_items_ok l hfl dC dI X _ ou kL oo hc_65) rfl rfl (Nat.le_of_ble_eq_true rfl) (Nat.le_of_ble_eq_true rfl) (pay_in hts (fun w h => good_Lq w (wcs (u_Lq_La _ k_La_23) (fun _ h => h) w h))) List.mem_cons_self (hts _ (u_Lq_La _ k_La_0)) ⟨(by decide), (by decide)⟩ (hlen_of (by decide +kernel)) (hts _ (u_Lq_La _ k_La_21)) (hts _ (u_Lq_La _ k_La_22)) (ps_ofE (X.same _) (fun U z1 z2 => X.mono _ _ U hFc (hEw _ _ hS U z1 z2)) hPc hKH hDc) rfl rfl hl.1 rfl (lv_room (Nat.le_of_ble_eq_true rfl)) d_La_law_473 ⟨lw_c1 mc.1 mF1.1 hGc, lw_c1 mc.2 mF1.2 hGs⟩) hS (fun q _ h => hFc q h) hFc (fun r_ Y_65 t H locs ht hvm hw hB hz1 hk1 hS => ?_)
      rw [hw]
      obtain ⟨hP1, -, hD1⟩ := hB
      rw [ht] at hP1
      rw [← eo_65] at hP1 hD1
      obtain ⟨hP, hD⟩ := lw_jR hPa hDa hk1 hFc hP1 hD1
      refine W.widen (k := cB + G_65.gc) (n := sB + G_65.gs) (lw_c2 mc.1) (lw_c2 mc.2) ?_
      exact hB_476 _ hr_33 hm_33 y_4 0 Y_65 G_65 S_65 T oo_65 _ _ _ h hP hD hS (lv_sub hl [0, 1, 2, 3, 4] rfl)
    · by_cases c_65_1 : k_65 = 1
      · have h := lf_t h c_65_1
        rw [c_65_1] at hc_65
        have ml_65 := mo_Vt_items hc_65
        have mc := mo_Vt_items hc_65
        have mF1 := mo_law_476 hm_33 h
        have hPa := hP
        have hDa := hD
        have hPc := lw_PR hPa
        have hDc := lw_DR hDa
        have hFc := lx_free hDc hS hA
        refine va_calli (x_runSW (handlers := [(0, 8, 11, 19)]) (bytes := b_La_items) (maxL := 3) (ret := (some .int)) (n := 2) (index := 117) (As := [.ref M.o_Vt, .ref ou]) (rest := []) ⟨hx, hb, hml, hown, hts⟩ (la_items_1 l hfl dC dI X _ ou kL oo hc_65) rfl rfl (Nat.le_of_ble_eq_true rfl) (Nat.le_of_ble_eq_true rfl) (pay_in hts (fun w h => good_Lq w (wcs (u_Lq_La _ k_La_23) (fun _ h => h) w h))) List.mem_cons_self (hts _ (u_Lq_La _ k_La_0)) ⟨(by decide), (by decide)⟩ (hlen_of (by decide +kernel)) (hts _ (u_Lq_La _ k_La_21)) (hts _ (u_Lq_La _ k_La_22)) (ps_ofE (X.same _) (fun U z1 z2 => X.mono _ _ U hFc (hEw _ _ hS U z1 z2)) hPc hKH hDc) rfl rfl hl.1 rfl (lv_room (Nat.le_of_ble_eq_true rfl)) d_La_law_473 ⟨lw_c1 mc.1 mF1.1 hGc, lw_c1 mc.2 mF1.2 hGs⟩) hS (fun q _ h => hFc q h) hFc (fun r_ Y_65 t H locs ht hvm hw hB hz1 hk1 hS => ?_)
        rw [hw]
        obtain ⟨hP1, -, hD1⟩ := hB
        rw [ht] at hP1
        obtain ⟨hP, hD⟩ := lw_jR hPa hDa hk1 hFc hP1 hD1
        refine W.widen (k := cB + G_65.gc) (n := sB + G_65.gs) (lw_c2 mc.1) (lw_c2 mc.2) ?_
        exact hB_476 _ hr_33 hm_33 y_4 1 Y_65 G_65 S_65 T oo _ _ _ h hP hD hS (lv_sub hl [0, 1, 2, 3, 4] rfl)
      · have h := lf_f h c_65_1
        exact lf_no h
  have hB_580 : ∀ (rec_33 : Int32 → CG → CS → MS → (Nat → Int64) → Option (Int32 × CG × CS)) (hr_33 : ∀ (y_4 : Int32) (Y : CT) (G : CG) (S : CS) (T : MS) (oo : Nat → Int64) (H : Heap) (locs : List Loc) (ls : Array Slot), rec_33 y_4 G S T oo = some (1, G', S') → va_P (dC, dI) classes (wM M2 T ++ ((ou, .inl (kL, 1, .inr (.inl oo))) :: wV M Y G S)) H → va_D (fun q => s.heap.size ≤ q) (wM M2 T ++ ((ou, .inl (kL, 1, .inr (.inl oo))) :: wV M Y G S)) → va_S (fun q => s.heap.size ≤ q) s.heap H locs → lv_has ls 8 [(0, .ref b), (1, .ref M.o_Vt), (2, .ref M2.o), (3, .ref ou), (4, .int y_4)] → W p l e room_1 s m #[Value.ref b] below meth c H locs (cB + G.gc) (sB + G.gs) (lw_Z below #[Value.ref b] s) (F0 m 33 ls [])) (hm_33 : ∀ (y_4 : Int32) (G : CG) (S : CS) (T : MS) (oo : Nat → Int64) {x : Int32} {G1 : CG} {S1 : CS}, rec_33 y_4 G S T oo = some (x, G1, S1) → CG.le G G1), ∀ (y_4 : Int32) (Y : CT) (G : CG) (S : CS) (T : MS) (oo : Nat → Int64) (H : Heap) (locs : List Loc) (ls : Array Slot), f_law_580 K L xs rec_33 y_4 G S T oo = some (1, G', S') → va_P (dC, dI) classes (wM M2 T ++ ((ou, .inl (kL, 1, .inr (.inl oo))) :: wV M Y G S)) H → va_D (fun q => s.heap.size ≤ q) (wM M2 T ++ ((ou, .inl (kL, 1, .inr (.inl oo))) :: wV M Y G S)) → va_S (fun q => s.heap.size ≤ q) s.heap H locs → lv_has ls 8 [(0, .ref b), (1, .ref M.o_Vt), (2, .ref M2.o), (3, .ref ou), (4, .int y_4)] → W p l e room_1 s m #[Value.ref b] below meth c H locs (cB + G.gc) (sB + G.gs) (lw_Z below #[Value.ref b] s) (F0 m 580 ls []) := by
    intro rec_33 hr_33 hm_33 y_4 Y G S T oo H locs ls h hP hD hS hl
    have mF := mo_law_580 hm_33 h
    rw [f_law_580] at h
    refine lv_goto (tgt := 1388) hx hb d_La_law_580 (by decide) ?_
    exact hB_1388 _ hr_33 hm_33 y_4 Y G S T oo _ _ _ h hP hD hS (lv_sub hl [0, 1, 2, 3, 4] rfl)
  have hB_532 : ∀ (rec_33 : Int32 → CG → CS → MS → (Nat → Int64) → Option (Int32 × CG × CS)) (hr_33 : ∀ (y_4 : Int32) (Y : CT) (G : CG) (S : CS) (T : MS) (oo : Nat → Int64) (H : Heap) (locs : List Loc) (ls : Array Slot), rec_33 y_4 G S T oo = some (1, G', S') → va_P (dC, dI) classes (wM M2 T ++ ((ou, .inl (kL, 1, .inr (.inl oo))) :: wV M Y G S)) H → va_D (fun q => s.heap.size ≤ q) (wM M2 T ++ ((ou, .inl (kL, 1, .inr (.inl oo))) :: wV M Y G S)) → va_S (fun q => s.heap.size ≤ q) s.heap H locs → lv_has ls 8 [(0, .ref b), (1, .ref M.o_Vt), (2, .ref M2.o), (3, .ref ou), (4, .int y_4)] → W p l e room_1 s m #[Value.ref b] below meth c H locs (cB + G.gc) (sB + G.gs) (lw_Z below #[Value.ref b] s) (F0 m 33 ls [])) (hm_33 : ∀ (y_4 : Int32) (G : CG) (S : CS) (T : MS) (oo : Nat → Int64) {x : Int32} {G1 : CG} {S1 : CS}, rec_33 y_4 G S T oo = some (x, G1, S1) → CG.le G G1), ∀ (y_4 : Int32) (z_0 : Int32) (Y : CT) (G : CG) (S : CS) (T : MS) (oo : Nat → Int64) (H : Heap) (locs : List Loc) (ls : Array Slot), f_law_532 K L xs rec_33 y_4 z_0 G S T oo = some (1, G', S') → va_P (dC, dI) classes (wM M2 T ++ ((ou, .inl (kL, 1, .inr (.inl oo))) :: wV M Y G S)) H → va_D (fun q => s.heap.size ≤ q) (wM M2 T ++ ((ou, .inl (kL, 1, .inr (.inl oo))) :: wV M Y G S)) → va_S (fun q => s.heap.size ≤ q) s.heap H locs → lv_has ls 8 [(0, .ref b), (1, .ref M.o_Vt), (2, .ref M2.o), (3, .ref ou), (4, .int y_4)] → W p l e room_1 s m #[Value.ref b] below meth c H locs (cB + G.gc) (sB + G.gs) (lw_Z below #[Value.ref b] s) (F0 m 532 ls [.int z_0]) := by
    intro rec_33 hr_33 hm_33 y_4 z_0 Y G S T oo H locs ls h hP hD hS hl
    have mF := mo_law_532 hm_33 h
    rw [f_law_532] at h
    refine lv_istore (lv' := [(5, .int z_0), (0, .ref b), (1, .ref M.o_Vt), (2, .ref M2.o), (3, .ref ou), (4, .int y_4)]) hx hb d_La_law_532 hl (by decide) rfl (fun ls hl => ?_)
    refine lv_aload_n hx hb d_La_law_534 rfl (lv_at hl 3 rfl) ?_
    refine lv_aload_n hx hb d_La_law_535 rfl (lv_at hl 1 rfl) ?_
    refine lv_iload hx hb d_La_law_536 (lv_at hl 5 rfl) ?_
    refine lv_iconst (v := 1) hx hb d_La_law_538 (by decide) ?_
    refine lv_iadd hx hb d_La_law_539 ?_
    obtain ⟨g_135, h⟩ := lf_gE h
    refine va_sld hx hb hX hbl hbA hS g_135 d_La_law_540 ?_
    refine lv_aload_n hx hb d_La_law_541 rfl (lv_at hl 1 rfl) ?_
    refine lv_iload hx hb d_La_law_542 (lv_at hl 5 rfl) ?_
    refine lv_iconst (v := 2) hx hb d_La_law_544 (by decide) ?_
    refine lv_iadd hx hb d_La_law_545 ?_
    obtain ⟨g_136, h⟩ := lf_gE h
    refine va_sld hx hb hX hbl hbA hS g_136 d_La_law_546 ?_
    obtain ⟨r_137, T_137, hc_137, h⟩ := lf_cE h
    have hPc := lw_PL hP
    have hDc := lw_DL hD
    have hFc := lx_free hDc hS hA
    refine va_calli (va_runV (As := [.int (xs (y_4 + 1).toNatClampNeg), .int (xs (y_4 + 2).toNatClampNeg)]) (rest := []) ⟨hx, hb, hml, hown, hts⟩ (l_Mo_letter l dC dI X2 _ hc_137) (cwV 2 hts (gwV good_Lq (u_Lq_La _ k_La_88) (u_Lq_Mo _ k_Mo_249) (u_Lq_Mo _ k_Mo_250) (u_Lq_Mo _ k_Mo_0) (wcs (u_Lq_Mo _ k_Mo_251) u_Lq_Mq)) rfl rfl rfl (by decide +kernel) ⟨Nat.le_of_ble_eq_true rfl, Nat.le_of_ble_eq_true rfl⟩) (pv_ofE (X2.same _) (fun U z1 z2 => X2.mono _ _ U hFc (hEw _ _ hS U z1 z2)) hPc hKM hDc (va_recv hKM hPc (ci := 12) (q0 := 0) rfl rfl)) rfl rfl hl.1 rfl (lv_room (Nat.le_of_ble_eq_true rfl)) d_La_law_547 ⟨lw_c0 mF.1 hGc, lw_c0 mF.2 hGs⟩) hS (fun q _ h => hFc q h) hFc (fun r_ u t H locs ht hvm hw hB hz1 hk1 hS => ?_)
    rw [hw]
    obtain ⟨hP1, -, hD1⟩ := hB
    rw [ht] at hP1
    obtain ⟨hP, hD⟩ := lw_jL hP hD hk1 hFc hP1 hD1
    refine lv_istore (lv' := [(6, .int r_137), (5, .int z_0), (0, .ref b), (1, .ref M.o_Vt), (2, .ref M2.o), (3, .ref ou), (4, .int y_4)]) hx hb d_La_law_550 hl (by decide) rfl (fun ls hl => ?_)
    refine lv_aload_n hx hb d_La_law_552 rfl (lv_at hl 4 rfl) ?_
    obtain ⟨r_138, T_138, hc_138, h⟩ := lf_cE h
    have hPc := lw_PL hP
    have hDc := lw_DL hD
    have hFc := lx_free hDc hS hA
    refine va_calli (va_runV (As := []) (rest := []) ⟨hx, hb, hml, hown, hts⟩ (l_Mo_thrown l dC dI X2 _ hc_138) (cwV 0 hts (gwV good_Lq (u_Lq_La _ k_La_78) (u_Lq_Mo _ k_Mo_73) (u_Lq_Mo _ k_Mo_74) (u_Lq_Mo _ k_Mo_0) (wcs (u_Lq_Mo _ k_Mo_75) u_Lq_Mq)) rfl rfl rfl (by decide +kernel) ⟨Nat.le_of_ble_eq_true rfl, Nat.le_of_ble_eq_true rfl⟩) (pv_ofE (X2.same _) (fun U z1 z2 => X2.mono _ _ U hFc (hEw _ _ hS U z1 z2)) hPc hKM hDc (va_recv hKM hPc (ci := 12) (q0 := 0) rfl rfl)) rfl rfl hl.1 rfl (lv_room (Nat.le_of_ble_eq_true rfl)) d_La_law_553 ⟨lw_c0 mF.1 hGc, lw_c0 mF.2 hGs⟩) hS (fun q _ h => hFc q h) hFc (fun r_ u t H locs ht hvm hw hB hz1 hk1 hS => ?_)
    rw [hw]
    obtain ⟨hP1, -, hD1⟩ := hB
    rw [ht] at hP1
    obtain ⟨hP, hD⟩ := lw_jL hP hD hk1 hFc hP1 hD1
    refine lv_iload hx hb d_La_law_556 (lv_at hl 1 rfl) ?_
    refine lv_icmp_eq (tgt := 563) hx hb d_La_law_558 (by decide) (fun c_139 => ?_) (fun c_139 => ?_)
    · have h := lf_t h c_139
      refine lv_iload hx hb d_La_law_563 (lv_at hl 1 rfl) ?_
      refine lv_if_ne (tgt := 580) hx hb d_La_law_565 (by decide) (fun c_140 => ?_) (fun c_140 => ?_)
      · have h := lf_f h c_140
        exact hB_580 _ hr_33 hm_33 y_4 Y G S T_138 oo _ _ _ h hP hD hS (lv_sub hl [2, 3, 4, 5, 6] rfl)
      · have h := lf_t h c_140
        refine lv_aload_n hx hb d_La_law_568 rfl (lv_at hl 5 rfl) ?_
        refine lv_iconst (v := 0) hx hb d_La_law_569 (by decide) ?_
        refine va_lald hx hb hK hP 28 27 rfl rfl (by unfold vp_in; decide) d_La_law_570 ?_
        refine lv_iload hx hb d_La_law_571 (lv_at hl 0 rfl) ?_
        refine lv_i2l hx hb d_La_law_573 rfl ?_
        refine W.lcmp hx hb d_La_law_574 ?_
        refine lv_if_eq (tgt := 580) hx hb d_La_law_575 (by decide) (fun c_141 => ?_) (fun c_141 => ?_)
        · have h := lf_t h c_141
          exact hB_580 _ hr_33 hm_33 y_4 Y G S T_138 oo _ _ _ h hP hD hS (lv_sub hl [2, 3, 4, 5, 6] rfl)
        · have h := lf_f h c_141
          refine lv_iconst (v := 0) hx hb d_La_law_578 (by decide) ?_
          exact lf_01 h
    · have h := lf_f h c_139
      refine lv_iconst (v := 0) hx hb d_La_law_561 (by decide) ?_
      exact lf_01 h
  have hB_515 : ∀ (rec_33 : Int32 → CG → CS → MS → (Nat → Int64) → Option (Int32 × CG × CS)) (hr_33 : ∀ (y_4 : Int32) (Y : CT) (G : CG) (S : CS) (T : MS) (oo : Nat → Int64) (H : Heap) (locs : List Loc) (ls : Array Slot), rec_33 y_4 G S T oo = some (1, G', S') → va_P (dC, dI) classes (wM M2 T ++ ((ou, .inl (kL, 1, .inr (.inl oo))) :: wV M Y G S)) H → va_D (fun q => s.heap.size ≤ q) (wM M2 T ++ ((ou, .inl (kL, 1, .inr (.inl oo))) :: wV M Y G S)) → va_S (fun q => s.heap.size ≤ q) s.heap H locs → lv_has ls 8 [(0, .ref b), (1, .ref M.o_Vt), (2, .ref M2.o), (3, .ref ou), (4, .int y_4)] → W p l e room_1 s m #[Value.ref b] below meth c H locs (cB + G.gc) (sB + G.gs) (lw_Z below #[Value.ref b] s) (F0 m 33 ls [])) (hm_33 : ∀ (y_4 : Int32) (G : CG) (S : CS) (T : MS) (oo : Nat → Int64) {x : Int32} {G1 : CG} {S1 : CS}, rec_33 y_4 G S T oo = some (x, G1, S1) → CG.le G G1), ∀ (y_4 : Int32) (Y : CT) (G : CG) (S : CS) (T : MS) (oo : Nat → Int64) (H : Heap) (locs : List Loc) (ls : Array Slot), f_law_515 K L xs rec_33 y_4 G S T oo = some (1, G', S') → va_P (dC, dI) classes (wM M2 T ++ ((ou, .inl (kL, 1, .inr (.inl oo))) :: wV M Y G S)) H → va_D (fun q => s.heap.size ≤ q) (wM M2 T ++ ((ou, .inl (kL, 1, .inr (.inl oo))) :: wV M Y G S)) → va_S (fun q => s.heap.size ≤ q) s.heap H locs → lv_has ls 8 [(0, .ref b), (1, .ref M.o_Vt), (2, .ref M2.o), (3, .ref ou), (4, .int y_4)] → W p l e room_1 s m #[Value.ref b] below meth c H locs (cB + G.gc) (sB + G.gs) (lw_Z below #[Value.ref b] s) (F0 m 515 ls []) := by
    intro rec_33 hr_33 hm_33 y_4 Y G S T oo H locs ls h hP hD hS hl
    have mF := mo_law_515 hm_33 h
    rw [f_law_515] at h
    refine lv_aload_n hx hb d_La_law_515 rfl (lv_at hl 1 rfl) ?_
    refine lv_aload_n hx hb d_La_law_516 rfl (lv_at hl 0 rfl) ?_
    refine lv_iload hx hb d_La_law_517 (lv_at hl 4 rfl) ?_
    refine lv_iconst (v := 1) hx hb d_La_law_519 (by decide) ?_
    refine lv_iadd hx hb d_La_law_520 ?_
    obtain ⟨g_66, h⟩ := lf_gE h
    refine va_sld hx hb hX hbl hbA hS g_66 d_La_law_521 ?_
    refine lv_aload_n hx hb d_La_law_522 rfl (lv_at hl 0 rfl) ?_
    refine lv_iload hx hb d_La_law_523 (lv_at hl 4 rfl) ?_
    refine lv_iconst (v := 2) hx hb d_La_law_525 (by decide) ?_
    refine lv_iadd hx hb d_La_law_526 ?_
    obtain ⟨g_67, h⟩ := lf_gE h
    refine va_sld hx hb hX hbl hbA hS g_67 d_La_law_527 ?_
    refine lv_aload_n hx hb d_La_law_528 rfl (lv_at hl 3 rfl) ?_
    rcases lf_hE h with ⟨r_68, G_68, S_68, hc_68, h⟩ | ⟨k_68, G_68, S_68, hc_68, h⟩
    · obtain ⟨oo_68, eo_68, h⟩ := lf_lX h
      have ml_68 := mo_Vt_letter hc_68
      have mc := mo_Vt_letter hc_68
      have mF1 := mo_law_532 hm_33 h
      have hPa := hP
      have hDa := hD
      have hPc := lw_PR hPa
      have hDc := lw_DR hDa
      have hFc := lx_free hDc hS hA
      refine va_calli (x_runSW (handlers := [(0, 10, 13, 19), (0, 10, 17, 25)]) (bytes := b_La_letter) (maxL := 5) (ret := (some .int)) (n := 4) (index := 121) (As := [.ref M.o_Vt, .int (xs (y_4 + 1).toNatClampNeg), .int (xs (y_4 + 2).toNatClampNeg), .ref ou]) (rest := []) ⟨hx, hb, hml, hown, hts⟩ (la_letter_ok l hfl dC dI X _ ou kL oo hc_68) rfl rfl (Nat.le_of_ble_eq_true rfl) (Nat.le_of_ble_eq_true rfl) (pay_in hts (fun w h => good_Lq w (wcs (u_Lq_La _ k_La_28) (fun _ h => h) w h))) List.mem_cons_self (hts _ (u_Lq_La _ k_La_0)) ⟨(by decide), (by decide)⟩ (hlen_of (by decide +kernel)) (hts _ (u_Lq_La _ k_La_26)) (hts _ (u_Lq_La _ k_La_27)) (ps_ofE (X.same _) (fun U z1 z2 => X.mono _ _ U hFc (hEw _ _ hS U z1 z2)) hPc hKH hDc) rfl rfl hl.1 rfl (lv_room (Nat.le_of_ble_eq_true rfl)) d_La_law_529 ⟨lw_c1 mc.1 mF1.1 hGc, lw_c1 mc.2 mF1.2 hGs⟩) hS (fun q _ h => hFc q h) hFc (fun r_ Y_68 t H locs ht hvm hw hB hz1 hk1 hS => ?_)
      rw [hw]
      obtain ⟨hP1, -, hD1⟩ := hB
      rw [ht] at hP1
      rw [← eo_68] at hP1 hD1
      obtain ⟨hP, hD⟩ := lw_jR hPa hDa hk1 hFc hP1 hD1
      refine W.widen (k := cB + G_68.gc) (n := sB + G_68.gs) (lw_c2 mc.1) (lw_c2 mc.2) ?_
      exact hB_532 _ hr_33 hm_33 y_4 0 Y_68 G_68 S_68 T oo_68 _ _ _ h hP hD hS (lv_sub hl [0, 1, 2, 3, 4] rfl)
    · by_cases c_68_1 : k_68 = 1
      · have h := lf_t h c_68_1
        rw [c_68_1] at hc_68
        have ml_68 := mo_Vt_letter hc_68
        have mc := mo_Vt_letter hc_68
        have mF1 := mo_law_532 hm_33 h
        have hPa := hP
        have hDa := hD
        have hPc := lw_PR hPa
        have hDc := lw_DR hDa
        have hFc := lx_free hDc hS hA
        refine va_calli (x_runSW (handlers := [(0, 10, 13, 19), (0, 10, 17, 25)]) (bytes := b_La_letter) (maxL := 5) (ret := (some .int)) (n := 4) (index := 121) (As := [.ref M.o_Vt, .int (xs (y_4 + 1).toNatClampNeg), .int (xs (y_4 + 2).toNatClampNeg), .ref ou]) (rest := []) ⟨hx, hb, hml, hown, hts⟩ (la_letter_1 l hfl dC dI X _ ou kL oo hc_68) rfl rfl (Nat.le_of_ble_eq_true rfl) (Nat.le_of_ble_eq_true rfl) (pay_in hts (fun w h => good_Lq w (wcs (u_Lq_La _ k_La_28) (fun _ h => h) w h))) List.mem_cons_self (hts _ (u_Lq_La _ k_La_0)) ⟨(by decide), (by decide)⟩ (hlen_of (by decide +kernel)) (hts _ (u_Lq_La _ k_La_26)) (hts _ (u_Lq_La _ k_La_27)) (ps_ofE (X.same _) (fun U z1 z2 => X.mono _ _ U hFc (hEw _ _ hS U z1 z2)) hPc hKH hDc) rfl rfl hl.1 rfl (lv_room (Nat.le_of_ble_eq_true rfl)) d_La_law_529 ⟨lw_c1 mc.1 mF1.1 hGc, lw_c1 mc.2 mF1.2 hGs⟩) hS (fun q _ h => hFc q h) hFc (fun r_ Y_68 t H locs ht hvm hw hB hz1 hk1 hS => ?_)
        rw [hw]
        obtain ⟨hP1, -, hD1⟩ := hB
        rw [ht] at hP1
        obtain ⟨hP, hD⟩ := lw_jR hPa hDa hk1 hFc hP1 hD1
        refine W.widen (k := cB + G_68.gc) (n := sB + G_68.gs) (lw_c2 mc.1) (lw_c2 mc.2) ?_
        exact hB_532 _ hr_33 hm_33 y_4 1 Y_68 G_68 S_68 T oo _ _ _ h hP hD hS (lv_sub hl [0, 1, 2, 3, 4] rfl)
      · have h := lf_f h c_68_1
        by_cases c_68_2 : k_68 = 2
        · have h := lf_t h c_68_2
          rw [c_68_2] at hc_68
          have ml_68 := mo_Vt_letter hc_68
          have mc := mo_Vt_letter hc_68
          have mF1 := mo_law_532 hm_33 h
          have hPa := hP
          have hDa := hD
          have hPc := lw_PR hPa
          have hDc := lw_DR hDa
          have hFc := lx_free hDc hS hA
          refine va_calli (x_runSW (handlers := [(0, 10, 13, 19), (0, 10, 17, 25)]) (bytes := b_La_letter) (maxL := 5) (ret := (some .int)) (n := 4) (index := 121) (As := [.ref M.o_Vt, .int (xs (y_4 + 1).toNatClampNeg), .int (xs (y_4 + 2).toNatClampNeg), .ref ou]) (rest := []) ⟨hx, hb, hml, hown, hts⟩ (la_letter_2 l hfl dC dI X Xm _ ou kL oo hc_68) rfl rfl (Nat.le_of_ble_eq_true rfl) (Nat.le_of_ble_eq_true rfl) (pay_in hts (fun w h => good_Lq w (wcs (u_Lq_La _ k_La_28) (fun _ h => h) w h))) List.mem_cons_self (hts _ (u_Lq_La _ k_La_0)) ⟨(by decide), (by decide)⟩ (hlen_of (by decide +kernel)) (hts _ (u_Lq_La _ k_La_26)) (hts _ (u_Lq_La _ k_La_27)) (ps_ofE (X.same _) (fun U z1 z2 => X.mono _ _ U hFc (hEw _ _ hS U z1 z2)) hPc hKH hDc) rfl rfl hl.1 rfl (lv_room (Nat.le_of_ble_eq_true rfl)) d_La_law_529 ⟨lw_c1 mc.1 mF1.1 hGc, lw_c1 mc.2 mF1.2 hGs⟩) hS (fun q _ h => hFc q h) hFc (fun r_ Y_68 t H locs ht hvm hw hB hz1 hk1 hS => ?_)
          rw [hw]
          obtain ⟨hP1, -, hD1⟩ := hB
          rw [ht] at hP1
          obtain ⟨hP, hD⟩ := lw_jR hPa hDa hk1 hFc hP1 hD1
          refine W.widen (k := cB + G_68.gc) (n := sB + G_68.gs) (lw_c2 mc.1) (lw_c2 mc.2) ?_
          exact hB_532 _ hr_33 hm_33 y_4 2 Y_68 G_68 S_68 T oo _ _ _ h hP hD hS (lv_sub hl [0, 1, 2, 3, 4] rfl)
        · have h := lf_f h c_68_2
          exact lf_no h
  have hB_647 : ∀ (rec_33 : Int32 → CG → CS → MS → (Nat → Int64) → Option (Int32 × CG × CS)) (hr_33 : ∀ (y_4 : Int32) (Y : CT) (G : CG) (S : CS) (T : MS) (oo : Nat → Int64) (H : Heap) (locs : List Loc) (ls : Array Slot), rec_33 y_4 G S T oo = some (1, G', S') → va_P (dC, dI) classes (wM M2 T ++ ((ou, .inl (kL, 1, .inr (.inl oo))) :: wV M Y G S)) H → va_D (fun q => s.heap.size ≤ q) (wM M2 T ++ ((ou, .inl (kL, 1, .inr (.inl oo))) :: wV M Y G S)) → va_S (fun q => s.heap.size ≤ q) s.heap H locs → lv_has ls 8 [(0, .ref b), (1, .ref M.o_Vt), (2, .ref M2.o), (3, .ref ou), (4, .int y_4)] → W p l e room_1 s m #[Value.ref b] below meth c H locs (cB + G.gc) (sB + G.gs) (lw_Z below #[Value.ref b] s) (F0 m 33 ls [])) (hm_33 : ∀ (y_4 : Int32) (G : CG) (S : CS) (T : MS) (oo : Nat → Int64) {x : Int32} {G1 : CG} {S1 : CS}, rec_33 y_4 G S T oo = some (x, G1, S1) → CG.le G G1), ∀ (y_4 : Int32) (Y : CT) (G : CG) (S : CS) (T : MS) (oo : Nat → Int64) (H : Heap) (locs : List Loc) (ls : Array Slot), f_law_647 K L xs rec_33 y_4 G S T oo = some (1, G', S') → va_P (dC, dI) classes (wM M2 T ++ ((ou, .inl (kL, 1, .inr (.inl oo))) :: wV M Y G S)) H → va_D (fun q => s.heap.size ≤ q) (wM M2 T ++ ((ou, .inl (kL, 1, .inr (.inl oo))) :: wV M Y G S)) → va_S (fun q => s.heap.size ≤ q) s.heap H locs → lv_has ls 8 [(0, .ref b), (1, .ref M.o_Vt), (2, .ref M2.o), (3, .ref ou), (4, .int y_4)] → W p l e room_1 s m #[Value.ref b] below meth c H locs (cB + G.gc) (sB + G.gs) (lw_Z below #[Value.ref b] s) (F0 m 647 ls []) := by
    intro rec_33 hr_33 hm_33 y_4 Y G S T oo H locs ls h hP hD hS hl
    have mF := mo_law_647 hm_33 h
    rw [f_law_647] at h
    refine lv_goto (tgt := 1388) hx hb d_La_law_647 (by decide) ?_
    exact hB_1388 _ hr_33 hm_33 y_4 Y G S T oo _ _ _ h hP hD hS (lv_sub hl [0, 1, 2, 3, 4] rfl)
  have hB_600 : ∀ (rec_33 : Int32 → CG → CS → MS → (Nat → Int64) → Option (Int32 × CG × CS)) (hr_33 : ∀ (y_4 : Int32) (Y : CT) (G : CG) (S : CS) (T : MS) (oo : Nat → Int64) (H : Heap) (locs : List Loc) (ls : Array Slot), rec_33 y_4 G S T oo = some (1, G', S') → va_P (dC, dI) classes (wM M2 T ++ ((ou, .inl (kL, 1, .inr (.inl oo))) :: wV M Y G S)) H → va_D (fun q => s.heap.size ≤ q) (wM M2 T ++ ((ou, .inl (kL, 1, .inr (.inl oo))) :: wV M Y G S)) → va_S (fun q => s.heap.size ≤ q) s.heap H locs → lv_has ls 8 [(0, .ref b), (1, .ref M.o_Vt), (2, .ref M2.o), (3, .ref ou), (4, .int y_4)] → W p l e room_1 s m #[Value.ref b] below meth c H locs (cB + G.gc) (sB + G.gs) (lw_Z below #[Value.ref b] s) (F0 m 33 ls [])) (hm_33 : ∀ (y_4 : Int32) (G : CG) (S : CS) (T : MS) (oo : Nat → Int64) {x : Int32} {G1 : CG} {S1 : CS}, rec_33 y_4 G S T oo = some (x, G1, S1) → CG.le G G1), ∀ (y_4 : Int32) (z_0 : Int32) (Y : CT) (G : CG) (S : CS) (T : MS) (oo : Nat → Int64) (H : Heap) (locs : List Loc) (ls : Array Slot), f_law_600 K L xs rec_33 y_4 z_0 G S T oo = some (1, G', S') → va_P (dC, dI) classes (wM M2 T ++ ((ou, .inl (kL, 1, .inr (.inl oo))) :: wV M Y G S)) H → va_D (fun q => s.heap.size ≤ q) (wM M2 T ++ ((ou, .inl (kL, 1, .inr (.inl oo))) :: wV M Y G S)) → va_S (fun q => s.heap.size ≤ q) s.heap H locs → lv_has ls 8 [(0, .ref b), (1, .ref M.o_Vt), (2, .ref M2.o), (3, .ref ou), (4, .int y_4)] → W p l e room_1 s m #[Value.ref b] below meth c H locs (cB + G.gc) (sB + G.gs) (lw_Z below #[Value.ref b] s) (F0 m 600 ls [.int z_0]) := by
    intro rec_33 hr_33 hm_33 y_4 z_0 Y G S T oo H locs ls h hP hD hS hl
    have mF := mo_law_600 hm_33 h
    rw [f_law_600] at h
    refine lv_istore (lv' := [(5, .int z_0), (0, .ref b), (1, .ref M.o_Vt), (2, .ref M2.o), (3, .ref ou), (4, .int y_4)]) hx hb d_La_law_600 hl (by decide) rfl (fun ls hl => ?_)
    refine lv_aload_n hx hb d_La_law_602 rfl (lv_at hl 3 rfl) ?_
    refine lv_aload_n hx hb d_La_law_603 rfl (lv_at hl 1 rfl) ?_
    refine lv_iload hx hb d_La_law_604 (lv_at hl 5 rfl) ?_
    refine lv_iconst (v := 1) hx hb d_La_law_606 (by decide) ?_
    refine lv_iadd hx hb d_La_law_607 ?_
    obtain ⟨g_142, h⟩ := lf_gE h
    refine va_sld hx hb hX hbl hbA hS g_142 d_La_law_608 ?_
    refine lv_aload_n hx hb d_La_law_609 rfl (lv_at hl 1 rfl) ?_
    refine lv_iload hx hb d_La_law_610 (lv_at hl 5 rfl) ?_
    refine lv_iconst (v := 2) hx hb d_La_law_612 (by decide) ?_
    refine lv_iadd hx hb d_La_law_613 ?_
    obtain ⟨g_143, h⟩ := lf_gE h
    refine va_sld hx hb hX hbl hbA hS g_143 d_La_law_614 ?_
    obtain ⟨r_144, T_144, hc_144, h⟩ := lf_cE h
    have hPc := lw_PL hP
    have hDc := lw_DL hD
    have hFc := lx_free hDc hS hA
    refine va_calll (va_runV (As := [.int (xs (y_4 + 1).toNatClampNeg), .int (xs (y_4 + 2).toNatClampNeg)]) (rest := []) ⟨hx, hb, hml, hown, hts⟩ (l_Mo_about l dC dI X2 _ hc_144) (cwV 2 hts (gwV good_Lq (u_Lq_La _ k_La_89) (u_Lq_Mo _ k_Mo_265) (u_Lq_Mo _ k_Mo_266) (u_Lq_Mo _ k_Mo_0) (wcs (u_Lq_Mo _ k_Mo_267) u_Lq_Mq)) rfl rfl rfl (by decide +kernel) ⟨Nat.le_of_ble_eq_true rfl, Nat.le_of_ble_eq_true rfl⟩) (pv_ofE (X2.same _) (fun U z1 z2 => X2.mono _ _ U hFc (hEw _ _ hS U z1 z2)) hPc hKM hDc (va_recv hKM hPc (ci := 12) (q0 := 0) rfl rfl)) rfl rfl hl.1 rfl (lv_room (Nat.le_of_ble_eq_true rfl)) d_La_law_615 ⟨lw_c0 mF.1 hGc, lw_c0 mF.2 hGs⟩) hS (fun q _ h => hFc q h) hFc (fun r_ u t H locs ht hvm hw hB hz1 hk1 hS => ?_)
    rw [hw]
    obtain ⟨hP1, -, hD1⟩ := hB
    rw [ht] at hP1
    obtain ⟨hP, hD⟩ := lw_jL hP hD hk1 hFc hP1 hD1
    refine lv_lstore (lv' := [(6, .long r_144), (5, .int z_0), (0, .ref b), (1, .ref M.o_Vt), (2, .ref M2.o), (3, .ref ou), (4, .int y_4)]) hx hb d_La_law_618 hl (by decide) rfl (fun ls hl => ?_)
    refine lv_aload_n hx hb d_La_law_620 rfl (lv_at hl 4 rfl) ?_
    obtain ⟨r_145, T_145, hc_145, h⟩ := lf_cE h
    have hPc := lw_PL hP
    have hDc := lw_DL hD
    have hFc := lx_free hDc hS hA
    refine va_calli (va_runV (As := []) (rest := []) ⟨hx, hb, hml, hown, hts⟩ (l_Mo_thrown l dC dI X2 _ hc_145) (cwV 0 hts (gwV good_Lq (u_Lq_La _ k_La_78) (u_Lq_Mo _ k_Mo_73) (u_Lq_Mo _ k_Mo_74) (u_Lq_Mo _ k_Mo_0) (wcs (u_Lq_Mo _ k_Mo_75) u_Lq_Mq)) rfl rfl rfl (by decide +kernel) ⟨Nat.le_of_ble_eq_true rfl, Nat.le_of_ble_eq_true rfl⟩) (pv_ofE (X2.same _) (fun U z1 z2 => X2.mono _ _ U hFc (hEw _ _ hS U z1 z2)) hPc hKM hDc (va_recv hKM hPc (ci := 12) (q0 := 0) rfl rfl)) rfl rfl hl.1 rfl (lv_room (Nat.le_of_ble_eq_true rfl)) d_La_law_621 ⟨lw_c0 mF.1 hGc, lw_c0 mF.2 hGs⟩) hS (fun q _ h => hFc q h) hFc (fun r_ u t H locs ht hvm hw hB hz1 hk1 hS => ?_)
    rw [hw]
    obtain ⟨hP1, -, hD1⟩ := hB
    rw [ht] at hP1
    obtain ⟨hP, hD⟩ := lw_jL hP hD hk1 hFc hP1 hD1
    refine lv_iload hx hb d_La_law_624 (lv_at hl 1 rfl) ?_
    refine lv_icmp_eq (tgt := 631) hx hb d_La_law_626 (by decide) (fun c_146 => ?_) (fun c_146 => ?_)
    · have h := lf_t h c_146
      refine lv_iload hx hb d_La_law_631 (lv_at hl 1 rfl) ?_
      refine lv_if_ne (tgt := 647) hx hb d_La_law_633 (by decide) (fun c_147 => ?_) (fun c_147 => ?_)
      · have h := lf_f h c_147
        exact hB_647 _ hr_33 hm_33 y_4 Y G S T_145 oo _ _ _ h hP hD hS (lv_sub hl [2, 3, 4, 5, 6] rfl)
      · have h := lf_t h c_147
        refine lv_aload_n hx hb d_La_law_636 rfl (lv_at hl 5 rfl) ?_
        refine lv_iconst (v := 0) hx hb d_La_law_637 (by decide) ?_
        refine va_lald hx hb hK hP 28 27 rfl rfl (by unfold vp_in; decide) d_La_law_638 ?_
        refine lv_lload hx hb d_La_law_639 (lv_at hl 0 rfl) ?_
        refine W.lcmp hx hb d_La_law_641 ?_
        refine lv_if_eq (tgt := 647) hx hb d_La_law_642 (by decide) (fun c_148 => ?_) (fun c_148 => ?_)
        · have h := lf_t h c_148
          exact hB_647 _ hr_33 hm_33 y_4 Y G S T_145 oo _ _ _ h hP hD hS (lv_sub hl [2, 3, 4, 5, 6] rfl)
        · have h := lf_f h c_148
          refine lv_iconst (v := 0) hx hb d_La_law_645 (by decide) ?_
          exact lf_01 h
    · have h := lf_f h c_146
      refine lv_iconst (v := 0) hx hb d_La_law_629 (by decide) ?_
      exact lf_01 h
  have hB_583 : ∀ (rec_33 : Int32 → CG → CS → MS → (Nat → Int64) → Option (Int32 × CG × CS)) (hr_33 : ∀ (y_4 : Int32) (Y : CT) (G : CG) (S : CS) (T : MS) (oo : Nat → Int64) (H : Heap) (locs : List Loc) (ls : Array Slot), rec_33 y_4 G S T oo = some (1, G', S') → va_P (dC, dI) classes (wM M2 T ++ ((ou, .inl (kL, 1, .inr (.inl oo))) :: wV M Y G S)) H → va_D (fun q => s.heap.size ≤ q) (wM M2 T ++ ((ou, .inl (kL, 1, .inr (.inl oo))) :: wV M Y G S)) → va_S (fun q => s.heap.size ≤ q) s.heap H locs → lv_has ls 8 [(0, .ref b), (1, .ref M.o_Vt), (2, .ref M2.o), (3, .ref ou), (4, .int y_4)] → W p l e room_1 s m #[Value.ref b] below meth c H locs (cB + G.gc) (sB + G.gs) (lw_Z below #[Value.ref b] s) (F0 m 33 ls [])) (hm_33 : ∀ (y_4 : Int32) (G : CG) (S : CS) (T : MS) (oo : Nat → Int64) {x : Int32} {G1 : CG} {S1 : CS}, rec_33 y_4 G S T oo = some (x, G1, S1) → CG.le G G1), ∀ (y_4 : Int32) (Y : CT) (G : CG) (S : CS) (T : MS) (oo : Nat → Int64) (H : Heap) (locs : List Loc) (ls : Array Slot), f_law_583 K L xs rec_33 y_4 G S T oo = some (1, G', S') → va_P (dC, dI) classes (wM M2 T ++ ((ou, .inl (kL, 1, .inr (.inl oo))) :: wV M Y G S)) H → va_D (fun q => s.heap.size ≤ q) (wM M2 T ++ ((ou, .inl (kL, 1, .inr (.inl oo))) :: wV M Y G S)) → va_S (fun q => s.heap.size ≤ q) s.heap H locs → lv_has ls 8 [(0, .ref b), (1, .ref M.o_Vt), (2, .ref M2.o), (3, .ref ou), (4, .int y_4)] → W p l e room_1 s m #[Value.ref b] below meth c H locs (cB + G.gc) (sB + G.gs) (lw_Z below #[Value.ref b] s) (F0 m 583 ls []) := by
    intro rec_33 hr_33 hm_33 y_4 Y G S T oo H locs ls h hP hD hS hl
    have mF := mo_law_583 hm_33 h
    rw [f_law_583] at h
    refine lv_aload_n hx hb d_La_law_583 rfl (lv_at hl 1 rfl) ?_
    refine lv_aload_n hx hb d_La_law_584 rfl (lv_at hl 0 rfl) ?_
    refine lv_iload hx hb d_La_law_585 (lv_at hl 4 rfl) ?_
    refine lv_iconst (v := 1) hx hb d_La_law_587 (by decide) ?_
    refine lv_iadd hx hb d_La_law_588 ?_
    obtain ⟨g_69, h⟩ := lf_gE h
    refine va_sld hx hb hX hbl hbA hS g_69 d_La_law_589 ?_
    refine lv_aload_n hx hb d_La_law_590 rfl (lv_at hl 0 rfl) ?_
    refine lv_iload hx hb d_La_law_591 (lv_at hl 4 rfl) ?_
    refine lv_iconst (v := 2) hx hb d_La_law_593 (by decide) ?_
    refine lv_iadd hx hb d_La_law_594 ?_
    obtain ⟨g_70, h⟩ := lf_gE h
    refine va_sld hx hb hX hbl hbA hS g_70 d_La_law_595 ?_
    refine lv_aload_n hx hb d_La_law_596 rfl (lv_at hl 3 rfl) ?_
    rcases lf_hE h with ⟨r_71, G_71, S_71, hc_71, h⟩ | ⟨k_71, G_71, S_71, hc_71, h⟩
    · obtain ⟨oo_71, eo_71, h⟩ := lf_lX h
      have ml_71 := mo_Vt_about hc_71
      have mc := mo_Vt_about hc_71
      have mF1 := mo_law_600 hm_33 h
      have hPa := hP
      have hDa := hD
      have hPc := lw_PR hPa
      have hDc := lw_DR hDa
      have hFc := lx_free hDc hS hA
      refine va_calli (x_runSW (handlers := [(0, 9, 12, 19), (0, 9, 16, 25), (0, 9, 20, 13)]) (bytes := b_La_about) (maxL := 5) (ret := (some .int)) (n := 4) (index := 125) (As := [.ref M.o_Vt, .int (xs (y_4 + 1).toNatClampNeg), .int (xs (y_4 + 2).toNatClampNeg), .ref ou]) (rest := []) ⟨hx, hb, hml, hown, hts⟩ (la_about_ok l hfl dC dI X _ ou kL oo hc_71) rfl rfl (Nat.le_of_ble_eq_true rfl) (Nat.le_of_ble_eq_true rfl) (pay_in hts (fun w h => good_Lq w (wcs (u_Lq_La _ k_La_33) (fun _ h => h) w h))) List.mem_cons_self (hts _ (u_Lq_La _ k_La_0)) ⟨(by decide), (by decide)⟩ (hlen_of (by decide +kernel)) (hts _ (u_Lq_La _ k_La_31)) (hts _ (u_Lq_La _ k_La_32)) (ps_ofE (X.same _) (fun U z1 z2 => X.mono _ _ U hFc (hEw _ _ hS U z1 z2)) hPc hKH hDc) rfl rfl hl.1 rfl (lv_room (Nat.le_of_ble_eq_true rfl)) d_La_law_597 ⟨lw_c1 mc.1 mF1.1 hGc, lw_c1 mc.2 mF1.2 hGs⟩) hS (fun q _ h => hFc q h) hFc (fun r_ Y_71 t H locs ht hvm hw hB hz1 hk1 hS => ?_)
      rw [hw]
      obtain ⟨hP1, -, hD1⟩ := hB
      rw [ht] at hP1
      rw [← eo_71] at hP1 hD1
      obtain ⟨hP, hD⟩ := lw_jR hPa hDa hk1 hFc hP1 hD1
      refine W.widen (k := cB + G_71.gc) (n := sB + G_71.gs) (lw_c2 mc.1) (lw_c2 mc.2) ?_
      exact hB_600 _ hr_33 hm_33 y_4 0 Y_71 G_71 S_71 T oo_71 _ _ _ h hP hD hS (lv_sub hl [0, 1, 2, 3, 4] rfl)
    · by_cases c_71_0 : k_71 = 0
      · have h := lf_t h c_71_0
        rw [c_71_0] at hc_71
        have ml_71 := mo_Vt_about hc_71
        have mc := mo_Vt_about hc_71
        have mF1 := mo_law_600 hm_33 h
        have hPa := hP
        have hDa := hD
        have hPc := lw_PR hPa
        have hDc := lw_DR hDa
        have hFc := lx_free hDc hS hA
        refine va_calli (x_runSW (handlers := [(0, 9, 12, 19), (0, 9, 16, 25), (0, 9, 20, 13)]) (bytes := b_La_about) (maxL := 5) (ret := (some .int)) (n := 4) (index := 125) (As := [.ref M.o_Vt, .int (xs (y_4 + 1).toNatClampNeg), .int (xs (y_4 + 2).toNatClampNeg), .ref ou]) (rest := []) ⟨hx, hb, hml, hown, hts⟩ (la_about_0 l hfl dC dI X Xm _ ou kL oo hc_71) rfl rfl (Nat.le_of_ble_eq_true rfl) (Nat.le_of_ble_eq_true rfl) (pay_in hts (fun w h => good_Lq w (wcs (u_Lq_La _ k_La_33) (fun _ h => h) w h))) List.mem_cons_self (hts _ (u_Lq_La _ k_La_0)) ⟨(by decide), (by decide)⟩ (hlen_of (by decide +kernel)) (hts _ (u_Lq_La _ k_La_31)) (hts _ (u_Lq_La _ k_La_32)) (ps_ofE (X.same _) (fun U z1 z2 => X.mono _ _ U hFc (hEw _ _ hS U z1 z2)) hPc hKH hDc) rfl rfl hl.1 rfl (lv_room (Nat.le_of_ble_eq_true rfl)) d_La_law_597 ⟨lw_c1 mc.1 mF1.1 hGc, lw_c1 mc.2 mF1.2 hGs⟩) hS (fun q _ h => hFc q h) hFc (fun r_ Y_71 t H locs ht hvm hw hB hz1 hk1 hS => ?_)
        rw [hw]
        obtain ⟨hP1, -, hD1⟩ := hB
        rw [ht] at hP1
        obtain ⟨hP, hD⟩ := lw_jR hPa hDa hk1 hFc hP1 hD1
        refine W.widen (k := cB + G_71.gc) (n := sB + G_71.gs) (lw_c2 mc.1) (lw_c2 mc.2) ?_
        exact hB_600 _ hr_33 hm_33 y_4 3 Y_71 G_71 S_71 T oo _ _ _ h hP hD hS (lv_sub hl [0, 1, 2, 3, 4] rfl)
      · have h := lf_f h c_71_0
        by_cases c_71_1 : k_71 = 1
        · have h := lf_t h c_71_1
          rw [c_71_1] at hc_71
          have ml_71 := mo_Vt_about hc_71
          have mc := mo_Vt_about hc_71
          have mF1 := mo_law_600 hm_33 h
          have hPa := hP
          have hDa := hD
          have hPc := lw_PR hPa
          have hDc := lw_DR hDa
          have hFc := lx_free hDc hS hA
          refine va_calli (x_runSW (handlers := [(0, 9, 12, 19), (0, 9, 16, 25), (0, 9, 20, 13)]) (bytes := b_La_about) (maxL := 5) (ret := (some .int)) (n := 4) (index := 125) (As := [.ref M.o_Vt, .int (xs (y_4 + 1).toNatClampNeg), .int (xs (y_4 + 2).toNatClampNeg), .ref ou]) (rest := []) ⟨hx, hb, hml, hown, hts⟩ (la_about_1 l hfl dC dI X _ ou kL oo hc_71) rfl rfl (Nat.le_of_ble_eq_true rfl) (Nat.le_of_ble_eq_true rfl) (pay_in hts (fun w h => good_Lq w (wcs (u_Lq_La _ k_La_33) (fun _ h => h) w h))) List.mem_cons_self (hts _ (u_Lq_La _ k_La_0)) ⟨(by decide), (by decide)⟩ (hlen_of (by decide +kernel)) (hts _ (u_Lq_La _ k_La_31)) (hts _ (u_Lq_La _ k_La_32)) (ps_ofE (X.same _) (fun U z1 z2 => X.mono _ _ U hFc (hEw _ _ hS U z1 z2)) hPc hKH hDc) rfl rfl hl.1 rfl (lv_room (Nat.le_of_ble_eq_true rfl)) d_La_law_597 ⟨lw_c1 mc.1 mF1.1 hGc, lw_c1 mc.2 mF1.2 hGs⟩) hS (fun q _ h => hFc q h) hFc (fun r_ Y_71 t H locs ht hvm hw hB hz1 hk1 hS => ?_)
          rw [hw]
          obtain ⟨hP1, -, hD1⟩ := hB
          rw [ht] at hP1
          obtain ⟨hP, hD⟩ := lw_jR hPa hDa hk1 hFc hP1 hD1
          refine W.widen (k := cB + G_71.gc) (n := sB + G_71.gs) (lw_c2 mc.1) (lw_c2 mc.2) ?_
          exact hB_600 _ hr_33 hm_33 y_4 1 Y_71 G_71 S_71 T oo _ _ _ h hP hD hS (lv_sub hl [0, 1, 2, 3, 4] rfl)
        · have h := lf_f h c_71_1
          by_cases c_71_2 : k_71 = 2
          · have h := lf_t h c_71_2
            rw [c_71_2] at hc_71
            have ml_71 := mo_Vt_about hc_71
            have mc := mo_Vt_about hc_71
            have mF1 := mo_law_600 hm_33 h
            have hPa := hP
            have hDa := hD
            have hPc := lw_PR hPa
            have hDc := lw_DR hDa
            have hFc := lx_free hDc hS hA
            refine va_calli (x_runSW (handlers := [(0, 9, 12, 19), (0, 9, 16, 25), (0, 9, 20, 13)]) (bytes := b_La_about) (maxL := 5) (ret := (some .int)) (n := 4) (index := 125) (As := [.ref M.o_Vt, .int (xs (y_4 + 1).toNatClampNeg), .int (xs (y_4 + 2).toNatClampNeg), .ref ou]) (rest := []) ⟨hx, hb, hml, hown, hts⟩ (la_about_2 l hfl dC dI X Xm _ ou kL oo hc_71) rfl rfl (Nat.le_of_ble_eq_true rfl) (Nat.le_of_ble_eq_true rfl) (pay_in hts (fun w h => good_Lq w (wcs (u_Lq_La _ k_La_33) (fun _ h => h) w h))) List.mem_cons_self (hts _ (u_Lq_La _ k_La_0)) ⟨(by decide), (by decide)⟩ (hlen_of (by decide +kernel)) (hts _ (u_Lq_La _ k_La_31)) (hts _ (u_Lq_La _ k_La_32)) (ps_ofE (X.same _) (fun U z1 z2 => X.mono _ _ U hFc (hEw _ _ hS U z1 z2)) hPc hKH hDc) rfl rfl hl.1 rfl (lv_room (Nat.le_of_ble_eq_true rfl)) d_La_law_597 ⟨lw_c1 mc.1 mF1.1 hGc, lw_c1 mc.2 mF1.2 hGs⟩) hS (fun q _ h => hFc q h) hFc (fun r_ Y_71 t H locs ht hvm hw hB hz1 hk1 hS => ?_)
            rw [hw]
            obtain ⟨hP1, -, hD1⟩ := hB
            rw [ht] at hP1
            obtain ⟨hP, hD⟩ := lw_jR hPa hDa hk1 hFc hP1 hD1
            refine W.widen (k := cB + G_71.gc) (n := sB + G_71.gs) (lw_c2 mc.1) (lw_c2 mc.2) ?_
            exact hB_600 _ hr_33 hm_33 y_4 2 Y_71 G_71 S_71 T oo _ _ _ h hP hD hS (lv_sub hl [0, 1, 2, 3, 4] rfl)
          · have h := lf_f h c_71_2
            exact lf_no h
  have hB_715 : ∀ (rec_33 : Int32 → CG → CS → MS → (Nat → Int64) → Option (Int32 × CG × CS)) (hr_33 : ∀ (y_4 : Int32) (Y : CT) (G : CG) (S : CS) (T : MS) (oo : Nat → Int64) (H : Heap) (locs : List Loc) (ls : Array Slot), rec_33 y_4 G S T oo = some (1, G', S') → va_P (dC, dI) classes (wM M2 T ++ ((ou, .inl (kL, 1, .inr (.inl oo))) :: wV M Y G S)) H → va_D (fun q => s.heap.size ≤ q) (wM M2 T ++ ((ou, .inl (kL, 1, .inr (.inl oo))) :: wV M Y G S)) → va_S (fun q => s.heap.size ≤ q) s.heap H locs → lv_has ls 8 [(0, .ref b), (1, .ref M.o_Vt), (2, .ref M2.o), (3, .ref ou), (4, .int y_4)] → W p l e room_1 s m #[Value.ref b] below meth c H locs (cB + G.gc) (sB + G.gs) (lw_Z below #[Value.ref b] s) (F0 m 33 ls [])) (hm_33 : ∀ (y_4 : Int32) (G : CG) (S : CS) (T : MS) (oo : Nat → Int64) {x : Int32} {G1 : CG} {S1 : CS}, rec_33 y_4 G S T oo = some (x, G1, S1) → CG.le G G1), ∀ (y_4 : Int32) (Y : CT) (G : CG) (S : CS) (T : MS) (oo : Nat → Int64) (H : Heap) (locs : List Loc) (ls : Array Slot), f_law_715 K L xs rec_33 y_4 G S T oo = some (1, G', S') → va_P (dC, dI) classes (wM M2 T ++ ((ou, .inl (kL, 1, .inr (.inl oo))) :: wV M Y G S)) H → va_D (fun q => s.heap.size ≤ q) (wM M2 T ++ ((ou, .inl (kL, 1, .inr (.inl oo))) :: wV M Y G S)) → va_S (fun q => s.heap.size ≤ q) s.heap H locs → lv_has ls 8 [(0, .ref b), (1, .ref M.o_Vt), (2, .ref M2.o), (3, .ref ou), (4, .int y_4)] → W p l e room_1 s m #[Value.ref b] below meth c H locs (cB + G.gc) (sB + G.gs) (lw_Z below #[Value.ref b] s) (F0 m 715 ls []) := by
    intro rec_33 hr_33 hm_33 y_4 Y G S T oo H locs ls h hP hD hS hl
    have mF := mo_law_715 hm_33 h
    rw [f_law_715] at h
    refine lv_goto (tgt := 1388) hx hb d_La_law_715 (by decide) ?_
    exact hB_1388 _ hr_33 hm_33 y_4 Y G S T oo _ _ _ h hP hD hS (lv_sub hl [0, 1, 2, 3, 4] rfl)
  have hB_667 : ∀ (rec_33 : Int32 → CG → CS → MS → (Nat → Int64) → Option (Int32 × CG × CS)) (hr_33 : ∀ (y_4 : Int32) (Y : CT) (G : CG) (S : CS) (T : MS) (oo : Nat → Int64) (H : Heap) (locs : List Loc) (ls : Array Slot), rec_33 y_4 G S T oo = some (1, G', S') → va_P (dC, dI) classes (wM M2 T ++ ((ou, .inl (kL, 1, .inr (.inl oo))) :: wV M Y G S)) H → va_D (fun q => s.heap.size ≤ q) (wM M2 T ++ ((ou, .inl (kL, 1, .inr (.inl oo))) :: wV M Y G S)) → va_S (fun q => s.heap.size ≤ q) s.heap H locs → lv_has ls 8 [(0, .ref b), (1, .ref M.o_Vt), (2, .ref M2.o), (3, .ref ou), (4, .int y_4)] → W p l e room_1 s m #[Value.ref b] below meth c H locs (cB + G.gc) (sB + G.gs) (lw_Z below #[Value.ref b] s) (F0 m 33 ls [])) (hm_33 : ∀ (y_4 : Int32) (G : CG) (S : CS) (T : MS) (oo : Nat → Int64) {x : Int32} {G1 : CG} {S1 : CS}, rec_33 y_4 G S T oo = some (x, G1, S1) → CG.le G G1), ∀ (y_4 : Int32) (z_0 : Int32) (Y : CT) (G : CG) (S : CS) (T : MS) (oo : Nat → Int64) (H : Heap) (locs : List Loc) (ls : Array Slot), f_law_667 K L xs rec_33 y_4 z_0 G S T oo = some (1, G', S') → va_P (dC, dI) classes (wM M2 T ++ ((ou, .inl (kL, 1, .inr (.inl oo))) :: wV M Y G S)) H → va_D (fun q => s.heap.size ≤ q) (wM M2 T ++ ((ou, .inl (kL, 1, .inr (.inl oo))) :: wV M Y G S)) → va_S (fun q => s.heap.size ≤ q) s.heap H locs → lv_has ls 8 [(0, .ref b), (1, .ref M.o_Vt), (2, .ref M2.o), (3, .ref ou), (4, .int y_4)] → W p l e room_1 s m #[Value.ref b] below meth c H locs (cB + G.gc) (sB + G.gs) (lw_Z below #[Value.ref b] s) (F0 m 667 ls [.int z_0]) := by
    intro rec_33 hr_33 hm_33 y_4 z_0 Y G S T oo H locs ls h hP hD hS hl
    have mF := mo_law_667 hm_33 h
    rw [f_law_667] at h
    refine lv_istore (lv' := [(5, .int z_0), (0, .ref b), (1, .ref M.o_Vt), (2, .ref M2.o), (3, .ref ou), (4, .int y_4)]) hx hb d_La_law_667 hl (by decide) rfl (fun ls hl => ?_)
    refine lv_aload_n hx hb d_La_law_669 rfl (lv_at hl 3 rfl) ?_
    refine lv_aload_n hx hb d_La_law_670 rfl (lv_at hl 1 rfl) ?_
    refine lv_iload hx hb d_La_law_671 (lv_at hl 5 rfl) ?_
    refine lv_iconst (v := 1) hx hb d_La_law_673 (by decide) ?_
    refine lv_iadd hx hb d_La_law_674 ?_
    obtain ⟨g_149, h⟩ := lf_gE h
    refine va_sld hx hb hX hbl hbA hS g_149 d_La_law_675 ?_
    refine lv_aload_n hx hb d_La_law_676 rfl (lv_at hl 1 rfl) ?_
    refine lv_iload hx hb d_La_law_677 (lv_at hl 5 rfl) ?_
    refine lv_iconst (v := 2) hx hb d_La_law_679 (by decide) ?_
    refine lv_iadd hx hb d_La_law_680 ?_
    obtain ⟨g_150, h⟩ := lf_gE h
    refine va_sld hx hb hX hbl hbA hS g_150 d_La_law_681 ?_
    obtain ⟨r_151, T_151, hc_151, h⟩ := lf_cE h
    have hPc := lw_PL hP
    have hDc := lw_DL hD
    have hFc := lx_free hDc hS hA
    refine va_calli (va_runV (As := [.int (xs (y_4 + 1).toNatClampNeg), .int (xs (y_4 + 2).toNatClampNeg)]) (rest := []) ⟨hx, hb, hml, hown, hts⟩ (l_Mo_content l dC dI X2 _ hc_151) (cwV 2 hts (gwV good_Lq (u_Lq_La _ k_La_90) (u_Lq_Mo _ k_Mo_295) (u_Lq_Mo _ k_Mo_296) (u_Lq_Mo _ k_Mo_0) (wcs (u_Lq_Mo _ k_Mo_297) u_Lq_Mq)) rfl rfl rfl (by decide +kernel) ⟨Nat.le_of_ble_eq_true rfl, Nat.le_of_ble_eq_true rfl⟩) (pv_ofE (X2.same _) (fun U z1 z2 => X2.mono _ _ U hFc (hEw _ _ hS U z1 z2)) hPc hKM hDc (va_recv hKM hPc (ci := 12) (q0 := 0) rfl rfl)) rfl rfl hl.1 rfl (lv_room (Nat.le_of_ble_eq_true rfl)) d_La_law_682 ⟨lw_c0 mF.1 hGc, lw_c0 mF.2 hGs⟩) hS (fun q _ h => hFc q h) hFc (fun r_ u t H locs ht hvm hw hB hz1 hk1 hS => ?_)
    rw [hw]
    obtain ⟨hP1, -, hD1⟩ := hB
    rw [ht] at hP1
    obtain ⟨hP, hD⟩ := lw_jL hP hD hk1 hFc hP1 hD1
    refine lv_istore (lv' := [(6, .int r_151), (5, .int z_0), (0, .ref b), (1, .ref M.o_Vt), (2, .ref M2.o), (3, .ref ou), (4, .int y_4)]) hx hb d_La_law_685 hl (by decide) rfl (fun ls hl => ?_)
    refine lv_aload_n hx hb d_La_law_687 rfl (lv_at hl 4 rfl) ?_
    obtain ⟨r_152, T_152, hc_152, h⟩ := lf_cE h
    have hPc := lw_PL hP
    have hDc := lw_DL hD
    have hFc := lx_free hDc hS hA
    refine va_calli (va_runV (As := []) (rest := []) ⟨hx, hb, hml, hown, hts⟩ (l_Mo_thrown l dC dI X2 _ hc_152) (cwV 0 hts (gwV good_Lq (u_Lq_La _ k_La_78) (u_Lq_Mo _ k_Mo_73) (u_Lq_Mo _ k_Mo_74) (u_Lq_Mo _ k_Mo_0) (wcs (u_Lq_Mo _ k_Mo_75) u_Lq_Mq)) rfl rfl rfl (by decide +kernel) ⟨Nat.le_of_ble_eq_true rfl, Nat.le_of_ble_eq_true rfl⟩) (pv_ofE (X2.same _) (fun U z1 z2 => X2.mono _ _ U hFc (hEw _ _ hS U z1 z2)) hPc hKM hDc (va_recv hKM hPc (ci := 12) (q0 := 0) rfl rfl)) rfl rfl hl.1 rfl (lv_room (Nat.le_of_ble_eq_true rfl)) d_La_law_688 ⟨lw_c0 mF.1 hGc, lw_c0 mF.2 hGs⟩) hS (fun q _ h => hFc q h) hFc (fun r_ u t H locs ht hvm hw hB hz1 hk1 hS => ?_)
    rw [hw]
    obtain ⟨hP1, -, hD1⟩ := hB
    rw [ht] at hP1
    obtain ⟨hP, hD⟩ := lw_jL hP hD hk1 hFc hP1 hD1
    refine lv_iload hx hb d_La_law_691 (lv_at hl 1 rfl) ?_
    refine lv_icmp_eq (tgt := 698) hx hb d_La_law_693 (by decide) (fun c_153 => ?_) (fun c_153 => ?_)
    · have h := lf_t h c_153
      refine lv_iload hx hb d_La_law_698 (lv_at hl 1 rfl) ?_
      refine lv_if_ne (tgt := 715) hx hb d_La_law_700 (by decide) (fun c_154 => ?_) (fun c_154 => ?_)
      · have h := lf_f h c_154
        exact hB_715 _ hr_33 hm_33 y_4 Y G S T_152 oo _ _ _ h hP hD hS (lv_sub hl [2, 3, 4, 5, 6] rfl)
      · have h := lf_t h c_154
        refine lv_aload_n hx hb d_La_law_703 rfl (lv_at hl 5 rfl) ?_
        refine lv_iconst (v := 0) hx hb d_La_law_704 (by decide) ?_
        refine va_lald hx hb hK hP 28 27 rfl rfl (by unfold vp_in; decide) d_La_law_705 ?_
        refine lv_iload hx hb d_La_law_706 (lv_at hl 0 rfl) ?_
        refine lv_i2l hx hb d_La_law_708 rfl ?_
        refine W.lcmp hx hb d_La_law_709 ?_
        refine lv_if_eq (tgt := 715) hx hb d_La_law_710 (by decide) (fun c_155 => ?_) (fun c_155 => ?_)
        · have h := lf_t h c_155
          exact hB_715 _ hr_33 hm_33 y_4 Y G S T_152 oo _ _ _ h hP hD hS (lv_sub hl [2, 3, 4, 5, 6] rfl)
        · have h := lf_f h c_155
          refine lv_iconst (v := 0) hx hb d_La_law_713 (by decide) ?_
          exact lf_01 h
    · have h := lf_f h c_153
      refine lv_iconst (v := 0) hx hb d_La_law_696 (by decide) ?_
      exact lf_01 h
  have hB_650 : ∀ (rec_33 : Int32 → CG → CS → MS → (Nat → Int64) → Option (Int32 × CG × CS)) (hr_33 : ∀ (y_4 : Int32) (Y : CT) (G : CG) (S : CS) (T : MS) (oo : Nat → Int64) (H : Heap) (locs : List Loc) (ls : Array Slot), rec_33 y_4 G S T oo = some (1, G', S') → va_P (dC, dI) classes (wM M2 T ++ ((ou, .inl (kL, 1, .inr (.inl oo))) :: wV M Y G S)) H → va_D (fun q => s.heap.size ≤ q) (wM M2 T ++ ((ou, .inl (kL, 1, .inr (.inl oo))) :: wV M Y G S)) → va_S (fun q => s.heap.size ≤ q) s.heap H locs → lv_has ls 8 [(0, .ref b), (1, .ref M.o_Vt), (2, .ref M2.o), (3, .ref ou), (4, .int y_4)] → W p l e room_1 s m #[Value.ref b] below meth c H locs (cB + G.gc) (sB + G.gs) (lw_Z below #[Value.ref b] s) (F0 m 33 ls [])) (hm_33 : ∀ (y_4 : Int32) (G : CG) (S : CS) (T : MS) (oo : Nat → Int64) {x : Int32} {G1 : CG} {S1 : CS}, rec_33 y_4 G S T oo = some (x, G1, S1) → CG.le G G1), ∀ (y_4 : Int32) (Y : CT) (G : CG) (S : CS) (T : MS) (oo : Nat → Int64) (H : Heap) (locs : List Loc) (ls : Array Slot), f_law_650 K L xs rec_33 y_4 G S T oo = some (1, G', S') → va_P (dC, dI) classes (wM M2 T ++ ((ou, .inl (kL, 1, .inr (.inl oo))) :: wV M Y G S)) H → va_D (fun q => s.heap.size ≤ q) (wM M2 T ++ ((ou, .inl (kL, 1, .inr (.inl oo))) :: wV M Y G S)) → va_S (fun q => s.heap.size ≤ q) s.heap H locs → lv_has ls 8 [(0, .ref b), (1, .ref M.o_Vt), (2, .ref M2.o), (3, .ref ou), (4, .int y_4)] → W p l e room_1 s m #[Value.ref b] below meth c H locs (cB + G.gc) (sB + G.gs) (lw_Z below #[Value.ref b] s) (F0 m 650 ls []) := by
    intro rec_33 hr_33 hm_33 y_4 Y G S T oo H locs ls h hP hD hS hl
    have mF := mo_law_650 hm_33 h
    rw [f_law_650] at h
    refine lv_aload_n hx hb d_La_law_650 rfl (lv_at hl 1 rfl) ?_
    refine lv_aload_n hx hb d_La_law_651 rfl (lv_at hl 0 rfl) ?_
    refine lv_iload hx hb d_La_law_652 (lv_at hl 4 rfl) ?_
    refine lv_iconst (v := 1) hx hb d_La_law_654 (by decide) ?_
    refine lv_iadd hx hb d_La_law_655 ?_
    obtain ⟨g_72, h⟩ := lf_gE h
    refine va_sld hx hb hX hbl hbA hS g_72 d_La_law_656 ?_
    refine lv_aload_n hx hb d_La_law_657 rfl (lv_at hl 0 rfl) ?_
    refine lv_iload hx hb d_La_law_658 (lv_at hl 4 rfl) ?_
    refine lv_iconst (v := 2) hx hb d_La_law_660 (by decide) ?_
    refine lv_iadd hx hb d_La_law_661 ?_
    obtain ⟨g_73, h⟩ := lf_gE h
    refine va_sld hx hb hX hbl hbA hS g_73 d_La_law_662 ?_
    refine lv_aload_n hx hb d_La_law_663 rfl (lv_at hl 3 rfl) ?_
    rcases lf_hE h with ⟨r_74, G_74, S_74, hc_74, h⟩ | ⟨k_74, G_74, S_74, hc_74, h⟩
    · obtain ⟨oo_74, eo_74, h⟩ := lf_lX h
      have ml_74 := mo_Vt_content hc_74
      have mc := mo_Vt_content hc_74
      have mF1 := mo_law_667 hm_33 h
      have hPa := hP
      have hDa := hD
      have hPc := lw_PR hPa
      have hDc := lw_DR hDa
      have hFc := lx_free hDc hS hA
      refine va_calli (x_runSW (handlers := [(0, 10, 13, 19), (0, 10, 17, 25)]) (bytes := b_La_content) (maxL := 5) (ret := (some .int)) (n := 4) (index := 128) (As := [.ref M.o_Vt, .int (xs (y_4 + 1).toNatClampNeg), .int (xs (y_4 + 2).toNatClampNeg), .ref ou]) (rest := []) ⟨hx, hb, hml, hown, hts⟩ (la_content_ok l hfl dC dI X _ ou kL oo hc_74) rfl rfl (Nat.le_of_ble_eq_true rfl) (Nat.le_of_ble_eq_true rfl) (pay_in hts (fun w h => good_Lq w (wcs (u_Lq_La _ k_La_37) (fun _ h => h) w h))) List.mem_cons_self (hts _ (u_Lq_La _ k_La_0)) ⟨(by decide), (by decide)⟩ (hlen_of (by decide +kernel)) (hts _ (u_Lq_La _ k_La_35)) (hts _ (u_Lq_La _ k_La_36)) (ps_ofE (X.same _) (fun U z1 z2 => X.mono _ _ U hFc (hEw _ _ hS U z1 z2)) hPc hKH hDc) rfl rfl hl.1 rfl (lv_room (Nat.le_of_ble_eq_true rfl)) d_La_law_664 ⟨lw_c1 mc.1 mF1.1 hGc, lw_c1 mc.2 mF1.2 hGs⟩) hS (fun q _ h => hFc q h) hFc (fun r_ Y_74 t H locs ht hvm hw hB hz1 hk1 hS => ?_)
      rw [hw]
      obtain ⟨hP1, -, hD1⟩ := hB
      rw [ht] at hP1
      rw [← eo_74] at hP1 hD1
      obtain ⟨hP, hD⟩ := lw_jR hPa hDa hk1 hFc hP1 hD1
      refine W.widen (k := cB + G_74.gc) (n := sB + G_74.gs) (lw_c2 mc.1) (lw_c2 mc.2) ?_
      exact hB_667 _ hr_33 hm_33 y_4 0 Y_74 G_74 S_74 T oo_74 _ _ _ h hP hD hS (lv_sub hl [0, 1, 2, 3, 4] rfl)
    · by_cases c_74_1 : k_74 = 1
      · have h := lf_t h c_74_1
        rw [c_74_1] at hc_74
        have ml_74 := mo_Vt_content hc_74
        have mc := mo_Vt_content hc_74
        have mF1 := mo_law_667 hm_33 h
        have hPa := hP
        have hDa := hD
        have hPc := lw_PR hPa
        have hDc := lw_DR hDa
        have hFc := lx_free hDc hS hA
        refine va_calli (x_runSW (handlers := [(0, 10, 13, 19), (0, 10, 17, 25)]) (bytes := b_La_content) (maxL := 5) (ret := (some .int)) (n := 4) (index := 128) (As := [.ref M.o_Vt, .int (xs (y_4 + 1).toNatClampNeg), .int (xs (y_4 + 2).toNatClampNeg), .ref ou]) (rest := []) ⟨hx, hb, hml, hown, hts⟩ (la_content_1 l hfl dC dI X _ ou kL oo hc_74) rfl rfl (Nat.le_of_ble_eq_true rfl) (Nat.le_of_ble_eq_true rfl) (pay_in hts (fun w h => good_Lq w (wcs (u_Lq_La _ k_La_37) (fun _ h => h) w h))) List.mem_cons_self (hts _ (u_Lq_La _ k_La_0)) ⟨(by decide), (by decide)⟩ (hlen_of (by decide +kernel)) (hts _ (u_Lq_La _ k_La_35)) (hts _ (u_Lq_La _ k_La_36)) (ps_ofE (X.same _) (fun U z1 z2 => X.mono _ _ U hFc (hEw _ _ hS U z1 z2)) hPc hKH hDc) rfl rfl hl.1 rfl (lv_room (Nat.le_of_ble_eq_true rfl)) d_La_law_664 ⟨lw_c1 mc.1 mF1.1 hGc, lw_c1 mc.2 mF1.2 hGs⟩) hS (fun q _ h => hFc q h) hFc (fun r_ Y_74 t H locs ht hvm hw hB hz1 hk1 hS => ?_)
        rw [hw]
        obtain ⟨hP1, -, hD1⟩ := hB
        rw [ht] at hP1
        obtain ⟨hP, hD⟩ := lw_jR hPa hDa hk1 hFc hP1 hD1
        refine W.widen (k := cB + G_74.gc) (n := sB + G_74.gs) (lw_c2 mc.1) (lw_c2 mc.2) ?_
        exact hB_667 _ hr_33 hm_33 y_4 1 Y_74 G_74 S_74 T oo _ _ _ h hP hD hS (lv_sub hl [0, 1, 2, 3, 4] rfl)
      · have h := lf_f h c_74_1
        by_cases c_74_2 : k_74 = 2
        · have h := lf_t h c_74_2
          rw [c_74_2] at hc_74
          have ml_74 := mo_Vt_content hc_74
          have mc := mo_Vt_content hc_74
          have mF1 := mo_law_667 hm_33 h
          have hPa := hP
          have hDa := hD
          have hPc := lw_PR hPa
          have hDc := lw_DR hDa
          have hFc := lx_free hDc hS hA
          refine va_calli (x_runSW (handlers := [(0, 10, 13, 19), (0, 10, 17, 25)]) (bytes := b_La_content) (maxL := 5) (ret := (some .int)) (n := 4) (index := 128) (As := [.ref M.o_Vt, .int (xs (y_4 + 1).toNatClampNeg), .int (xs (y_4 + 2).toNatClampNeg), .ref ou]) (rest := []) ⟨hx, hb, hml, hown, hts⟩ (la_content_2 l hfl dC dI X Xm _ ou kL oo hc_74) rfl rfl (Nat.le_of_ble_eq_true rfl) (Nat.le_of_ble_eq_true rfl) (pay_in hts (fun w h => good_Lq w (wcs (u_Lq_La _ k_La_37) (fun _ h => h) w h))) List.mem_cons_self (hts _ (u_Lq_La _ k_La_0)) ⟨(by decide), (by decide)⟩ (hlen_of (by decide +kernel)) (hts _ (u_Lq_La _ k_La_35)) (hts _ (u_Lq_La _ k_La_36)) (ps_ofE (X.same _) (fun U z1 z2 => X.mono _ _ U hFc (hEw _ _ hS U z1 z2)) hPc hKH hDc) rfl rfl hl.1 rfl (lv_room (Nat.le_of_ble_eq_true rfl)) d_La_law_664 ⟨lw_c1 mc.1 mF1.1 hGc, lw_c1 mc.2 mF1.2 hGs⟩) hS (fun q _ h => hFc q h) hFc (fun r_ Y_74 t H locs ht hvm hw hB hz1 hk1 hS => ?_)
          rw [hw]
          obtain ⟨hP1, -, hD1⟩ := hB
          rw [ht] at hP1
          obtain ⟨hP, hD⟩ := lw_jR hPa hDa hk1 hFc hP1 hD1
          refine W.widen (k := cB + G_74.gc) (n := sB + G_74.gs) (lw_c2 mc.1) (lw_c2 mc.2) ?_
          exact hB_667 _ hr_33 hm_33 y_4 2 Y_74 G_74 S_74 T oo _ _ _ h hP hD hS (lv_sub hl [0, 1, 2, 3, 4] rfl)
        · have h := lf_f h c_74_2
          exact lf_no h
  have hB_771 : ∀ (rec_33 : Int32 → CG → CS → MS → (Nat → Int64) → Option (Int32 × CG × CS)) (hr_33 : ∀ (y_4 : Int32) (Y : CT) (G : CG) (S : CS) (T : MS) (oo : Nat → Int64) (H : Heap) (locs : List Loc) (ls : Array Slot), rec_33 y_4 G S T oo = some (1, G', S') → va_P (dC, dI) classes (wM M2 T ++ ((ou, .inl (kL, 1, .inr (.inl oo))) :: wV M Y G S)) H → va_D (fun q => s.heap.size ≤ q) (wM M2 T ++ ((ou, .inl (kL, 1, .inr (.inl oo))) :: wV M Y G S)) → va_S (fun q => s.heap.size ≤ q) s.heap H locs → lv_has ls 8 [(0, .ref b), (1, .ref M.o_Vt), (2, .ref M2.o), (3, .ref ou), (4, .int y_4)] → W p l e room_1 s m #[Value.ref b] below meth c H locs (cB + G.gc) (sB + G.gs) (lw_Z below #[Value.ref b] s) (F0 m 33 ls [])) (hm_33 : ∀ (y_4 : Int32) (G : CG) (S : CS) (T : MS) (oo : Nat → Int64) {x : Int32} {G1 : CG} {S1 : CS}, rec_33 y_4 G S T oo = some (x, G1, S1) → CG.le G G1), ∀ (y_4 : Int32) (Y : CT) (G : CG) (S : CS) (T : MS) (oo : Nat → Int64) (H : Heap) (locs : List Loc) (ls : Array Slot), f_law_771 K L xs rec_33 y_4 G S T oo = some (1, G', S') → va_P (dC, dI) classes (wM M2 T ++ ((ou, .inl (kL, 1, .inr (.inl oo))) :: wV M Y G S)) H → va_D (fun q => s.heap.size ≤ q) (wM M2 T ++ ((ou, .inl (kL, 1, .inr (.inl oo))) :: wV M Y G S)) → va_S (fun q => s.heap.size ≤ q) s.heap H locs → lv_has ls 8 [(0, .ref b), (1, .ref M.o_Vt), (2, .ref M2.o), (3, .ref ou), (4, .int y_4)] → W p l e room_1 s m #[Value.ref b] below meth c H locs (cB + G.gc) (sB + G.gs) (lw_Z below #[Value.ref b] s) (F0 m 771 ls []) := by
    intro rec_33 hr_33 hm_33 y_4 Y G S T oo H locs ls h hP hD hS hl
    have mF := mo_law_771 hm_33 h
    rw [f_law_771] at h
    refine lv_goto (tgt := 1388) hx hb d_La_law_771 (by decide) ?_
    exact hB_1388 _ hr_33 hm_33 y_4 Y G S T oo _ _ _ h hP hD hS (lv_sub hl [0, 1, 2, 3, 4] rfl)
  have hB_729 : ∀ (rec_33 : Int32 → CG → CS → MS → (Nat → Int64) → Option (Int32 × CG × CS)) (hr_33 : ∀ (y_4 : Int32) (Y : CT) (G : CG) (S : CS) (T : MS) (oo : Nat → Int64) (H : Heap) (locs : List Loc) (ls : Array Slot), rec_33 y_4 G S T oo = some (1, G', S') → va_P (dC, dI) classes (wM M2 T ++ ((ou, .inl (kL, 1, .inr (.inl oo))) :: wV M Y G S)) H → va_D (fun q => s.heap.size ≤ q) (wM M2 T ++ ((ou, .inl (kL, 1, .inr (.inl oo))) :: wV M Y G S)) → va_S (fun q => s.heap.size ≤ q) s.heap H locs → lv_has ls 8 [(0, .ref b), (1, .ref M.o_Vt), (2, .ref M2.o), (3, .ref ou), (4, .int y_4)] → W p l e room_1 s m #[Value.ref b] below meth c H locs (cB + G.gc) (sB + G.gs) (lw_Z below #[Value.ref b] s) (F0 m 33 ls [])) (hm_33 : ∀ (y_4 : Int32) (G : CG) (S : CS) (T : MS) (oo : Nat → Int64) {x : Int32} {G1 : CG} {S1 : CS}, rec_33 y_4 G S T oo = some (x, G1, S1) → CG.le G G1), ∀ (y_4 : Int32) (z_0 : Int32) (Y : CT) (G : CG) (S : CS) (T : MS) (oo : Nat → Int64) (H : Heap) (locs : List Loc) (ls : Array Slot), f_law_729 K L xs rec_33 y_4 z_0 G S T oo = some (1, G', S') → va_P (dC, dI) classes (wM M2 T ++ ((ou, .inl (kL, 1, .inr (.inl oo))) :: wV M Y G S)) H → va_D (fun q => s.heap.size ≤ q) (wM M2 T ++ ((ou, .inl (kL, 1, .inr (.inl oo))) :: wV M Y G S)) → va_S (fun q => s.heap.size ≤ q) s.heap H locs → lv_has ls 8 [(0, .ref b), (1, .ref M.o_Vt), (2, .ref M2.o), (3, .ref ou), (4, .int y_4)] → W p l e room_1 s m #[Value.ref b] below meth c H locs (cB + G.gc) (sB + G.gs) (lw_Z below #[Value.ref b] s) (F0 m 729 ls [.int z_0]) := by
    intro rec_33 hr_33 hm_33 y_4 z_0 Y G S T oo H locs ls h hP hD hS hl
    have mF := mo_law_729 hm_33 h
    rw [f_law_729] at h
    refine lv_istore (lv' := [(5, .int z_0), (0, .ref b), (1, .ref M.o_Vt), (2, .ref M2.o), (3, .ref ou), (4, .int y_4)]) hx hb d_La_law_729 hl (by decide) rfl (fun ls hl => ?_)
    refine lv_aload_n hx hb d_La_law_731 rfl (lv_at hl 3 rfl) ?_
    refine lv_aload_n hx hb d_La_law_732 rfl (lv_at hl 1 rfl) ?_
    refine lv_iload hx hb d_La_law_733 (lv_at hl 5 rfl) ?_
    refine lv_iconst (v := 1) hx hb d_La_law_735 (by decide) ?_
    refine lv_iadd hx hb d_La_law_736 ?_
    obtain ⟨g_156, h⟩ := lf_gE h
    refine va_sld hx hb hX hbl hbA hS g_156 d_La_law_737 ?_
    obtain ⟨r_157, T_157, hc_157, h⟩ := lf_cE h
    have hPc := lw_PL hP
    have hDc := lw_DL hD
    have hFc := lx_free hDc hS hA
    refine va_calli (va_runV (As := [.int (xs (y_4 + 1).toNatClampNeg)]) (rest := []) ⟨hx, hb, hml, hown, hts⟩ (l_Mo_enter l dC dI X2 _ hc_157) (cwV 1 hts (gwV good_Lq (u_Lq_La _ k_La_91) (u_Lq_Mo _ k_Mo_298) (u_Lq_Mo _ k_Mo_299) (u_Lq_Mo _ k_Mo_0) (wcs (u_Lq_Mo _ k_Mo_300) u_Lq_Mq)) rfl rfl rfl (by decide +kernel) ⟨Nat.le_of_ble_eq_true rfl, Nat.le_of_ble_eq_true rfl⟩) (pv_ofE (X2.same _) (fun U z1 z2 => X2.mono _ _ U hFc (hEw _ _ hS U z1 z2)) hPc hKM hDc (va_recv hKM hPc (ci := 12) (q0 := 0) rfl rfl)) rfl rfl hl.1 rfl (lv_room (Nat.le_of_ble_eq_true rfl)) d_La_law_738 ⟨lw_c0 mF.1 hGc, lw_c0 mF.2 hGs⟩) hS (fun q _ h => hFc q h) hFc (fun r_ u t H locs ht hvm hw hB hz1 hk1 hS => ?_)
    rw [hw]
    obtain ⟨hP1, -, hD1⟩ := hB
    rw [ht] at hP1
    obtain ⟨hP, hD⟩ := lw_jL hP hD hk1 hFc hP1 hD1
    refine lv_istore (lv' := [(6, .int r_157), (5, .int z_0), (0, .ref b), (1, .ref M.o_Vt), (2, .ref M2.o), (3, .ref ou), (4, .int y_4)]) hx hb d_La_law_741 hl (by decide) rfl (fun ls hl => ?_)
    refine lv_aload_n hx hb d_La_law_743 rfl (lv_at hl 4 rfl) ?_
    obtain ⟨r_158, T_158, hc_158, h⟩ := lf_cE h
    have hPc := lw_PL hP
    have hDc := lw_DL hD
    have hFc := lx_free hDc hS hA
    refine va_calli (va_runV (As := []) (rest := []) ⟨hx, hb, hml, hown, hts⟩ (l_Mo_thrown l dC dI X2 _ hc_158) (cwV 0 hts (gwV good_Lq (u_Lq_La _ k_La_78) (u_Lq_Mo _ k_Mo_73) (u_Lq_Mo _ k_Mo_74) (u_Lq_Mo _ k_Mo_0) (wcs (u_Lq_Mo _ k_Mo_75) u_Lq_Mq)) rfl rfl rfl (by decide +kernel) ⟨Nat.le_of_ble_eq_true rfl, Nat.le_of_ble_eq_true rfl⟩) (pv_ofE (X2.same _) (fun U z1 z2 => X2.mono _ _ U hFc (hEw _ _ hS U z1 z2)) hPc hKM hDc (va_recv hKM hPc (ci := 12) (q0 := 0) rfl rfl)) rfl rfl hl.1 rfl (lv_room (Nat.le_of_ble_eq_true rfl)) d_La_law_744 ⟨lw_c0 mF.1 hGc, lw_c0 mF.2 hGs⟩) hS (fun q _ h => hFc q h) hFc (fun r_ u t H locs ht hvm hw hB hz1 hk1 hS => ?_)
    rw [hw]
    obtain ⟨hP1, -, hD1⟩ := hB
    rw [ht] at hP1
    obtain ⟨hP, hD⟩ := lw_jL hP hD hk1 hFc hP1 hD1
    refine lv_iload hx hb d_La_law_747 (lv_at hl 1 rfl) ?_
    refine lv_icmp_eq (tgt := 754) hx hb d_La_law_749 (by decide) (fun c_159 => ?_) (fun c_159 => ?_)
    · have h := lf_t h c_159
      refine lv_iload hx hb d_La_law_754 (lv_at hl 1 rfl) ?_
      refine lv_if_ne (tgt := 771) hx hb d_La_law_756 (by decide) (fun c_160 => ?_) (fun c_160 => ?_)
      · have h := lf_f h c_160
        exact hB_771 _ hr_33 hm_33 y_4 Y G S T_158 oo _ _ _ h hP hD hS (lv_sub hl [2, 3, 4, 5, 6] rfl)
      · have h := lf_t h c_160
        refine lv_aload_n hx hb d_La_law_759 rfl (lv_at hl 5 rfl) ?_
        refine lv_iconst (v := 0) hx hb d_La_law_760 (by decide) ?_
        refine va_lald hx hb hK hP 28 27 rfl rfl (by unfold vp_in; decide) d_La_law_761 ?_
        refine lv_iload hx hb d_La_law_762 (lv_at hl 0 rfl) ?_
        refine lv_i2l hx hb d_La_law_764 rfl ?_
        refine W.lcmp hx hb d_La_law_765 ?_
        refine lv_if_eq (tgt := 771) hx hb d_La_law_766 (by decide) (fun c_161 => ?_) (fun c_161 => ?_)
        · have h := lf_t h c_161
          exact hB_771 _ hr_33 hm_33 y_4 Y G S T_158 oo _ _ _ h hP hD hS (lv_sub hl [2, 3, 4, 5, 6] rfl)
        · have h := lf_f h c_161
          refine lv_iconst (v := 0) hx hb d_La_law_769 (by decide) ?_
          exact lf_01 h
    · have h := lf_f h c_159
      refine lv_iconst (v := 0) hx hb d_La_law_752 (by decide) ?_
      exact lf_01 h
  have hB_718 : ∀ (rec_33 : Int32 → CG → CS → MS → (Nat → Int64) → Option (Int32 × CG × CS)) (hr_33 : ∀ (y_4 : Int32) (Y : CT) (G : CG) (S : CS) (T : MS) (oo : Nat → Int64) (H : Heap) (locs : List Loc) (ls : Array Slot), rec_33 y_4 G S T oo = some (1, G', S') → va_P (dC, dI) classes (wM M2 T ++ ((ou, .inl (kL, 1, .inr (.inl oo))) :: wV M Y G S)) H → va_D (fun q => s.heap.size ≤ q) (wM M2 T ++ ((ou, .inl (kL, 1, .inr (.inl oo))) :: wV M Y G S)) → va_S (fun q => s.heap.size ≤ q) s.heap H locs → lv_has ls 8 [(0, .ref b), (1, .ref M.o_Vt), (2, .ref M2.o), (3, .ref ou), (4, .int y_4)] → W p l e room_1 s m #[Value.ref b] below meth c H locs (cB + G.gc) (sB + G.gs) (lw_Z below #[Value.ref b] s) (F0 m 33 ls [])) (hm_33 : ∀ (y_4 : Int32) (G : CG) (S : CS) (T : MS) (oo : Nat → Int64) {x : Int32} {G1 : CG} {S1 : CS}, rec_33 y_4 G S T oo = some (x, G1, S1) → CG.le G G1), ∀ (y_4 : Int32) (Y : CT) (G : CG) (S : CS) (T : MS) (oo : Nat → Int64) (H : Heap) (locs : List Loc) (ls : Array Slot), f_law_718 K L xs rec_33 y_4 G S T oo = some (1, G', S') → va_P (dC, dI) classes (wM M2 T ++ ((ou, .inl (kL, 1, .inr (.inl oo))) :: wV M Y G S)) H → va_D (fun q => s.heap.size ≤ q) (wM M2 T ++ ((ou, .inl (kL, 1, .inr (.inl oo))) :: wV M Y G S)) → va_S (fun q => s.heap.size ≤ q) s.heap H locs → lv_has ls 8 [(0, .ref b), (1, .ref M.o_Vt), (2, .ref M2.o), (3, .ref ou), (4, .int y_4)] → W p l e room_1 s m #[Value.ref b] below meth c H locs (cB + G.gc) (sB + G.gs) (lw_Z below #[Value.ref b] s) (F0 m 718 ls []) := by
    intro rec_33 hr_33 hm_33 y_4 Y G S T oo H locs ls h hP hD hS hl
    have mF := mo_law_718 hm_33 h
    rw [f_law_718] at h
    refine lv_aload_n hx hb d_La_law_718 rfl (lv_at hl 1 rfl) ?_
    refine lv_aload_n hx hb d_La_law_719 rfl (lv_at hl 0 rfl) ?_
    refine lv_iload hx hb d_La_law_720 (lv_at hl 4 rfl) ?_
    refine lv_iconst (v := 1) hx hb d_La_law_722 (by decide) ?_
    refine lv_iadd hx hb d_La_law_723 ?_
    obtain ⟨g_75, h⟩ := lf_gE h
    refine va_sld hx hb hX hbl hbA hS g_75 d_La_law_724 ?_
    refine lv_aload_n hx hb d_La_law_725 rfl (lv_at hl 3 rfl) ?_
    rcases lf_hE h with ⟨r_76, G_76, S_76, hc_76, h⟩ | ⟨k_76, G_76, S_76, hc_76, h⟩
    · obtain ⟨oo_76, eo_76, h⟩ := lf_lX h
      have ml_76 := mo_Vt_enter hc_76
      have mc := mo_Vt_enter hc_76
      have mF1 := mo_law_729 hm_33 h
      have hPa := hP
      have hDa := hD
      have hPc := lw_PR hPa
      have hDc := lw_DR hDa
      have hFc := lx_free hDc hS hA
      refine va_calli (x_runSW (handlers := [(0, 9, 12, 19), (0, 9, 15, 25), (0, 9, 18, 13)]) (bytes := b_La_enter) (maxL := 4) (ret := (some .int)) (n := 3) (index := 131) (As := [.ref M.o_Vt, .int (xs (y_4 + 1).toNatClampNeg), .ref ou]) (rest := []) ⟨hx, hb, hml, hown, hts⟩ (la_enter_ok l hfl dC dI X _ ou kL oo hc_76) rfl rfl (Nat.le_of_ble_eq_true rfl) (Nat.le_of_ble_eq_true rfl) (pay_in hts (fun w h => good_Lq w (wcs (u_Lq_La _ k_La_41) (fun _ h => h) w h))) List.mem_cons_self (hts _ (u_Lq_La _ k_La_0)) ⟨(by decide), (by decide)⟩ (hlen_of (by decide +kernel)) (hts _ (u_Lq_La _ k_La_39)) (hts _ (u_Lq_La _ k_La_40)) (ps_ofE (X.same _) (fun U z1 z2 => X.mono _ _ U hFc (hEw _ _ hS U z1 z2)) hPc hKH hDc) rfl rfl hl.1 rfl (lv_room (Nat.le_of_ble_eq_true rfl)) d_La_law_726 ⟨lw_c1 mc.1 mF1.1 hGc, lw_c1 mc.2 mF1.2 hGs⟩) hS (fun q _ h => hFc q h) hFc (fun r_ Y_76 t H locs ht hvm hw hB hz1 hk1 hS => ?_)
      rw [hw]
      obtain ⟨hP1, -, hD1⟩ := hB
      rw [ht] at hP1
      rw [← eo_76] at hP1 hD1
      obtain ⟨hP, hD⟩ := lw_jR hPa hDa hk1 hFc hP1 hD1
      refine W.widen (k := cB + G_76.gc) (n := sB + G_76.gs) (lw_c2 mc.1) (lw_c2 mc.2) ?_
      exact hB_729 _ hr_33 hm_33 y_4 0 Y_76 G_76 S_76 T oo_76 _ _ _ h hP hD hS (lv_sub hl [0, 1, 2, 3, 4] rfl)
    · by_cases c_76_0 : k_76 = 0
      · have h := lf_t h c_76_0
        rw [c_76_0] at hc_76
        have ml_76 := mo_Vt_enter hc_76
        have mc := mo_Vt_enter hc_76
        have mF1 := mo_law_729 hm_33 h
        have hPa := hP
        have hDa := hD
        have hPc := lw_PR hPa
        have hDc := lw_DR hDa
        have hFc := lx_free hDc hS hA
        refine va_calli (x_runSW (handlers := [(0, 9, 12, 19), (0, 9, 15, 25), (0, 9, 18, 13)]) (bytes := b_La_enter) (maxL := 4) (ret := (some .int)) (n := 3) (index := 131) (As := [.ref M.o_Vt, .int (xs (y_4 + 1).toNatClampNeg), .ref ou]) (rest := []) ⟨hx, hb, hml, hown, hts⟩ (la_enter_0 l hfl dC dI X Xm _ ou kL oo hc_76) rfl rfl (Nat.le_of_ble_eq_true rfl) (Nat.le_of_ble_eq_true rfl) (pay_in hts (fun w h => good_Lq w (wcs (u_Lq_La _ k_La_41) (fun _ h => h) w h))) List.mem_cons_self (hts _ (u_Lq_La _ k_La_0)) ⟨(by decide), (by decide)⟩ (hlen_of (by decide +kernel)) (hts _ (u_Lq_La _ k_La_39)) (hts _ (u_Lq_La _ k_La_40)) (ps_ofE (X.same _) (fun U z1 z2 => X.mono _ _ U hFc (hEw _ _ hS U z1 z2)) hPc hKH hDc) rfl rfl hl.1 rfl (lv_room (Nat.le_of_ble_eq_true rfl)) d_La_law_726 ⟨lw_c1 mc.1 mF1.1 hGc, lw_c1 mc.2 mF1.2 hGs⟩) hS (fun q _ h => hFc q h) hFc (fun r_ Y_76 t H locs ht hvm hw hB hz1 hk1 hS => ?_)
        rw [hw]
        obtain ⟨hP1, -, hD1⟩ := hB
        rw [ht] at hP1
        obtain ⟨hP, hD⟩ := lw_jR hPa hDa hk1 hFc hP1 hD1
        refine W.widen (k := cB + G_76.gc) (n := sB + G_76.gs) (lw_c2 mc.1) (lw_c2 mc.2) ?_
        exact hB_729 _ hr_33 hm_33 y_4 3 Y_76 G_76 S_76 T oo _ _ _ h hP hD hS (lv_sub hl [0, 1, 2, 3, 4] rfl)
      · have h := lf_f h c_76_0
        by_cases c_76_1 : k_76 = 1
        · have h := lf_t h c_76_1
          rw [c_76_1] at hc_76
          have ml_76 := mo_Vt_enter hc_76
          have mc := mo_Vt_enter hc_76
          have mF1 := mo_law_729 hm_33 h
          have hPa := hP
          have hDa := hD
          have hPc := lw_PR hPa
          have hDc := lw_DR hDa
          have hFc := lx_free hDc hS hA
          refine va_calli (x_runSW (handlers := [(0, 9, 12, 19), (0, 9, 15, 25), (0, 9, 18, 13)]) (bytes := b_La_enter) (maxL := 4) (ret := (some .int)) (n := 3) (index := 131) (As := [.ref M.o_Vt, .int (xs (y_4 + 1).toNatClampNeg), .ref ou]) (rest := []) ⟨hx, hb, hml, hown, hts⟩ (la_enter_1 l hfl dC dI X _ ou kL oo hc_76) rfl rfl (Nat.le_of_ble_eq_true rfl) (Nat.le_of_ble_eq_true rfl) (pay_in hts (fun w h => good_Lq w (wcs (u_Lq_La _ k_La_41) (fun _ h => h) w h))) List.mem_cons_self (hts _ (u_Lq_La _ k_La_0)) ⟨(by decide), (by decide)⟩ (hlen_of (by decide +kernel)) (hts _ (u_Lq_La _ k_La_39)) (hts _ (u_Lq_La _ k_La_40)) (ps_ofE (X.same _) (fun U z1 z2 => X.mono _ _ U hFc (hEw _ _ hS U z1 z2)) hPc hKH hDc) rfl rfl hl.1 rfl (lv_room (Nat.le_of_ble_eq_true rfl)) d_La_law_726 ⟨lw_c1 mc.1 mF1.1 hGc, lw_c1 mc.2 mF1.2 hGs⟩) hS (fun q _ h => hFc q h) hFc (fun r_ Y_76 t H locs ht hvm hw hB hz1 hk1 hS => ?_)
          rw [hw]
          obtain ⟨hP1, -, hD1⟩ := hB
          rw [ht] at hP1
          obtain ⟨hP, hD⟩ := lw_jR hPa hDa hk1 hFc hP1 hD1
          refine W.widen (k := cB + G_76.gc) (n := sB + G_76.gs) (lw_c2 mc.1) (lw_c2 mc.2) ?_
          exact hB_729 _ hr_33 hm_33 y_4 1 Y_76 G_76 S_76 T oo _ _ _ h hP hD hS (lv_sub hl [0, 1, 2, 3, 4] rfl)
        · have h := lf_f h c_76_1
          by_cases c_76_2 : k_76 = 2
          · have h := lf_t h c_76_2
            rw [c_76_2] at hc_76
            have ml_76 := mo_Vt_enter hc_76
            have mc := mo_Vt_enter hc_76
            have mF1 := mo_law_729 hm_33 h
            have hPa := hP
            have hDa := hD
            have hPc := lw_PR hPa
            have hDc := lw_DR hDa
            have hFc := lx_free hDc hS hA
            refine va_calli (x_runSW (handlers := [(0, 9, 12, 19), (0, 9, 15, 25), (0, 9, 18, 13)]) (bytes := b_La_enter) (maxL := 4) (ret := (some .int)) (n := 3) (index := 131) (As := [.ref M.o_Vt, .int (xs (y_4 + 1).toNatClampNeg), .ref ou]) (rest := []) ⟨hx, hb, hml, hown, hts⟩ (la_enter_2 l hfl dC dI X Xm _ ou kL oo hc_76) rfl rfl (Nat.le_of_ble_eq_true rfl) (Nat.le_of_ble_eq_true rfl) (pay_in hts (fun w h => good_Lq w (wcs (u_Lq_La _ k_La_41) (fun _ h => h) w h))) List.mem_cons_self (hts _ (u_Lq_La _ k_La_0)) ⟨(by decide), (by decide)⟩ (hlen_of (by decide +kernel)) (hts _ (u_Lq_La _ k_La_39)) (hts _ (u_Lq_La _ k_La_40)) (ps_ofE (X.same _) (fun U z1 z2 => X.mono _ _ U hFc (hEw _ _ hS U z1 z2)) hPc hKH hDc) rfl rfl hl.1 rfl (lv_room (Nat.le_of_ble_eq_true rfl)) d_La_law_726 ⟨lw_c1 mc.1 mF1.1 hGc, lw_c1 mc.2 mF1.2 hGs⟩) hS (fun q _ h => hFc q h) hFc (fun r_ Y_76 t H locs ht hvm hw hB hz1 hk1 hS => ?_)
            rw [hw]
            obtain ⟨hP1, -, hD1⟩ := hB
            rw [ht] at hP1
            obtain ⟨hP, hD⟩ := lw_jR hPa hDa hk1 hFc hP1 hD1
            refine W.widen (k := cB + G_76.gc) (n := sB + G_76.gs) (lw_c2 mc.1) (lw_c2 mc.2) ?_
            exact hB_729 _ hr_33 hm_33 y_4 2 Y_76 G_76 S_76 T oo _ _ _ h hP hD hS (lv_sub hl [0, 1, 2, 3, 4] rfl)
          · have h := lf_f h c_76_2
            exact lf_no h
  have hB_822 : ∀ (rec_33 : Int32 → CG → CS → MS → (Nat → Int64) → Option (Int32 × CG × CS)) (hr_33 : ∀ (y_4 : Int32) (Y : CT) (G : CG) (S : CS) (T : MS) (oo : Nat → Int64) (H : Heap) (locs : List Loc) (ls : Array Slot), rec_33 y_4 G S T oo = some (1, G', S') → va_P (dC, dI) classes (wM M2 T ++ ((ou, .inl (kL, 1, .inr (.inl oo))) :: wV M Y G S)) H → va_D (fun q => s.heap.size ≤ q) (wM M2 T ++ ((ou, .inl (kL, 1, .inr (.inl oo))) :: wV M Y G S)) → va_S (fun q => s.heap.size ≤ q) s.heap H locs → lv_has ls 8 [(0, .ref b), (1, .ref M.o_Vt), (2, .ref M2.o), (3, .ref ou), (4, .int y_4)] → W p l e room_1 s m #[Value.ref b] below meth c H locs (cB + G.gc) (sB + G.gs) (lw_Z below #[Value.ref b] s) (F0 m 33 ls [])) (hm_33 : ∀ (y_4 : Int32) (G : CG) (S : CS) (T : MS) (oo : Nat → Int64) {x : Int32} {G1 : CG} {S1 : CS}, rec_33 y_4 G S T oo = some (x, G1, S1) → CG.le G G1), ∀ (y_4 : Int32) (Y : CT) (G : CG) (S : CS) (T : MS) (oo : Nat → Int64) (H : Heap) (locs : List Loc) (ls : Array Slot), f_law_822 K L xs rec_33 y_4 G S T oo = some (1, G', S') → va_P (dC, dI) classes (wM M2 T ++ ((ou, .inl (kL, 1, .inr (.inl oo))) :: wV M Y G S)) H → va_D (fun q => s.heap.size ≤ q) (wM M2 T ++ ((ou, .inl (kL, 1, .inr (.inl oo))) :: wV M Y G S)) → va_S (fun q => s.heap.size ≤ q) s.heap H locs → lv_has ls 8 [(0, .ref b), (1, .ref M.o_Vt), (2, .ref M2.o), (3, .ref ou), (4, .int y_4)] → W p l e room_1 s m #[Value.ref b] below meth c H locs (cB + G.gc) (sB + G.gs) (lw_Z below #[Value.ref b] s) (F0 m 822 ls []) := by
    intro rec_33 hr_33 hm_33 y_4 Y G S T oo H locs ls h hP hD hS hl
    have mF := mo_law_822 hm_33 h
    rw [f_law_822] at h
    refine lv_goto (tgt := 1388) hx hb d_La_law_822 (by decide) ?_
    exact hB_1388 _ hr_33 hm_33 y_4 Y G S T oo _ _ _ h hP hD hS (lv_sub hl [0, 1, 2, 3, 4] rfl)
  have hB_816 : ∀ (rec_33 : Int32 → CG → CS → MS → (Nat → Int64) → Option (Int32 × CG × CS)) (hr_33 : ∀ (y_4 : Int32) (Y : CT) (G : CG) (S : CS) (T : MS) (oo : Nat → Int64) (H : Heap) (locs : List Loc) (ls : Array Slot), rec_33 y_4 G S T oo = some (1, G', S') → va_P (dC, dI) classes (wM M2 T ++ ((ou, .inl (kL, 1, .inr (.inl oo))) :: wV M Y G S)) H → va_D (fun q => s.heap.size ≤ q) (wM M2 T ++ ((ou, .inl (kL, 1, .inr (.inl oo))) :: wV M Y G S)) → va_S (fun q => s.heap.size ≤ q) s.heap H locs → lv_has ls 8 [(0, .ref b), (1, .ref M.o_Vt), (2, .ref M2.o), (3, .ref ou), (4, .int y_4)] → W p l e room_1 s m #[Value.ref b] below meth c H locs (cB + G.gc) (sB + G.gs) (lw_Z below #[Value.ref b] s) (F0 m 33 ls [])) (hm_33 : ∀ (y_4 : Int32) (G : CG) (S : CS) (T : MS) (oo : Nat → Int64) {x : Int32} {G1 : CG} {S1 : CS}, rec_33 y_4 G S T oo = some (x, G1, S1) → CG.le G G1), ∀ (y_4 : Int32) (z_0 : Int64) (z_1 : Int64) (Y : CT) (G : CG) (S : CS) (T : MS) (oo : Nat → Int64) (H : Heap) (locs : List Loc) (ls : Array Slot), f_law_816 K L xs rec_33 y_4 z_0 z_1 G S T oo = some (1, G', S') → va_P (dC, dI) classes (wM M2 T ++ ((ou, .inl (kL, 1, .inr (.inl oo))) :: wV M Y G S)) H → va_D (fun q => s.heap.size ≤ q) (wM M2 T ++ ((ou, .inl (kL, 1, .inr (.inl oo))) :: wV M Y G S)) → va_S (fun q => s.heap.size ≤ q) s.heap H locs → lv_has ls 8 [(0, .ref b), (1, .ref M.o_Vt), (2, .ref M2.o), (3, .ref ou), (4, .int y_4)] → W p l e room_1 s m #[Value.ref b] below meth c H locs (cB + G.gc) (sB + G.gs) (lw_Z below #[Value.ref b] s) (F0 m 816 ls [.long z_1, .long z_0]) := by
    intro rec_33 hr_33 hm_33 y_4 z_0 z_1 Y G S T oo H locs ls h hP hD hS hl
    have mF := mo_law_816 hm_33 h
    rw [f_law_816] at h
    refine W.lcmp hx hb d_La_law_816 ?_
    refine lv_if_eq (tgt := 822) hx hb d_La_law_817 (by decide) (fun c_215 => ?_) (fun c_215 => ?_)
    · have h := lf_t h c_215
      exact hB_822 _ hr_33 hm_33 y_4 Y G S T oo _ _ _ h hP hD hS (lv_sub hl [0, 1, 2, 3, 4] rfl)
    · have h := lf_f h c_215
      refine lv_iconst (v := 0) hx hb d_La_law_820 (by decide) ?_
      exact lf_01 h
  have hB_779 : ∀ (rec_33 : Int32 → CG → CS → MS → (Nat → Int64) → Option (Int32 × CG × CS)) (hr_33 : ∀ (y_4 : Int32) (Y : CT) (G : CG) (S : CS) (T : MS) (oo : Nat → Int64) (H : Heap) (locs : List Loc) (ls : Array Slot), rec_33 y_4 G S T oo = some (1, G', S') → va_P (dC, dI) classes (wM M2 T ++ ((ou, .inl (kL, 1, .inr (.inl oo))) :: wV M Y G S)) H → va_D (fun q => s.heap.size ≤ q) (wM M2 T ++ ((ou, .inl (kL, 1, .inr (.inl oo))) :: wV M Y G S)) → va_S (fun q => s.heap.size ≤ q) s.heap H locs → lv_has ls 8 [(0, .ref b), (1, .ref M.o_Vt), (2, .ref M2.o), (3, .ref ou), (4, .int y_4)] → W p l e room_1 s m #[Value.ref b] below meth c H locs (cB + G.gc) (sB + G.gs) (lw_Z below #[Value.ref b] s) (F0 m 33 ls [])) (hm_33 : ∀ (y_4 : Int32) (G : CG) (S : CS) (T : MS) (oo : Nat → Int64) {x : Int32} {G1 : CG} {S1 : CS}, rec_33 y_4 G S T oo = some (x, G1, S1) → CG.le G G1), ∀ (y_4 : Int32) (z_0 : Int32) (Y : CT) (G : CG) (S : CS) (T : MS) (oo : Nat → Int64) (H : Heap) (locs : List Loc) (ls : Array Slot), f_law_779 K L xs rec_33 y_4 z_0 G S T oo = some (1, G', S') → va_P (dC, dI) classes (wM M2 T ++ ((ou, .inl (kL, 1, .inr (.inl oo))) :: wV M Y G S)) H → va_D (fun q => s.heap.size ≤ q) (wM M2 T ++ ((ou, .inl (kL, 1, .inr (.inl oo))) :: wV M Y G S)) → va_S (fun q => s.heap.size ≤ q) s.heap H locs → lv_has ls 8 [(0, .ref b), (1, .ref M.o_Vt), (2, .ref M2.o), (3, .ref ou), (4, .int y_4)] → W p l e room_1 s m #[Value.ref b] below meth c H locs (cB + G.gc) (sB + G.gs) (lw_Z below #[Value.ref b] s) (F0 m 779 ls [.int z_0]) := by
    intro rec_33 hr_33 hm_33 y_4 z_0 Y G S T oo H locs ls h hP hD hS hl
    have mF := mo_law_779 hm_33 h
    rw [f_law_779] at h
    refine lv_istore (lv' := [(5, .int z_0), (0, .ref b), (1, .ref M.o_Vt), (2, .ref M2.o), (3, .ref ou), (4, .int y_4)]) hx hb d_La_law_779 hl (by decide) rfl (fun ls hl => ?_)
    refine lv_aload_n hx hb d_La_law_781 rfl (lv_at hl 3 rfl) ?_
    obtain ⟨r_162, T_162, hc_162, h⟩ := lf_cE h
    have hPc := lw_PL hP
    have hDc := lw_DL hD
    have hFc := lx_free hDc hS hA
    refine va_calli (va_runV (As := []) (rest := []) ⟨hx, hb, hml, hown, hts⟩ (l_Mo_up l dC dI X2 _ hc_162) (cwV 0 hts (gwV good_Lq (u_Lq_La _ k_La_92) (u_Lq_Mo _ k_Mo_301) (u_Lq_Mo _ k_Mo_302) (u_Lq_Mo _ k_Mo_0) (wcs (u_Lq_Mo _ k_Mo_303) u_Lq_Mq)) rfl rfl rfl (by decide +kernel) ⟨Nat.le_of_ble_eq_true rfl, Nat.le_of_ble_eq_true rfl⟩) (pv_ofE (X2.same _) (fun U z1 z2 => X2.mono _ _ U hFc (hEw _ _ hS U z1 z2)) hPc hKM hDc (va_recv hKM hPc (ci := 12) (q0 := 0) rfl rfl)) rfl rfl hl.1 rfl (lv_room (Nat.le_of_ble_eq_true rfl)) d_La_law_782 ⟨lw_c0 mF.1 hGc, lw_c0 mF.2 hGs⟩) hS (fun q _ h => hFc q h) hFc (fun r_ u t H locs ht hvm hw hB hz1 hk1 hS => ?_)
    rw [hw]
    obtain ⟨hP1, -, hD1⟩ := hB
    rw [ht] at hP1
    obtain ⟨hP, hD⟩ := lw_jL hP hD hk1 hFc hP1 hD1
    refine lv_istore (lv' := [(6, .int r_162), (5, .int z_0), (0, .ref b), (1, .ref M.o_Vt), (2, .ref M2.o), (3, .ref ou), (4, .int y_4)]) hx hb d_La_law_785 hl (by decide) rfl (fun ls hl => ?_)
    refine lv_aload_n hx hb d_La_law_787 rfl (lv_at hl 4 rfl) ?_
    obtain ⟨r_163, T_163, hc_163, h⟩ := lf_cE h
    have hPc := lw_PL hP
    have hDc := lw_DL hD
    have hFc := lx_free hDc hS hA
    refine va_calli (va_runV (As := []) (rest := []) ⟨hx, hb, hml, hown, hts⟩ (l_Mo_thrown l dC dI X2 _ hc_163) (cwV 0 hts (gwV good_Lq (u_Lq_La _ k_La_78) (u_Lq_Mo _ k_Mo_73) (u_Lq_Mo _ k_Mo_74) (u_Lq_Mo _ k_Mo_0) (wcs (u_Lq_Mo _ k_Mo_75) u_Lq_Mq)) rfl rfl rfl (by decide +kernel) ⟨Nat.le_of_ble_eq_true rfl, Nat.le_of_ble_eq_true rfl⟩) (pv_ofE (X2.same _) (fun U z1 z2 => X2.mono _ _ U hFc (hEw _ _ hS U z1 z2)) hPc hKM hDc (va_recv hKM hPc (ci := 12) (q0 := 0) rfl rfl)) rfl rfl hl.1 rfl (lv_room (Nat.le_of_ble_eq_true rfl)) d_La_law_788 ⟨lw_c0 mF.1 hGc, lw_c0 mF.2 hGs⟩) hS (fun q _ h => hFc q h) hFc (fun r_ u t H locs ht hvm hw hB hz1 hk1 hS => ?_)
    rw [hw]
    obtain ⟨hP1, -, hD1⟩ := hB
    rw [ht] at hP1
    obtain ⟨hP, hD⟩ := lw_jL hP hD hk1 hFc hP1 hD1
    refine lv_iload hx hb d_La_law_791 (lv_at hl 1 rfl) ?_
    refine lv_icmp_eq (tgt := 798) hx hb d_La_law_793 (by decide) (fun c_164 => ?_) (fun c_164 => ?_)
    · have h := lf_t h c_164
      refine lv_iload hx hb d_La_law_798 (lv_at hl 1 rfl) ?_
      refine lv_if_ne (tgt := 822) hx hb d_La_law_800 (by decide) (fun c_165 => ?_) (fun c_165 => ?_)
      · have h := lf_f h c_165
        exact hB_822 _ hr_33 hm_33 y_4 Y G S T_163 oo _ _ _ h hP hD hS (lv_sub hl [2, 3, 4, 5, 6] rfl)
      · have h := lf_t h c_165
        refine lv_aload_n hx hb d_La_law_803 rfl (lv_at hl 5 rfl) ?_
        refine lv_iconst (v := 0) hx hb d_La_law_804 (by decide) ?_
        refine va_lald hx hb hK hP 28 27 rfl rfl (by unfold vp_in; decide) d_La_law_805 ?_
        refine lv_iload hx hb d_La_law_806 (lv_at hl 0 rfl) ?_
        refine lv_if_eq (tgt := 815) hx hb d_La_law_808 (by decide) (fun c_166 => ?_) (fun c_166 => ?_)
        · have h := lf_t h c_166
          refine lv_lconst (v := 0) hx hb d_La_law_815 (by decide) ?_
          exact hB_816 _ hr_33 hm_33 y_4 (oo (0 : Int32).toNatClampNeg) 0 Y G S T_163 oo _ _ _ h hP hD hS (lv_sub hl [2, 3, 4, 5, 6] rfl)
        · have h := lf_f h c_166
          refine lv_lconst (v := 1) hx hb d_La_law_811 (by decide) ?_
          refine lv_goto (tgt := 816) hx hb d_La_law_812 (by decide) ?_
          exact hB_816 _ hr_33 hm_33 y_4 (oo (0 : Int32).toNatClampNeg) 1 Y G S T_163 oo _ _ _ h hP hD hS (lv_sub hl [2, 3, 4, 5, 6] rfl)
    · have h := lf_f h c_164
      refine lv_iconst (v := 0) hx hb d_La_law_796 (by decide) ?_
      exact lf_01 h
  have hB_774 : ∀ (rec_33 : Int32 → CG → CS → MS → (Nat → Int64) → Option (Int32 × CG × CS)) (hr_33 : ∀ (y_4 : Int32) (Y : CT) (G : CG) (S : CS) (T : MS) (oo : Nat → Int64) (H : Heap) (locs : List Loc) (ls : Array Slot), rec_33 y_4 G S T oo = some (1, G', S') → va_P (dC, dI) classes (wM M2 T ++ ((ou, .inl (kL, 1, .inr (.inl oo))) :: wV M Y G S)) H → va_D (fun q => s.heap.size ≤ q) (wM M2 T ++ ((ou, .inl (kL, 1, .inr (.inl oo))) :: wV M Y G S)) → va_S (fun q => s.heap.size ≤ q) s.heap H locs → lv_has ls 8 [(0, .ref b), (1, .ref M.o_Vt), (2, .ref M2.o), (3, .ref ou), (4, .int y_4)] → W p l e room_1 s m #[Value.ref b] below meth c H locs (cB + G.gc) (sB + G.gs) (lw_Z below #[Value.ref b] s) (F0 m 33 ls [])) (hm_33 : ∀ (y_4 : Int32) (G : CG) (S : CS) (T : MS) (oo : Nat → Int64) {x : Int32} {G1 : CG} {S1 : CS}, rec_33 y_4 G S T oo = some (x, G1, S1) → CG.le G G1), ∀ (y_4 : Int32) (Y : CT) (G : CG) (S : CS) (T : MS) (oo : Nat → Int64) (H : Heap) (locs : List Loc) (ls : Array Slot), f_law_774 K L xs rec_33 y_4 G S T oo = some (1, G', S') → va_P (dC, dI) classes (wM M2 T ++ ((ou, .inl (kL, 1, .inr (.inl oo))) :: wV M Y G S)) H → va_D (fun q => s.heap.size ≤ q) (wM M2 T ++ ((ou, .inl (kL, 1, .inr (.inl oo))) :: wV M Y G S)) → va_S (fun q => s.heap.size ≤ q) s.heap H locs → lv_has ls 8 [(0, .ref b), (1, .ref M.o_Vt), (2, .ref M2.o), (3, .ref ou), (4, .int y_4)] → W p l e room_1 s m #[Value.ref b] below meth c H locs (cB + G.gc) (sB + G.gs) (lw_Z below #[Value.ref b] s) (F0 m 774 ls []) := by
    intro rec_33 hr_33 hm_33 y_4 Y G S T oo H locs ls h hP hD hS hl
    have mF := mo_law_774 hm_33 h
    rw [f_law_774] at h
    refine lv_aload_n hx hb d_La_law_774 rfl (lv_at hl 1 rfl) ?_
    refine lv_aload_n hx hb d_La_law_775 rfl (lv_at hl 3 rfl) ?_
    rcases lf_hE h with ⟨r_77, G_77, S_77, hc_77, h⟩ | ⟨k_77, G_77, S_77, hc_77, h⟩
    · obtain ⟨oo_77, eo_77, h⟩ := lf_lX h
      have ml_77 := mo_Vt_up hc_77
      have mc := mo_Vt_up hc_77
      have mF1 := mo_law_779 hm_33 h
      have hPa := hP
      have hDa := hD
      have hPc := lw_PR hPa
      have hDc := lw_DR hDa
      have hFc := lx_free hDc hS hA
      refine va_calli (x_runSW (handlers := [(0, 15, 18, 19)]) (bytes := b_La_up) (maxL := 3) (ret := (some .int)) (n := 2) (index := 135) (As := [.ref M.o_Vt, .ref ou]) (rest := []) ⟨hx, hb, hml, hown, hts⟩ (la_up_ok l hfl dC dI X _ ou kL oo hc_77) rfl rfl (Nat.le_of_ble_eq_true rfl) (Nat.le_of_ble_eq_true rfl) (pay_in hts (fun w h => good_Lq w (wcs (u_Lq_La _ k_La_45) (fun _ h => h) w h))) List.mem_cons_self (hts _ (u_Lq_La _ k_La_0)) ⟨(by decide), (by decide)⟩ (hlen_of (by decide +kernel)) (hts _ (u_Lq_La _ k_La_43)) (hts _ (u_Lq_La _ k_La_44)) (ps_ofE (X.same _) (fun U z1 z2 => X.mono _ _ U hFc (hEw _ _ hS U z1 z2)) hPc hKH hDc) rfl rfl hl.1 rfl (lv_room (Nat.le_of_ble_eq_true rfl)) d_La_law_776 ⟨lw_c1 mc.1 mF1.1 hGc, lw_c1 mc.2 mF1.2 hGs⟩) hS (fun q _ h => hFc q h) hFc (fun r_ Y_77 t H locs ht hvm hw hB hz1 hk1 hS => ?_)
      rw [hw]
      obtain ⟨hP1, -, hD1⟩ := hB
      rw [ht] at hP1
      rw [← eo_77] at hP1 hD1
      obtain ⟨hP, hD⟩ := lw_jR hPa hDa hk1 hFc hP1 hD1
      refine W.widen (k := cB + G_77.gc) (n := sB + G_77.gs) (lw_c2 mc.1) (lw_c2 mc.2) ?_
      exact hB_779 _ hr_33 hm_33 y_4 0 Y_77 G_77 S_77 T oo_77 _ _ _ h hP hD hS (lv_sub hl [0, 1, 2, 3, 4] rfl)
    · by_cases c_77_1 : k_77 = 1
      · have h := lf_t h c_77_1
        rw [c_77_1] at hc_77
        have ml_77 := mo_Vt_up hc_77
        have mc := mo_Vt_up hc_77
        have mF1 := mo_law_779 hm_33 h
        have hPa := hP
        have hDa := hD
        have hPc := lw_PR hPa
        have hDc := lw_DR hDa
        have hFc := lx_free hDc hS hA
        refine va_calli (x_runSW (handlers := [(0, 15, 18, 19)]) (bytes := b_La_up) (maxL := 3) (ret := (some .int)) (n := 2) (index := 135) (As := [.ref M.o_Vt, .ref ou]) (rest := []) ⟨hx, hb, hml, hown, hts⟩ (la_up_1 l hfl dC dI X _ ou kL oo hc_77) rfl rfl (Nat.le_of_ble_eq_true rfl) (Nat.le_of_ble_eq_true rfl) (pay_in hts (fun w h => good_Lq w (wcs (u_Lq_La _ k_La_45) (fun _ h => h) w h))) List.mem_cons_self (hts _ (u_Lq_La _ k_La_0)) ⟨(by decide), (by decide)⟩ (hlen_of (by decide +kernel)) (hts _ (u_Lq_La _ k_La_43)) (hts _ (u_Lq_La _ k_La_44)) (ps_ofE (X.same _) (fun U z1 z2 => X.mono _ _ U hFc (hEw _ _ hS U z1 z2)) hPc hKH hDc) rfl rfl hl.1 rfl (lv_room (Nat.le_of_ble_eq_true rfl)) d_La_law_776 ⟨lw_c1 mc.1 mF1.1 hGc, lw_c1 mc.2 mF1.2 hGs⟩) hS (fun q _ h => hFc q h) hFc (fun r_ Y_77 t H locs ht hvm hw hB hz1 hk1 hS => ?_)
        rw [hw]
        obtain ⟨hP1, -, hD1⟩ := hB
        rw [ht] at hP1
        obtain ⟨hP, hD⟩ := lw_jR hPa hDa hk1 hFc hP1 hD1
        refine W.widen (k := cB + G_77.gc) (n := sB + G_77.gs) (lw_c2 mc.1) (lw_c2 mc.2) ?_
        exact hB_779 _ hr_33 hm_33 y_4 1 Y_77 G_77 S_77 T oo _ _ _ h hP hD hS (lv_sub hl [0, 1, 2, 3, 4] rfl)
      · have h := lf_f h c_77_1
        exact lf_no h
  have hB_894 : ∀ (rec_33 : Int32 → CG → CS → MS → (Nat → Int64) → Option (Int32 × CG × CS)) (hr_33 : ∀ (y_4 : Int32) (Y : CT) (G : CG) (S : CS) (T : MS) (oo : Nat → Int64) (H : Heap) (locs : List Loc) (ls : Array Slot), rec_33 y_4 G S T oo = some (1, G', S') → va_P (dC, dI) classes (wM M2 T ++ ((ou, .inl (kL, 1, .inr (.inl oo))) :: wV M Y G S)) H → va_D (fun q => s.heap.size ≤ q) (wM M2 T ++ ((ou, .inl (kL, 1, .inr (.inl oo))) :: wV M Y G S)) → va_S (fun q => s.heap.size ≤ q) s.heap H locs → lv_has ls 8 [(0, .ref b), (1, .ref M.o_Vt), (2, .ref M2.o), (3, .ref ou), (4, .int y_4)] → W p l e room_1 s m #[Value.ref b] below meth c H locs (cB + G.gc) (sB + G.gs) (lw_Z below #[Value.ref b] s) (F0 m 33 ls [])) (hm_33 : ∀ (y_4 : Int32) (G : CG) (S : CS) (T : MS) (oo : Nat → Int64) {x : Int32} {G1 : CG} {S1 : CS}, rec_33 y_4 G S T oo = some (x, G1, S1) → CG.le G G1), ∀ (y_4 : Int32) (Y : CT) (G : CG) (S : CS) (T : MS) (oo : Nat → Int64) (H : Heap) (locs : List Loc) (ls : Array Slot), f_law_894 K L xs rec_33 y_4 G S T oo = some (1, G', S') → va_P (dC, dI) classes (wM M2 T ++ ((ou, .inl (kL, 1, .inr (.inl oo))) :: wV M Y G S)) H → va_D (fun q => s.heap.size ≤ q) (wM M2 T ++ ((ou, .inl (kL, 1, .inr (.inl oo))) :: wV M Y G S)) → va_S (fun q => s.heap.size ≤ q) s.heap H locs → lv_has ls 8 [(0, .ref b), (1, .ref M.o_Vt), (2, .ref M2.o), (3, .ref ou), (4, .int y_4)] → W p l e room_1 s m #[Value.ref b] below meth c H locs (cB + G.gc) (sB + G.gs) (lw_Z below #[Value.ref b] s) (F0 m 894 ls []) := by
    intro rec_33 hr_33 hm_33 y_4 Y G S T oo H locs ls h hP hD hS hl
    have mF := mo_law_894 hm_33 h
    rw [f_law_894] at h
    refine lv_goto (tgt := 1388) hx hb d_La_law_894 (by decide) ?_
    exact hB_1388 _ hr_33 hm_33 y_4 Y G S T oo _ _ _ h hP hD hS (lv_sub hl [0, 1, 2, 3, 4] rfl)
  have hB_861 : ∀ (rec_33 : Int32 → CG → CS → MS → (Nat → Int64) → Option (Int32 × CG × CS)) (hr_33 : ∀ (y_4 : Int32) (Y : CT) (G : CG) (S : CS) (T : MS) (oo : Nat → Int64) (H : Heap) (locs : List Loc) (ls : Array Slot), rec_33 y_4 G S T oo = some (1, G', S') → va_P (dC, dI) classes (wM M2 T ++ ((ou, .inl (kL, 1, .inr (.inl oo))) :: wV M Y G S)) H → va_D (fun q => s.heap.size ≤ q) (wM M2 T ++ ((ou, .inl (kL, 1, .inr (.inl oo))) :: wV M Y G S)) → va_S (fun q => s.heap.size ≤ q) s.heap H locs → lv_has ls 8 [(0, .ref b), (1, .ref M.o_Vt), (2, .ref M2.o), (3, .ref ou), (4, .int y_4)] → W p l e room_1 s m #[Value.ref b] below meth c H locs (cB + G.gc) (sB + G.gs) (lw_Z below #[Value.ref b] s) (F0 m 33 ls [])) (hm_33 : ∀ (y_4 : Int32) (G : CG) (S : CS) (T : MS) (oo : Nat → Int64) {x : Int32} {G1 : CG} {S1 : CS}, rec_33 y_4 G S T oo = some (x, G1, S1) → CG.le G G1), ∀ (y_4 : Int32) (y_5 : Int32) (z_1 : Int32) (Y : CT) (G : CG) (S : CS) (T : MS) (oo : Nat → Int64) (H : Heap) (locs : List Loc) (ls : Array Slot), f_law_861 K L xs rec_33 y_4 y_5 z_1 G S T oo = some (1, G', S') → va_P (dC, dI) classes (wM M2 T ++ ((ou, .inl (kL, 1, .inr (.inl oo))) :: wV M Y G S)) H → va_D (fun q => s.heap.size ≤ q) (wM M2 T ++ ((ou, .inl (kL, 1, .inr (.inl oo))) :: wV M Y G S)) → va_S (fun q => s.heap.size ≤ q) s.heap H locs → lv_has ls 8 [(0, .ref b), (1, .ref M.o_Vt), (2, .ref M2.o), (3, .ref ou), (4, .int y_4), (5, .int y_5)] → W p l e room_1 s m #[Value.ref b] below meth c H locs (cB + G.gc) (sB + G.gs) (lw_Z below #[Value.ref b] s) (F0 m 861 ls [.int z_1, .ref M2.o]) := by
    intro rec_33 hr_33 hm_33 y_4 y_5 z_1 Y G S T oo H locs ls h hP hD hS hl
    have mF := mo_law_861 hm_33 h
    rw [f_law_861] at h
    obtain ⟨r_218, T_218, hc_218, h⟩ := lf_cE h
    have hPc := lw_PL hP
    have hDc := lw_DL hD
    have hFc := lx_free hDc hS hA
    refine va_calli (va_runV (As := [.int z_1]) (rest := []) ⟨hx, hb, hml, hown, hts⟩ (l_Mo_make l dC dI X2 _ hc_218) (cwV 1 hts (gwV good_Lq (u_Lq_La _ k_La_93) (u_Lq_Mo _ k_Mo_304) (u_Lq_Mo _ k_Mo_305) (u_Lq_Mo _ k_Mo_0) (wcs (u_Lq_Mo _ k_Mo_306) u_Lq_Mq)) rfl rfl rfl (by decide +kernel) ⟨Nat.le_of_ble_eq_true rfl, Nat.le_of_ble_eq_true rfl⟩) (pv_ofE (X2.same _) (fun U z1 z2 => X2.mono _ _ U hFc (hEw _ _ hS U z1 z2)) hPc hKM hDc (va_recv hKM hPc (ci := 12) (q0 := 0) rfl rfl)) rfl rfl hl.1 rfl (lv_room (Nat.le_of_ble_eq_true rfl)) d_La_law_861 ⟨lw_c0 mF.1 hGc, lw_c0 mF.2 hGs⟩) hS (fun q _ h => hFc q h) hFc (fun r_ u t H locs ht hvm hw hB hz1 hk1 hS => ?_)
    rw [hw]
    obtain ⟨hP1, -, hD1⟩ := hB
    rw [ht] at hP1
    obtain ⟨hP, hD⟩ := lw_jL hP hD hk1 hFc hP1 hD1
    refine lv_istore (lv' := [(6, .int r_218), (0, .ref b), (1, .ref M.o_Vt), (2, .ref M2.o), (3, .ref ou), (4, .int y_4), (5, .int y_5)]) hx hb d_La_law_864 hl (by decide) rfl (fun ls hl => ?_)
    refine lv_aload_n hx hb d_La_law_866 rfl (lv_at hl 3 rfl) ?_
    obtain ⟨r_219, T_219, hc_219, h⟩ := lf_cE h
    have hPc := lw_PL hP
    have hDc := lw_DL hD
    have hFc := lx_free hDc hS hA
    refine va_calli (va_runV (As := []) (rest := []) ⟨hx, hb, hml, hown, hts⟩ (l_Mo_thrown l dC dI X2 _ hc_219) (cwV 0 hts (gwV good_Lq (u_Lq_La _ k_La_78) (u_Lq_Mo _ k_Mo_73) (u_Lq_Mo _ k_Mo_74) (u_Lq_Mo _ k_Mo_0) (wcs (u_Lq_Mo _ k_Mo_75) u_Lq_Mq)) rfl rfl rfl (by decide +kernel) ⟨Nat.le_of_ble_eq_true rfl, Nat.le_of_ble_eq_true rfl⟩) (pv_ofE (X2.same _) (fun U z1 z2 => X2.mono _ _ U hFc (hEw _ _ hS U z1 z2)) hPc hKM hDc (va_recv hKM hPc (ci := 12) (q0 := 0) rfl rfl)) rfl rfl hl.1 rfl (lv_room (Nat.le_of_ble_eq_true rfl)) d_La_law_867 ⟨lw_c0 mF.1 hGc, lw_c0 mF.2 hGs⟩) hS (fun q _ h => hFc q h) hFc (fun r_ u t H locs ht hvm hw hB hz1 hk1 hS => ?_)
    rw [hw]
    obtain ⟨hP1, -, hD1⟩ := hB
    rw [ht] at hP1
    obtain ⟨hP, hD⟩ := lw_jL hP hD hk1 hFc hP1 hD1
    refine lv_iload hx hb d_La_law_870 (lv_at hl 6 rfl) ?_
    refine lv_icmp_eq (tgt := 877) hx hb d_La_law_872 (by decide) (fun c_220 => ?_) (fun c_220 => ?_)
    · have h := lf_t h c_220
      refine lv_iload hx hb d_La_law_877 (lv_at hl 6 rfl) ?_
      refine lv_if_ne (tgt := 894) hx hb d_La_law_879 (by decide) (fun c_221 => ?_) (fun c_221 => ?_)
      · have h := lf_f h c_221
        exact hB_894 _ hr_33 hm_33 y_4 Y G S T_219 oo _ _ _ h hP hD hS (lv_sub hl [1, 2, 3, 4, 5] rfl)
      · have h := lf_t h c_221
        refine lv_aload_n hx hb d_La_law_882 rfl (lv_at hl 4 rfl) ?_
        refine lv_iconst (v := 0) hx hb d_La_law_883 (by decide) ?_
        refine va_lald hx hb hK hP 28 27 rfl rfl (by unfold vp_in; decide) d_La_law_884 ?_
        refine lv_iload hx hb d_La_law_885 (lv_at hl 0 rfl) ?_
        refine lv_i2l hx hb d_La_law_887 rfl ?_
        refine W.lcmp hx hb d_La_law_888 ?_
        refine lv_if_eq (tgt := 894) hx hb d_La_law_889 (by decide) (fun c_222 => ?_) (fun c_222 => ?_)
        · have h := lf_t h c_222
          exact hB_894 _ hr_33 hm_33 y_4 Y G S T_219 oo _ _ _ h hP hD hS (lv_sub hl [1, 2, 3, 4, 5] rfl)
        · have h := lf_f h c_222
          refine lv_iconst (v := 0) hx hb d_La_law_892 (by decide) ?_
          exact lf_01 h
    · have h := lf_f h c_220
      refine lv_iconst (v := 0) hx hb d_La_law_875 (by decide) ?_
      exact lf_01 h
  have hB_844 : ∀ (rec_33 : Int32 → CG → CS → MS → (Nat → Int64) → Option (Int32 × CG × CS)) (hr_33 : ∀ (y_4 : Int32) (Y : CT) (G : CG) (S : CS) (T : MS) (oo : Nat → Int64) (H : Heap) (locs : List Loc) (ls : Array Slot), rec_33 y_4 G S T oo = some (1, G', S') → va_P (dC, dI) classes (wM M2 T ++ ((ou, .inl (kL, 1, .inr (.inl oo))) :: wV M Y G S)) H → va_D (fun q => s.heap.size ≤ q) (wM M2 T ++ ((ou, .inl (kL, 1, .inr (.inl oo))) :: wV M Y G S)) → va_S (fun q => s.heap.size ≤ q) s.heap H locs → lv_has ls 8 [(0, .ref b), (1, .ref M.o_Vt), (2, .ref M2.o), (3, .ref ou), (4, .int y_4)] → W p l e room_1 s m #[Value.ref b] below meth c H locs (cB + G.gc) (sB + G.gs) (lw_Z below #[Value.ref b] s) (F0 m 33 ls [])) (hm_33 : ∀ (y_4 : Int32) (G : CG) (S : CS) (T : MS) (oo : Nat → Int64) {x : Int32} {G1 : CG} {S1 : CS}, rec_33 y_4 G S T oo = some (x, G1, S1) → CG.le G G1), ∀ (y_4 : Int32) (z_0 : Int32) (Y : CT) (G : CG) (S : CS) (T : MS) (oo : Nat → Int64) (H : Heap) (locs : List Loc) (ls : Array Slot), f_law_844 K L xs rec_33 y_4 z_0 G S T oo = some (1, G', S') → va_P (dC, dI) classes (wM M2 T ++ ((ou, .inl (kL, 1, .inr (.inl oo))) :: wV M Y G S)) H → va_D (fun q => s.heap.size ≤ q) (wM M2 T ++ ((ou, .inl (kL, 1, .inr (.inl oo))) :: wV M Y G S)) → va_S (fun q => s.heap.size ≤ q) s.heap H locs → lv_has ls 8 [(0, .ref b), (1, .ref M.o_Vt), (2, .ref M2.o), (3, .ref ou), (4, .int y_4)] → W p l e room_1 s m #[Value.ref b] below meth c H locs (cB + G.gc) (sB + G.gs) (lw_Z below #[Value.ref b] s) (F0 m 844 ls [.int z_0]) := by
    intro rec_33 hr_33 hm_33 y_4 z_0 Y G S T oo H locs ls h hP hD hS hl
    have mF := mo_law_844 hm_33 h
    rw [f_law_844] at h
    refine lv_istore (lv' := [(5, .int z_0), (0, .ref b), (1, .ref M.o_Vt), (2, .ref M2.o), (3, .ref ou), (4, .int y_4)]) hx hb d_La_law_844 hl (by decide) rfl (fun ls hl => ?_)
    refine lv_aload_n hx hb d_La_law_846 rfl (lv_at hl 3 rfl) ?_
    refine lv_aload_n hx hb d_La_law_847 rfl (lv_at hl 1 rfl) ?_
    refine lv_iload hx hb d_La_law_848 (lv_at hl 5 rfl) ?_
    refine lv_iconst (v := 1) hx hb d_La_law_850 (by decide) ?_
    refine lv_iadd hx hb d_La_law_851 ?_
    obtain ⟨g_216, h⟩ := lf_gE h
    refine va_sld hx hb hX hbl hbA hS g_216 d_La_law_852 ?_
    refine lv_if_eq (tgt := 860) hx hb d_La_law_853 (by decide) (fun c_217 => ?_) (fun c_217 => ?_)
    · have h := lf_t h c_217
      refine lv_iconst (v := 0) hx hb d_La_law_860 (by decide) ?_
      exact hB_861 _ hr_33 hm_33 y_4 z_0 0 Y G S T oo _ _ _ h hP hD hS (lv_sub hl [1, 2, 3, 4, 5, 0] rfl)
    · have h := lf_f h c_217
      refine lv_iconst (v := 1) hx hb d_La_law_856 (by decide) ?_
      refine lv_goto (tgt := 861) hx hb d_La_law_857 (by decide) ?_
      exact hB_861 _ hr_33 hm_33 y_4 z_0 1 Y G S T oo _ _ _ h hP hD hS (lv_sub hl [1, 2, 3, 4, 5, 0] rfl)
  have hB_840 : ∀ (rec_33 : Int32 → CG → CS → MS → (Nat → Int64) → Option (Int32 × CG × CS)) (hr_33 : ∀ (y_4 : Int32) (Y : CT) (G : CG) (S : CS) (T : MS) (oo : Nat → Int64) (H : Heap) (locs : List Loc) (ls : Array Slot), rec_33 y_4 G S T oo = some (1, G', S') → va_P (dC, dI) classes (wM M2 T ++ ((ou, .inl (kL, 1, .inr (.inl oo))) :: wV M Y G S)) H → va_D (fun q => s.heap.size ≤ q) (wM M2 T ++ ((ou, .inl (kL, 1, .inr (.inl oo))) :: wV M Y G S)) → va_S (fun q => s.heap.size ≤ q) s.heap H locs → lv_has ls 8 [(0, .ref b), (1, .ref M.o_Vt), (2, .ref M2.o), (3, .ref ou), (4, .int y_4)] → W p l e room_1 s m #[Value.ref b] below meth c H locs (cB + G.gc) (sB + G.gs) (lw_Z below #[Value.ref b] s) (F0 m 33 ls [])) (hm_33 : ∀ (y_4 : Int32) (G : CG) (S : CS) (T : MS) (oo : Nat → Int64) {x : Int32} {G1 : CG} {S1 : CS}, rec_33 y_4 G S T oo = some (x, G1, S1) → CG.le G G1), ∀ (y_4 : Int32) (z_1 : Int32) (Y : CT) (G : CG) (S : CS) (T : MS) (oo : Nat → Int64) (H : Heap) (locs : List Loc) (ls : Array Slot), f_law_840 K L xs rec_33 y_4 z_1 G S T oo = some (1, G', S') → va_P (dC, dI) classes (wM M2 T ++ ((ou, .inl (kL, 1, .inr (.inl oo))) :: wV M Y G S)) H → va_D (fun q => s.heap.size ≤ q) (wM M2 T ++ ((ou, .inl (kL, 1, .inr (.inl oo))) :: wV M Y G S)) → va_S (fun q => s.heap.size ≤ q) s.heap H locs → lv_has ls 8 [(0, .ref b), (1, .ref M.o_Vt), (2, .ref M2.o), (3, .ref ou), (4, .int y_4)] → W p l e room_1 s m #[Value.ref b] below meth c H locs (cB + G.gc) (sB + G.gs) (lw_Z below #[Value.ref b] s) (F0 m 840 ls [.int z_1, .ref M.o_Vt]) := by
    intro rec_33 hr_33 hm_33 y_4 z_1 Y G S T oo H locs ls h hP hD hS hl
    have mF := mo_law_840 hm_33 h
    rw [f_law_840] at h
    refine lv_aload_n hx hb d_La_law_840 rfl (lv_at hl 3 rfl) ?_
    rcases lf_hE h with ⟨r_167, G_167, S_167, hc_167, h⟩ | ⟨k_167, G_167, S_167, hc_167, h⟩
    · obtain ⟨oo_167, eo_167, h⟩ := lf_lX h
      have ml_167 := mo_Vt_make hc_167
      have mc := mo_Vt_make hc_167
      have mF1 := mo_law_844 hm_33 h
      have hPa := hP
      have hDa := hD
      have hPc := lw_PR hPa
      have hDc := lw_DR hDa
      have hFc := lx_free hDc hS hA
      refine va_calli (x_runSW (handlers := [(0, 9, 12, 19), (0, 9, 15, 13), (0, 9, 18, 46)]) (bytes := b_La_make) (maxL := 4) (ret := (some .int)) (n := 3) (index := 138) (As := [.ref M.o_Vt, .int z_1, .ref ou]) (rest := []) ⟨hx, hb, hml, hown, hts⟩ (la_make_ok l hfl dC dI X _ ou kL oo hc_167) rfl rfl (Nat.le_of_ble_eq_true rfl) (Nat.le_of_ble_eq_true rfl) (pay_in hts (fun w h => good_Lq w (wcs (u_Lq_La _ k_La_49) (fun _ h => h) w h))) List.mem_cons_self (hts _ (u_Lq_La _ k_La_0)) ⟨(by decide), (by decide)⟩ (hlen_of (by decide +kernel)) (hts _ (u_Lq_La _ k_La_47)) (hts _ (u_Lq_La _ k_La_48)) (ps_ofE (X.same _) (fun U z1 z2 => X.mono _ _ U hFc (hEw _ _ hS U z1 z2)) hPc hKH hDc) rfl rfl hl.1 rfl (lv_room (Nat.le_of_ble_eq_true rfl)) d_La_law_841 ⟨lw_c1 mc.1 mF1.1 hGc, lw_c1 mc.2 mF1.2 hGs⟩) hS (fun q _ h => hFc q h) hFc (fun r_ Y_167 t H locs ht hvm hw hB hz1 hk1 hS => ?_)
      rw [hw]
      obtain ⟨hP1, -, hD1⟩ := hB
      rw [ht] at hP1
      rw [← eo_167] at hP1 hD1
      obtain ⟨hP, hD⟩ := lw_jR hPa hDa hk1 hFc hP1 hD1
      refine W.widen (k := cB + G_167.gc) (n := sB + G_167.gs) (lw_c2 mc.1) (lw_c2 mc.2) ?_
      exact hB_844 _ hr_33 hm_33 y_4 0 Y_167 G_167 S_167 T oo_167 _ _ _ h hP hD hS (lv_sub hl [0, 1, 2, 3, 4] rfl)
    · by_cases c_167_0 : k_167 = 0
      · have h := lf_t h c_167_0
        rw [c_167_0] at hc_167
        have ml_167 := mo_Vt_make hc_167
        have mc := mo_Vt_make hc_167
        have mF1 := mo_law_844 hm_33 h
        have hPa := hP
        have hDa := hD
        have hPc := lw_PR hPa
        have hDc := lw_DR hDa
        have hFc := lx_free hDc hS hA
        refine va_calli (x_runSW (handlers := [(0, 9, 12, 19), (0, 9, 15, 13), (0, 9, 18, 46)]) (bytes := b_La_make) (maxL := 4) (ret := (some .int)) (n := 3) (index := 138) (As := [.ref M.o_Vt, .int z_1, .ref ou]) (rest := []) ⟨hx, hb, hml, hown, hts⟩ (la_make_0 l hfl dC dI X Xm _ ou kL oo hc_167) rfl rfl (Nat.le_of_ble_eq_true rfl) (Nat.le_of_ble_eq_true rfl) (pay_in hts (fun w h => good_Lq w (wcs (u_Lq_La _ k_La_49) (fun _ h => h) w h))) List.mem_cons_self (hts _ (u_Lq_La _ k_La_0)) ⟨(by decide), (by decide)⟩ (hlen_of (by decide +kernel)) (hts _ (u_Lq_La _ k_La_47)) (hts _ (u_Lq_La _ k_La_48)) (ps_ofE (X.same _) (fun U z1 z2 => X.mono _ _ U hFc (hEw _ _ hS U z1 z2)) hPc hKH hDc) rfl rfl hl.1 rfl (lv_room (Nat.le_of_ble_eq_true rfl)) d_La_law_841 ⟨lw_c1 mc.1 mF1.1 hGc, lw_c1 mc.2 mF1.2 hGs⟩) hS (fun q _ h => hFc q h) hFc (fun r_ Y_167 t H locs ht hvm hw hB hz1 hk1 hS => ?_)
        rw [hw]
        obtain ⟨hP1, -, hD1⟩ := hB
        rw [ht] at hP1
        obtain ⟨hP, hD⟩ := lw_jR hPa hDa hk1 hFc hP1 hD1
        refine W.widen (k := cB + G_167.gc) (n := sB + G_167.gs) (lw_c2 mc.1) (lw_c2 mc.2) ?_
        exact hB_844 _ hr_33 hm_33 y_4 2 Y_167 G_167 S_167 T oo _ _ _ h hP hD hS (lv_sub hl [0, 1, 2, 3, 4] rfl)
      · have h := lf_f h c_167_0
        by_cases c_167_1 : k_167 = 1
        · have h := lf_t h c_167_1
          rw [c_167_1] at hc_167
          have ml_167 := mo_Vt_make hc_167
          have mc := mo_Vt_make hc_167
          have mF1 := mo_law_844 hm_33 h
          have hPa := hP
          have hDa := hD
          have hPc := lw_PR hPa
          have hDc := lw_DR hDa
          have hFc := lx_free hDc hS hA
          refine va_calli (x_runSW (handlers := [(0, 9, 12, 19), (0, 9, 15, 13), (0, 9, 18, 46)]) (bytes := b_La_make) (maxL := 4) (ret := (some .int)) (n := 3) (index := 138) (As := [.ref M.o_Vt, .int z_1, .ref ou]) (rest := []) ⟨hx, hb, hml, hown, hts⟩ (la_make_1 l hfl dC dI X _ ou kL oo hc_167) rfl rfl (Nat.le_of_ble_eq_true rfl) (Nat.le_of_ble_eq_true rfl) (pay_in hts (fun w h => good_Lq w (wcs (u_Lq_La _ k_La_49) (fun _ h => h) w h))) List.mem_cons_self (hts _ (u_Lq_La _ k_La_0)) ⟨(by decide), (by decide)⟩ (hlen_of (by decide +kernel)) (hts _ (u_Lq_La _ k_La_47)) (hts _ (u_Lq_La _ k_La_48)) (ps_ofE (X.same _) (fun U z1 z2 => X.mono _ _ U hFc (hEw _ _ hS U z1 z2)) hPc hKH hDc) rfl rfl hl.1 rfl (lv_room (Nat.le_of_ble_eq_true rfl)) d_La_law_841 ⟨lw_c1 mc.1 mF1.1 hGc, lw_c1 mc.2 mF1.2 hGs⟩) hS (fun q _ h => hFc q h) hFc (fun r_ Y_167 t H locs ht hvm hw hB hz1 hk1 hS => ?_)
          rw [hw]
          obtain ⟨hP1, -, hD1⟩ := hB
          rw [ht] at hP1
          obtain ⟨hP, hD⟩ := lw_jR hPa hDa hk1 hFc hP1 hD1
          refine W.widen (k := cB + G_167.gc) (n := sB + G_167.gs) (lw_c2 mc.1) (lw_c2 mc.2) ?_
          exact hB_844 _ hr_33 hm_33 y_4 1 Y_167 G_167 S_167 T oo _ _ _ h hP hD hS (lv_sub hl [0, 1, 2, 3, 4] rfl)
        · have h := lf_f h c_167_1
          by_cases c_167_3 : k_167 = 3
          · have h := lf_t h c_167_3
            rw [c_167_3] at hc_167
            have ml_167 := mo_Vt_make hc_167
            have mc := mo_Vt_make hc_167
            have mF1 := mo_law_844 hm_33 h
            have hPa := hP
            have hDa := hD
            have hPc := lw_PR hPa
            have hDc := lw_DR hDa
            have hFc := lx_free hDc hS hA
            refine va_calli (x_runSW (handlers := [(0, 9, 12, 19), (0, 9, 15, 13), (0, 9, 18, 46)]) (bytes := b_La_make) (maxL := 4) (ret := (some .int)) (n := 3) (index := 138) (As := [.ref M.o_Vt, .int z_1, .ref ou]) (rest := []) ⟨hx, hb, hml, hown, hts⟩ (la_make_3 l hfl dC dI X Xm _ ou kL oo hc_167) rfl rfl (Nat.le_of_ble_eq_true rfl) (Nat.le_of_ble_eq_true rfl) (pay_in hts (fun w h => good_Lq w (wcs (u_Lq_La _ k_La_49) (fun _ h => h) w h))) List.mem_cons_self (hts _ (u_Lq_La _ k_La_0)) ⟨(by decide), (by decide)⟩ (hlen_of (by decide +kernel)) (hts _ (u_Lq_La _ k_La_47)) (hts _ (u_Lq_La _ k_La_48)) (ps_ofE (X.same _) (fun U z1 z2 => X.mono _ _ U hFc (hEw _ _ hS U z1 z2)) hPc hKH hDc) rfl rfl hl.1 rfl (lv_room (Nat.le_of_ble_eq_true rfl)) d_La_law_841 ⟨lw_c1 mc.1 mF1.1 hGc, lw_c1 mc.2 mF1.2 hGs⟩) hS (fun q _ h => hFc q h) hFc (fun r_ Y_167 t H locs ht hvm hw hB hz1 hk1 hS => ?_)
            rw [hw]
            obtain ⟨hP1, -, hD1⟩ := hB
            rw [ht] at hP1
            obtain ⟨hP, hD⟩ := lw_jR hPa hDa hk1 hFc hP1 hD1
            refine W.widen (k := cB + G_167.gc) (n := sB + G_167.gs) (lw_c2 mc.1) (lw_c2 mc.2) ?_
            exact hB_844 _ hr_33 hm_33 y_4 3 Y_167 G_167 S_167 T oo _ _ _ h hP hD hS (lv_sub hl [0, 1, 2, 3, 4] rfl)
          · have h := lf_f h c_167_3
            exact lf_no h
  have hB_825 : ∀ (rec_33 : Int32 → CG → CS → MS → (Nat → Int64) → Option (Int32 × CG × CS)) (hr_33 : ∀ (y_4 : Int32) (Y : CT) (G : CG) (S : CS) (T : MS) (oo : Nat → Int64) (H : Heap) (locs : List Loc) (ls : Array Slot), rec_33 y_4 G S T oo = some (1, G', S') → va_P (dC, dI) classes (wM M2 T ++ ((ou, .inl (kL, 1, .inr (.inl oo))) :: wV M Y G S)) H → va_D (fun q => s.heap.size ≤ q) (wM M2 T ++ ((ou, .inl (kL, 1, .inr (.inl oo))) :: wV M Y G S)) → va_S (fun q => s.heap.size ≤ q) s.heap H locs → lv_has ls 8 [(0, .ref b), (1, .ref M.o_Vt), (2, .ref M2.o), (3, .ref ou), (4, .int y_4)] → W p l e room_1 s m #[Value.ref b] below meth c H locs (cB + G.gc) (sB + G.gs) (lw_Z below #[Value.ref b] s) (F0 m 33 ls [])) (hm_33 : ∀ (y_4 : Int32) (G : CG) (S : CS) (T : MS) (oo : Nat → Int64) {x : Int32} {G1 : CG} {S1 : CS}, rec_33 y_4 G S T oo = some (x, G1, S1) → CG.le G G1), ∀ (y_4 : Int32) (Y : CT) (G : CG) (S : CS) (T : MS) (oo : Nat → Int64) (H : Heap) (locs : List Loc) (ls : Array Slot), f_law_825 K L xs rec_33 y_4 G S T oo = some (1, G', S') → va_P (dC, dI) classes (wM M2 T ++ ((ou, .inl (kL, 1, .inr (.inl oo))) :: wV M Y G S)) H → va_D (fun q => s.heap.size ≤ q) (wM M2 T ++ ((ou, .inl (kL, 1, .inr (.inl oo))) :: wV M Y G S)) → va_S (fun q => s.heap.size ≤ q) s.heap H locs → lv_has ls 8 [(0, .ref b), (1, .ref M.o_Vt), (2, .ref M2.o), (3, .ref ou), (4, .int y_4)] → W p l e room_1 s m #[Value.ref b] below meth c H locs (cB + G.gc) (sB + G.gs) (lw_Z below #[Value.ref b] s) (F0 m 825 ls []) := by
    intro rec_33 hr_33 hm_33 y_4 Y G S T oo H locs ls h hP hD hS hl
    have mF := mo_law_825 hm_33 h
    rw [f_law_825] at h
    refine lv_aload_n hx hb d_La_law_825 rfl (lv_at hl 1 rfl) ?_
    refine lv_aload_n hx hb d_La_law_826 rfl (lv_at hl 0 rfl) ?_
    refine lv_iload hx hb d_La_law_827 (lv_at hl 4 rfl) ?_
    refine lv_iconst (v := 1) hx hb d_La_law_829 (by decide) ?_
    refine lv_iadd hx hb d_La_law_830 ?_
    obtain ⟨g_78, h⟩ := lf_gE h
    refine va_sld hx hb hX hbl hbA hS g_78 d_La_law_831 ?_
    refine lv_if_eq (tgt := 839) hx hb d_La_law_832 (by decide) (fun c_79 => ?_) (fun c_79 => ?_)
    · have h := lf_t h c_79
      refine lv_iconst (v := 0) hx hb d_La_law_839 (by decide) ?_
      exact hB_840 _ hr_33 hm_33 y_4 0 Y G S T oo _ _ _ h hP hD hS (lv_sub hl [0, 1, 2, 3, 4] rfl)
    · have h := lf_f h c_79
      refine lv_iconst (v := 1) hx hb d_La_law_835 (by decide) ?_
      refine lv_goto (tgt := 840) hx hb d_La_law_836 (by decide) ?_
      exact hB_840 _ hr_33 hm_33 y_4 1 Y G S T oo _ _ _ h hP hD hS (lv_sub hl [0, 1, 2, 3, 4] rfl)
  have hB_950 : ∀ (rec_33 : Int32 → CG → CS → MS → (Nat → Int64) → Option (Int32 × CG × CS)) (hr_33 : ∀ (y_4 : Int32) (Y : CT) (G : CG) (S : CS) (T : MS) (oo : Nat → Int64) (H : Heap) (locs : List Loc) (ls : Array Slot), rec_33 y_4 G S T oo = some (1, G', S') → va_P (dC, dI) classes (wM M2 T ++ ((ou, .inl (kL, 1, .inr (.inl oo))) :: wV M Y G S)) H → va_D (fun q => s.heap.size ≤ q) (wM M2 T ++ ((ou, .inl (kL, 1, .inr (.inl oo))) :: wV M Y G S)) → va_S (fun q => s.heap.size ≤ q) s.heap H locs → lv_has ls 8 [(0, .ref b), (1, .ref M.o_Vt), (2, .ref M2.o), (3, .ref ou), (4, .int y_4)] → W p l e room_1 s m #[Value.ref b] below meth c H locs (cB + G.gc) (sB + G.gs) (lw_Z below #[Value.ref b] s) (F0 m 33 ls [])) (hm_33 : ∀ (y_4 : Int32) (G : CG) (S : CS) (T : MS) (oo : Nat → Int64) {x : Int32} {G1 : CG} {S1 : CS}, rec_33 y_4 G S T oo = some (x, G1, S1) → CG.le G G1), ∀ (y_4 : Int32) (Y : CT) (G : CG) (S : CS) (T : MS) (oo : Nat → Int64) (H : Heap) (locs : List Loc) (ls : Array Slot), f_law_950 K L xs rec_33 y_4 G S T oo = some (1, G', S') → va_P (dC, dI) classes (wM M2 T ++ ((ou, .inl (kL, 1, .inr (.inl oo))) :: wV M Y G S)) H → va_D (fun q => s.heap.size ≤ q) (wM M2 T ++ ((ou, .inl (kL, 1, .inr (.inl oo))) :: wV M Y G S)) → va_S (fun q => s.heap.size ≤ q) s.heap H locs → lv_has ls 8 [(0, .ref b), (1, .ref M.o_Vt), (2, .ref M2.o), (3, .ref ou), (4, .int y_4)] → W p l e room_1 s m #[Value.ref b] below meth c H locs (cB + G.gc) (sB + G.gs) (lw_Z below #[Value.ref b] s) (F0 m 950 ls []) := by
    intro rec_33 hr_33 hm_33 y_4 Y G S T oo H locs ls h hP hD hS hl
    have mF := mo_law_950 hm_33 h
    rw [f_law_950] at h
    refine lv_goto (tgt := 1388) hx hb d_La_law_950 (by decide) ?_
    exact hB_1388 _ hr_33 hm_33 y_4 Y G S T oo _ _ _ h hP hD hS (lv_sub hl [0, 1, 2, 3, 4] rfl)
  have hB_908 : ∀ (rec_33 : Int32 → CG → CS → MS → (Nat → Int64) → Option (Int32 × CG × CS)) (hr_33 : ∀ (y_4 : Int32) (Y : CT) (G : CG) (S : CS) (T : MS) (oo : Nat → Int64) (H : Heap) (locs : List Loc) (ls : Array Slot), rec_33 y_4 G S T oo = some (1, G', S') → va_P (dC, dI) classes (wM M2 T ++ ((ou, .inl (kL, 1, .inr (.inl oo))) :: wV M Y G S)) H → va_D (fun q => s.heap.size ≤ q) (wM M2 T ++ ((ou, .inl (kL, 1, .inr (.inl oo))) :: wV M Y G S)) → va_S (fun q => s.heap.size ≤ q) s.heap H locs → lv_has ls 8 [(0, .ref b), (1, .ref M.o_Vt), (2, .ref M2.o), (3, .ref ou), (4, .int y_4)] → W p l e room_1 s m #[Value.ref b] below meth c H locs (cB + G.gc) (sB + G.gs) (lw_Z below #[Value.ref b] s) (F0 m 33 ls [])) (hm_33 : ∀ (y_4 : Int32) (G : CG) (S : CS) (T : MS) (oo : Nat → Int64) {x : Int32} {G1 : CG} {S1 : CS}, rec_33 y_4 G S T oo = some (x, G1, S1) → CG.le G G1), ∀ (y_4 : Int32) (z_0 : Int32) (Y : CT) (G : CG) (S : CS) (T : MS) (oo : Nat → Int64) (H : Heap) (locs : List Loc) (ls : Array Slot), f_law_908 K L xs rec_33 y_4 z_0 G S T oo = some (1, G', S') → va_P (dC, dI) classes (wM M2 T ++ ((ou, .inl (kL, 1, .inr (.inl oo))) :: wV M Y G S)) H → va_D (fun q => s.heap.size ≤ q) (wM M2 T ++ ((ou, .inl (kL, 1, .inr (.inl oo))) :: wV M Y G S)) → va_S (fun q => s.heap.size ≤ q) s.heap H locs → lv_has ls 8 [(0, .ref b), (1, .ref M.o_Vt), (2, .ref M2.o), (3, .ref ou), (4, .int y_4)] → W p l e room_1 s m #[Value.ref b] below meth c H locs (cB + G.gc) (sB + G.gs) (lw_Z below #[Value.ref b] s) (F0 m 908 ls [.int z_0]) := by
    intro rec_33 hr_33 hm_33 y_4 z_0 Y G S T oo H locs ls h hP hD hS hl
    have mF := mo_law_908 hm_33 h
    rw [f_law_908] at h
    refine lv_istore (lv' := [(5, .int z_0), (0, .ref b), (1, .ref M.o_Vt), (2, .ref M2.o), (3, .ref ou), (4, .int y_4)]) hx hb d_La_law_908 hl (by decide) rfl (fun ls hl => ?_)
    refine lv_aload_n hx hb d_La_law_910 rfl (lv_at hl 3 rfl) ?_
    refine lv_aload_n hx hb d_La_law_911 rfl (lv_at hl 1 rfl) ?_
    refine lv_iload hx hb d_La_law_912 (lv_at hl 5 rfl) ?_
    refine lv_iconst (v := 1) hx hb d_La_law_914 (by decide) ?_
    refine lv_iadd hx hb d_La_law_915 ?_
    obtain ⟨g_168, h⟩ := lf_gE h
    refine va_sld hx hb hX hbl hbA hS g_168 d_La_law_916 ?_
    obtain ⟨r_169, T_169, hc_169, h⟩ := lf_cE h
    have hPc := lw_PL hP
    have hDc := lw_DL hD
    have hFc := lx_free hDc hS hA
    refine va_calli (va_runV (As := [.int (xs (y_4 + 1).toNatClampNeg)]) (rest := []) ⟨hx, hb, hml, hown, hts⟩ (l_Mo_write l dC dI X2 _ hc_169) (cwV 1 hts (gwV good_Lq (u_Lq_La _ k_La_94) (u_Lq_Mo _ k_Mo_342) (u_Lq_Mo _ k_Mo_343) (u_Lq_Mo _ k_Mo_0) (wcs (u_Lq_Mo _ k_Mo_344) u_Lq_Mq)) rfl rfl rfl (by decide +kernel) ⟨Nat.le_of_ble_eq_true rfl, Nat.le_of_ble_eq_true rfl⟩) (pv_ofE (X2.same _) (fun U z1 z2 => X2.mono _ _ U hFc (hEw _ _ hS U z1 z2)) hPc hKM hDc (va_recv hKM hPc (ci := 12) (q0 := 0) rfl rfl)) rfl rfl hl.1 rfl (lv_room (Nat.le_of_ble_eq_true rfl)) d_La_law_917 ⟨lw_c0 mF.1 hGc, lw_c0 mF.2 hGs⟩) hS (fun q _ h => hFc q h) hFc (fun r_ u t H locs ht hvm hw hB hz1 hk1 hS => ?_)
    rw [hw]
    obtain ⟨hP1, -, hD1⟩ := hB
    rw [ht] at hP1
    obtain ⟨hP, hD⟩ := lw_jL hP hD hk1 hFc hP1 hD1
    refine lv_istore (lv' := [(6, .int r_169), (5, .int z_0), (0, .ref b), (1, .ref M.o_Vt), (2, .ref M2.o), (3, .ref ou), (4, .int y_4)]) hx hb d_La_law_920 hl (by decide) rfl (fun ls hl => ?_)
    refine lv_aload_n hx hb d_La_law_922 rfl (lv_at hl 4 rfl) ?_
    obtain ⟨r_170, T_170, hc_170, h⟩ := lf_cE h
    have hPc := lw_PL hP
    have hDc := lw_DL hD
    have hFc := lx_free hDc hS hA
    refine va_calli (va_runV (As := []) (rest := []) ⟨hx, hb, hml, hown, hts⟩ (l_Mo_thrown l dC dI X2 _ hc_170) (cwV 0 hts (gwV good_Lq (u_Lq_La _ k_La_78) (u_Lq_Mo _ k_Mo_73) (u_Lq_Mo _ k_Mo_74) (u_Lq_Mo _ k_Mo_0) (wcs (u_Lq_Mo _ k_Mo_75) u_Lq_Mq)) rfl rfl rfl (by decide +kernel) ⟨Nat.le_of_ble_eq_true rfl, Nat.le_of_ble_eq_true rfl⟩) (pv_ofE (X2.same _) (fun U z1 z2 => X2.mono _ _ U hFc (hEw _ _ hS U z1 z2)) hPc hKM hDc (va_recv hKM hPc (ci := 12) (q0 := 0) rfl rfl)) rfl rfl hl.1 rfl (lv_room (Nat.le_of_ble_eq_true rfl)) d_La_law_923 ⟨lw_c0 mF.1 hGc, lw_c0 mF.2 hGs⟩) hS (fun q _ h => hFc q h) hFc (fun r_ u t H locs ht hvm hw hB hz1 hk1 hS => ?_)
    rw [hw]
    obtain ⟨hP1, -, hD1⟩ := hB
    rw [ht] at hP1
    obtain ⟨hP, hD⟩ := lw_jL hP hD hk1 hFc hP1 hD1
    refine lv_iload hx hb d_La_law_926 (lv_at hl 1 rfl) ?_
    refine lv_icmp_eq (tgt := 933) hx hb d_La_law_928 (by decide) (fun c_171 => ?_) (fun c_171 => ?_)
    · have h := lf_t h c_171
      refine lv_iload hx hb d_La_law_933 (lv_at hl 1 rfl) ?_
      refine lv_if_ne (tgt := 950) hx hb d_La_law_935 (by decide) (fun c_172 => ?_) (fun c_172 => ?_)
      · have h := lf_f h c_172
        exact hB_950 _ hr_33 hm_33 y_4 Y G S T_170 oo _ _ _ h hP hD hS (lv_sub hl [2, 3, 4, 5, 6] rfl)
      · have h := lf_t h c_172
        refine lv_aload_n hx hb d_La_law_938 rfl (lv_at hl 5 rfl) ?_
        refine lv_iconst (v := 0) hx hb d_La_law_939 (by decide) ?_
        refine va_lald hx hb hK hP 28 27 rfl rfl (by unfold vp_in; decide) d_La_law_940 ?_
        refine lv_iload hx hb d_La_law_941 (lv_at hl 0 rfl) ?_
        refine lv_i2l hx hb d_La_law_943 rfl ?_
        refine W.lcmp hx hb d_La_law_944 ?_
        refine lv_if_eq (tgt := 950) hx hb d_La_law_945 (by decide) (fun c_173 => ?_) (fun c_173 => ?_)
        · have h := lf_t h c_173
          exact hB_950 _ hr_33 hm_33 y_4 Y G S T_170 oo _ _ _ h hP hD hS (lv_sub hl [2, 3, 4, 5, 6] rfl)
        · have h := lf_f h c_173
          refine lv_iconst (v := 0) hx hb d_La_law_948 (by decide) ?_
          exact lf_01 h
    · have h := lf_f h c_171
      refine lv_iconst (v := 0) hx hb d_La_law_931 (by decide) ?_
      exact lf_01 h
  have hB_897 : ∀ (rec_33 : Int32 → CG → CS → MS → (Nat → Int64) → Option (Int32 × CG × CS)) (hr_33 : ∀ (y_4 : Int32) (Y : CT) (G : CG) (S : CS) (T : MS) (oo : Nat → Int64) (H : Heap) (locs : List Loc) (ls : Array Slot), rec_33 y_4 G S T oo = some (1, G', S') → va_P (dC, dI) classes (wM M2 T ++ ((ou, .inl (kL, 1, .inr (.inl oo))) :: wV M Y G S)) H → va_D (fun q => s.heap.size ≤ q) (wM M2 T ++ ((ou, .inl (kL, 1, .inr (.inl oo))) :: wV M Y G S)) → va_S (fun q => s.heap.size ≤ q) s.heap H locs → lv_has ls 8 [(0, .ref b), (1, .ref M.o_Vt), (2, .ref M2.o), (3, .ref ou), (4, .int y_4)] → W p l e room_1 s m #[Value.ref b] below meth c H locs (cB + G.gc) (sB + G.gs) (lw_Z below #[Value.ref b] s) (F0 m 33 ls [])) (hm_33 : ∀ (y_4 : Int32) (G : CG) (S : CS) (T : MS) (oo : Nat → Int64) {x : Int32} {G1 : CG} {S1 : CS}, rec_33 y_4 G S T oo = some (x, G1, S1) → CG.le G G1), ∀ (y_4 : Int32) (Y : CT) (G : CG) (S : CS) (T : MS) (oo : Nat → Int64) (H : Heap) (locs : List Loc) (ls : Array Slot), f_law_897 K L xs rec_33 y_4 G S T oo = some (1, G', S') → va_P (dC, dI) classes (wM M2 T ++ ((ou, .inl (kL, 1, .inr (.inl oo))) :: wV M Y G S)) H → va_D (fun q => s.heap.size ≤ q) (wM M2 T ++ ((ou, .inl (kL, 1, .inr (.inl oo))) :: wV M Y G S)) → va_S (fun q => s.heap.size ≤ q) s.heap H locs → lv_has ls 8 [(0, .ref b), (1, .ref M.o_Vt), (2, .ref M2.o), (3, .ref ou), (4, .int y_4)] → W p l e room_1 s m #[Value.ref b] below meth c H locs (cB + G.gc) (sB + G.gs) (lw_Z below #[Value.ref b] s) (F0 m 897 ls []) := by
    intro rec_33 hr_33 hm_33 y_4 Y G S T oo H locs ls h hP hD hS hl
    have mF := mo_law_897 hm_33 h
    rw [f_law_897] at h
    refine lv_aload_n hx hb d_La_law_897 rfl (lv_at hl 1 rfl) ?_
    refine lv_aload_n hx hb d_La_law_898 rfl (lv_at hl 0 rfl) ?_
    refine lv_iload hx hb d_La_law_899 (lv_at hl 4 rfl) ?_
    refine lv_iconst (v := 1) hx hb d_La_law_901 (by decide) ?_
    refine lv_iadd hx hb d_La_law_902 ?_
    obtain ⟨g_80, h⟩ := lf_gE h
    refine va_sld hx hb hX hbl hbA hS g_80 d_La_law_903 ?_
    refine lv_aload_n hx hb d_La_law_904 rfl (lv_at hl 3 rfl) ?_
    rcases lf_hE h with ⟨r_81, G_81, S_81, hc_81, h⟩ | ⟨k_81, G_81, S_81, hc_81, h⟩
    · obtain ⟨oo_81, eo_81, h⟩ := lf_lX h
      have ml_81 := mo_Vt_write hc_81
      have mc := mo_Vt_write hc_81
      have mF1 := mo_law_908 hm_33 h
      have hPa := hP
      have hDa := hD
      have hPc := lw_PR hPa
      have hDc := lw_DR hDa
      have hFc := lx_free hDc hS hA
      refine va_calli (x_runSW (handlers := [(0, 9, 12, 19), (0, 9, 15, 25), (0, 9, 18, 13), (0, 9, 21, 46)]) (bytes := b_La_write) (maxL := 4) (ret := (some .int)) (n := 3) (index := 142) (As := [.ref M.o_Vt, .int (xs (y_4 + 1).toNatClampNeg), .ref ou]) (rest := []) ⟨hx, hb, hml, hown, hts⟩ (la_write_ok l hfl dC dI X _ ou kL oo hc_81) rfl rfl (Nat.le_of_ble_eq_true rfl) (Nat.le_of_ble_eq_true rfl) (pay_in hts (fun w h => good_Lq w (wcs (u_Lq_La _ k_La_54) (fun _ h => h) w h))) List.mem_cons_self (hts _ (u_Lq_La _ k_La_0)) ⟨(by decide), (by decide)⟩ (hlen_of (by decide +kernel)) (hts _ (u_Lq_La _ k_La_52)) (hts _ (u_Lq_La _ k_La_53)) (ps_ofE (X.same _) (fun U z1 z2 => X.mono _ _ U hFc (hEw _ _ hS U z1 z2)) hPc hKH hDc) rfl rfl hl.1 rfl (lv_room (Nat.le_of_ble_eq_true rfl)) d_La_law_905 ⟨lw_c1 mc.1 mF1.1 hGc, lw_c1 mc.2 mF1.2 hGs⟩) hS (fun q _ h => hFc q h) hFc (fun r_ Y_81 t H locs ht hvm hw hB hz1 hk1 hS => ?_)
      rw [hw]
      obtain ⟨hP1, -, hD1⟩ := hB
      rw [ht] at hP1
      rw [← eo_81] at hP1 hD1
      obtain ⟨hP, hD⟩ := lw_jR hPa hDa hk1 hFc hP1 hD1
      refine W.widen (k := cB + G_81.gc) (n := sB + G_81.gs) (lw_c2 mc.1) (lw_c2 mc.2) ?_
      exact hB_908 _ hr_33 hm_33 y_4 0 Y_81 G_81 S_81 T oo_81 _ _ _ h hP hD hS (lv_sub hl [0, 1, 2, 3, 4] rfl)
    · by_cases c_81_0 : k_81 = 0
      · have h := lf_t h c_81_0
        rw [c_81_0] at hc_81
        have ml_81 := mo_Vt_write hc_81
        have mc := mo_Vt_write hc_81
        have mF1 := mo_law_908 hm_33 h
        have hPa := hP
        have hDa := hD
        have hPc := lw_PR hPa
        have hDc := lw_DR hDa
        have hFc := lx_free hDc hS hA
        refine va_calli (x_runSW (handlers := [(0, 9, 12, 19), (0, 9, 15, 25), (0, 9, 18, 13), (0, 9, 21, 46)]) (bytes := b_La_write) (maxL := 4) (ret := (some .int)) (n := 3) (index := 142) (As := [.ref M.o_Vt, .int (xs (y_4 + 1).toNatClampNeg), .ref ou]) (rest := []) ⟨hx, hb, hml, hown, hts⟩ (la_write_0 l hfl dC dI X Xm _ ou kL oo hc_81) rfl rfl (Nat.le_of_ble_eq_true rfl) (Nat.le_of_ble_eq_true rfl) (pay_in hts (fun w h => good_Lq w (wcs (u_Lq_La _ k_La_54) (fun _ h => h) w h))) List.mem_cons_self (hts _ (u_Lq_La _ k_La_0)) ⟨(by decide), (by decide)⟩ (hlen_of (by decide +kernel)) (hts _ (u_Lq_La _ k_La_52)) (hts _ (u_Lq_La _ k_La_53)) (ps_ofE (X.same _) (fun U z1 z2 => X.mono _ _ U hFc (hEw _ _ hS U z1 z2)) hPc hKH hDc) rfl rfl hl.1 rfl (lv_room (Nat.le_of_ble_eq_true rfl)) d_La_law_905 ⟨lw_c1 mc.1 mF1.1 hGc, lw_c1 mc.2 mF1.2 hGs⟩) hS (fun q _ h => hFc q h) hFc (fun r_ Y_81 t H locs ht hvm hw hB hz1 hk1 hS => ?_)
        rw [hw]
        obtain ⟨hP1, -, hD1⟩ := hB
        rw [ht] at hP1
        obtain ⟨hP, hD⟩ := lw_jR hPa hDa hk1 hFc hP1 hD1
        refine W.widen (k := cB + G_81.gc) (n := sB + G_81.gs) (lw_c2 mc.1) (lw_c2 mc.2) ?_
        exact hB_908 _ hr_33 hm_33 y_4 3 Y_81 G_81 S_81 T oo _ _ _ h hP hD hS (lv_sub hl [0, 1, 2, 3, 4] rfl)
      · have h := lf_f h c_81_0
        by_cases c_81_1 : k_81 = 1
        · have h := lf_t h c_81_1
          rw [c_81_1] at hc_81
          have ml_81 := mo_Vt_write hc_81
          have mc := mo_Vt_write hc_81
          have mF1 := mo_law_908 hm_33 h
          have hPa := hP
          have hDa := hD
          have hPc := lw_PR hPa
          have hDc := lw_DR hDa
          have hFc := lx_free hDc hS hA
          refine va_calli (x_runSW (handlers := [(0, 9, 12, 19), (0, 9, 15, 25), (0, 9, 18, 13), (0, 9, 21, 46)]) (bytes := b_La_write) (maxL := 4) (ret := (some .int)) (n := 3) (index := 142) (As := [.ref M.o_Vt, .int (xs (y_4 + 1).toNatClampNeg), .ref ou]) (rest := []) ⟨hx, hb, hml, hown, hts⟩ (la_write_1 l hfl dC dI X _ ou kL oo hc_81) rfl rfl (Nat.le_of_ble_eq_true rfl) (Nat.le_of_ble_eq_true rfl) (pay_in hts (fun w h => good_Lq w (wcs (u_Lq_La _ k_La_54) (fun _ h => h) w h))) List.mem_cons_self (hts _ (u_Lq_La _ k_La_0)) ⟨(by decide), (by decide)⟩ (hlen_of (by decide +kernel)) (hts _ (u_Lq_La _ k_La_52)) (hts _ (u_Lq_La _ k_La_53)) (ps_ofE (X.same _) (fun U z1 z2 => X.mono _ _ U hFc (hEw _ _ hS U z1 z2)) hPc hKH hDc) rfl rfl hl.1 rfl (lv_room (Nat.le_of_ble_eq_true rfl)) d_La_law_905 ⟨lw_c1 mc.1 mF1.1 hGc, lw_c1 mc.2 mF1.2 hGs⟩) hS (fun q _ h => hFc q h) hFc (fun r_ Y_81 t H locs ht hvm hw hB hz1 hk1 hS => ?_)
          rw [hw]
          obtain ⟨hP1, -, hD1⟩ := hB
          rw [ht] at hP1
          obtain ⟨hP, hD⟩ := lw_jR hPa hDa hk1 hFc hP1 hD1
          refine W.widen (k := cB + G_81.gc) (n := sB + G_81.gs) (lw_c2 mc.1) (lw_c2 mc.2) ?_
          exact hB_908 _ hr_33 hm_33 y_4 1 Y_81 G_81 S_81 T oo _ _ _ h hP hD hS (lv_sub hl [0, 1, 2, 3, 4] rfl)
        · have h := lf_f h c_81_1
          by_cases c_81_2 : k_81 = 2
          · have h := lf_t h c_81_2
            rw [c_81_2] at hc_81
            have ml_81 := mo_Vt_write hc_81
            have mc := mo_Vt_write hc_81
            have mF1 := mo_law_908 hm_33 h
            have hPa := hP
            have hDa := hD
            have hPc := lw_PR hPa
            have hDc := lw_DR hDa
            have hFc := lx_free hDc hS hA
            refine va_calli (x_runSW (handlers := [(0, 9, 12, 19), (0, 9, 15, 25), (0, 9, 18, 13), (0, 9, 21, 46)]) (bytes := b_La_write) (maxL := 4) (ret := (some .int)) (n := 3) (index := 142) (As := [.ref M.o_Vt, .int (xs (y_4 + 1).toNatClampNeg), .ref ou]) (rest := []) ⟨hx, hb, hml, hown, hts⟩ (la_write_2 l hfl dC dI X Xm _ ou kL oo hc_81) rfl rfl (Nat.le_of_ble_eq_true rfl) (Nat.le_of_ble_eq_true rfl) (pay_in hts (fun w h => good_Lq w (wcs (u_Lq_La _ k_La_54) (fun _ h => h) w h))) List.mem_cons_self (hts _ (u_Lq_La _ k_La_0)) ⟨(by decide), (by decide)⟩ (hlen_of (by decide +kernel)) (hts _ (u_Lq_La _ k_La_52)) (hts _ (u_Lq_La _ k_La_53)) (ps_ofE (X.same _) (fun U z1 z2 => X.mono _ _ U hFc (hEw _ _ hS U z1 z2)) hPc hKH hDc) rfl rfl hl.1 rfl (lv_room (Nat.le_of_ble_eq_true rfl)) d_La_law_905 ⟨lw_c1 mc.1 mF1.1 hGc, lw_c1 mc.2 mF1.2 hGs⟩) hS (fun q _ h => hFc q h) hFc (fun r_ Y_81 t H locs ht hvm hw hB hz1 hk1 hS => ?_)
            rw [hw]
            obtain ⟨hP1, -, hD1⟩ := hB
            rw [ht] at hP1
            obtain ⟨hP, hD⟩ := lw_jR hPa hDa hk1 hFc hP1 hD1
            refine W.widen (k := cB + G_81.gc) (n := sB + G_81.gs) (lw_c2 mc.1) (lw_c2 mc.2) ?_
            exact hB_908 _ hr_33 hm_33 y_4 2 Y_81 G_81 S_81 T oo _ _ _ h hP hD hS (lv_sub hl [0, 1, 2, 3, 4] rfl)
          · have h := lf_f h c_81_2
            by_cases c_81_3 : k_81 = 3
            · have h := lf_t h c_81_3
              rw [c_81_3] at hc_81
              have ml_81 := mo_Vt_write hc_81
              have mc := mo_Vt_write hc_81
              have mF1 := mo_law_908 hm_33 h
              have hPa := hP
              have hDa := hD
              have hPc := lw_PR hPa
              have hDc := lw_DR hDa
              have hFc := lx_free hDc hS hA
              refine va_calli (x_runSW (handlers := [(0, 9, 12, 19), (0, 9, 15, 25), (0, 9, 18, 13), (0, 9, 21, 46)]) (bytes := b_La_write) (maxL := 4) (ret := (some .int)) (n := 3) (index := 142) (As := [.ref M.o_Vt, .int (xs (y_4 + 1).toNatClampNeg), .ref ou]) (rest := []) ⟨hx, hb, hml, hown, hts⟩ (la_write_3 l hfl dC dI X Xm _ ou kL oo hc_81) rfl rfl (Nat.le_of_ble_eq_true rfl) (Nat.le_of_ble_eq_true rfl) (pay_in hts (fun w h => good_Lq w (wcs (u_Lq_La _ k_La_54) (fun _ h => h) w h))) List.mem_cons_self (hts _ (u_Lq_La _ k_La_0)) ⟨(by decide), (by decide)⟩ (hlen_of (by decide +kernel)) (hts _ (u_Lq_La _ k_La_52)) (hts _ (u_Lq_La _ k_La_53)) (ps_ofE (X.same _) (fun U z1 z2 => X.mono _ _ U hFc (hEw _ _ hS U z1 z2)) hPc hKH hDc) rfl rfl hl.1 rfl (lv_room (Nat.le_of_ble_eq_true rfl)) d_La_law_905 ⟨lw_c1 mc.1 mF1.1 hGc, lw_c1 mc.2 mF1.2 hGs⟩) hS (fun q _ h => hFc q h) hFc (fun r_ Y_81 t H locs ht hvm hw hB hz1 hk1 hS => ?_)
              rw [hw]
              obtain ⟨hP1, -, hD1⟩ := hB
              rw [ht] at hP1
              obtain ⟨hP, hD⟩ := lw_jR hPa hDa hk1 hFc hP1 hD1
              refine W.widen (k := cB + G_81.gc) (n := sB + G_81.gs) (lw_c2 mc.1) (lw_c2 mc.2) ?_
              exact hB_908 _ hr_33 hm_33 y_4 4 Y_81 G_81 S_81 T oo _ _ _ h hP hD hS (lv_sub hl [0, 1, 2, 3, 4] rfl)
            · have h := lf_f h c_81_3
              exact lf_no h
  have hB_1030 : ∀ (rec_33 : Int32 → CG → CS → MS → (Nat → Int64) → Option (Int32 × CG × CS)) (hr_33 : ∀ (y_4 : Int32) (Y : CT) (G : CG) (S : CS) (T : MS) (oo : Nat → Int64) (H : Heap) (locs : List Loc) (ls : Array Slot), rec_33 y_4 G S T oo = some (1, G', S') → va_P (dC, dI) classes (wM M2 T ++ ((ou, .inl (kL, 1, .inr (.inl oo))) :: wV M Y G S)) H → va_D (fun q => s.heap.size ≤ q) (wM M2 T ++ ((ou, .inl (kL, 1, .inr (.inl oo))) :: wV M Y G S)) → va_S (fun q => s.heap.size ≤ q) s.heap H locs → lv_has ls 8 [(0, .ref b), (1, .ref M.o_Vt), (2, .ref M2.o), (3, .ref ou), (4, .int y_4)] → W p l e room_1 s m #[Value.ref b] below meth c H locs (cB + G.gc) (sB + G.gs) (lw_Z below #[Value.ref b] s) (F0 m 33 ls [])) (hm_33 : ∀ (y_4 : Int32) (G : CG) (S : CS) (T : MS) (oo : Nat → Int64) {x : Int32} {G1 : CG} {S1 : CS}, rec_33 y_4 G S T oo = some (x, G1, S1) → CG.le G G1), ∀ (y_4 : Int32) (Y : CT) (G : CG) (S : CS) (T : MS) (oo : Nat → Int64) (H : Heap) (locs : List Loc) (ls : Array Slot), f_law_1030 K L xs rec_33 y_4 G S T oo = some (1, G', S') → va_P (dC, dI) classes (wM M2 T ++ ((ou, .inl (kL, 1, .inr (.inl oo))) :: wV M Y G S)) H → va_D (fun q => s.heap.size ≤ q) (wM M2 T ++ ((ou, .inl (kL, 1, .inr (.inl oo))) :: wV M Y G S)) → va_S (fun q => s.heap.size ≤ q) s.heap H locs → lv_has ls 8 [(0, .ref b), (1, .ref M.o_Vt), (2, .ref M2.o), (3, .ref ou), (4, .int y_4)] → W p l e room_1 s m #[Value.ref b] below meth c H locs (cB + G.gc) (sB + G.gs) (lw_Z below #[Value.ref b] s) (F0 m 1030 ls []) := by
    intro rec_33 hr_33 hm_33 y_4 Y G S T oo H locs ls h hP hD hS hl
    have mF := mo_law_1030 hm_33 h
    rw [f_law_1030] at h
    refine lv_goto (tgt := 1388) hx hb d_La_law_1030 (by decide) ?_
    exact hB_1388 _ hr_33 hm_33 y_4 Y G S T oo _ _ _ h hP hD hS (lv_sub hl [0, 1, 2, 3, 4] rfl)
  have hB_976 : ∀ (rec_33 : Int32 → CG → CS → MS → (Nat → Int64) → Option (Int32 × CG × CS)) (hr_33 : ∀ (y_4 : Int32) (Y : CT) (G : CG) (S : CS) (T : MS) (oo : Nat → Int64) (H : Heap) (locs : List Loc) (ls : Array Slot), rec_33 y_4 G S T oo = some (1, G', S') → va_P (dC, dI) classes (wM M2 T ++ ((ou, .inl (kL, 1, .inr (.inl oo))) :: wV M Y G S)) H → va_D (fun q => s.heap.size ≤ q) (wM M2 T ++ ((ou, .inl (kL, 1, .inr (.inl oo))) :: wV M Y G S)) → va_S (fun q => s.heap.size ≤ q) s.heap H locs → lv_has ls 8 [(0, .ref b), (1, .ref M.o_Vt), (2, .ref M2.o), (3, .ref ou), (4, .int y_4)] → W p l e room_1 s m #[Value.ref b] below meth c H locs (cB + G.gc) (sB + G.gs) (lw_Z below #[Value.ref b] s) (F0 m 33 ls [])) (hm_33 : ∀ (y_4 : Int32) (G : CG) (S : CS) (T : MS) (oo : Nat → Int64) {x : Int32} {G1 : CG} {S1 : CS}, rec_33 y_4 G S T oo = some (x, G1, S1) → CG.le G G1), ∀ (y_4 : Int32) (z_0 : Int32) (Y : CT) (G : CG) (S : CS) (T : MS) (oo : Nat → Int64) (H : Heap) (locs : List Loc) (ls : Array Slot), f_law_976 K L xs rec_33 y_4 z_0 G S T oo = some (1, G', S') → va_P (dC, dI) classes (wM M2 T ++ ((ou, .inl (kL, 1, .inr (.inl oo))) :: wV M Y G S)) H → va_D (fun q => s.heap.size ≤ q) (wM M2 T ++ ((ou, .inl (kL, 1, .inr (.inl oo))) :: wV M Y G S)) → va_S (fun q => s.heap.size ≤ q) s.heap H locs → lv_has ls 8 [(0, .ref b), (1, .ref M.o_Vt), (2, .ref M2.o), (3, .ref ou), (4, .int y_4)] → W p l e room_1 s m #[Value.ref b] below meth c H locs (cB + G.gc) (sB + G.gs) (lw_Z below #[Value.ref b] s) (F0 m 976 ls [.int z_0]) := by
    intro rec_33 hr_33 hm_33 y_4 z_0 Y G S T oo H locs ls h hP hD hS hl
    have mF := mo_law_976 hm_33 h
    rw [f_law_976] at h
    refine lv_istore (lv' := [(5, .int z_0), (0, .ref b), (1, .ref M.o_Vt), (2, .ref M2.o), (3, .ref ou), (4, .int y_4)]) hx hb d_La_law_976 hl (by decide) rfl (fun ls hl => ?_)
    refine lv_aload_n hx hb d_La_law_978 rfl (lv_at hl 3 rfl) ?_
    refine lv_aload_n hx hb d_La_law_979 rfl (lv_at hl 1 rfl) ?_
    refine lv_iload hx hb d_La_law_980 (lv_at hl 5 rfl) ?_
    refine lv_iconst (v := 1) hx hb d_La_law_982 (by decide) ?_
    refine lv_iadd hx hb d_La_law_983 ?_
    obtain ⟨g_174, h⟩ := lf_gE h
    refine va_sld hx hb hX hbl hbA hS g_174 d_La_law_984 ?_
    refine lv_aload_n hx hb d_La_law_985 rfl (lv_at hl 1 rfl) ?_
    refine lv_iload hx hb d_La_law_986 (lv_at hl 5 rfl) ?_
    refine lv_iconst (v := 2) hx hb d_La_law_988 (by decide) ?_
    refine lv_iadd hx hb d_La_law_989 ?_
    obtain ⟨g_175, h⟩ := lf_gE h
    refine va_sld hx hb hX hbl hbA hS g_175 d_La_law_990 ?_
    refine lv_aload_n hx hb d_La_law_991 rfl (lv_at hl 1 rfl) ?_
    refine lv_iload hx hb d_La_law_992 (lv_at hl 5 rfl) ?_
    refine lv_iconst (v := 3) hx hb d_La_law_994 (by decide) ?_
    refine lv_iadd hx hb d_La_law_995 ?_
    obtain ⟨g_176, h⟩ := lf_gE h
    refine va_sld hx hb hX hbl hbA hS g_176 d_La_law_996 ?_
    obtain ⟨r_177, T_177, hc_177, h⟩ := lf_cE h
    have hPc := lw_PL hP
    have hDc := lw_DL hD
    have hFc := lx_free hDc hS hA
    refine va_calli (va_runV (As := [.int (xs (y_4 + 1).toNatClampNeg), .int (xs (y_4 + 2).toNatClampNeg), .int (xs (y_4 + 3).toNatClampNeg)]) (rest := []) ⟨hx, hb, hml, hown, hts⟩ (l_Mo_grow l dC dI X2 _ hc_177) (cwV 3 hts (gwV good_Lq (u_Lq_La _ k_La_95) (u_Lq_Mo _ k_Mo_351) (u_Lq_Mo _ k_Mo_352) (u_Lq_Mo _ k_Mo_0) (wcs (u_Lq_Mo _ k_Mo_353) u_Lq_Mq)) rfl rfl rfl (by decide +kernel) ⟨Nat.le_of_ble_eq_true rfl, Nat.le_of_ble_eq_true rfl⟩) (pv_ofE (X2.same _) (fun U z1 z2 => X2.mono _ _ U hFc (hEw _ _ hS U z1 z2)) hPc hKM hDc (va_recv hKM hPc (ci := 12) (q0 := 0) rfl rfl)) rfl rfl hl.1 rfl (lv_room (Nat.le_of_ble_eq_true rfl)) d_La_law_997 ⟨lw_c0 mF.1 hGc, lw_c0 mF.2 hGs⟩) hS (fun q _ h => hFc q h) hFc (fun r_ u t H locs ht hvm hw hB hz1 hk1 hS => ?_)
    rw [hw]
    obtain ⟨hP1, -, hD1⟩ := hB
    rw [ht] at hP1
    obtain ⟨hP, hD⟩ := lw_jL hP hD hk1 hFc hP1 hD1
    refine lv_istore (lv' := [(6, .int r_177), (5, .int z_0), (0, .ref b), (1, .ref M.o_Vt), (2, .ref M2.o), (3, .ref ou), (4, .int y_4)]) hx hb d_La_law_1000 hl (by decide) rfl (fun ls hl => ?_)
    refine lv_aload_n hx hb d_La_law_1002 rfl (lv_at hl 4 rfl) ?_
    obtain ⟨r_178, T_178, hc_178, h⟩ := lf_cE h
    have hPc := lw_PL hP
    have hDc := lw_DL hD
    have hFc := lx_free hDc hS hA
    refine va_calli (va_runV (As := []) (rest := []) ⟨hx, hb, hml, hown, hts⟩ (l_Mo_thrown l dC dI X2 _ hc_178) (cwV 0 hts (gwV good_Lq (u_Lq_La _ k_La_78) (u_Lq_Mo _ k_Mo_73) (u_Lq_Mo _ k_Mo_74) (u_Lq_Mo _ k_Mo_0) (wcs (u_Lq_Mo _ k_Mo_75) u_Lq_Mq)) rfl rfl rfl (by decide +kernel) ⟨Nat.le_of_ble_eq_true rfl, Nat.le_of_ble_eq_true rfl⟩) (pv_ofE (X2.same _) (fun U z1 z2 => X2.mono _ _ U hFc (hEw _ _ hS U z1 z2)) hPc hKM hDc (va_recv hKM hPc (ci := 12) (q0 := 0) rfl rfl)) rfl rfl hl.1 rfl (lv_room (Nat.le_of_ble_eq_true rfl)) d_La_law_1003 ⟨lw_c0 mF.1 hGc, lw_c0 mF.2 hGs⟩) hS (fun q _ h => hFc q h) hFc (fun r_ u t H locs ht hvm hw hB hz1 hk1 hS => ?_)
    rw [hw]
    obtain ⟨hP1, -, hD1⟩ := hB
    rw [ht] at hP1
    obtain ⟨hP, hD⟩ := lw_jL hP hD hk1 hFc hP1 hD1
    refine lv_iload hx hb d_La_law_1006 (lv_at hl 1 rfl) ?_
    refine lv_icmp_eq (tgt := 1013) hx hb d_La_law_1008 (by decide) (fun c_179 => ?_) (fun c_179 => ?_)
    · have h := lf_t h c_179
      refine lv_iload hx hb d_La_law_1013 (lv_at hl 1 rfl) ?_
      refine lv_if_ne (tgt := 1030) hx hb d_La_law_1015 (by decide) (fun c_180 => ?_) (fun c_180 => ?_)
      · have h := lf_f h c_180
        exact hB_1030 _ hr_33 hm_33 y_4 Y G S T_178 oo _ _ _ h hP hD hS (lv_sub hl [2, 3, 4, 5, 6] rfl)
      · have h := lf_t h c_180
        refine lv_aload_n hx hb d_La_law_1018 rfl (lv_at hl 5 rfl) ?_
        refine lv_iconst (v := 0) hx hb d_La_law_1019 (by decide) ?_
        refine va_lald hx hb hK hP 28 27 rfl rfl (by unfold vp_in; decide) d_La_law_1020 ?_
        refine lv_iload hx hb d_La_law_1021 (lv_at hl 0 rfl) ?_
        refine lv_i2l hx hb d_La_law_1023 rfl ?_
        refine W.lcmp hx hb d_La_law_1024 ?_
        refine lv_if_eq (tgt := 1030) hx hb d_La_law_1025 (by decide) (fun c_181 => ?_) (fun c_181 => ?_)
        · have h := lf_t h c_181
          exact hB_1030 _ hr_33 hm_33 y_4 Y G S T_178 oo _ _ _ h hP hD hS (lv_sub hl [2, 3, 4, 5, 6] rfl)
        · have h := lf_f h c_181
          refine lv_iconst (v := 0) hx hb d_La_law_1028 (by decide) ?_
          exact lf_01 h
    · have h := lf_f h c_179
      refine lv_iconst (v := 0) hx hb d_La_law_1011 (by decide) ?_
      exact lf_01 h
  have hB_953 : ∀ (rec_33 : Int32 → CG → CS → MS → (Nat → Int64) → Option (Int32 × CG × CS)) (hr_33 : ∀ (y_4 : Int32) (Y : CT) (G : CG) (S : CS) (T : MS) (oo : Nat → Int64) (H : Heap) (locs : List Loc) (ls : Array Slot), rec_33 y_4 G S T oo = some (1, G', S') → va_P (dC, dI) classes (wM M2 T ++ ((ou, .inl (kL, 1, .inr (.inl oo))) :: wV M Y G S)) H → va_D (fun q => s.heap.size ≤ q) (wM M2 T ++ ((ou, .inl (kL, 1, .inr (.inl oo))) :: wV M Y G S)) → va_S (fun q => s.heap.size ≤ q) s.heap H locs → lv_has ls 8 [(0, .ref b), (1, .ref M.o_Vt), (2, .ref M2.o), (3, .ref ou), (4, .int y_4)] → W p l e room_1 s m #[Value.ref b] below meth c H locs (cB + G.gc) (sB + G.gs) (lw_Z below #[Value.ref b] s) (F0 m 33 ls [])) (hm_33 : ∀ (y_4 : Int32) (G : CG) (S : CS) (T : MS) (oo : Nat → Int64) {x : Int32} {G1 : CG} {S1 : CS}, rec_33 y_4 G S T oo = some (x, G1, S1) → CG.le G G1), ∀ (y_4 : Int32) (Y : CT) (G : CG) (S : CS) (T : MS) (oo : Nat → Int64) (H : Heap) (locs : List Loc) (ls : Array Slot), f_law_953 K L xs rec_33 y_4 G S T oo = some (1, G', S') → va_P (dC, dI) classes (wM M2 T ++ ((ou, .inl (kL, 1, .inr (.inl oo))) :: wV M Y G S)) H → va_D (fun q => s.heap.size ≤ q) (wM M2 T ++ ((ou, .inl (kL, 1, .inr (.inl oo))) :: wV M Y G S)) → va_S (fun q => s.heap.size ≤ q) s.heap H locs → lv_has ls 8 [(0, .ref b), (1, .ref M.o_Vt), (2, .ref M2.o), (3, .ref ou), (4, .int y_4)] → W p l e room_1 s m #[Value.ref b] below meth c H locs (cB + G.gc) (sB + G.gs) (lw_Z below #[Value.ref b] s) (F0 m 953 ls []) := by
    intro rec_33 hr_33 hm_33 y_4 Y G S T oo H locs ls h hP hD hS hl
    have mF := mo_law_953 hm_33 h
    rw [f_law_953] at h
    refine lv_aload_n hx hb d_La_law_953 rfl (lv_at hl 1 rfl) ?_
    refine lv_aload_n hx hb d_La_law_954 rfl (lv_at hl 0 rfl) ?_
    refine lv_iload hx hb d_La_law_955 (lv_at hl 4 rfl) ?_
    refine lv_iconst (v := 1) hx hb d_La_law_957 (by decide) ?_
    refine lv_iadd hx hb d_La_law_958 ?_
    obtain ⟨g_82, h⟩ := lf_gE h
    refine va_sld hx hb hX hbl hbA hS g_82 d_La_law_959 ?_
    refine lv_aload_n hx hb d_La_law_960 rfl (lv_at hl 0 rfl) ?_
    refine lv_iload hx hb d_La_law_961 (lv_at hl 4 rfl) ?_
    refine lv_iconst (v := 2) hx hb d_La_law_963 (by decide) ?_
    refine lv_iadd hx hb d_La_law_964 ?_
    obtain ⟨g_83, h⟩ := lf_gE h
    refine va_sld hx hb hX hbl hbA hS g_83 d_La_law_965 ?_
    refine lv_aload_n hx hb d_La_law_966 rfl (lv_at hl 0 rfl) ?_
    refine lv_iload hx hb d_La_law_967 (lv_at hl 4 rfl) ?_
    refine lv_iconst (v := 3) hx hb d_La_law_969 (by decide) ?_
    refine lv_iadd hx hb d_La_law_970 ?_
    obtain ⟨g_84, h⟩ := lf_gE h
    refine va_sld hx hb hX hbl hbA hS g_84 d_La_law_971 ?_
    refine lv_aload_n hx hb d_La_law_972 rfl (lv_at hl 3 rfl) ?_
    rcases lf_hE h with ⟨r_85, G_85, S_85, hc_85, h⟩ | ⟨k_85, G_85, S_85, hc_85, h⟩
    · obtain ⟨oo_85, eo_85, h⟩ := lf_lX h
      have ml_85 := mo_Vt_grow hc_85
      have mc := mo_Vt_grow hc_85
      have mF1 := mo_law_976 hm_33 h
      have hPa := hP
      have hDa := hD
      have hPc := lw_PR hPa
      have hDc := lw_DR hDa
      have hFc := lx_free hDc hS hA
      refine va_calli (x_runSW (handlers := [(0, 12, 15, 19), (0, 12, 19, 25), (0, 12, 23, 13), (0, 12, 27, 46)]) (bytes := b_La_grow) (maxL := 6) (ret := (some .int)) (n := 5) (index := 145) (As := [.ref M.o_Vt, .int (xs (y_4 + 1).toNatClampNeg), .int (xs (y_4 + 2).toNatClampNeg), .int (xs (y_4 + 3).toNatClampNeg), .ref ou]) (rest := []) ⟨hx, hb, hml, hown, hts⟩ (la_grow_ok l hfl dC dI X _ ou kL oo hc_85) rfl rfl (Nat.le_of_ble_eq_true rfl) (Nat.le_of_ble_eq_true rfl) (pay_in hts (fun w h => good_Lq w (wcs (u_Lq_La _ k_La_58) (fun _ h => h) w h))) List.mem_cons_self (hts _ (u_Lq_La _ k_La_0)) ⟨(by decide), (by decide)⟩ (hlen_of (by decide +kernel)) (hts _ (u_Lq_La _ k_La_56)) (hts _ (u_Lq_La _ k_La_57)) (ps_ofE (X.same _) (fun U z1 z2 => X.mono _ _ U hFc (hEw _ _ hS U z1 z2)) hPc hKH hDc) rfl rfl hl.1 rfl (lv_room (Nat.le_of_ble_eq_true rfl)) d_La_law_973 ⟨lw_c1 mc.1 mF1.1 hGc, lw_c1 mc.2 mF1.2 hGs⟩) hS (fun q _ h => hFc q h) hFc (fun r_ Y_85 t H locs ht hvm hw hB hz1 hk1 hS => ?_)
      rw [hw]
      obtain ⟨hP1, -, hD1⟩ := hB
      rw [ht] at hP1
      rw [← eo_85] at hP1 hD1
      obtain ⟨hP, hD⟩ := lw_jR hPa hDa hk1 hFc hP1 hD1
      refine W.widen (k := cB + G_85.gc) (n := sB + G_85.gs) (lw_c2 mc.1) (lw_c2 mc.2) ?_
      exact hB_976 _ hr_33 hm_33 y_4 0 Y_85 G_85 S_85 T oo_85 _ _ _ h hP hD hS (lv_sub hl [0, 1, 2, 3, 4] rfl)
    · by_cases c_85_0 : k_85 = 0
      · have h := lf_t h c_85_0
        rw [c_85_0] at hc_85
        have ml_85 := mo_Vt_grow hc_85
        have mc := mo_Vt_grow hc_85
        have mF1 := mo_law_976 hm_33 h
        have hPa := hP
        have hDa := hD
        have hPc := lw_PR hPa
        have hDc := lw_DR hDa
        have hFc := lx_free hDc hS hA
        refine va_calli (x_runSW (handlers := [(0, 12, 15, 19), (0, 12, 19, 25), (0, 12, 23, 13), (0, 12, 27, 46)]) (bytes := b_La_grow) (maxL := 6) (ret := (some .int)) (n := 5) (index := 145) (As := [.ref M.o_Vt, .int (xs (y_4 + 1).toNatClampNeg), .int (xs (y_4 + 2).toNatClampNeg), .int (xs (y_4 + 3).toNatClampNeg), .ref ou]) (rest := []) ⟨hx, hb, hml, hown, hts⟩ (la_grow_0 l hfl dC dI X Xm _ ou kL oo hc_85) rfl rfl (Nat.le_of_ble_eq_true rfl) (Nat.le_of_ble_eq_true rfl) (pay_in hts (fun w h => good_Lq w (wcs (u_Lq_La _ k_La_58) (fun _ h => h) w h))) List.mem_cons_self (hts _ (u_Lq_La _ k_La_0)) ⟨(by decide), (by decide)⟩ (hlen_of (by decide +kernel)) (hts _ (u_Lq_La _ k_La_56)) (hts _ (u_Lq_La _ k_La_57)) (ps_ofE (X.same _) (fun U z1 z2 => X.mono _ _ U hFc (hEw _ _ hS U z1 z2)) hPc hKH hDc) rfl rfl hl.1 rfl (lv_room (Nat.le_of_ble_eq_true rfl)) d_La_law_973 ⟨lw_c1 mc.1 mF1.1 hGc, lw_c1 mc.2 mF1.2 hGs⟩) hS (fun q _ h => hFc q h) hFc (fun r_ Y_85 t H locs ht hvm hw hB hz1 hk1 hS => ?_)
        rw [hw]
        obtain ⟨hP1, -, hD1⟩ := hB
        rw [ht] at hP1
        obtain ⟨hP, hD⟩ := lw_jR hPa hDa hk1 hFc hP1 hD1
        refine W.widen (k := cB + G_85.gc) (n := sB + G_85.gs) (lw_c2 mc.1) (lw_c2 mc.2) ?_
        exact hB_976 _ hr_33 hm_33 y_4 3 Y_85 G_85 S_85 T oo _ _ _ h hP hD hS (lv_sub hl [0, 1, 2, 3, 4] rfl)
      · have h := lf_f h c_85_0
        by_cases c_85_1 : k_85 = 1
        · have h := lf_t h c_85_1
          rw [c_85_1] at hc_85
          have ml_85 := mo_Vt_grow hc_85
          have mc := mo_Vt_grow hc_85
          have mF1 := mo_law_976 hm_33 h
          have hPa := hP
          have hDa := hD
          have hPc := lw_PR hPa
          have hDc := lw_DR hDa
          have hFc := lx_free hDc hS hA
          refine va_calli (x_runSW (handlers := [(0, 12, 15, 19), (0, 12, 19, 25), (0, 12, 23, 13), (0, 12, 27, 46)]) (bytes := b_La_grow) (maxL := 6) (ret := (some .int)) (n := 5) (index := 145) (As := [.ref M.o_Vt, .int (xs (y_4 + 1).toNatClampNeg), .int (xs (y_4 + 2).toNatClampNeg), .int (xs (y_4 + 3).toNatClampNeg), .ref ou]) (rest := []) ⟨hx, hb, hml, hown, hts⟩ (la_grow_1 l hfl dC dI X _ ou kL oo hc_85) rfl rfl (Nat.le_of_ble_eq_true rfl) (Nat.le_of_ble_eq_true rfl) (pay_in hts (fun w h => good_Lq w (wcs (u_Lq_La _ k_La_58) (fun _ h => h) w h))) List.mem_cons_self (hts _ (u_Lq_La _ k_La_0)) ⟨(by decide), (by decide)⟩ (hlen_of (by decide +kernel)) (hts _ (u_Lq_La _ k_La_56)) (hts _ (u_Lq_La _ k_La_57)) (ps_ofE (X.same _) (fun U z1 z2 => X.mono _ _ U hFc (hEw _ _ hS U z1 z2)) hPc hKH hDc) rfl rfl hl.1 rfl (lv_room (Nat.le_of_ble_eq_true rfl)) d_La_law_973 ⟨lw_c1 mc.1 mF1.1 hGc, lw_c1 mc.2 mF1.2 hGs⟩) hS (fun q _ h => hFc q h) hFc (fun r_ Y_85 t H locs ht hvm hw hB hz1 hk1 hS => ?_)
          rw [hw]
          obtain ⟨hP1, -, hD1⟩ := hB
          rw [ht] at hP1
          obtain ⟨hP, hD⟩ := lw_jR hPa hDa hk1 hFc hP1 hD1
          refine W.widen (k := cB + G_85.gc) (n := sB + G_85.gs) (lw_c2 mc.1) (lw_c2 mc.2) ?_
          exact hB_976 _ hr_33 hm_33 y_4 1 Y_85 G_85 S_85 T oo _ _ _ h hP hD hS (lv_sub hl [0, 1, 2, 3, 4] rfl)
        · have h := lf_f h c_85_1
          by_cases c_85_2 : k_85 = 2
          · have h := lf_t h c_85_2
            rw [c_85_2] at hc_85
            have ml_85 := mo_Vt_grow hc_85
            have mc := mo_Vt_grow hc_85
            have mF1 := mo_law_976 hm_33 h
            have hPa := hP
            have hDa := hD
            have hPc := lw_PR hPa
            have hDc := lw_DR hDa
            have hFc := lx_free hDc hS hA
            refine va_calli (x_runSW (handlers := [(0, 12, 15, 19), (0, 12, 19, 25), (0, 12, 23, 13), (0, 12, 27, 46)]) (bytes := b_La_grow) (maxL := 6) (ret := (some .int)) (n := 5) (index := 145) (As := [.ref M.o_Vt, .int (xs (y_4 + 1).toNatClampNeg), .int (xs (y_4 + 2).toNatClampNeg), .int (xs (y_4 + 3).toNatClampNeg), .ref ou]) (rest := []) ⟨hx, hb, hml, hown, hts⟩ (la_grow_2 l hfl dC dI X Xm _ ou kL oo hc_85) rfl rfl (Nat.le_of_ble_eq_true rfl) (Nat.le_of_ble_eq_true rfl) (pay_in hts (fun w h => good_Lq w (wcs (u_Lq_La _ k_La_58) (fun _ h => h) w h))) List.mem_cons_self (hts _ (u_Lq_La _ k_La_0)) ⟨(by decide), (by decide)⟩ (hlen_of (by decide +kernel)) (hts _ (u_Lq_La _ k_La_56)) (hts _ (u_Lq_La _ k_La_57)) (ps_ofE (X.same _) (fun U z1 z2 => X.mono _ _ U hFc (hEw _ _ hS U z1 z2)) hPc hKH hDc) rfl rfl hl.1 rfl (lv_room (Nat.le_of_ble_eq_true rfl)) d_La_law_973 ⟨lw_c1 mc.1 mF1.1 hGc, lw_c1 mc.2 mF1.2 hGs⟩) hS (fun q _ h => hFc q h) hFc (fun r_ Y_85 t H locs ht hvm hw hB hz1 hk1 hS => ?_)
            rw [hw]
            obtain ⟨hP1, -, hD1⟩ := hB
            rw [ht] at hP1
            obtain ⟨hP, hD⟩ := lw_jR hPa hDa hk1 hFc hP1 hD1
            refine W.widen (k := cB + G_85.gc) (n := sB + G_85.gs) (lw_c2 mc.1) (lw_c2 mc.2) ?_
            exact hB_976 _ hr_33 hm_33 y_4 2 Y_85 G_85 S_85 T oo _ _ _ h hP hD hS (lv_sub hl [0, 1, 2, 3, 4] rfl)
          · have h := lf_f h c_85_2
            by_cases c_85_3 : k_85 = 3
            · have h := lf_t h c_85_3
              rw [c_85_3] at hc_85
              have ml_85 := mo_Vt_grow hc_85
              have mc := mo_Vt_grow hc_85
              have mF1 := mo_law_976 hm_33 h
              have hPa := hP
              have hDa := hD
              have hPc := lw_PR hPa
              have hDc := lw_DR hDa
              have hFc := lx_free hDc hS hA
              refine va_calli (x_runSW (handlers := [(0, 12, 15, 19), (0, 12, 19, 25), (0, 12, 23, 13), (0, 12, 27, 46)]) (bytes := b_La_grow) (maxL := 6) (ret := (some .int)) (n := 5) (index := 145) (As := [.ref M.o_Vt, .int (xs (y_4 + 1).toNatClampNeg), .int (xs (y_4 + 2).toNatClampNeg), .int (xs (y_4 + 3).toNatClampNeg), .ref ou]) (rest := []) ⟨hx, hb, hml, hown, hts⟩ (la_grow_3 l hfl dC dI X Xm _ ou kL oo hc_85) rfl rfl (Nat.le_of_ble_eq_true rfl) (Nat.le_of_ble_eq_true rfl) (pay_in hts (fun w h => good_Lq w (wcs (u_Lq_La _ k_La_58) (fun _ h => h) w h))) List.mem_cons_self (hts _ (u_Lq_La _ k_La_0)) ⟨(by decide), (by decide)⟩ (hlen_of (by decide +kernel)) (hts _ (u_Lq_La _ k_La_56)) (hts _ (u_Lq_La _ k_La_57)) (ps_ofE (X.same _) (fun U z1 z2 => X.mono _ _ U hFc (hEw _ _ hS U z1 z2)) hPc hKH hDc) rfl rfl hl.1 rfl (lv_room (Nat.le_of_ble_eq_true rfl)) d_La_law_973 ⟨lw_c1 mc.1 mF1.1 hGc, lw_c1 mc.2 mF1.2 hGs⟩) hS (fun q _ h => hFc q h) hFc (fun r_ Y_85 t H locs ht hvm hw hB hz1 hk1 hS => ?_)
              rw [hw]
              obtain ⟨hP1, -, hD1⟩ := hB
              rw [ht] at hP1
              obtain ⟨hP, hD⟩ := lw_jR hPa hDa hk1 hFc hP1 hD1
              refine W.widen (k := cB + G_85.gc) (n := sB + G_85.gs) (lw_c2 mc.1) (lw_c2 mc.2) ?_
              exact hB_976 _ hr_33 hm_33 y_4 4 Y_85 G_85 S_85 T oo _ _ _ h hP hD hS (lv_sub hl [0, 1, 2, 3, 4] rfl)
            · have h := lf_f h c_85_3
              exact lf_no h
  have hB_1098 : ∀ (rec_33 : Int32 → CG → CS → MS → (Nat → Int64) → Option (Int32 × CG × CS)) (hr_33 : ∀ (y_4 : Int32) (Y : CT) (G : CG) (S : CS) (T : MS) (oo : Nat → Int64) (H : Heap) (locs : List Loc) (ls : Array Slot), rec_33 y_4 G S T oo = some (1, G', S') → va_P (dC, dI) classes (wM M2 T ++ ((ou, .inl (kL, 1, .inr (.inl oo))) :: wV M Y G S)) H → va_D (fun q => s.heap.size ≤ q) (wM M2 T ++ ((ou, .inl (kL, 1, .inr (.inl oo))) :: wV M Y G S)) → va_S (fun q => s.heap.size ≤ q) s.heap H locs → lv_has ls 8 [(0, .ref b), (1, .ref M.o_Vt), (2, .ref M2.o), (3, .ref ou), (4, .int y_4)] → W p l e room_1 s m #[Value.ref b] below meth c H locs (cB + G.gc) (sB + G.gs) (lw_Z below #[Value.ref b] s) (F0 m 33 ls [])) (hm_33 : ∀ (y_4 : Int32) (G : CG) (S : CS) (T : MS) (oo : Nat → Int64) {x : Int32} {G1 : CG} {S1 : CS}, rec_33 y_4 G S T oo = some (x, G1, S1) → CG.le G G1), ∀ (y_4 : Int32) (Y : CT) (G : CG) (S : CS) (T : MS) (oo : Nat → Int64) (H : Heap) (locs : List Loc) (ls : Array Slot), f_law_1098 K L xs rec_33 y_4 G S T oo = some (1, G', S') → va_P (dC, dI) classes (wM M2 T ++ ((ou, .inl (kL, 1, .inr (.inl oo))) :: wV M Y G S)) H → va_D (fun q => s.heap.size ≤ q) (wM M2 T ++ ((ou, .inl (kL, 1, .inr (.inl oo))) :: wV M Y G S)) → va_S (fun q => s.heap.size ≤ q) s.heap H locs → lv_has ls 8 [(0, .ref b), (1, .ref M.o_Vt), (2, .ref M2.o), (3, .ref ou), (4, .int y_4)] → W p l e room_1 s m #[Value.ref b] below meth c H locs (cB + G.gc) (sB + G.gs) (lw_Z below #[Value.ref b] s) (F0 m 1098 ls []) := by
    intro rec_33 hr_33 hm_33 y_4 Y G S T oo H locs ls h hP hD hS hl
    have mF := mo_law_1098 hm_33 h
    rw [f_law_1098] at h
    refine lv_goto (tgt := 1388) hx hb d_La_law_1098 (by decide) ?_
    exact hB_1388 _ hr_33 hm_33 y_4 Y G S T oo _ _ _ h hP hD hS (lv_sub hl [0, 1, 2, 3, 4] rfl)
  have hB_1050 : ∀ (rec_33 : Int32 → CG → CS → MS → (Nat → Int64) → Option (Int32 × CG × CS)) (hr_33 : ∀ (y_4 : Int32) (Y : CT) (G : CG) (S : CS) (T : MS) (oo : Nat → Int64) (H : Heap) (locs : List Loc) (ls : Array Slot), rec_33 y_4 G S T oo = some (1, G', S') → va_P (dC, dI) classes (wM M2 T ++ ((ou, .inl (kL, 1, .inr (.inl oo))) :: wV M Y G S)) H → va_D (fun q => s.heap.size ≤ q) (wM M2 T ++ ((ou, .inl (kL, 1, .inr (.inl oo))) :: wV M Y G S)) → va_S (fun q => s.heap.size ≤ q) s.heap H locs → lv_has ls 8 [(0, .ref b), (1, .ref M.o_Vt), (2, .ref M2.o), (3, .ref ou), (4, .int y_4)] → W p l e room_1 s m #[Value.ref b] below meth c H locs (cB + G.gc) (sB + G.gs) (lw_Z below #[Value.ref b] s) (F0 m 33 ls [])) (hm_33 : ∀ (y_4 : Int32) (G : CG) (S : CS) (T : MS) (oo : Nat → Int64) {x : Int32} {G1 : CG} {S1 : CS}, rec_33 y_4 G S T oo = some (x, G1, S1) → CG.le G G1), ∀ (y_4 : Int32) (z_0 : Int32) (Y : CT) (G : CG) (S : CS) (T : MS) (oo : Nat → Int64) (H : Heap) (locs : List Loc) (ls : Array Slot), f_law_1050 K L xs rec_33 y_4 z_0 G S T oo = some (1, G', S') → va_P (dC, dI) classes (wM M2 T ++ ((ou, .inl (kL, 1, .inr (.inl oo))) :: wV M Y G S)) H → va_D (fun q => s.heap.size ≤ q) (wM M2 T ++ ((ou, .inl (kL, 1, .inr (.inl oo))) :: wV M Y G S)) → va_S (fun q => s.heap.size ≤ q) s.heap H locs → lv_has ls 8 [(0, .ref b), (1, .ref M.o_Vt), (2, .ref M2.o), (3, .ref ou), (4, .int y_4)] → W p l e room_1 s m #[Value.ref b] below meth c H locs (cB + G.gc) (sB + G.gs) (lw_Z below #[Value.ref b] s) (F0 m 1050 ls [.int z_0]) := by
    intro rec_33 hr_33 hm_33 y_4 z_0 Y G S T oo H locs ls h hP hD hS hl
    have mF := mo_law_1050 hm_33 h
    rw [f_law_1050] at h
    refine lv_istore (lv' := [(5, .int z_0), (0, .ref b), (1, .ref M.o_Vt), (2, .ref M2.o), (3, .ref ou), (4, .int y_4)]) hx hb d_La_law_1050 hl (by decide) rfl (fun ls hl => ?_)
    refine lv_aload_n hx hb d_La_law_1052 rfl (lv_at hl 3 rfl) ?_
    refine lv_aload_n hx hb d_La_law_1053 rfl (lv_at hl 1 rfl) ?_
    refine lv_iload hx hb d_La_law_1054 (lv_at hl 5 rfl) ?_
    refine lv_iconst (v := 1) hx hb d_La_law_1056 (by decide) ?_
    refine lv_iadd hx hb d_La_law_1057 ?_
    obtain ⟨g_182, h⟩ := lf_gE h
    refine va_sld hx hb hX hbl hbA hS g_182 d_La_law_1058 ?_
    refine lv_aload_n hx hb d_La_law_1059 rfl (lv_at hl 1 rfl) ?_
    refine lv_iload hx hb d_La_law_1060 (lv_at hl 5 rfl) ?_
    refine lv_iconst (v := 2) hx hb d_La_law_1062 (by decide) ?_
    refine lv_iadd hx hb d_La_law_1063 ?_
    obtain ⟨g_183, h⟩ := lf_gE h
    refine va_sld hx hb hX hbl hbA hS g_183 d_La_law_1064 ?_
    obtain ⟨r_184, T_184, hc_184, h⟩ := lf_cE h
    have hPc := lw_PL hP
    have hDc := lw_DL hD
    have hFc := lx_free hDc hS hA
    refine va_calli (va_runV (As := [.int (xs (y_4 + 1).toNatClampNeg), .int (xs (y_4 + 2).toNatClampNeg)]) (rest := []) ⟨hx, hb, hml, hown, hts⟩ (l_Mo_cut l dC dI X2 _ hc_184) (cwV 2 hts (gwV good_Lq (u_Lq_La _ k_La_96) (u_Lq_Mo _ k_Mo_355) (u_Lq_Mo _ k_Mo_356) (u_Lq_Mo _ k_Mo_0) (wcs (u_Lq_Mo _ k_Mo_357) u_Lq_Mq)) rfl rfl rfl (by decide +kernel) ⟨Nat.le_of_ble_eq_true rfl, Nat.le_of_ble_eq_true rfl⟩) (pv_ofE (X2.same _) (fun U z1 z2 => X2.mono _ _ U hFc (hEw _ _ hS U z1 z2)) hPc hKM hDc (va_recv hKM hPc (ci := 12) (q0 := 0) rfl rfl)) rfl rfl hl.1 rfl (lv_room (Nat.le_of_ble_eq_true rfl)) d_La_law_1065 ⟨lw_c0 mF.1 hGc, lw_c0 mF.2 hGs⟩) hS (fun q _ h => hFc q h) hFc (fun r_ u t H locs ht hvm hw hB hz1 hk1 hS => ?_)
    rw [hw]
    obtain ⟨hP1, -, hD1⟩ := hB
    rw [ht] at hP1
    obtain ⟨hP, hD⟩ := lw_jL hP hD hk1 hFc hP1 hD1
    refine lv_istore (lv' := [(6, .int r_184), (5, .int z_0), (0, .ref b), (1, .ref M.o_Vt), (2, .ref M2.o), (3, .ref ou), (4, .int y_4)]) hx hb d_La_law_1068 hl (by decide) rfl (fun ls hl => ?_)
    refine lv_aload_n hx hb d_La_law_1070 rfl (lv_at hl 4 rfl) ?_
    obtain ⟨r_185, T_185, hc_185, h⟩ := lf_cE h
    have hPc := lw_PL hP
    have hDc := lw_DL hD
    have hFc := lx_free hDc hS hA
    refine va_calli (va_runV (As := []) (rest := []) ⟨hx, hb, hml, hown, hts⟩ (l_Mo_thrown l dC dI X2 _ hc_185) (cwV 0 hts (gwV good_Lq (u_Lq_La _ k_La_78) (u_Lq_Mo _ k_Mo_73) (u_Lq_Mo _ k_Mo_74) (u_Lq_Mo _ k_Mo_0) (wcs (u_Lq_Mo _ k_Mo_75) u_Lq_Mq)) rfl rfl rfl (by decide +kernel) ⟨Nat.le_of_ble_eq_true rfl, Nat.le_of_ble_eq_true rfl⟩) (pv_ofE (X2.same _) (fun U z1 z2 => X2.mono _ _ U hFc (hEw _ _ hS U z1 z2)) hPc hKM hDc (va_recv hKM hPc (ci := 12) (q0 := 0) rfl rfl)) rfl rfl hl.1 rfl (lv_room (Nat.le_of_ble_eq_true rfl)) d_La_law_1071 ⟨lw_c0 mF.1 hGc, lw_c0 mF.2 hGs⟩) hS (fun q _ h => hFc q h) hFc (fun r_ u t H locs ht hvm hw hB hz1 hk1 hS => ?_)
    rw [hw]
    obtain ⟨hP1, -, hD1⟩ := hB
    rw [ht] at hP1
    obtain ⟨hP, hD⟩ := lw_jL hP hD hk1 hFc hP1 hD1
    refine lv_iload hx hb d_La_law_1074 (lv_at hl 1 rfl) ?_
    refine lv_icmp_eq (tgt := 1081) hx hb d_La_law_1076 (by decide) (fun c_186 => ?_) (fun c_186 => ?_)
    · have h := lf_t h c_186
      refine lv_iload hx hb d_La_law_1081 (lv_at hl 1 rfl) ?_
      refine lv_if_ne (tgt := 1098) hx hb d_La_law_1083 (by decide) (fun c_187 => ?_) (fun c_187 => ?_)
      · have h := lf_f h c_187
        exact hB_1098 _ hr_33 hm_33 y_4 Y G S T_185 oo _ _ _ h hP hD hS (lv_sub hl [2, 3, 4, 5, 6] rfl)
      · have h := lf_t h c_187
        refine lv_aload_n hx hb d_La_law_1086 rfl (lv_at hl 5 rfl) ?_
        refine lv_iconst (v := 0) hx hb d_La_law_1087 (by decide) ?_
        refine va_lald hx hb hK hP 28 27 rfl rfl (by unfold vp_in; decide) d_La_law_1088 ?_
        refine lv_iload hx hb d_La_law_1089 (lv_at hl 0 rfl) ?_
        refine lv_i2l hx hb d_La_law_1091 rfl ?_
        refine W.lcmp hx hb d_La_law_1092 ?_
        refine lv_if_eq (tgt := 1098) hx hb d_La_law_1093 (by decide) (fun c_188 => ?_) (fun c_188 => ?_)
        · have h := lf_t h c_188
          exact hB_1098 _ hr_33 hm_33 y_4 Y G S T_185 oo _ _ _ h hP hD hS (lv_sub hl [2, 3, 4, 5, 6] rfl)
        · have h := lf_f h c_188
          refine lv_iconst (v := 0) hx hb d_La_law_1096 (by decide) ?_
          exact lf_01 h
    · have h := lf_f h c_186
      refine lv_iconst (v := 0) hx hb d_La_law_1079 (by decide) ?_
      exact lf_01 h
  have hB_1033 : ∀ (rec_33 : Int32 → CG → CS → MS → (Nat → Int64) → Option (Int32 × CG × CS)) (hr_33 : ∀ (y_4 : Int32) (Y : CT) (G : CG) (S : CS) (T : MS) (oo : Nat → Int64) (H : Heap) (locs : List Loc) (ls : Array Slot), rec_33 y_4 G S T oo = some (1, G', S') → va_P (dC, dI) classes (wM M2 T ++ ((ou, .inl (kL, 1, .inr (.inl oo))) :: wV M Y G S)) H → va_D (fun q => s.heap.size ≤ q) (wM M2 T ++ ((ou, .inl (kL, 1, .inr (.inl oo))) :: wV M Y G S)) → va_S (fun q => s.heap.size ≤ q) s.heap H locs → lv_has ls 8 [(0, .ref b), (1, .ref M.o_Vt), (2, .ref M2.o), (3, .ref ou), (4, .int y_4)] → W p l e room_1 s m #[Value.ref b] below meth c H locs (cB + G.gc) (sB + G.gs) (lw_Z below #[Value.ref b] s) (F0 m 33 ls [])) (hm_33 : ∀ (y_4 : Int32) (G : CG) (S : CS) (T : MS) (oo : Nat → Int64) {x : Int32} {G1 : CG} {S1 : CS}, rec_33 y_4 G S T oo = some (x, G1, S1) → CG.le G G1), ∀ (y_4 : Int32) (Y : CT) (G : CG) (S : CS) (T : MS) (oo : Nat → Int64) (H : Heap) (locs : List Loc) (ls : Array Slot), f_law_1033 K L xs rec_33 y_4 G S T oo = some (1, G', S') → va_P (dC, dI) classes (wM M2 T ++ ((ou, .inl (kL, 1, .inr (.inl oo))) :: wV M Y G S)) H → va_D (fun q => s.heap.size ≤ q) (wM M2 T ++ ((ou, .inl (kL, 1, .inr (.inl oo))) :: wV M Y G S)) → va_S (fun q => s.heap.size ≤ q) s.heap H locs → lv_has ls 8 [(0, .ref b), (1, .ref M.o_Vt), (2, .ref M2.o), (3, .ref ou), (4, .int y_4)] → W p l e room_1 s m #[Value.ref b] below meth c H locs (cB + G.gc) (sB + G.gs) (lw_Z below #[Value.ref b] s) (F0 m 1033 ls []) := by
    intro rec_33 hr_33 hm_33 y_4 Y G S T oo H locs ls h hP hD hS hl
    have mF := mo_law_1033 hm_33 h
    rw [f_law_1033] at h
    refine lv_aload_n hx hb d_La_law_1033 rfl (lv_at hl 1 rfl) ?_
    refine lv_aload_n hx hb d_La_law_1034 rfl (lv_at hl 0 rfl) ?_
    refine lv_iload hx hb d_La_law_1035 (lv_at hl 4 rfl) ?_
    refine lv_iconst (v := 1) hx hb d_La_law_1037 (by decide) ?_
    refine lv_iadd hx hb d_La_law_1038 ?_
    obtain ⟨g_86, h⟩ := lf_gE h
    refine va_sld hx hb hX hbl hbA hS g_86 d_La_law_1039 ?_
    refine lv_aload_n hx hb d_La_law_1040 rfl (lv_at hl 0 rfl) ?_
    refine lv_iload hx hb d_La_law_1041 (lv_at hl 4 rfl) ?_
    refine lv_iconst (v := 2) hx hb d_La_law_1043 (by decide) ?_
    refine lv_iadd hx hb d_La_law_1044 ?_
    obtain ⟨g_87, h⟩ := lf_gE h
    refine va_sld hx hb hX hbl hbA hS g_87 d_La_law_1045 ?_
    refine lv_aload_n hx hb d_La_law_1046 rfl (lv_at hl 3 rfl) ?_
    rcases lf_hE h with ⟨r_88, G_88, S_88, hc_88, h⟩ | ⟨k_88, G_88, S_88, hc_88, h⟩
    · obtain ⟨oo_88, eo_88, h⟩ := lf_lX h
      have ml_88 := mo_Vt_cut hc_88
      have mc := mo_Vt_cut hc_88
      have mF1 := mo_law_1050 hm_33 h
      have hPa := hP
      have hDa := hD
      have hPc := lw_PR hPa
      have hDc := lw_DR hDa
      have hFc := lx_free hDc hS hA
      refine va_calli (x_runSW (handlers := [(0, 10, 13, 19), (0, 10, 17, 25), (0, 10, 21, 13)]) (bytes := b_La_cut) (maxL := 5) (ret := (some .int)) (n := 4) (index := 149) (As := [.ref M.o_Vt, .int (xs (y_4 + 1).toNatClampNeg), .int (xs (y_4 + 2).toNatClampNeg), .ref ou]) (rest := []) ⟨hx, hb, hml, hown, hts⟩ (la_cut_ok l hfl dC dI X _ ou kL oo hc_88) rfl rfl (Nat.le_of_ble_eq_true rfl) (Nat.le_of_ble_eq_true rfl) (pay_in hts (fun w h => good_Lq w (wcs (u_Lq_La _ k_La_62) (fun _ h => h) w h))) List.mem_cons_self (hts _ (u_Lq_La _ k_La_0)) ⟨(by decide), (by decide)⟩ (hlen_of (by decide +kernel)) (hts _ (u_Lq_La _ k_La_60)) (hts _ (u_Lq_La _ k_La_61)) (ps_ofE (X.same _) (fun U z1 z2 => X.mono _ _ U hFc (hEw _ _ hS U z1 z2)) hPc hKH hDc) rfl rfl hl.1 rfl (lv_room (Nat.le_of_ble_eq_true rfl)) d_La_law_1047 ⟨lw_c1 mc.1 mF1.1 hGc, lw_c1 mc.2 mF1.2 hGs⟩) hS (fun q _ h => hFc q h) hFc (fun r_ Y_88 t H locs ht hvm hw hB hz1 hk1 hS => ?_)
      rw [hw]
      obtain ⟨hP1, -, hD1⟩ := hB
      rw [ht] at hP1
      rw [← eo_88] at hP1 hD1
      obtain ⟨hP, hD⟩ := lw_jR hPa hDa hk1 hFc hP1 hD1
      refine W.widen (k := cB + G_88.gc) (n := sB + G_88.gs) (lw_c2 mc.1) (lw_c2 mc.2) ?_
      exact hB_1050 _ hr_33 hm_33 y_4 0 Y_88 G_88 S_88 T oo_88 _ _ _ h hP hD hS (lv_sub hl [0, 1, 2, 3, 4] rfl)
    · by_cases c_88_0 : k_88 = 0
      · have h := lf_t h c_88_0
        rw [c_88_0] at hc_88
        have ml_88 := mo_Vt_cut hc_88
        have mc := mo_Vt_cut hc_88
        have mF1 := mo_law_1050 hm_33 h
        have hPa := hP
        have hDa := hD
        have hPc := lw_PR hPa
        have hDc := lw_DR hDa
        have hFc := lx_free hDc hS hA
        refine va_calli (x_runSW (handlers := [(0, 10, 13, 19), (0, 10, 17, 25), (0, 10, 21, 13)]) (bytes := b_La_cut) (maxL := 5) (ret := (some .int)) (n := 4) (index := 149) (As := [.ref M.o_Vt, .int (xs (y_4 + 1).toNatClampNeg), .int (xs (y_4 + 2).toNatClampNeg), .ref ou]) (rest := []) ⟨hx, hb, hml, hown, hts⟩ (la_cut_0 l hfl dC dI X Xm _ ou kL oo hc_88) rfl rfl (Nat.le_of_ble_eq_true rfl) (Nat.le_of_ble_eq_true rfl) (pay_in hts (fun w h => good_Lq w (wcs (u_Lq_La _ k_La_62) (fun _ h => h) w h))) List.mem_cons_self (hts _ (u_Lq_La _ k_La_0)) ⟨(by decide), (by decide)⟩ (hlen_of (by decide +kernel)) (hts _ (u_Lq_La _ k_La_60)) (hts _ (u_Lq_La _ k_La_61)) (ps_ofE (X.same _) (fun U z1 z2 => X.mono _ _ U hFc (hEw _ _ hS U z1 z2)) hPc hKH hDc) rfl rfl hl.1 rfl (lv_room (Nat.le_of_ble_eq_true rfl)) d_La_law_1047 ⟨lw_c1 mc.1 mF1.1 hGc, lw_c1 mc.2 mF1.2 hGs⟩) hS (fun q _ h => hFc q h) hFc (fun r_ Y_88 t H locs ht hvm hw hB hz1 hk1 hS => ?_)
        rw [hw]
        obtain ⟨hP1, -, hD1⟩ := hB
        rw [ht] at hP1
        obtain ⟨hP, hD⟩ := lw_jR hPa hDa hk1 hFc hP1 hD1
        refine W.widen (k := cB + G_88.gc) (n := sB + G_88.gs) (lw_c2 mc.1) (lw_c2 mc.2) ?_
        exact hB_1050 _ hr_33 hm_33 y_4 3 Y_88 G_88 S_88 T oo _ _ _ h hP hD hS (lv_sub hl [0, 1, 2, 3, 4] rfl)
      · have h := lf_f h c_88_0
        by_cases c_88_1 : k_88 = 1
        · have h := lf_t h c_88_1
          rw [c_88_1] at hc_88
          have ml_88 := mo_Vt_cut hc_88
          have mc := mo_Vt_cut hc_88
          have mF1 := mo_law_1050 hm_33 h
          have hPa := hP
          have hDa := hD
          have hPc := lw_PR hPa
          have hDc := lw_DR hDa
          have hFc := lx_free hDc hS hA
          refine va_calli (x_runSW (handlers := [(0, 10, 13, 19), (0, 10, 17, 25), (0, 10, 21, 13)]) (bytes := b_La_cut) (maxL := 5) (ret := (some .int)) (n := 4) (index := 149) (As := [.ref M.o_Vt, .int (xs (y_4 + 1).toNatClampNeg), .int (xs (y_4 + 2).toNatClampNeg), .ref ou]) (rest := []) ⟨hx, hb, hml, hown, hts⟩ (la_cut_1 l hfl dC dI X _ ou kL oo hc_88) rfl rfl (Nat.le_of_ble_eq_true rfl) (Nat.le_of_ble_eq_true rfl) (pay_in hts (fun w h => good_Lq w (wcs (u_Lq_La _ k_La_62) (fun _ h => h) w h))) List.mem_cons_self (hts _ (u_Lq_La _ k_La_0)) ⟨(by decide), (by decide)⟩ (hlen_of (by decide +kernel)) (hts _ (u_Lq_La _ k_La_60)) (hts _ (u_Lq_La _ k_La_61)) (ps_ofE (X.same _) (fun U z1 z2 => X.mono _ _ U hFc (hEw _ _ hS U z1 z2)) hPc hKH hDc) rfl rfl hl.1 rfl (lv_room (Nat.le_of_ble_eq_true rfl)) d_La_law_1047 ⟨lw_c1 mc.1 mF1.1 hGc, lw_c1 mc.2 mF1.2 hGs⟩) hS (fun q _ h => hFc q h) hFc (fun r_ Y_88 t H locs ht hvm hw hB hz1 hk1 hS => ?_)
          rw [hw]
          obtain ⟨hP1, -, hD1⟩ := hB
          rw [ht] at hP1
          obtain ⟨hP, hD⟩ := lw_jR hPa hDa hk1 hFc hP1 hD1
          refine W.widen (k := cB + G_88.gc) (n := sB + G_88.gs) (lw_c2 mc.1) (lw_c2 mc.2) ?_
          exact hB_1050 _ hr_33 hm_33 y_4 1 Y_88 G_88 S_88 T oo _ _ _ h hP hD hS (lv_sub hl [0, 1, 2, 3, 4] rfl)
        · have h := lf_f h c_88_1
          by_cases c_88_2 : k_88 = 2
          · have h := lf_t h c_88_2
            rw [c_88_2] at hc_88
            have ml_88 := mo_Vt_cut hc_88
            have mc := mo_Vt_cut hc_88
            have mF1 := mo_law_1050 hm_33 h
            have hPa := hP
            have hDa := hD
            have hPc := lw_PR hPa
            have hDc := lw_DR hDa
            have hFc := lx_free hDc hS hA
            refine va_calli (x_runSW (handlers := [(0, 10, 13, 19), (0, 10, 17, 25), (0, 10, 21, 13)]) (bytes := b_La_cut) (maxL := 5) (ret := (some .int)) (n := 4) (index := 149) (As := [.ref M.o_Vt, .int (xs (y_4 + 1).toNatClampNeg), .int (xs (y_4 + 2).toNatClampNeg), .ref ou]) (rest := []) ⟨hx, hb, hml, hown, hts⟩ (la_cut_2 l hfl dC dI X Xm _ ou kL oo hc_88) rfl rfl (Nat.le_of_ble_eq_true rfl) (Nat.le_of_ble_eq_true rfl) (pay_in hts (fun w h => good_Lq w (wcs (u_Lq_La _ k_La_62) (fun _ h => h) w h))) List.mem_cons_self (hts _ (u_Lq_La _ k_La_0)) ⟨(by decide), (by decide)⟩ (hlen_of (by decide +kernel)) (hts _ (u_Lq_La _ k_La_60)) (hts _ (u_Lq_La _ k_La_61)) (ps_ofE (X.same _) (fun U z1 z2 => X.mono _ _ U hFc (hEw _ _ hS U z1 z2)) hPc hKH hDc) rfl rfl hl.1 rfl (lv_room (Nat.le_of_ble_eq_true rfl)) d_La_law_1047 ⟨lw_c1 mc.1 mF1.1 hGc, lw_c1 mc.2 mF1.2 hGs⟩) hS (fun q _ h => hFc q h) hFc (fun r_ Y_88 t H locs ht hvm hw hB hz1 hk1 hS => ?_)
            rw [hw]
            obtain ⟨hP1, -, hD1⟩ := hB
            rw [ht] at hP1
            obtain ⟨hP, hD⟩ := lw_jR hPa hDa hk1 hFc hP1 hD1
            refine W.widen (k := cB + G_88.gc) (n := sB + G_88.gs) (lw_c2 mc.1) (lw_c2 mc.2) ?_
            exact hB_1050 _ hr_33 hm_33 y_4 2 Y_88 G_88 S_88 T oo _ _ _ h hP hD hS (lv_sub hl [0, 1, 2, 3, 4] rfl)
          · have h := lf_f h c_88_2
            exact lf_no h
  have hB_1111 : ∀ (rec_33 : Int32 → CG → CS → MS → (Nat → Int64) → Option (Int32 × CG × CS)) (hr_33 : ∀ (y_4 : Int32) (Y : CT) (G : CG) (S : CS) (T : MS) (oo : Nat → Int64) (H : Heap) (locs : List Loc) (ls : Array Slot), rec_33 y_4 G S T oo = some (1, G', S') → va_P (dC, dI) classes (wM M2 T ++ ((ou, .inl (kL, 1, .inr (.inl oo))) :: wV M Y G S)) H → va_D (fun q => s.heap.size ≤ q) (wM M2 T ++ ((ou, .inl (kL, 1, .inr (.inl oo))) :: wV M Y G S)) → va_S (fun q => s.heap.size ≤ q) s.heap H locs → lv_has ls 8 [(0, .ref b), (1, .ref M.o_Vt), (2, .ref M2.o), (3, .ref ou), (4, .int y_4)] → W p l e room_1 s m #[Value.ref b] below meth c H locs (cB + G.gc) (sB + G.gs) (lw_Z below #[Value.ref b] s) (F0 m 33 ls [])) (hm_33 : ∀ (y_4 : Int32) (G : CG) (S : CS) (T : MS) (oo : Nat → Int64) {x : Int32} {G1 : CG} {S1 : CS}, rec_33 y_4 G S T oo = some (x, G1, S1) → CG.le G G1), ∀ (y_4 : Int32) (z_0 : Int32) (Y : CT) (G : CG) (S : CS) (T : MS) (oo : Nat → Int64) (H : Heap) (locs : List Loc) (ls : Array Slot), f_law_1111 K L xs rec_33 y_4 z_0 G S T oo = some (1, G', S') → va_P (dC, dI) classes (wM M2 T ++ ((ou, .inl (kL, 1, .inr (.inl oo))) :: wV M Y G S)) H → va_D (fun q => s.heap.size ≤ q) (wM M2 T ++ ((ou, .inl (kL, 1, .inr (.inl oo))) :: wV M Y G S)) → va_S (fun q => s.heap.size ≤ q) s.heap H locs → lv_has ls 8 [(0, .ref b), (1, .ref M.o_Vt), (2, .ref M2.o), (3, .ref ou), (4, .int y_4)] → W p l e room_1 s m #[Value.ref b] below meth c H locs (cB + G.gc) (sB + G.gs) (lw_Z below #[Value.ref b] s) (F0 m 1111 ls [.int z_0]) := by
    intro rec_33 hr_33 hm_33 y_4 z_0 Y G S T oo H locs ls h hP hD hS hl
    have mF := mo_law_1111 hm_33 h
    rw [f_law_1111] at h
    refine lv_istore (lv' := [(5, .int z_0), (0, .ref b), (1, .ref M.o_Vt), (2, .ref M2.o), (3, .ref ou), (4, .int y_4)]) hx hb d_La_law_1111 hl (by decide) rfl (fun ls hl => ?_)
    refine lv_aload_n hx hb d_La_law_1113 rfl (lv_at hl 3 rfl) ?_
    refine lv_aload_n hx hb d_La_law_1114 rfl (lv_at hl 1 rfl) ?_
    refine lv_iload hx hb d_La_law_1115 (lv_at hl 5 rfl) ?_
    refine lv_iconst (v := 1) hx hb d_La_law_1117 (by decide) ?_
    refine lv_iadd hx hb d_La_law_1118 ?_
    obtain ⟨g_189, h⟩ := lf_gE h
    refine va_sld hx hb hX hbl hbA hS g_189 d_La_law_1119 ?_
    obtain ⟨T_190, hc_190, h⟩ := lf_bE h
    have hPc := lw_PL hP
    have hDc := lw_DL hD
    have hFc := lx_free hDc hS hA
    refine va_callv (va_runV (As := [.int (xs (y_4 + 1).toNatClampNeg)]) (rest := []) ⟨hx, hb, hml, hown, hts⟩ (l_Mo_remove l dC dI X2 _ hc_190) (cwV 1 hts (gwV good_Lq (u_Lq_La _ k_La_97) (u_Lq_Mo _ k_Mo_358) (u_Lq_Mo _ k_Mo_359) (u_Lq_Mo _ k_Mo_0) (wcs (u_Lq_Mo _ k_Mo_360) u_Lq_Mq)) rfl rfl rfl (by decide +kernel) ⟨Nat.le_of_ble_eq_true rfl, Nat.le_of_ble_eq_true rfl⟩) (pv_ofE (X2.same _) (fun U z1 z2 => X2.mono _ _ U hFc (hEw _ _ hS U z1 z2)) hPc hKM hDc (va_recv hKM hPc (ci := 12) (q0 := 0) rfl rfl)) rfl rfl hl.1 rfl (lv_room (Nat.le_of_ble_eq_true rfl)) d_La_law_1120 ⟨lw_c0 mF.1 hGc, lw_c0 mF.2 hGs⟩) hS (fun q _ h => hFc q h) hFc (fun u t H locs ht hvm hw hB hz1 hk1 hS => ?_)
    obtain ⟨hP1, -, hD1⟩ := hB
    rw [ht] at hP1
    obtain ⟨hP, hD⟩ := lw_jL hP hD hk1 hFc hP1 hD1
    refine lv_aload_n hx hb d_La_law_1123 rfl (lv_at hl 3 rfl) ?_
    obtain ⟨r_191, T_191, hc_191, h⟩ := lf_cE h
    have hPc := lw_PL hP
    have hDc := lw_DL hD
    have hFc := lx_free hDc hS hA
    refine va_calli (va_runV (As := []) (rest := []) ⟨hx, hb, hml, hown, hts⟩ (l_Mo_thrown l dC dI X2 _ hc_191) (cwV 0 hts (gwV good_Lq (u_Lq_La _ k_La_78) (u_Lq_Mo _ k_Mo_73) (u_Lq_Mo _ k_Mo_74) (u_Lq_Mo _ k_Mo_0) (wcs (u_Lq_Mo _ k_Mo_75) u_Lq_Mq)) rfl rfl rfl (by decide +kernel) ⟨Nat.le_of_ble_eq_true rfl, Nat.le_of_ble_eq_true rfl⟩) (pv_ofE (X2.same _) (fun U z1 z2 => X2.mono _ _ U hFc (hEw _ _ hS U z1 z2)) hPc hKM hDc (va_recv hKM hPc (ci := 12) (q0 := 0) rfl rfl)) rfl rfl hl.1 rfl (lv_room (Nat.le_of_ble_eq_true rfl)) d_La_law_1124 ⟨lw_c0 mF.1 hGc, lw_c0 mF.2 hGs⟩) hS (fun q _ h => hFc q h) hFc (fun r_ u t H locs ht hvm hw hB hz1 hk1 hS => ?_)
    rw [hw]
    obtain ⟨hP1, -, hD1⟩ := hB
    rw [ht] at hP1
    obtain ⟨hP, hD⟩ := lw_jL hP hD hk1 hFc hP1 hD1
    refine lv_iload hx hb d_La_law_1127 (lv_at hl 0 rfl) ?_
    refine lv_icmp_eq (tgt := 1134) hx hb d_La_law_1129 (by decide) (fun c_192 => ?_) (fun c_192 => ?_)
    · have h := lf_t h c_192
      refine lv_goto (tgt := 1388) hx hb d_La_law_1134 (by decide) ?_
      exact hB_1388 _ hr_33 hm_33 y_4 Y G S T_191 oo _ _ _ h hP hD hS (lv_sub hl [1, 2, 3, 4, 5] rfl)
    · have h := lf_f h c_192
      refine lv_iconst (v := 0) hx hb d_La_law_1132 (by decide) ?_
      exact lf_01 h
  have hB_1101 : ∀ (rec_33 : Int32 → CG → CS → MS → (Nat → Int64) → Option (Int32 × CG × CS)) (hr_33 : ∀ (y_4 : Int32) (Y : CT) (G : CG) (S : CS) (T : MS) (oo : Nat → Int64) (H : Heap) (locs : List Loc) (ls : Array Slot), rec_33 y_4 G S T oo = some (1, G', S') → va_P (dC, dI) classes (wM M2 T ++ ((ou, .inl (kL, 1, .inr (.inl oo))) :: wV M Y G S)) H → va_D (fun q => s.heap.size ≤ q) (wM M2 T ++ ((ou, .inl (kL, 1, .inr (.inl oo))) :: wV M Y G S)) → va_S (fun q => s.heap.size ≤ q) s.heap H locs → lv_has ls 8 [(0, .ref b), (1, .ref M.o_Vt), (2, .ref M2.o), (3, .ref ou), (4, .int y_4)] → W p l e room_1 s m #[Value.ref b] below meth c H locs (cB + G.gc) (sB + G.gs) (lw_Z below #[Value.ref b] s) (F0 m 33 ls [])) (hm_33 : ∀ (y_4 : Int32) (G : CG) (S : CS) (T : MS) (oo : Nat → Int64) {x : Int32} {G1 : CG} {S1 : CS}, rec_33 y_4 G S T oo = some (x, G1, S1) → CG.le G G1), ∀ (y_4 : Int32) (Y : CT) (G : CG) (S : CS) (T : MS) (oo : Nat → Int64) (H : Heap) (locs : List Loc) (ls : Array Slot), f_law_1101 K L xs rec_33 y_4 G S T oo = some (1, G', S') → va_P (dC, dI) classes (wM M2 T ++ ((ou, .inl (kL, 1, .inr (.inl oo))) :: wV M Y G S)) H → va_D (fun q => s.heap.size ≤ q) (wM M2 T ++ ((ou, .inl (kL, 1, .inr (.inl oo))) :: wV M Y G S)) → va_S (fun q => s.heap.size ≤ q) s.heap H locs → lv_has ls 8 [(0, .ref b), (1, .ref M.o_Vt), (2, .ref M2.o), (3, .ref ou), (4, .int y_4)] → W p l e room_1 s m #[Value.ref b] below meth c H locs (cB + G.gc) (sB + G.gs) (lw_Z below #[Value.ref b] s) (F0 m 1101 ls []) := by
    intro rec_33 hr_33 hm_33 y_4 Y G S T oo H locs ls h hP hD hS hl
    have mF := mo_law_1101 hm_33 h
    rw [f_law_1101] at h
    refine lv_aload_n hx hb d_La_law_1101 rfl (lv_at hl 1 rfl) ?_
    refine lv_aload_n hx hb d_La_law_1102 rfl (lv_at hl 0 rfl) ?_
    refine lv_iload hx hb d_La_law_1103 (lv_at hl 4 rfl) ?_
    refine lv_iconst (v := 1) hx hb d_La_law_1105 (by decide) ?_
    refine lv_iadd hx hb d_La_law_1106 ?_
    obtain ⟨g_89, h⟩ := lf_gE h
    refine va_sld hx hb hX hbl hbA hS g_89 d_La_law_1107 ?_
    rcases lf_hE h with ⟨r_90, G_90, S_90, hc_90, h⟩ | ⟨k_90, G_90, S_90, hc_90, h⟩
    · have ml_90 := mo_Vt_remove hc_90
      have mc := mo_Vt_remove hc_90
      have mF1 := mo_law_1111 hm_33 h
      have hPa := lw_as hP
      have hDa := lw_asD hD
      have hPc := lw_PR hPa
      have hDc := lw_DR hDa
      have hFc := lx_free hDc hS hA
      refine va_calli (x_runSW (handlers := [(0, 5, 8, 19), (0, 5, 11, 25), (0, 5, 14, 13)]) (bytes := b_La_remove) (maxL := 3) (ret := (some .int)) (n := 2) (index := 152) (As := [.ref M.o_Vt, .int (xs (y_4 + 1).toNatClampNeg)]) (rest := []) ⟨hx, hb, hml, hown, hts⟩ (la_remove_ok l hfl dC dI X _ hc_90) rfl rfl (Nat.le_of_ble_eq_true rfl) (Nat.le_of_ble_eq_true rfl) (pay_in hts (fun w h => good_Lq w (wcs (u_Lq_La _ k_La_66) (fun _ h => h) w h))) List.mem_cons_self (hts _ (u_Lq_La _ k_La_0)) ⟨(by decide), (by decide)⟩ (hlen_of (by decide +kernel)) (hts _ (u_Lq_La _ k_La_64)) (hts _ (u_Lq_La _ k_La_65)) (ps_ofE (X.same _) (fun U z1 z2 => X.mono _ _ U hFc (hEw _ _ hS U z1 z2)) hPc hKV hDc) rfl rfl hl.1 rfl (lv_room (Nat.le_of_ble_eq_true rfl)) d_La_law_1108 ⟨lw_c1 mc.1 mF1.1 hGc, lw_c1 mc.2 mF1.2 hGs⟩) hS (fun q _ h => hFc q h) hFc (fun r_ Y_90 t H locs ht hvm hw hB hz1 hk1 hS => ?_)
      rw [hw]
      obtain ⟨hP1, -, hD1⟩ := hB
      rw [ht] at hP1
      obtain ⟨hP, hD⟩ := lw_jR hPa hDa hk1 hFc hP1 hD1
      have hP := lw_sa hP
      have hD := lw_saD hD
      refine W.widen (k := cB + G_90.gc) (n := sB + G_90.gs) (lw_c2 mc.1) (lw_c2 mc.2) ?_
      exact hB_1111 _ hr_33 hm_33 y_4 0 Y_90 G_90 S_90 T oo _ _ _ h hP hD hS (lv_sub hl [0, 1, 2, 3, 4] rfl)
    · by_cases c_90_0 : k_90 = 0
      · have h := lf_t h c_90_0
        rw [c_90_0] at hc_90
        have ml_90 := mo_Vt_remove hc_90
        have mc := mo_Vt_remove hc_90
        have mF1 := mo_law_1111 hm_33 h
        have hPa := lw_as hP
        have hDa := lw_asD hD
        have hPc := lw_PR hPa
        have hDc := lw_DR hDa
        have hFc := lx_free hDc hS hA
        refine va_calli (x_runSW (handlers := [(0, 5, 8, 19), (0, 5, 11, 25), (0, 5, 14, 13)]) (bytes := b_La_remove) (maxL := 3) (ret := (some .int)) (n := 2) (index := 152) (As := [.ref M.o_Vt, .int (xs (y_4 + 1).toNatClampNeg)]) (rest := []) ⟨hx, hb, hml, hown, hts⟩ (la_remove_0 l hfl dC dI X Xm _ hc_90) rfl rfl (Nat.le_of_ble_eq_true rfl) (Nat.le_of_ble_eq_true rfl) (pay_in hts (fun w h => good_Lq w (wcs (u_Lq_La _ k_La_66) (fun _ h => h) w h))) List.mem_cons_self (hts _ (u_Lq_La _ k_La_0)) ⟨(by decide), (by decide)⟩ (hlen_of (by decide +kernel)) (hts _ (u_Lq_La _ k_La_64)) (hts _ (u_Lq_La _ k_La_65)) (ps_ofE (X.same _) (fun U z1 z2 => X.mono _ _ U hFc (hEw _ _ hS U z1 z2)) hPc hKV hDc) rfl rfl hl.1 rfl (lv_room (Nat.le_of_ble_eq_true rfl)) d_La_law_1108 ⟨lw_c1 mc.1 mF1.1 hGc, lw_c1 mc.2 mF1.2 hGs⟩) hS (fun q _ h => hFc q h) hFc (fun r_ Y_90 t H locs ht hvm hw hB hz1 hk1 hS => ?_)
        rw [hw]
        obtain ⟨hP1, -, hD1⟩ := hB
        rw [ht] at hP1
        obtain ⟨hP, hD⟩ := lw_jR hPa hDa hk1 hFc hP1 hD1
        have hP := lw_sa hP
        have hD := lw_saD hD
        refine W.widen (k := cB + G_90.gc) (n := sB + G_90.gs) (lw_c2 mc.1) (lw_c2 mc.2) ?_
        exact hB_1111 _ hr_33 hm_33 y_4 3 Y_90 G_90 S_90 T oo _ _ _ h hP hD hS (lv_sub hl [0, 1, 2, 3, 4] rfl)
      · have h := lf_f h c_90_0
        by_cases c_90_1 : k_90 = 1
        · have h := lf_t h c_90_1
          rw [c_90_1] at hc_90
          have ml_90 := mo_Vt_remove hc_90
          have mc := mo_Vt_remove hc_90
          have mF1 := mo_law_1111 hm_33 h
          have hPa := lw_as hP
          have hDa := lw_asD hD
          have hPc := lw_PR hPa
          have hDc := lw_DR hDa
          have hFc := lx_free hDc hS hA
          refine va_calli (x_runSW (handlers := [(0, 5, 8, 19), (0, 5, 11, 25), (0, 5, 14, 13)]) (bytes := b_La_remove) (maxL := 3) (ret := (some .int)) (n := 2) (index := 152) (As := [.ref M.o_Vt, .int (xs (y_4 + 1).toNatClampNeg)]) (rest := []) ⟨hx, hb, hml, hown, hts⟩ (la_remove_1 l hfl dC dI X _ hc_90) rfl rfl (Nat.le_of_ble_eq_true rfl) (Nat.le_of_ble_eq_true rfl) (pay_in hts (fun w h => good_Lq w (wcs (u_Lq_La _ k_La_66) (fun _ h => h) w h))) List.mem_cons_self (hts _ (u_Lq_La _ k_La_0)) ⟨(by decide), (by decide)⟩ (hlen_of (by decide +kernel)) (hts _ (u_Lq_La _ k_La_64)) (hts _ (u_Lq_La _ k_La_65)) (ps_ofE (X.same _) (fun U z1 z2 => X.mono _ _ U hFc (hEw _ _ hS U z1 z2)) hPc hKV hDc) rfl rfl hl.1 rfl (lv_room (Nat.le_of_ble_eq_true rfl)) d_La_law_1108 ⟨lw_c1 mc.1 mF1.1 hGc, lw_c1 mc.2 mF1.2 hGs⟩) hS (fun q _ h => hFc q h) hFc (fun r_ Y_90 t H locs ht hvm hw hB hz1 hk1 hS => ?_)
          rw [hw]
          obtain ⟨hP1, -, hD1⟩ := hB
          rw [ht] at hP1
          obtain ⟨hP, hD⟩ := lw_jR hPa hDa hk1 hFc hP1 hD1
          have hP := lw_sa hP
          have hD := lw_saD hD
          refine W.widen (k := cB + G_90.gc) (n := sB + G_90.gs) (lw_c2 mc.1) (lw_c2 mc.2) ?_
          exact hB_1111 _ hr_33 hm_33 y_4 1 Y_90 G_90 S_90 T oo _ _ _ h hP hD hS (lv_sub hl [0, 1, 2, 3, 4] rfl)
        · have h := lf_f h c_90_1
          by_cases c_90_2 : k_90 = 2
          · have h := lf_t h c_90_2
            rw [c_90_2] at hc_90
            have ml_90 := mo_Vt_remove hc_90
            have mc := mo_Vt_remove hc_90
            have mF1 := mo_law_1111 hm_33 h
            have hPa := lw_as hP
            have hDa := lw_asD hD
            have hPc := lw_PR hPa
            have hDc := lw_DR hDa
            have hFc := lx_free hDc hS hA
            refine va_calli (x_runSW (handlers := [(0, 5, 8, 19), (0, 5, 11, 25), (0, 5, 14, 13)]) (bytes := b_La_remove) (maxL := 3) (ret := (some .int)) (n := 2) (index := 152) (As := [.ref M.o_Vt, .int (xs (y_4 + 1).toNatClampNeg)]) (rest := []) ⟨hx, hb, hml, hown, hts⟩ (la_remove_2 l hfl dC dI X Xm _ hc_90) rfl rfl (Nat.le_of_ble_eq_true rfl) (Nat.le_of_ble_eq_true rfl) (pay_in hts (fun w h => good_Lq w (wcs (u_Lq_La _ k_La_66) (fun _ h => h) w h))) List.mem_cons_self (hts _ (u_Lq_La _ k_La_0)) ⟨(by decide), (by decide)⟩ (hlen_of (by decide +kernel)) (hts _ (u_Lq_La _ k_La_64)) (hts _ (u_Lq_La _ k_La_65)) (ps_ofE (X.same _) (fun U z1 z2 => X.mono _ _ U hFc (hEw _ _ hS U z1 z2)) hPc hKV hDc) rfl rfl hl.1 rfl (lv_room (Nat.le_of_ble_eq_true rfl)) d_La_law_1108 ⟨lw_c1 mc.1 mF1.1 hGc, lw_c1 mc.2 mF1.2 hGs⟩) hS (fun q _ h => hFc q h) hFc (fun r_ Y_90 t H locs ht hvm hw hB hz1 hk1 hS => ?_)
            rw [hw]
            obtain ⟨hP1, -, hD1⟩ := hB
            rw [ht] at hP1
            obtain ⟨hP, hD⟩ := lw_jR hPa hDa hk1 hFc hP1 hD1
            have hP := lw_sa hP
            have hD := lw_saD hD
            refine W.widen (k := cB + G_90.gc) (n := sB + G_90.gs) (lw_c2 mc.1) (lw_c2 mc.2) ?_
            exact hB_1111 _ hr_33 hm_33 y_4 2 Y_90 G_90 S_90 T oo _ _ _ h hP hD hS (lv_sub hl [0, 1, 2, 3, 4] rfl)
          · have h := lf_f h c_90_2
            exact lf_no h
  have hB_1165 : ∀ (rec_33 : Int32 → CG → CS → MS → (Nat → Int64) → Option (Int32 × CG × CS)) (hr_33 : ∀ (y_4 : Int32) (Y : CT) (G : CG) (S : CS) (T : MS) (oo : Nat → Int64) (H : Heap) (locs : List Loc) (ls : Array Slot), rec_33 y_4 G S T oo = some (1, G', S') → va_P (dC, dI) classes (wM M2 T ++ ((ou, .inl (kL, 1, .inr (.inl oo))) :: wV M Y G S)) H → va_D (fun q => s.heap.size ≤ q) (wM M2 T ++ ((ou, .inl (kL, 1, .inr (.inl oo))) :: wV M Y G S)) → va_S (fun q => s.heap.size ≤ q) s.heap H locs → lv_has ls 8 [(0, .ref b), (1, .ref M.o_Vt), (2, .ref M2.o), (3, .ref ou), (4, .int y_4)] → W p l e room_1 s m #[Value.ref b] below meth c H locs (cB + G.gc) (sB + G.gs) (lw_Z below #[Value.ref b] s) (F0 m 33 ls [])) (hm_33 : ∀ (y_4 : Int32) (G : CG) (S : CS) (T : MS) (oo : Nat → Int64) {x : Int32} {G1 : CG} {S1 : CS}, rec_33 y_4 G S T oo = some (x, G1, S1) → CG.le G G1), ∀ (y_4 : Int32) (z_0 : Int32) (Y : CT) (G : CG) (S : CS) (T : MS) (oo : Nat → Int64) (H : Heap) (locs : List Loc) (ls : Array Slot), f_law_1165 K L xs rec_33 y_4 z_0 G S T oo = some (1, G', S') → va_P (dC, dI) classes (wM M2 T ++ ((ou, .inl (kL, 1, .inr (.inl oo))) :: wV M Y G S)) H → va_D (fun q => s.heap.size ≤ q) (wM M2 T ++ ((ou, .inl (kL, 1, .inr (.inl oo))) :: wV M Y G S)) → va_S (fun q => s.heap.size ≤ q) s.heap H locs → lv_has ls 8 [(0, .ref b), (1, .ref M.o_Vt), (2, .ref M2.o), (3, .ref ou), (4, .int y_4)] → W p l e room_1 s m #[Value.ref b] below meth c H locs (cB + G.gc) (sB + G.gs) (lw_Z below #[Value.ref b] s) (F0 m 1165 ls [.int z_0]) := by
    intro rec_33 hr_33 hm_33 y_4 z_0 Y G S T oo H locs ls h hP hD hS hl
    have mF := mo_law_1165 hm_33 h
    rw [f_law_1165] at h
    refine lv_istore (lv' := [(5, .int z_0), (0, .ref b), (1, .ref M.o_Vt), (2, .ref M2.o), (3, .ref ou), (4, .int y_4)]) hx hb d_La_law_1165 hl (by decide) rfl (fun ls hl => ?_)
    refine lv_aload_n hx hb d_La_law_1167 rfl (lv_at hl 3 rfl) ?_
    refine lv_aload_n hx hb d_La_law_1168 rfl (lv_at hl 1 rfl) ?_
    refine lv_iload hx hb d_La_law_1169 (lv_at hl 5 rfl) ?_
    refine lv_iconst (v := 1) hx hb d_La_law_1171 (by decide) ?_
    refine lv_iadd hx hb d_La_law_1172 ?_
    obtain ⟨g_193, h⟩ := lf_gE h
    refine va_sld hx hb hX hbl hbA hS g_193 d_La_law_1173 ?_
    refine lv_aload_n hx hb d_La_law_1174 rfl (lv_at hl 1 rfl) ?_
    refine lv_iload hx hb d_La_law_1175 (lv_at hl 5 rfl) ?_
    refine lv_iconst (v := 2) hx hb d_La_law_1177 (by decide) ?_
    refine lv_iadd hx hb d_La_law_1178 ?_
    obtain ⟨g_194, h⟩ := lf_gE h
    refine va_sld hx hb hX hbl hbA hS g_194 d_La_law_1179 ?_
    refine lv_aload_n hx hb d_La_law_1180 rfl (lv_at hl 1 rfl) ?_
    refine lv_iload hx hb d_La_law_1181 (lv_at hl 5 rfl) ?_
    refine lv_iconst (v := 3) hx hb d_La_law_1183 (by decide) ?_
    refine lv_iadd hx hb d_La_law_1184 ?_
    obtain ⟨g_195, h⟩ := lf_gE h
    refine va_sld hx hb hX hbl hbA hS g_195 d_La_law_1185 ?_
    refine lv_aload_n hx hb d_La_law_1186 rfl (lv_at hl 1 rfl) ?_
    refine lv_iload hx hb d_La_law_1187 (lv_at hl 5 rfl) ?_
    refine lv_iconst (v := 4) hx hb d_La_law_1189 (by decide) ?_
    refine lv_iadd hx hb d_La_law_1190 ?_
    obtain ⟨g_196, h⟩ := lf_gE h
    refine va_sld hx hb hX hbl hbA hS g_196 d_La_law_1191 ?_
    obtain ⟨T_197, hc_197, h⟩ := lf_bE h
    have hPc := lw_PL hP
    have hDc := lw_DL hD
    have hFc := lx_free hDc hS hA
    refine va_callv (va_runV (As := [.int (xs (y_4 + 1).toNatClampNeg), .int (xs (y_4 + 2).toNatClampNeg), .int (xs (y_4 + 3).toNatClampNeg), .int (xs (y_4 + 4).toNatClampNeg)]) (rest := []) ⟨hx, hb, hml, hown, hts⟩ (l_Mo_stamp l dC dI X2 _ hc_197) (cwV 4 hts (gwV good_Lq (u_Lq_La _ k_La_98) (u_Lq_Mo _ k_Mo_361) (u_Lq_Mo _ k_Mo_362) (u_Lq_Mo _ k_Mo_0) (wcs (u_Lq_Mo _ k_Mo_363) u_Lq_Mq)) rfl rfl rfl (by decide +kernel) ⟨Nat.le_of_ble_eq_true rfl, Nat.le_of_ble_eq_true rfl⟩) (pv_ofE (X2.same _) (fun U z1 z2 => X2.mono _ _ U hFc (hEw _ _ hS U z1 z2)) hPc hKM hDc (va_recv hKM hPc (ci := 12) (q0 := 0) rfl rfl)) rfl rfl hl.1 rfl (lv_room (Nat.le_of_ble_eq_true rfl)) d_La_law_1192 ⟨lw_c0 mF.1 hGc, lw_c0 mF.2 hGs⟩) hS (fun q _ h => hFc q h) hFc (fun u t H locs ht hvm hw hB hz1 hk1 hS => ?_)
    obtain ⟨hP1, -, hD1⟩ := hB
    rw [ht] at hP1
    obtain ⟨hP, hD⟩ := lw_jL hP hD hk1 hFc hP1 hD1
    refine lv_aload_n hx hb d_La_law_1195 rfl (lv_at hl 3 rfl) ?_
    obtain ⟨r_198, T_198, hc_198, h⟩ := lf_cE h
    have hPc := lw_PL hP
    have hDc := lw_DL hD
    have hFc := lx_free hDc hS hA
    refine va_calli (va_runV (As := []) (rest := []) ⟨hx, hb, hml, hown, hts⟩ (l_Mo_thrown l dC dI X2 _ hc_198) (cwV 0 hts (gwV good_Lq (u_Lq_La _ k_La_78) (u_Lq_Mo _ k_Mo_73) (u_Lq_Mo _ k_Mo_74) (u_Lq_Mo _ k_Mo_0) (wcs (u_Lq_Mo _ k_Mo_75) u_Lq_Mq)) rfl rfl rfl (by decide +kernel) ⟨Nat.le_of_ble_eq_true rfl, Nat.le_of_ble_eq_true rfl⟩) (pv_ofE (X2.same _) (fun U z1 z2 => X2.mono _ _ U hFc (hEw _ _ hS U z1 z2)) hPc hKM hDc (va_recv hKM hPc (ci := 12) (q0 := 0) rfl rfl)) rfl rfl hl.1 rfl (lv_room (Nat.le_of_ble_eq_true rfl)) d_La_law_1196 ⟨lw_c0 mF.1 hGc, lw_c0 mF.2 hGs⟩) hS (fun q _ h => hFc q h) hFc (fun r_ u t H locs ht hvm hw hB hz1 hk1 hS => ?_)
    rw [hw]
    obtain ⟨hP1, -, hD1⟩ := hB
    rw [ht] at hP1
    obtain ⟨hP, hD⟩ := lw_jL hP hD hk1 hFc hP1 hD1
    refine lv_iload hx hb d_La_law_1199 (lv_at hl 0 rfl) ?_
    refine lv_icmp_eq (tgt := 1206) hx hb d_La_law_1201 (by decide) (fun c_199 => ?_) (fun c_199 => ?_)
    · have h := lf_t h c_199
      refine lv_goto (tgt := 1388) hx hb d_La_law_1206 (by decide) ?_
      exact hB_1388 _ hr_33 hm_33 y_4 Y G S T_198 oo _ _ _ h hP hD hS (lv_sub hl [1, 2, 3, 4, 5] rfl)
    · have h := lf_f h c_199
      refine lv_iconst (v := 0) hx hb d_La_law_1204 (by decide) ?_
      exact lf_01 h
  have hB_1137 : ∀ (rec_33 : Int32 → CG → CS → MS → (Nat → Int64) → Option (Int32 × CG × CS)) (hr_33 : ∀ (y_4 : Int32) (Y : CT) (G : CG) (S : CS) (T : MS) (oo : Nat → Int64) (H : Heap) (locs : List Loc) (ls : Array Slot), rec_33 y_4 G S T oo = some (1, G', S') → va_P (dC, dI) classes (wM M2 T ++ ((ou, .inl (kL, 1, .inr (.inl oo))) :: wV M Y G S)) H → va_D (fun q => s.heap.size ≤ q) (wM M2 T ++ ((ou, .inl (kL, 1, .inr (.inl oo))) :: wV M Y G S)) → va_S (fun q => s.heap.size ≤ q) s.heap H locs → lv_has ls 8 [(0, .ref b), (1, .ref M.o_Vt), (2, .ref M2.o), (3, .ref ou), (4, .int y_4)] → W p l e room_1 s m #[Value.ref b] below meth c H locs (cB + G.gc) (sB + G.gs) (lw_Z below #[Value.ref b] s) (F0 m 33 ls [])) (hm_33 : ∀ (y_4 : Int32) (G : CG) (S : CS) (T : MS) (oo : Nat → Int64) {x : Int32} {G1 : CG} {S1 : CS}, rec_33 y_4 G S T oo = some (x, G1, S1) → CG.le G G1), ∀ (y_4 : Int32) (Y : CT) (G : CG) (S : CS) (T : MS) (oo : Nat → Int64) (H : Heap) (locs : List Loc) (ls : Array Slot), f_law_1137 K L xs rec_33 y_4 G S T oo = some (1, G', S') → va_P (dC, dI) classes (wM M2 T ++ ((ou, .inl (kL, 1, .inr (.inl oo))) :: wV M Y G S)) H → va_D (fun q => s.heap.size ≤ q) (wM M2 T ++ ((ou, .inl (kL, 1, .inr (.inl oo))) :: wV M Y G S)) → va_S (fun q => s.heap.size ≤ q) s.heap H locs → lv_has ls 8 [(0, .ref b), (1, .ref M.o_Vt), (2, .ref M2.o), (3, .ref ou), (4, .int y_4)] → W p l e room_1 s m #[Value.ref b] below meth c H locs (cB + G.gc) (sB + G.gs) (lw_Z below #[Value.ref b] s) (F0 m 1137 ls []) := by
    intro rec_33 hr_33 hm_33 y_4 Y G S T oo H locs ls h hP hD hS hl
    have mF := mo_law_1137 hm_33 h
    rw [f_law_1137] at h
    refine lv_aload_n hx hb d_La_law_1137 rfl (lv_at hl 1 rfl) ?_
    refine lv_aload_n hx hb d_La_law_1138 rfl (lv_at hl 0 rfl) ?_
    refine lv_iload hx hb d_La_law_1139 (lv_at hl 4 rfl) ?_
    refine lv_iconst (v := 1) hx hb d_La_law_1141 (by decide) ?_
    refine lv_iadd hx hb d_La_law_1142 ?_
    obtain ⟨g_91, h⟩ := lf_gE h
    refine va_sld hx hb hX hbl hbA hS g_91 d_La_law_1143 ?_
    refine lv_aload_n hx hb d_La_law_1144 rfl (lv_at hl 0 rfl) ?_
    refine lv_iload hx hb d_La_law_1145 (lv_at hl 4 rfl) ?_
    refine lv_iconst (v := 2) hx hb d_La_law_1147 (by decide) ?_
    refine lv_iadd hx hb d_La_law_1148 ?_
    obtain ⟨g_92, h⟩ := lf_gE h
    refine va_sld hx hb hX hbl hbA hS g_92 d_La_law_1149 ?_
    refine lv_aload_n hx hb d_La_law_1150 rfl (lv_at hl 0 rfl) ?_
    refine lv_iload hx hb d_La_law_1151 (lv_at hl 4 rfl) ?_
    refine lv_iconst (v := 3) hx hb d_La_law_1153 (by decide) ?_
    refine lv_iadd hx hb d_La_law_1154 ?_
    obtain ⟨g_93, h⟩ := lf_gE h
    refine va_sld hx hb hX hbl hbA hS g_93 d_La_law_1155 ?_
    refine lv_aload_n hx hb d_La_law_1156 rfl (lv_at hl 0 rfl) ?_
    refine lv_iload hx hb d_La_law_1157 (lv_at hl 4 rfl) ?_
    refine lv_iconst (v := 4) hx hb d_La_law_1159 (by decide) ?_
    refine lv_iadd hx hb d_La_law_1160 ?_
    obtain ⟨g_94, h⟩ := lf_gE h
    refine va_sld hx hb hX hbl hbA hS g_94 d_La_law_1161 ?_
    rcases lf_hE h with ⟨r_95, G_95, S_95, hc_95, h⟩ | ⟨k_95, G_95, S_95, hc_95, h⟩
    · have ml_95 := mo_Vt_stamp hc_95
      have mc := mo_Vt_stamp hc_95
      have mF1 := mo_law_1165 hm_33 h
      have hPa := lw_as hP
      have hDa := lw_asD hD
      have hPc := lw_PR hPa
      have hDc := lw_DR hDa
      have hFc := lx_free hDc hS hA
      refine va_calli (x_runSW (handlers := [(0, 9, 12, 19), (0, 9, 16, 25), (0, 9, 20, 13)]) (bytes := b_La_stamp) (maxL := 6) (ret := (some .int)) (n := 5) (index := 156) (As := [.ref M.o_Vt, .int (xs (y_4 + 1).toNatClampNeg), .int (xs (y_4 + 2).toNatClampNeg), .int (xs (y_4 + 3).toNatClampNeg), .int (xs (y_4 + 4).toNatClampNeg)]) (rest := []) ⟨hx, hb, hml, hown, hts⟩ (la_stamp_ok l hfl dC dI X _ hc_95) rfl rfl (Nat.le_of_ble_eq_true rfl) (Nat.le_of_ble_eq_true rfl) (pay_in hts (fun w h => good_Lq w (wcs (u_Lq_La _ k_La_70) (fun _ h => h) w h))) List.mem_cons_self (hts _ (u_Lq_La _ k_La_0)) ⟨(by decide), (by decide)⟩ (hlen_of (by decide +kernel)) (hts _ (u_Lq_La _ k_La_68)) (hts _ (u_Lq_La _ k_La_69)) (ps_ofE (X.same _) (fun U z1 z2 => X.mono _ _ U hFc (hEw _ _ hS U z1 z2)) hPc hKV hDc) rfl rfl hl.1 rfl (lv_room (Nat.le_of_ble_eq_true rfl)) d_La_law_1162 ⟨lw_c1 mc.1 mF1.1 hGc, lw_c1 mc.2 mF1.2 hGs⟩) hS (fun q _ h => hFc q h) hFc (fun r_ Y_95 t H locs ht hvm hw hB hz1 hk1 hS => ?_)
      rw [hw]
      obtain ⟨hP1, -, hD1⟩ := hB
      rw [ht] at hP1
      obtain ⟨hP, hD⟩ := lw_jR hPa hDa hk1 hFc hP1 hD1
      have hP := lw_sa hP
      have hD := lw_saD hD
      refine W.widen (k := cB + G_95.gc) (n := sB + G_95.gs) (lw_c2 mc.1) (lw_c2 mc.2) ?_
      exact hB_1165 _ hr_33 hm_33 y_4 0 Y_95 G_95 S_95 T oo _ _ _ h hP hD hS (lv_sub hl [0, 1, 2, 3, 4] rfl)
    · by_cases c_95_0 : k_95 = 0
      · have h := lf_t h c_95_0
        rw [c_95_0] at hc_95
        have ml_95 := mo_Vt_stamp hc_95
        have mc := mo_Vt_stamp hc_95
        have mF1 := mo_law_1165 hm_33 h
        have hPa := lw_as hP
        have hDa := lw_asD hD
        have hPc := lw_PR hPa
        have hDc := lw_DR hDa
        have hFc := lx_free hDc hS hA
        refine va_calli (x_runSW (handlers := [(0, 9, 12, 19), (0, 9, 16, 25), (0, 9, 20, 13)]) (bytes := b_La_stamp) (maxL := 6) (ret := (some .int)) (n := 5) (index := 156) (As := [.ref M.o_Vt, .int (xs (y_4 + 1).toNatClampNeg), .int (xs (y_4 + 2).toNatClampNeg), .int (xs (y_4 + 3).toNatClampNeg), .int (xs (y_4 + 4).toNatClampNeg)]) (rest := []) ⟨hx, hb, hml, hown, hts⟩ (la_stamp_0 l hfl dC dI X Xm _ hc_95) rfl rfl (Nat.le_of_ble_eq_true rfl) (Nat.le_of_ble_eq_true rfl) (pay_in hts (fun w h => good_Lq w (wcs (u_Lq_La _ k_La_70) (fun _ h => h) w h))) List.mem_cons_self (hts _ (u_Lq_La _ k_La_0)) ⟨(by decide), (by decide)⟩ (hlen_of (by decide +kernel)) (hts _ (u_Lq_La _ k_La_68)) (hts _ (u_Lq_La _ k_La_69)) (ps_ofE (X.same _) (fun U z1 z2 => X.mono _ _ U hFc (hEw _ _ hS U z1 z2)) hPc hKV hDc) rfl rfl hl.1 rfl (lv_room (Nat.le_of_ble_eq_true rfl)) d_La_law_1162 ⟨lw_c1 mc.1 mF1.1 hGc, lw_c1 mc.2 mF1.2 hGs⟩) hS (fun q _ h => hFc q h) hFc (fun r_ Y_95 t H locs ht hvm hw hB hz1 hk1 hS => ?_)
        rw [hw]
        obtain ⟨hP1, -, hD1⟩ := hB
        rw [ht] at hP1
        obtain ⟨hP, hD⟩ := lw_jR hPa hDa hk1 hFc hP1 hD1
        have hP := lw_sa hP
        have hD := lw_saD hD
        refine W.widen (k := cB + G_95.gc) (n := sB + G_95.gs) (lw_c2 mc.1) (lw_c2 mc.2) ?_
        exact hB_1165 _ hr_33 hm_33 y_4 3 Y_95 G_95 S_95 T oo _ _ _ h hP hD hS (lv_sub hl [0, 1, 2, 3, 4] rfl)
      · have h := lf_f h c_95_0
        by_cases c_95_1 : k_95 = 1
        · have h := lf_t h c_95_1
          rw [c_95_1] at hc_95
          have ml_95 := mo_Vt_stamp hc_95
          have mc := mo_Vt_stamp hc_95
          have mF1 := mo_law_1165 hm_33 h
          have hPa := lw_as hP
          have hDa := lw_asD hD
          have hPc := lw_PR hPa
          have hDc := lw_DR hDa
          have hFc := lx_free hDc hS hA
          refine va_calli (x_runSW (handlers := [(0, 9, 12, 19), (0, 9, 16, 25), (0, 9, 20, 13)]) (bytes := b_La_stamp) (maxL := 6) (ret := (some .int)) (n := 5) (index := 156) (As := [.ref M.o_Vt, .int (xs (y_4 + 1).toNatClampNeg), .int (xs (y_4 + 2).toNatClampNeg), .int (xs (y_4 + 3).toNatClampNeg), .int (xs (y_4 + 4).toNatClampNeg)]) (rest := []) ⟨hx, hb, hml, hown, hts⟩ (la_stamp_1 l hfl dC dI X _ hc_95) rfl rfl (Nat.le_of_ble_eq_true rfl) (Nat.le_of_ble_eq_true rfl) (pay_in hts (fun w h => good_Lq w (wcs (u_Lq_La _ k_La_70) (fun _ h => h) w h))) List.mem_cons_self (hts _ (u_Lq_La _ k_La_0)) ⟨(by decide), (by decide)⟩ (hlen_of (by decide +kernel)) (hts _ (u_Lq_La _ k_La_68)) (hts _ (u_Lq_La _ k_La_69)) (ps_ofE (X.same _) (fun U z1 z2 => X.mono _ _ U hFc (hEw _ _ hS U z1 z2)) hPc hKV hDc) rfl rfl hl.1 rfl (lv_room (Nat.le_of_ble_eq_true rfl)) d_La_law_1162 ⟨lw_c1 mc.1 mF1.1 hGc, lw_c1 mc.2 mF1.2 hGs⟩) hS (fun q _ h => hFc q h) hFc (fun r_ Y_95 t H locs ht hvm hw hB hz1 hk1 hS => ?_)
          rw [hw]
          obtain ⟨hP1, -, hD1⟩ := hB
          rw [ht] at hP1
          obtain ⟨hP, hD⟩ := lw_jR hPa hDa hk1 hFc hP1 hD1
          have hP := lw_sa hP
          have hD := lw_saD hD
          refine W.widen (k := cB + G_95.gc) (n := sB + G_95.gs) (lw_c2 mc.1) (lw_c2 mc.2) ?_
          exact hB_1165 _ hr_33 hm_33 y_4 1 Y_95 G_95 S_95 T oo _ _ _ h hP hD hS (lv_sub hl [0, 1, 2, 3, 4] rfl)
        · have h := lf_f h c_95_1
          by_cases c_95_2 : k_95 = 2
          · have h := lf_t h c_95_2
            rw [c_95_2] at hc_95
            have ml_95 := mo_Vt_stamp hc_95
            have mc := mo_Vt_stamp hc_95
            have mF1 := mo_law_1165 hm_33 h
            have hPa := lw_as hP
            have hDa := lw_asD hD
            have hPc := lw_PR hPa
            have hDc := lw_DR hDa
            have hFc := lx_free hDc hS hA
            refine va_calli (x_runSW (handlers := [(0, 9, 12, 19), (0, 9, 16, 25), (0, 9, 20, 13)]) (bytes := b_La_stamp) (maxL := 6) (ret := (some .int)) (n := 5) (index := 156) (As := [.ref M.o_Vt, .int (xs (y_4 + 1).toNatClampNeg), .int (xs (y_4 + 2).toNatClampNeg), .int (xs (y_4 + 3).toNatClampNeg), .int (xs (y_4 + 4).toNatClampNeg)]) (rest := []) ⟨hx, hb, hml, hown, hts⟩ (la_stamp_2 l hfl dC dI X Xm _ hc_95) rfl rfl (Nat.le_of_ble_eq_true rfl) (Nat.le_of_ble_eq_true rfl) (pay_in hts (fun w h => good_Lq w (wcs (u_Lq_La _ k_La_70) (fun _ h => h) w h))) List.mem_cons_self (hts _ (u_Lq_La _ k_La_0)) ⟨(by decide), (by decide)⟩ (hlen_of (by decide +kernel)) (hts _ (u_Lq_La _ k_La_68)) (hts _ (u_Lq_La _ k_La_69)) (ps_ofE (X.same _) (fun U z1 z2 => X.mono _ _ U hFc (hEw _ _ hS U z1 z2)) hPc hKV hDc) rfl rfl hl.1 rfl (lv_room (Nat.le_of_ble_eq_true rfl)) d_La_law_1162 ⟨lw_c1 mc.1 mF1.1 hGc, lw_c1 mc.2 mF1.2 hGs⟩) hS (fun q _ h => hFc q h) hFc (fun r_ Y_95 t H locs ht hvm hw hB hz1 hk1 hS => ?_)
            rw [hw]
            obtain ⟨hP1, -, hD1⟩ := hB
            rw [ht] at hP1
            obtain ⟨hP, hD⟩ := lw_jR hPa hDa hk1 hFc hP1 hD1
            have hP := lw_sa hP
            have hD := lw_saD hD
            refine W.widen (k := cB + G_95.gc) (n := sB + G_95.gs) (lw_c2 mc.1) (lw_c2 mc.2) ?_
            exact hB_1165 _ hr_33 hm_33 y_4 2 Y_95 G_95 S_95 T oo _ _ _ h hP hD hS (lv_sub hl [0, 1, 2, 3, 4] rfl)
          · have h := lf_f h c_95_2
            exact lf_no h
  have hB_1225 : ∀ (rec_33 : Int32 → CG → CS → MS → (Nat → Int64) → Option (Int32 × CG × CS)) (hr_33 : ∀ (y_4 : Int32) (Y : CT) (G : CG) (S : CS) (T : MS) (oo : Nat → Int64) (H : Heap) (locs : List Loc) (ls : Array Slot), rec_33 y_4 G S T oo = some (1, G', S') → va_P (dC, dI) classes (wM M2 T ++ ((ou, .inl (kL, 1, .inr (.inl oo))) :: wV M Y G S)) H → va_D (fun q => s.heap.size ≤ q) (wM M2 T ++ ((ou, .inl (kL, 1, .inr (.inl oo))) :: wV M Y G S)) → va_S (fun q => s.heap.size ≤ q) s.heap H locs → lv_has ls 8 [(0, .ref b), (1, .ref M.o_Vt), (2, .ref M2.o), (3, .ref ou), (4, .int y_4)] → W p l e room_1 s m #[Value.ref b] below meth c H locs (cB + G.gc) (sB + G.gs) (lw_Z below #[Value.ref b] s) (F0 m 33 ls [])) (hm_33 : ∀ (y_4 : Int32) (G : CG) (S : CS) (T : MS) (oo : Nat → Int64) {x : Int32} {G1 : CG} {S1 : CS}, rec_33 y_4 G S T oo = some (x, G1, S1) → CG.le G G1), ∀ (y_4 : Int32) (z_0 : Int32) (Y : CT) (G : CG) (S : CS) (T : MS) (oo : Nat → Int64) (H : Heap) (locs : List Loc) (ls : Array Slot), f_law_1225 K L xs rec_33 y_4 z_0 G S T oo = some (1, G', S') → va_P (dC, dI) classes (wM M2 T ++ ((ou, .inl (kL, 1, .inr (.inl oo))) :: wV M Y G S)) H → va_D (fun q => s.heap.size ≤ q) (wM M2 T ++ ((ou, .inl (kL, 1, .inr (.inl oo))) :: wV M Y G S)) → va_S (fun q => s.heap.size ≤ q) s.heap H locs → lv_has ls 8 [(0, .ref b), (1, .ref M.o_Vt), (2, .ref M2.o), (3, .ref ou), (4, .int y_4)] → W p l e room_1 s m #[Value.ref b] below meth c H locs (cB + G.gc) (sB + G.gs) (lw_Z below #[Value.ref b] s) (F0 m 1225 ls [.int z_0]) := by
    intro rec_33 hr_33 hm_33 y_4 z_0 Y G S T oo H locs ls h hP hD hS hl
    have mF := mo_law_1225 hm_33 h
    rw [f_law_1225] at h
    refine lv_aload_n hx hb d_La_law_1225 rfl (lv_at hl 2 rfl) ?_
    refine lv_aload_n hx hb d_La_law_1226 rfl (lv_at hl 0 rfl) ?_
    refine lv_iload hx hb d_La_law_1227 (lv_at hl 4 rfl) ?_
    refine lv_iconst (v := 1) hx hb d_La_law_1229 (by decide) ?_
    refine lv_iadd hx hb d_La_law_1230 ?_
    obtain ⟨g_200, h⟩ := lf_gE h
    refine va_sld hx hb hX hbl hbA hS g_200 d_La_law_1231 ?_
    refine lv_aload_n hx hb d_La_law_1232 rfl (lv_at hl 0 rfl) ?_
    refine lv_iload hx hb d_La_law_1233 (lv_at hl 4 rfl) ?_
    refine lv_iconst (v := 2) hx hb d_La_law_1235 (by decide) ?_
    refine lv_iadd hx hb d_La_law_1236 ?_
    obtain ⟨g_201, h⟩ := lf_gE h
    refine va_sld hx hb hX hbl hbA hS g_201 d_La_law_1237 ?_
    obtain ⟨r_202, T_202, hc_202, h⟩ := lf_cE h
    have hPc := lw_PL hP
    have hDc := lw_DL hD
    have hFc := lx_free hDc hS hA
    refine va_calli (va_runV (As := [.int (xs (y_4 + 1).toNatClampNeg), .int (xs (y_4 + 2).toNatClampNeg)]) (rest := [.int z_0]) ⟨hx, hb, hml, hown, hts⟩ (l_Mo_plan l dC dI X2 _ hc_202) (cwV 2 hts (gwV good_Lq (u_Lq_La _ k_La_99) (u_Lq_Mo _ k_Mo_364) (u_Lq_Mo _ k_Mo_365) (u_Lq_Mo _ k_Mo_0) (wcs (u_Lq_Mo _ k_Mo_366) u_Lq_Mq)) rfl rfl rfl (by decide +kernel) ⟨Nat.le_of_ble_eq_true rfl, Nat.le_of_ble_eq_true rfl⟩) (pv_ofE (X2.same _) (fun U z1 z2 => X2.mono _ _ U hFc (hEw _ _ hS U z1 z2)) hPc hKM hDc (va_recv hKM hPc (ci := 12) (q0 := 0) rfl rfl)) rfl rfl hl.1 rfl (lv_room (Nat.le_of_ble_eq_true rfl)) d_La_law_1238 ⟨lw_c0 mF.1 hGc, lw_c0 mF.2 hGs⟩) hS (fun q _ h => hFc q h) hFc (fun r_ u t H locs ht hvm hw hB hz1 hk1 hS => ?_)
    rw [hw]
    obtain ⟨hP1, -, hD1⟩ := hB
    rw [ht] at hP1
    obtain ⟨hP, hD⟩ := lw_jL hP hD hk1 hFc hP1 hD1
    refine lv_icmp_eq (tgt := 1388) hx hb d_La_law_1241 (by decide) (fun c_203 => ?_) (fun c_203 => ?_)
    · have h := lf_t h c_203
      exact hB_1388 _ hr_33 hm_33 y_4 Y G S T_202 oo _ _ _ h hP hD hS (lv_sub hl [0, 1, 2, 3, 4] rfl)
    · have h := lf_f h c_203
      refine lv_iconst (v := 0) hx hb d_La_law_1244 (by decide) ?_
      exact lf_01 h
  have hB_1209 : ∀ (rec_33 : Int32 → CG → CS → MS → (Nat → Int64) → Option (Int32 × CG × CS)) (hr_33 : ∀ (y_4 : Int32) (Y : CT) (G : CG) (S : CS) (T : MS) (oo : Nat → Int64) (H : Heap) (locs : List Loc) (ls : Array Slot), rec_33 y_4 G S T oo = some (1, G', S') → va_P (dC, dI) classes (wM M2 T ++ ((ou, .inl (kL, 1, .inr (.inl oo))) :: wV M Y G S)) H → va_D (fun q => s.heap.size ≤ q) (wM M2 T ++ ((ou, .inl (kL, 1, .inr (.inl oo))) :: wV M Y G S)) → va_S (fun q => s.heap.size ≤ q) s.heap H locs → lv_has ls 8 [(0, .ref b), (1, .ref M.o_Vt), (2, .ref M2.o), (3, .ref ou), (4, .int y_4)] → W p l e room_1 s m #[Value.ref b] below meth c H locs (cB + G.gc) (sB + G.gs) (lw_Z below #[Value.ref b] s) (F0 m 33 ls [])) (hm_33 : ∀ (y_4 : Int32) (G : CG) (S : CS) (T : MS) (oo : Nat → Int64) {x : Int32} {G1 : CG} {S1 : CS}, rec_33 y_4 G S T oo = some (x, G1, S1) → CG.le G G1), ∀ (y_4 : Int32) (Y : CT) (G : CG) (S : CS) (T : MS) (oo : Nat → Int64) (H : Heap) (locs : List Loc) (ls : Array Slot), f_law_1209 K L xs rec_33 y_4 G S T oo = some (1, G', S') → va_P (dC, dI) classes (wM M2 T ++ ((ou, .inl (kL, 1, .inr (.inl oo))) :: wV M Y G S)) H → va_D (fun q => s.heap.size ≤ q) (wM M2 T ++ ((ou, .inl (kL, 1, .inr (.inl oo))) :: wV M Y G S)) → va_S (fun q => s.heap.size ≤ q) s.heap H locs → lv_has ls 8 [(0, .ref b), (1, .ref M.o_Vt), (2, .ref M2.o), (3, .ref ou), (4, .int y_4)] → W p l e room_1 s m #[Value.ref b] below meth c H locs (cB + G.gc) (sB + G.gs) (lw_Z below #[Value.ref b] s) (F0 m 1209 ls []) := by
    intro rec_33 hr_33 hm_33 y_4 Y G S T oo H locs ls h hP hD hS hl
    have mF := mo_law_1209 hm_33 h
    rw [f_law_1209] at h
    refine lv_aload_n hx hb d_La_law_1209 rfl (lv_at hl 1 rfl) ?_
    refine lv_aload_n hx hb d_La_law_1210 rfl (lv_at hl 0 rfl) ?_
    refine lv_iload hx hb d_La_law_1211 (lv_at hl 4 rfl) ?_
    refine lv_iconst (v := 1) hx hb d_La_law_1213 (by decide) ?_
    refine lv_iadd hx hb d_La_law_1214 ?_
    obtain ⟨g_96, h⟩ := lf_gE h
    refine va_sld hx hb hX hbl hbA hS g_96 d_La_law_1215 ?_
    refine lv_aload_n hx hb d_La_law_1216 rfl (lv_at hl 0 rfl) ?_
    refine lv_iload hx hb d_La_law_1217 (lv_at hl 4 rfl) ?_
    refine lv_iconst (v := 2) hx hb d_La_law_1219 (by decide) ?_
    refine lv_iadd hx hb d_La_law_1220 ?_
    obtain ⟨g_97, h⟩ := lf_gE h
    refine va_sld hx hb hX hbl hbA hS g_97 d_La_law_1221 ?_
    obtain ⟨r_98, G_98, S_98, hc_98, h⟩ := lf_nE h
    have ml_98 := mo_Vt_plan hc_98
    have mc := mo_Vt_plan hc_98
    have mF1 := mo_law_1225 hm_33 h
    have hPa := lw_as hP
    have hDa := lw_asD hD
    have hPc := lw_PR hPa
    have hDc := lw_DR hDa
    have hFc := lx_free hDc hS hA
    refine va_calli (va_runV (As := [.int (xs (y_4 + 1).toNatClampNeg), .int (xs (y_4 + 2).toNatClampNeg)]) (rest := []) ⟨hx, hb, hml, hown, hts⟩ (l_Vt_plan l dC dI X _ hc_98) (cwV 2 hts (gwV good_Lq (u_Lq_La _ k_La_10) (u_Lq_Vt _ k_Vt_82) (u_Lq_Vt _ k_Vt_83) (u_Lq_Vt _ k_Vt_0) (wcs (u_Lq_Vt _ k_Vt_84) u_Lq_Vq)) rfl rfl rfl (by decide +kernel) ⟨Nat.le_of_ble_eq_true rfl, Nat.le_of_ble_eq_true rfl⟩) (pv_ofE (X.same _) (fun U z1 z2 => X.mono _ _ U hFc (hEw _ _ hS U z1 z2)) hPc hKV hDc (va_recv hKV hPc (ci := 11) (q0 := 0) rfl rfl)) rfl rfl hl.1 rfl (lv_room (Nat.le_of_ble_eq_true rfl)) d_La_law_1222 ⟨lw_c1 mc.1 mF1.1 hGc, lw_c1 mc.2 mF1.2 hGs⟩) hS (fun q _ h => hFc q h) hFc (fun r_ Y_98 t H locs ht hvm hw hB hz1 hk1 hS => ?_)
    rw [hw]
    obtain ⟨hP1, -, hD1⟩ := hB
    rw [ht] at hP1
    obtain ⟨hP, hD⟩ := lw_jR hPa hDa hk1 hFc hP1 hD1
    have hP := lw_sa hP
    have hD := lw_saD hD
    refine W.widen (k := cB + G_98.gc) (n := sB + G_98.gs) (lw_c2 mc.1) (lw_c2 mc.2) ?_
    exact hB_1225 _ hr_33 hm_33 y_4 r_98 Y_98 G_98 S_98 T oo _ _ _ h hP hD hS (lv_sub hl [0, 1, 2, 3, 4] rfl)
  have hB_1262 : ∀ (rec_33 : Int32 → CG → CS → MS → (Nat → Int64) → Option (Int32 × CG × CS)) (hr_33 : ∀ (y_4 : Int32) (Y : CT) (G : CG) (S : CS) (T : MS) (oo : Nat → Int64) (H : Heap) (locs : List Loc) (ls : Array Slot), rec_33 y_4 G S T oo = some (1, G', S') → va_P (dC, dI) classes (wM M2 T ++ ((ou, .inl (kL, 1, .inr (.inl oo))) :: wV M Y G S)) H → va_D (fun q => s.heap.size ≤ q) (wM M2 T ++ ((ou, .inl (kL, 1, .inr (.inl oo))) :: wV M Y G S)) → va_S (fun q => s.heap.size ≤ q) s.heap H locs → lv_has ls 8 [(0, .ref b), (1, .ref M.o_Vt), (2, .ref M2.o), (3, .ref ou), (4, .int y_4)] → W p l e room_1 s m #[Value.ref b] below meth c H locs (cB + G.gc) (sB + G.gs) (lw_Z below #[Value.ref b] s) (F0 m 33 ls [])) (hm_33 : ∀ (y_4 : Int32) (G : CG) (S : CS) (T : MS) (oo : Nat → Int64) {x : Int32} {G1 : CG} {S1 : CS}, rec_33 y_4 G S T oo = some (x, G1, S1) → CG.le G G1), ∀ (y_4 : Int32) (z_0 : Int32) (Y : CT) (G : CG) (S : CS) (T : MS) (oo : Nat → Int64) (H : Heap) (locs : List Loc) (ls : Array Slot), f_law_1262 K L xs rec_33 y_4 z_0 G S T oo = some (1, G', S') → va_P (dC, dI) classes (wM M2 T ++ ((ou, .inl (kL, 1, .inr (.inl oo))) :: wV M Y G S)) H → va_D (fun q => s.heap.size ≤ q) (wM M2 T ++ ((ou, .inl (kL, 1, .inr (.inl oo))) :: wV M Y G S)) → va_S (fun q => s.heap.size ≤ q) s.heap H locs → lv_has ls 8 [(0, .ref b), (1, .ref M.o_Vt), (2, .ref M2.o), (3, .ref ou), (4, .int y_4)] → W p l e room_1 s m #[Value.ref b] below meth c H locs (cB + G.gc) (sB + G.gs) (lw_Z below #[Value.ref b] s) (F0 m 1262 ls [.int z_0]) := by
    intro rec_33 hr_33 hm_33 y_4 z_0 Y G S T oo H locs ls h hP hD hS hl
    have mF := mo_law_1262 hm_33 h
    rw [f_law_1262] at h
    refine lv_aload_n hx hb d_La_law_1262 rfl (lv_at hl 2 rfl) ?_
    refine lv_aload_n hx hb d_La_law_1263 rfl (lv_at hl 0 rfl) ?_
    refine lv_iload hx hb d_La_law_1264 (lv_at hl 4 rfl) ?_
    refine lv_iconst (v := 1) hx hb d_La_law_1266 (by decide) ?_
    refine lv_iadd hx hb d_La_law_1267 ?_
    obtain ⟨g_204, h⟩ := lf_gE h
    refine va_sld hx hb hX hbl hbA hS g_204 d_La_law_1268 ?_
    refine lv_aload_n hx hb d_La_law_1269 rfl (lv_at hl 0 rfl) ?_
    refine lv_iload hx hb d_La_law_1270 (lv_at hl 4 rfl) ?_
    refine lv_iconst (v := 2) hx hb d_La_law_1272 (by decide) ?_
    refine lv_iadd hx hb d_La_law_1273 ?_
    obtain ⟨g_205, h⟩ := lf_gE h
    refine va_sld hx hb hX hbl hbA hS g_205 d_La_law_1274 ?_
    obtain ⟨r_206, T_206, hc_206, h⟩ := lf_cE h
    have hPc := lw_PL hP
    have hDc := lw_DL hD
    have hFc := lx_free hDc hS hA
    refine va_calli (va_runV (As := [.int (xs (y_4 + 1).toNatClampNeg), .int (xs (y_4 + 2).toNatClampNeg)]) (rest := [.int z_0]) ⟨hx, hb, hml, hown, hts⟩ (l_Mo_target l dC dI X2 _ hc_206) (cwV 2 hts (gwV good_Lq (u_Lq_La _ k_La_100) (u_Lq_Mo _ k_Mo_400) (u_Lq_Mo _ k_Mo_401) (u_Lq_Mo _ k_Mo_0) (wcs (u_Lq_Mo _ k_Mo_402) u_Lq_Mq)) rfl rfl rfl (by decide +kernel) ⟨Nat.le_of_ble_eq_true rfl, Nat.le_of_ble_eq_true rfl⟩) (pv_ofE (X2.same _) (fun U z1 z2 => X2.mono _ _ U hFc (hEw _ _ hS U z1 z2)) hPc hKM hDc (va_recv hKM hPc (ci := 12) (q0 := 0) rfl rfl)) rfl rfl hl.1 rfl (lv_room (Nat.le_of_ble_eq_true rfl)) d_La_law_1275 ⟨lw_c0 mF.1 hGc, lw_c0 mF.2 hGs⟩) hS (fun q _ h => hFc q h) hFc (fun r_ u t H locs ht hvm hw hB hz1 hk1 hS => ?_)
    rw [hw]
    obtain ⟨hP1, -, hD1⟩ := hB
    rw [ht] at hP1
    obtain ⟨hP, hD⟩ := lw_jL hP hD hk1 hFc hP1 hD1
    refine lv_icmp_eq (tgt := 1388) hx hb d_La_law_1278 (by decide) (fun c_207 => ?_) (fun c_207 => ?_)
    · have h := lf_t h c_207
      exact hB_1388 _ hr_33 hm_33 y_4 Y G S T_206 oo _ _ _ h hP hD hS (lv_sub hl [0, 1, 2, 3, 4] rfl)
    · have h := lf_f h c_207
      refine lv_iconst (v := 0) hx hb d_La_law_1281 (by decide) ?_
      exact lf_01 h
  have hB_1246 : ∀ (rec_33 : Int32 → CG → CS → MS → (Nat → Int64) → Option (Int32 × CG × CS)) (hr_33 : ∀ (y_4 : Int32) (Y : CT) (G : CG) (S : CS) (T : MS) (oo : Nat → Int64) (H : Heap) (locs : List Loc) (ls : Array Slot), rec_33 y_4 G S T oo = some (1, G', S') → va_P (dC, dI) classes (wM M2 T ++ ((ou, .inl (kL, 1, .inr (.inl oo))) :: wV M Y G S)) H → va_D (fun q => s.heap.size ≤ q) (wM M2 T ++ ((ou, .inl (kL, 1, .inr (.inl oo))) :: wV M Y G S)) → va_S (fun q => s.heap.size ≤ q) s.heap H locs → lv_has ls 8 [(0, .ref b), (1, .ref M.o_Vt), (2, .ref M2.o), (3, .ref ou), (4, .int y_4)] → W p l e room_1 s m #[Value.ref b] below meth c H locs (cB + G.gc) (sB + G.gs) (lw_Z below #[Value.ref b] s) (F0 m 33 ls [])) (hm_33 : ∀ (y_4 : Int32) (G : CG) (S : CS) (T : MS) (oo : Nat → Int64) {x : Int32} {G1 : CG} {S1 : CS}, rec_33 y_4 G S T oo = some (x, G1, S1) → CG.le G G1), ∀ (y_4 : Int32) (Y : CT) (G : CG) (S : CS) (T : MS) (oo : Nat → Int64) (H : Heap) (locs : List Loc) (ls : Array Slot), f_law_1246 K L xs rec_33 y_4 G S T oo = some (1, G', S') → va_P (dC, dI) classes (wM M2 T ++ ((ou, .inl (kL, 1, .inr (.inl oo))) :: wV M Y G S)) H → va_D (fun q => s.heap.size ≤ q) (wM M2 T ++ ((ou, .inl (kL, 1, .inr (.inl oo))) :: wV M Y G S)) → va_S (fun q => s.heap.size ≤ q) s.heap H locs → lv_has ls 8 [(0, .ref b), (1, .ref M.o_Vt), (2, .ref M2.o), (3, .ref ou), (4, .int y_4)] → W p l e room_1 s m #[Value.ref b] below meth c H locs (cB + G.gc) (sB + G.gs) (lw_Z below #[Value.ref b] s) (F0 m 1246 ls []) := by
    intro rec_33 hr_33 hm_33 y_4 Y G S T oo H locs ls h hP hD hS hl
    have mF := mo_law_1246 hm_33 h
    rw [f_law_1246] at h
    refine lv_aload_n hx hb d_La_law_1246 rfl (lv_at hl 1 rfl) ?_
    refine lv_aload_n hx hb d_La_law_1247 rfl (lv_at hl 0 rfl) ?_
    refine lv_iload hx hb d_La_law_1248 (lv_at hl 4 rfl) ?_
    refine lv_iconst (v := 1) hx hb d_La_law_1250 (by decide) ?_
    refine lv_iadd hx hb d_La_law_1251 ?_
    obtain ⟨g_99, h⟩ := lf_gE h
    refine va_sld hx hb hX hbl hbA hS g_99 d_La_law_1252 ?_
    refine lv_aload_n hx hb d_La_law_1253 rfl (lv_at hl 0 rfl) ?_
    refine lv_iload hx hb d_La_law_1254 (lv_at hl 4 rfl) ?_
    refine lv_iconst (v := 2) hx hb d_La_law_1256 (by decide) ?_
    refine lv_iadd hx hb d_La_law_1257 ?_
    obtain ⟨g_100, h⟩ := lf_gE h
    refine va_sld hx hb hX hbl hbA hS g_100 d_La_law_1258 ?_
    obtain ⟨r_101, G_101, S_101, hc_101, h⟩ := lf_nE h
    have ml_101 := mo_Vt_target hc_101
    have mc := mo_Vt_target hc_101
    have mF1 := mo_law_1262 hm_33 h
    have hPa := lw_as hP
    have hDa := lw_asD hD
    have hPc := lw_PR hPa
    have hDc := lw_DR hDa
    have hFc := lx_free hDc hS hA
    refine va_calli (va_runV (As := [.int (xs (y_4 + 1).toNatClampNeg), .int (xs (y_4 + 2).toNatClampNeg)]) (rest := []) ⟨hx, hb, hml, hown, hts⟩ (l_Vt_target l dC dI X _ hc_101) (cwV 2 hts (gwV good_Lq (u_Lq_La _ k_La_11) (u_Lq_Vt _ k_Vt_87) (u_Lq_Vt _ k_Vt_88) (u_Lq_Vt _ k_Vt_0) (wcs (u_Lq_Vt _ k_Vt_89) u_Lq_Vq)) rfl rfl rfl (by decide +kernel) ⟨Nat.le_of_ble_eq_true rfl, Nat.le_of_ble_eq_true rfl⟩) (pv_ofE (X.same _) (fun U z1 z2 => X.mono _ _ U hFc (hEw _ _ hS U z1 z2)) hPc hKV hDc (va_recv hKV hPc (ci := 11) (q0 := 0) rfl rfl)) rfl rfl hl.1 rfl (lv_room (Nat.le_of_ble_eq_true rfl)) d_La_law_1259 ⟨lw_c1 mc.1 mF1.1 hGc, lw_c1 mc.2 mF1.2 hGs⟩) hS (fun q _ h => hFc q h) hFc (fun r_ Y_101 t H locs ht hvm hw hB hz1 hk1 hS => ?_)
    rw [hw]
    obtain ⟨hP1, -, hD1⟩ := hB
    rw [ht] at hP1
    obtain ⟨hP, hD⟩ := lw_jR hPa hDa hk1 hFc hP1 hD1
    have hP := lw_sa hP
    have hD := lw_saD hD
    refine W.widen (k := cB + G_101.gc) (n := sB + G_101.gs) (lw_c2 mc.1) (lw_c2 mc.2) ?_
    exact hB_1262 _ hr_33 hm_33 y_4 r_101 Y_101 G_101 S_101 T oo _ _ _ h hP hD hS (lv_sub hl [0, 1, 2, 3, 4] rfl)
  have hB_1283 : ∀ (rec_33 : Int32 → CG → CS → MS → (Nat → Int64) → Option (Int32 × CG × CS)) (hr_33 : ∀ (y_4 : Int32) (Y : CT) (G : CG) (S : CS) (T : MS) (oo : Nat → Int64) (H : Heap) (locs : List Loc) (ls : Array Slot), rec_33 y_4 G S T oo = some (1, G', S') → va_P (dC, dI) classes (wM M2 T ++ ((ou, .inl (kL, 1, .inr (.inl oo))) :: wV M Y G S)) H → va_D (fun q => s.heap.size ≤ q) (wM M2 T ++ ((ou, .inl (kL, 1, .inr (.inl oo))) :: wV M Y G S)) → va_S (fun q => s.heap.size ≤ q) s.heap H locs → lv_has ls 8 [(0, .ref b), (1, .ref M.o_Vt), (2, .ref M2.o), (3, .ref ou), (4, .int y_4)] → W p l e room_1 s m #[Value.ref b] below meth c H locs (cB + G.gc) (sB + G.gs) (lw_Z below #[Value.ref b] s) (F0 m 33 ls [])) (hm_33 : ∀ (y_4 : Int32) (G : CG) (S : CS) (T : MS) (oo : Nat → Int64) {x : Int32} {G1 : CG} {S1 : CS}, rec_33 y_4 G S T oo = some (x, G1, S1) → CG.le G G1), ∀ (y_4 : Int32) (Y : CT) (G : CG) (S : CS) (T : MS) (oo : Nat → Int64) (H : Heap) (locs : List Loc) (ls : Array Slot), f_law_1283 K L xs rec_33 y_4 G S T oo = some (1, G', S') → va_P (dC, dI) classes (wM M2 T ++ ((ou, .inl (kL, 1, .inr (.inl oo))) :: wV M Y G S)) H → va_D (fun q => s.heap.size ≤ q) (wM M2 T ++ ((ou, .inl (kL, 1, .inr (.inl oo))) :: wV M Y G S)) → va_S (fun q => s.heap.size ≤ q) s.heap H locs → lv_has ls 8 [(0, .ref b), (1, .ref M.o_Vt), (2, .ref M2.o), (3, .ref ou), (4, .int y_4)] → W p l e room_1 s m #[Value.ref b] below meth c H locs (cB + G.gc) (sB + G.gs) (lw_Z below #[Value.ref b] s) (F0 m 1283 ls []) := by
    intro rec_33 hr_33 hm_33 y_4 Y G S T oo H locs ls h hP hD hS hl
    have mF := mo_law_1283 hm_33 h
    rw [f_law_1283] at h
    refine lv_aload_n hx hb d_La_law_1283 rfl (lv_at hl 1 rfl) ?_
    refine lv_aload_n hx hb d_La_law_1284 rfl (lv_at hl 0 rfl) ?_
    refine lv_iload hx hb d_La_law_1285 (lv_at hl 4 rfl) ?_
    refine lv_iconst (v := 1) hx hb d_La_law_1287 (by decide) ?_
    refine lv_iadd hx hb d_La_law_1288 ?_
    obtain ⟨g_102, h⟩ := lf_gE h
    refine va_sld hx hb hX hbl hbA hS g_102 d_La_law_1289 ?_
    refine lv_aload_n hx hb d_La_law_1290 rfl (lv_at hl 0 rfl) ?_
    refine lv_iload hx hb d_La_law_1291 (lv_at hl 4 rfl) ?_
    refine lv_iconst (v := 2) hx hb d_La_law_1293 (by decide) ?_
    refine lv_iadd hx hb d_La_law_1294 ?_
    obtain ⟨g_103, h⟩ := lf_gE h
    refine va_sld hx hb hX hbl hbA hS g_103 d_La_law_1295 ?_
    obtain ⟨r_104, S_104, hc_104, h⟩ := lf_cE h
    have hPa := lw_as hP
    have hDa := lw_asD hD
    have hPc := lw_PR hPa
    have hDc := lw_DR hDa
    have hFc := lx_free hDc hS hA
    refine va_calli (va_runV (As := [.int (xs (y_4 + 1).toNatClampNeg), .int (xs (y_4 + 2).toNatClampNeg)]) (rest := []) ⟨hx, hb, hml, hown, hts⟩ (l_Vt_fail l dC dI X _ hc_104) (cwV 2 hts (gwV good_Lq (u_Lq_La _ k_La_12) (u_Lq_Vt _ k_Vt_92) (u_Lq_Vt _ k_Vt_93) (u_Lq_Vt _ k_Vt_0) (wcs (u_Lq_Vt _ k_Vt_94) u_Lq_Vq)) rfl rfl rfl (by decide +kernel) ⟨Nat.le_of_ble_eq_true rfl, Nat.le_of_ble_eq_true rfl⟩) (pv_ofE (X.same _) (fun U z1 z2 => X.mono _ _ U hFc (hEw _ _ hS U z1 z2)) hPc hKV hDc (va_recv hKV hPc (ci := 11) (q0 := 0) rfl rfl)) rfl rfl hl.1 rfl (lv_room (Nat.le_of_ble_eq_true rfl)) d_La_law_1296 ⟨lw_c0 mF.1 hGc, lw_c0 mF.2 hGs⟩) hS (fun q _ h => hFc q h) hFc (fun r_ u t H locs ht hvm hw hB hz1 hk1 hS => ?_)
    rw [hw]
    obtain ⟨hP1, -, hD1⟩ := hB
    rw [ht] at hP1
    obtain ⟨hP, hD⟩ := lw_jR hPa hDa hk1 hFc hP1 hD1
    have hP := lw_sa hP
    have hD := lw_saD hD
    refine lv_aload_n hx hb d_La_law_1299 rfl (lv_at hl 2 rfl) ?_
    refine lv_aload_n hx hb d_La_law_1300 rfl (lv_at hl 0 rfl) ?_
    refine lv_iload hx hb d_La_law_1301 (lv_at hl 4 rfl) ?_
    refine lv_iconst (v := 1) hx hb d_La_law_1303 (by decide) ?_
    refine lv_iadd hx hb d_La_law_1304 ?_
    obtain ⟨g_105, h⟩ := lf_gE h
    refine va_sld hx hb hX hbl hbA hS g_105 d_La_law_1305 ?_
    refine lv_aload_n hx hb d_La_law_1306 rfl (lv_at hl 0 rfl) ?_
    refine lv_iload hx hb d_La_law_1307 (lv_at hl 4 rfl) ?_
    refine lv_iconst (v := 2) hx hb d_La_law_1309 (by decide) ?_
    refine lv_iadd hx hb d_La_law_1310 ?_
    obtain ⟨g_106, h⟩ := lf_gE h
    refine va_sld hx hb hX hbl hbA hS g_106 d_La_law_1311 ?_
    obtain ⟨r_107, T_107, hc_107, h⟩ := lf_cE h
    have hPc := lw_PL hP
    have hDc := lw_DL hD
    have hFc := lx_free hDc hS hA
    refine va_calli (va_runV (As := [.int (xs (y_4 + 1).toNatClampNeg), .int (xs (y_4 + 2).toNatClampNeg)]) (rest := [.int r_104]) ⟨hx, hb, hml, hown, hts⟩ (l_Mo_fail l dC dI X2 _ hc_107) (cwV 2 hts (gwV good_Lq (u_Lq_La _ k_La_101) (u_Lq_Mo _ k_Mo_403) (u_Lq_Mo _ k_Mo_404) (u_Lq_Mo _ k_Mo_0) (wcs (u_Lq_Mo _ k_Mo_405) u_Lq_Mq)) rfl rfl rfl (by decide +kernel) ⟨Nat.le_of_ble_eq_true rfl, Nat.le_of_ble_eq_true rfl⟩) (pv_ofE (X2.same _) (fun U z1 z2 => X2.mono _ _ U hFc (hEw _ _ hS U z1 z2)) hPc hKM hDc (va_recv hKM hPc (ci := 12) (q0 := 0) rfl rfl)) rfl rfl hl.1 rfl (lv_room (Nat.le_of_ble_eq_true rfl)) d_La_law_1312 ⟨lw_c0 mF.1 hGc, lw_c0 mF.2 hGs⟩) hS (fun q _ h => hFc q h) hFc (fun r_ u t H locs ht hvm hw hB hz1 hk1 hS => ?_)
    rw [hw]
    obtain ⟨hP1, -, hD1⟩ := hB
    rw [ht] at hP1
    obtain ⟨hP, hD⟩ := lw_jL hP hD hk1 hFc hP1 hD1
    refine lv_icmp_eq (tgt := 1388) hx hb d_La_law_1315 (by decide) (fun c_108 => ?_) (fun c_108 => ?_)
    · have h := lf_t h c_108
      exact hB_1388 _ hr_33 hm_33 y_4 Y G S_104 T_107 oo _ _ _ h hP hD hS (lv_sub hl [0, 1, 2, 3, 4] rfl)
    · have h := lf_f h c_108
      refine lv_iconst (v := 0) hx hb d_La_law_1318 (by decide) ?_
      exact lf_01 h
  have hB_1385 : ∀ (rec_33 : Int32 → CG → CS → MS → (Nat → Int64) → Option (Int32 × CG × CS)) (hr_33 : ∀ (y_4 : Int32) (Y : CT) (G : CG) (S : CS) (T : MS) (oo : Nat → Int64) (H : Heap) (locs : List Loc) (ls : Array Slot), rec_33 y_4 G S T oo = some (1, G', S') → va_P (dC, dI) classes (wM M2 T ++ ((ou, .inl (kL, 1, .inr (.inl oo))) :: wV M Y G S)) H → va_D (fun q => s.heap.size ≤ q) (wM M2 T ++ ((ou, .inl (kL, 1, .inr (.inl oo))) :: wV M Y G S)) → va_S (fun q => s.heap.size ≤ q) s.heap H locs → lv_has ls 8 [(0, .ref b), (1, .ref M.o_Vt), (2, .ref M2.o), (3, .ref ou), (4, .int y_4)] → W p l e room_1 s m #[Value.ref b] below meth c H locs (cB + G.gc) (sB + G.gs) (lw_Z below #[Value.ref b] s) (F0 m 33 ls [])) (hm_33 : ∀ (y_4 : Int32) (G : CG) (S : CS) (T : MS) (oo : Nat → Int64) {x : Int32} {G1 : CG} {S1 : CS}, rec_33 y_4 G S T oo = some (x, G1, S1) → CG.le G G1), ∀ (y_4 : Int32) (Y : CT) (G : CG) (S : CS) (T : MS) (oo : Nat → Int64) (H : Heap) (locs : List Loc) (ls : Array Slot), f_law_1385 K L xs rec_33 y_4 G S T oo = some (1, G', S') → va_P (dC, dI) classes (wM M2 T ++ ((ou, .inl (kL, 1, .inr (.inl oo))) :: wV M Y G S)) H → va_D (fun q => s.heap.size ≤ q) (wM M2 T ++ ((ou, .inl (kL, 1, .inr (.inl oo))) :: wV M Y G S)) → va_S (fun q => s.heap.size ≤ q) s.heap H locs → lv_has ls 8 [(0, .ref b), (1, .ref M.o_Vt), (2, .ref M2.o), (3, .ref ou), (4, .int y_4)] → W p l e room_1 s m #[Value.ref b] below meth c H locs (cB + G.gc) (sB + G.gs) (lw_Z below #[Value.ref b] s) (F0 m 1385 ls []) := by
    intro rec_33 hr_33 hm_33 y_4 Y G S T oo H locs ls h hP hD hS hl
    have mF := mo_law_1385 hm_33 h
    rw [f_law_1385] at h
    refine lv_goto (tgt := 1388) hx hb d_La_law_1385 (by decide) ?_
    exact hB_1388 _ hr_33 hm_33 y_4 Y G S T oo _ _ _ h hP hD hS (lv_sub hl [0, 1, 2, 3, 4] rfl)
  have hB_1337 : ∀ (rec_33 : Int32 → CG → CS → MS → (Nat → Int64) → Option (Int32 × CG × CS)) (hr_33 : ∀ (y_4 : Int32) (Y : CT) (G : CG) (S : CS) (T : MS) (oo : Nat → Int64) (H : Heap) (locs : List Loc) (ls : Array Slot), rec_33 y_4 G S T oo = some (1, G', S') → va_P (dC, dI) classes (wM M2 T ++ ((ou, .inl (kL, 1, .inr (.inl oo))) :: wV M Y G S)) H → va_D (fun q => s.heap.size ≤ q) (wM M2 T ++ ((ou, .inl (kL, 1, .inr (.inl oo))) :: wV M Y G S)) → va_S (fun q => s.heap.size ≤ q) s.heap H locs → lv_has ls 8 [(0, .ref b), (1, .ref M.o_Vt), (2, .ref M2.o), (3, .ref ou), (4, .int y_4)] → W p l e room_1 s m #[Value.ref b] below meth c H locs (cB + G.gc) (sB + G.gs) (lw_Z below #[Value.ref b] s) (F0 m 33 ls [])) (hm_33 : ∀ (y_4 : Int32) (G : CG) (S : CS) (T : MS) (oo : Nat → Int64) {x : Int32} {G1 : CG} {S1 : CS}, rec_33 y_4 G S T oo = some (x, G1, S1) → CG.le G G1), ∀ (y_4 : Int32) (z_0 : Int32) (Y : CT) (G : CG) (S : CS) (T : MS) (oo : Nat → Int64) (H : Heap) (locs : List Loc) (ls : Array Slot), f_law_1337 K L xs rec_33 y_4 z_0 G S T oo = some (1, G', S') → va_P (dC, dI) classes (wM M2 T ++ ((ou, .inl (kL, 1, .inr (.inl oo))) :: wV M Y G S)) H → va_D (fun q => s.heap.size ≤ q) (wM M2 T ++ ((ou, .inl (kL, 1, .inr (.inl oo))) :: wV M Y G S)) → va_S (fun q => s.heap.size ≤ q) s.heap H locs → lv_has ls 8 [(0, .ref b), (1, .ref M.o_Vt), (2, .ref M2.o), (3, .ref ou), (4, .int y_4)] → W p l e room_1 s m #[Value.ref b] below meth c H locs (cB + G.gc) (sB + G.gs) (lw_Z below #[Value.ref b] s) (F0 m 1337 ls [.int z_0]) := by
    intro rec_33 hr_33 hm_33 y_4 z_0 Y G S T oo H locs ls h hP hD hS hl
    have mF := mo_law_1337 hm_33 h
    rw [f_law_1337] at h
    refine lv_istore (lv' := [(5, .int z_0), (0, .ref b), (1, .ref M.o_Vt), (2, .ref M2.o), (3, .ref ou), (4, .int y_4)]) hx hb d_La_law_1337 hl (by decide) rfl (fun ls hl => ?_)
    refine lv_aload_n hx hb d_La_law_1339 rfl (lv_at hl 3 rfl) ?_
    refine lv_aload_n hx hb d_La_law_1340 rfl (lv_at hl 1 rfl) ?_
    refine lv_iload hx hb d_La_law_1341 (lv_at hl 5 rfl) ?_
    refine lv_iconst (v := 1) hx hb d_La_law_1343 (by decide) ?_
    refine lv_iadd hx hb d_La_law_1344 ?_
    obtain ⟨g_208, h⟩ := lf_gE h
    refine va_sld hx hb hX hbl hbA hS g_208 d_La_law_1345 ?_
    refine lv_aload_n hx hb d_La_law_1346 rfl (lv_at hl 1 rfl) ?_
    refine lv_iload hx hb d_La_law_1347 (lv_at hl 5 rfl) ?_
    refine lv_iconst (v := 2) hx hb d_La_law_1349 (by decide) ?_
    refine lv_iadd hx hb d_La_law_1350 ?_
    obtain ⟨g_209, h⟩ := lf_gE h
    refine va_sld hx hb hX hbl hbA hS g_209 d_La_law_1351 ?_
    obtain ⟨r_210, T_210, hc_210, h⟩ := lf_cE h
    have hPc := lw_PL hP
    have hDc := lw_DL hD
    have hFc := lx_free hDc hS hA
    refine va_calli (va_runV (As := [.int (xs (y_4 + 1).toNatClampNeg), .int (xs (y_4 + 2).toNatClampNeg)]) (rest := []) ⟨hx, hb, hml, hown, hts⟩ (l_Mo_run l dC dI X2 _ hc_210) (cwV 2 hts (gwV good_Lq (u_Lq_La _ k_La_102) (u_Lq_Mo _ k_Mo_406) (u_Lq_Mo _ k_Mo_407) (u_Lq_Mo _ k_Mo_0) (wcs (u_Lq_Mo _ k_Mo_408) u_Lq_Mq)) rfl rfl rfl (by decide +kernel) ⟨Nat.le_of_ble_eq_true rfl, Nat.le_of_ble_eq_true rfl⟩) (pv_ofE (X2.same _) (fun U z1 z2 => X2.mono _ _ U hFc (hEw _ _ hS U z1 z2)) hPc hKM hDc (va_recv hKM hPc (ci := 12) (q0 := 0) rfl rfl)) rfl rfl hl.1 rfl (lv_room (Nat.le_of_ble_eq_true rfl)) d_La_law_1352 ⟨lw_c0 mF.1 hGc, lw_c0 mF.2 hGs⟩) hS (fun q _ h => hFc q h) hFc (fun r_ u t H locs ht hvm hw hB hz1 hk1 hS => ?_)
    rw [hw]
    obtain ⟨hP1, -, hD1⟩ := hB
    rw [ht] at hP1
    obtain ⟨hP, hD⟩ := lw_jL hP hD hk1 hFc hP1 hD1
    refine lv_istore (lv' := [(6, .int r_210), (5, .int z_0), (0, .ref b), (1, .ref M.o_Vt), (2, .ref M2.o), (3, .ref ou), (4, .int y_4)]) hx hb d_La_law_1355 hl (by decide) rfl (fun ls hl => ?_)
    refine lv_aload_n hx hb d_La_law_1357 rfl (lv_at hl 4 rfl) ?_
    obtain ⟨r_211, T_211, hc_211, h⟩ := lf_cE h
    have hPc := lw_PL hP
    have hDc := lw_DL hD
    have hFc := lx_free hDc hS hA
    refine va_calli (va_runV (As := []) (rest := []) ⟨hx, hb, hml, hown, hts⟩ (l_Mo_thrown l dC dI X2 _ hc_211) (cwV 0 hts (gwV good_Lq (u_Lq_La _ k_La_78) (u_Lq_Mo _ k_Mo_73) (u_Lq_Mo _ k_Mo_74) (u_Lq_Mo _ k_Mo_0) (wcs (u_Lq_Mo _ k_Mo_75) u_Lq_Mq)) rfl rfl rfl (by decide +kernel) ⟨Nat.le_of_ble_eq_true rfl, Nat.le_of_ble_eq_true rfl⟩) (pv_ofE (X2.same _) (fun U z1 z2 => X2.mono _ _ U hFc (hEw _ _ hS U z1 z2)) hPc hKM hDc (va_recv hKM hPc (ci := 12) (q0 := 0) rfl rfl)) rfl rfl hl.1 rfl (lv_room (Nat.le_of_ble_eq_true rfl)) d_La_law_1358 ⟨lw_c0 mF.1 hGc, lw_c0 mF.2 hGs⟩) hS (fun q _ h => hFc q h) hFc (fun r_ u t H locs ht hvm hw hB hz1 hk1 hS => ?_)
    rw [hw]
    obtain ⟨hP1, -, hD1⟩ := hB
    rw [ht] at hP1
    obtain ⟨hP, hD⟩ := lw_jL hP hD hk1 hFc hP1 hD1
    refine lv_iload hx hb d_La_law_1361 (lv_at hl 1 rfl) ?_
    refine lv_icmp_eq (tgt := 1368) hx hb d_La_law_1363 (by decide) (fun c_212 => ?_) (fun c_212 => ?_)
    · have h := lf_t h c_212
      refine lv_iload hx hb d_La_law_1368 (lv_at hl 1 rfl) ?_
      refine lv_if_ne (tgt := 1385) hx hb d_La_law_1370 (by decide) (fun c_213 => ?_) (fun c_213 => ?_)
      · have h := lf_f h c_213
        exact hB_1385 _ hr_33 hm_33 y_4 Y G S T_211 oo _ _ _ h hP hD hS (lv_sub hl [2, 3, 4, 5, 6] rfl)
      · have h := lf_t h c_213
        refine lv_aload_n hx hb d_La_law_1373 rfl (lv_at hl 5 rfl) ?_
        refine lv_iconst (v := 0) hx hb d_La_law_1374 (by decide) ?_
        refine va_lald hx hb hK hP 28 27 rfl rfl (by unfold vp_in; decide) d_La_law_1375 ?_
        refine lv_iload hx hb d_La_law_1376 (lv_at hl 0 rfl) ?_
        refine lv_i2l hx hb d_La_law_1378 rfl ?_
        refine W.lcmp hx hb d_La_law_1379 ?_
        refine lv_if_eq (tgt := 1385) hx hb d_La_law_1380 (by decide) (fun c_214 => ?_) (fun c_214 => ?_)
        · have h := lf_t h c_214
          exact hB_1385 _ hr_33 hm_33 y_4 Y G S T_211 oo _ _ _ h hP hD hS (lv_sub hl [2, 3, 4, 5, 6] rfl)
        · have h := lf_f h c_214
          refine lv_iconst (v := 0) hx hb d_La_law_1383 (by decide) ?_
          exact lf_01 h
    · have h := lf_f h c_212
      refine lv_iconst (v := 0) hx hb d_La_law_1366 (by decide) ?_
      exact lf_01 h
  have hB_1320 : ∀ (rec_33 : Int32 → CG → CS → MS → (Nat → Int64) → Option (Int32 × CG × CS)) (hr_33 : ∀ (y_4 : Int32) (Y : CT) (G : CG) (S : CS) (T : MS) (oo : Nat → Int64) (H : Heap) (locs : List Loc) (ls : Array Slot), rec_33 y_4 G S T oo = some (1, G', S') → va_P (dC, dI) classes (wM M2 T ++ ((ou, .inl (kL, 1, .inr (.inl oo))) :: wV M Y G S)) H → va_D (fun q => s.heap.size ≤ q) (wM M2 T ++ ((ou, .inl (kL, 1, .inr (.inl oo))) :: wV M Y G S)) → va_S (fun q => s.heap.size ≤ q) s.heap H locs → lv_has ls 8 [(0, .ref b), (1, .ref M.o_Vt), (2, .ref M2.o), (3, .ref ou), (4, .int y_4)] → W p l e room_1 s m #[Value.ref b] below meth c H locs (cB + G.gc) (sB + G.gs) (lw_Z below #[Value.ref b] s) (F0 m 33 ls [])) (hm_33 : ∀ (y_4 : Int32) (G : CG) (S : CS) (T : MS) (oo : Nat → Int64) {x : Int32} {G1 : CG} {S1 : CS}, rec_33 y_4 G S T oo = some (x, G1, S1) → CG.le G G1), ∀ (y_4 : Int32) (Y : CT) (G : CG) (S : CS) (T : MS) (oo : Nat → Int64) (H : Heap) (locs : List Loc) (ls : Array Slot), f_law_1320 K L xs rec_33 y_4 G S T oo = some (1, G', S') → va_P (dC, dI) classes (wM M2 T ++ ((ou, .inl (kL, 1, .inr (.inl oo))) :: wV M Y G S)) H → va_D (fun q => s.heap.size ≤ q) (wM M2 T ++ ((ou, .inl (kL, 1, .inr (.inl oo))) :: wV M Y G S)) → va_S (fun q => s.heap.size ≤ q) s.heap H locs → lv_has ls 8 [(0, .ref b), (1, .ref M.o_Vt), (2, .ref M2.o), (3, .ref ou), (4, .int y_4)] → W p l e room_1 s m #[Value.ref b] below meth c H locs (cB + G.gc) (sB + G.gs) (lw_Z below #[Value.ref b] s) (F0 m 1320 ls []) := by
    intro rec_33 hr_33 hm_33 y_4 Y G S T oo H locs ls h hP hD hS hl
    have mF := mo_law_1320 hm_33 h
    rw [f_law_1320] at h
    refine lv_aload_n hx hb d_La_law_1320 rfl (lv_at hl 1 rfl) ?_
    refine lv_aload_n hx hb d_La_law_1321 rfl (lv_at hl 0 rfl) ?_
    refine lv_iload hx hb d_La_law_1322 (lv_at hl 4 rfl) ?_
    refine lv_iconst (v := 1) hx hb d_La_law_1324 (by decide) ?_
    refine lv_iadd hx hb d_La_law_1325 ?_
    obtain ⟨g_109, h⟩ := lf_gE h
    refine va_sld hx hb hX hbl hbA hS g_109 d_La_law_1326 ?_
    refine lv_aload_n hx hb d_La_law_1327 rfl (lv_at hl 0 rfl) ?_
    refine lv_iload hx hb d_La_law_1328 (lv_at hl 4 rfl) ?_
    refine lv_iconst (v := 2) hx hb d_La_law_1330 (by decide) ?_
    refine lv_iadd hx hb d_La_law_1331 ?_
    obtain ⟨g_110, h⟩ := lf_gE h
    refine va_sld hx hb hX hbl hbA hS g_110 d_La_law_1332 ?_
    refine lv_aload_n hx hb d_La_law_1333 rfl (lv_at hl 3 rfl) ?_
    rcases lf_hE h with ⟨r_111, G_111, S_111, hc_111, h⟩ | ⟨k_111, G_111, S_111, hc_111, h⟩
    · obtain ⟨oo_111, eo_111, h⟩ := lf_lX h
      have ml_111 := mo_Vt_run hc_111
      have mc := mo_Vt_run hc_111
      have mF1 := mo_law_1337 hm_33 h
      have hPa := hP
      have hDa := hD
      have hPc := lw_PR hPa
      have hDc := lw_DR hDa
      have hFc := lx_free hDc hS hA
      refine va_calli (x_runSW (handlers := [(0, 10, 13, 19), (0, 10, 17, 13)]) (bytes := b_La_run) (maxL := 5) (ret := (some .int)) (n := 4) (index := 173) (As := [.ref M.o_Vt, .int (xs (y_4 + 1).toNatClampNeg), .int (xs (y_4 + 2).toNatClampNeg), .ref ou]) (rest := []) ⟨hx, hb, hml, hown, hts⟩ (la_run_ok l hfl dC dI X _ ou kL oo hc_111) rfl rfl (Nat.le_of_ble_eq_true rfl) (Nat.le_of_ble_eq_true rfl) (pay_in hts (fun w h => good_Lq w (wcs (u_Lq_La _ k_La_74) (fun _ h => h) w h))) List.mem_cons_self (hts _ (u_Lq_La _ k_La_0)) ⟨(by decide), (by decide)⟩ (hlen_of (by decide +kernel)) (hts _ (u_Lq_La _ k_La_72)) (hts _ (u_Lq_La _ k_La_73)) (ps_ofE (X.same _) (fun U z1 z2 => X.mono _ _ U hFc (hEw _ _ hS U z1 z2)) hPc hKH hDc) rfl rfl hl.1 rfl (lv_room (Nat.le_of_ble_eq_true rfl)) d_La_law_1334 ⟨lw_c1 mc.1 mF1.1 hGc, lw_c1 mc.2 mF1.2 hGs⟩) hS (fun q _ h => hFc q h) hFc (fun r_ Y_111 t H locs ht hvm hw hB hz1 hk1 hS => ?_)
      rw [hw]
      obtain ⟨hP1, -, hD1⟩ := hB
      rw [ht] at hP1
      rw [← eo_111] at hP1 hD1
      obtain ⟨hP, hD⟩ := lw_jR hPa hDa hk1 hFc hP1 hD1
      refine W.widen (k := cB + G_111.gc) (n := sB + G_111.gs) (lw_c2 mc.1) (lw_c2 mc.2) ?_
      exact hB_1337 _ hr_33 hm_33 y_4 0 Y_111 G_111 S_111 T oo_111 _ _ _ h hP hD hS (lv_sub hl [0, 1, 2, 3, 4] rfl)
    · by_cases c_111_0 : k_111 = 0
      · have h := lf_t h c_111_0
        rw [c_111_0] at hc_111
        have ml_111 := mo_Vt_run hc_111
        have mc := mo_Vt_run hc_111
        have mF1 := mo_law_1337 hm_33 h
        have hPa := hP
        have hDa := hD
        have hPc := lw_PR hPa
        have hDc := lw_DR hDa
        have hFc := lx_free hDc hS hA
        refine va_calli (x_runSW (handlers := [(0, 10, 13, 19), (0, 10, 17, 13)]) (bytes := b_La_run) (maxL := 5) (ret := (some .int)) (n := 4) (index := 173) (As := [.ref M.o_Vt, .int (xs (y_4 + 1).toNatClampNeg), .int (xs (y_4 + 2).toNatClampNeg), .ref ou]) (rest := []) ⟨hx, hb, hml, hown, hts⟩ (la_run_0 l hfl dC dI X Xm _ ou kL oo hc_111) rfl rfl (Nat.le_of_ble_eq_true rfl) (Nat.le_of_ble_eq_true rfl) (pay_in hts (fun w h => good_Lq w (wcs (u_Lq_La _ k_La_74) (fun _ h => h) w h))) List.mem_cons_self (hts _ (u_Lq_La _ k_La_0)) ⟨(by decide), (by decide)⟩ (hlen_of (by decide +kernel)) (hts _ (u_Lq_La _ k_La_72)) (hts _ (u_Lq_La _ k_La_73)) (ps_ofE (X.same _) (fun U z1 z2 => X.mono _ _ U hFc (hEw _ _ hS U z1 z2)) hPc hKH hDc) rfl rfl hl.1 rfl (lv_room (Nat.le_of_ble_eq_true rfl)) d_La_law_1334 ⟨lw_c1 mc.1 mF1.1 hGc, lw_c1 mc.2 mF1.2 hGs⟩) hS (fun q _ h => hFc q h) hFc (fun r_ Y_111 t H locs ht hvm hw hB hz1 hk1 hS => ?_)
        rw [hw]
        obtain ⟨hP1, -, hD1⟩ := hB
        rw [ht] at hP1
        obtain ⟨hP, hD⟩ := lw_jR hPa hDa hk1 hFc hP1 hD1
        refine W.widen (k := cB + G_111.gc) (n := sB + G_111.gs) (lw_c2 mc.1) (lw_c2 mc.2) ?_
        exact hB_1337 _ hr_33 hm_33 y_4 2 Y_111 G_111 S_111 T oo _ _ _ h hP hD hS (lv_sub hl [0, 1, 2, 3, 4] rfl)
      · have h := lf_f h c_111_0
        by_cases c_111_1 : k_111 = 1
        · have h := lf_t h c_111_1
          rw [c_111_1] at hc_111
          have ml_111 := mo_Vt_run hc_111
          have mc := mo_Vt_run hc_111
          have mF1 := mo_law_1337 hm_33 h
          have hPa := hP
          have hDa := hD
          have hPc := lw_PR hPa
          have hDc := lw_DR hDa
          have hFc := lx_free hDc hS hA
          refine va_calli (x_runSW (handlers := [(0, 10, 13, 19), (0, 10, 17, 13)]) (bytes := b_La_run) (maxL := 5) (ret := (some .int)) (n := 4) (index := 173) (As := [.ref M.o_Vt, .int (xs (y_4 + 1).toNatClampNeg), .int (xs (y_4 + 2).toNatClampNeg), .ref ou]) (rest := []) ⟨hx, hb, hml, hown, hts⟩ (la_run_1 l hfl dC dI X _ ou kL oo hc_111) rfl rfl (Nat.le_of_ble_eq_true rfl) (Nat.le_of_ble_eq_true rfl) (pay_in hts (fun w h => good_Lq w (wcs (u_Lq_La _ k_La_74) (fun _ h => h) w h))) List.mem_cons_self (hts _ (u_Lq_La _ k_La_0)) ⟨(by decide), (by decide)⟩ (hlen_of (by decide +kernel)) (hts _ (u_Lq_La _ k_La_72)) (hts _ (u_Lq_La _ k_La_73)) (ps_ofE (X.same _) (fun U z1 z2 => X.mono _ _ U hFc (hEw _ _ hS U z1 z2)) hPc hKH hDc) rfl rfl hl.1 rfl (lv_room (Nat.le_of_ble_eq_true rfl)) d_La_law_1334 ⟨lw_c1 mc.1 mF1.1 hGc, lw_c1 mc.2 mF1.2 hGs⟩) hS (fun q _ h => hFc q h) hFc (fun r_ Y_111 t H locs ht hvm hw hB hz1 hk1 hS => ?_)
          rw [hw]
          obtain ⟨hP1, -, hD1⟩ := hB
          rw [ht] at hP1
          obtain ⟨hP, hD⟩ := lw_jR hPa hDa hk1 hFc hP1 hD1
          refine W.widen (k := cB + G_111.gc) (n := sB + G_111.gs) (lw_c2 mc.1) (lw_c2 mc.2) ?_
          exact hB_1337 _ hr_33 hm_33 y_4 1 Y_111 G_111 S_111 T oo _ _ _ h hP hD hS (lv_sub hl [0, 1, 2, 3, 4] rfl)
        · have h := lf_f h c_111_1
          exact lf_no h
  have hB_33 : ∀ (k : Nat), ∀ (y_4 : Int32) (Y : CT) (G : CG) (S : CS) (T : MS) (oo : Nat → Int64) (H : Heap) (locs : List Loc) (ls : Array Slot), f_law_33 K L xs k y_4 G S T oo = some (1, G', S') → va_P (dC, dI) classes (wM M2 T ++ ((ou, .inl (kL, 1, .inr (.inl oo))) :: wV M Y G S)) H → va_D (fun q => s.heap.size ≤ q) (wM M2 T ++ ((ou, .inl (kL, 1, .inr (.inl oo))) :: wV M Y G S)) → va_S (fun q => s.heap.size ≤ q) s.heap H locs → lv_has ls 8 [(0, .ref b), (1, .ref M.o_Vt), (2, .ref M2.o), (3, .ref ou), (4, .int y_4)] → W p l e room_1 s m #[Value.ref b] below meth c H locs (cB + G.gc) (sB + G.gs) (lw_Z below #[Value.ref b] s) (F0 m 33 ls []) := by
    intro k
    induction k with
    | zero => intro y_4 Y G S T oo H locs ls h; exact lf_no h
    | succ k hr_33 =>
      intro y_4 Y G S T oo H locs ls h hP hD hS hl
      have mF := mo_law_33 (k + 1) y_4 G S T oo h
      have hm_33 : ∀ (y_4 : Int32) (G : CG) (S : CS) (T : MS) (oo : Nat → Int64) {x : Int32} {G1 : CG} {S1 : CS}, f_law_33 K L xs k y_4 G S T oo = some (x, G1, S1) → CG.le G G1 := fun y_4 G S T oo => mo_law_33 k y_4 G S T oo
      rw [f_law_33] at h
      refine lv_iload hx hb d_La_law_33 (lv_at hl 4 rfl) ?_
      refine lv_aload_n hx hb d_La_law_35 rfl (lv_at hl 0 rfl) ?_
      refine va_slen hx hb hX hbl hbA hS d_La_law_36 ?_
      refine lv_bipush (v := 6) hx hb d_La_law_37 (by decide) ?_
      refine lv_isub hx hb d_La_law_39 ?_
      refine lv_icmp_gt (tgt := 1394) hx hb d_La_law_40 (by decide) (fun c_1 => ?_) (fun c_1 => ?_)
      · have h := lf_t h c_1
        refine lv_iconst (v := 1) hx hb d_La_law_1394 (by decide) ?_
        have e2 : G = G' := congrArg (fun z => z.2.1) (Option.some.inj h)
        exact W.widen (lw_c3 e2 hGc) (lw_c4 e2 hGs) (va_forget (fun q hq => hS.2.2 q hq) (lw_ret hx hb hr hlocks d_La_law_1395))
      · have h := lf_f h c_1
        refine lv_aload_n hx hb d_La_law_43 rfl (lv_at hl 0 rfl) ?_
        refine lv_iload hx hb d_La_law_44 (lv_at hl 4 rfl) ?_
        obtain ⟨g_2, h⟩ := lf_gE h
        refine va_sld hx hb hX hbl hbA hS g_2 d_La_law_46 ?_
        refine lv_bipush (v := 31) hx hb d_La_law_47 (by decide) ?_
        refine lv_iand hx hb d_La_law_49 ?_
        by_cases c_3 : ((xs y_4.toNatClampNeg) &&& 31) = 0
        · have h := lf_t h c_3
          refine lv_tableIn (tgt := 160) hx hb d_La_law_50 (by rw [c_3]; decide) (by rw [c_3]; decide) (by rw [c_3]; (try rfl)) (by decide) ?_
          exact hB_160 _ hr_33 hm_33 y_4 Y G S T oo _ _ _ h hP hD hS (lv_sub hl [0, 1, 2, 3, 4] rfl)
        · have h := lf_f h c_3
          by_cases c_4 : ((xs y_4.toNatClampNeg) &&& 31) = 1
          · have h := lf_t h c_4
            refine lv_tableIn (tgt := 231) hx hb d_La_law_50 (by rw [c_4]; decide) (by rw [c_4]; decide) (by rw [c_4]; (try rfl)) (by decide) ?_
            exact hB_231 _ hr_33 hm_33 y_4 Y G S T oo _ _ _ h hP hD hS (lv_sub hl [0, 1, 2, 3, 4] rfl)
          · have h := lf_f h c_4
            by_cases c_5 : ((xs y_4.toNatClampNeg) &&& 31) = 2
            · have h := lf_t h c_5
              refine lv_tableIn (tgt := 256) hx hb d_La_law_50 (by rw [c_5]; decide) (by rw [c_5]; decide) (by rw [c_5]; (try rfl)) (by decide) ?_
              exact hB_256 _ hr_33 hm_33 y_4 Y G S T oo _ _ _ h hP hD hS (lv_sub hl [0, 1, 2, 3, 4] rfl)
            · have h := lf_f h c_5
              by_cases c_6 : ((xs y_4.toNatClampNeg) &&& 31) = 3
              · have h := lf_t h c_6
                refine lv_tableIn (tgt := 267) hx hb d_La_law_50 (by rw [c_6]; decide) (by rw [c_6]; decide) (by rw [c_6]; (try rfl)) (by decide) ?_
                exact hB_267 _ hr_33 hm_33 y_4 Y G S T oo _ _ _ h hP hD hS (lv_sub hl [0, 1, 2, 3, 4] rfl)
              · have h := lf_f h c_6
                by_cases c_7 : ((xs y_4.toNatClampNeg) &&& 31) = 4
                · have h := lf_t h c_7
                  refine lv_tableIn (tgt := 359) hx hb d_La_law_50 (by rw [c_7]; decide) (by rw [c_7]; decide) (by rw [c_7]; (try rfl)) (by decide) ?_
                  exact hB_359 _ hr_33 hm_33 y_4 Y G S T oo _ _ _ h hP hD hS (lv_sub hl [0, 1, 2, 3, 4] rfl)
                · have h := lf_f h c_7
                  by_cases c_8 : ((xs y_4.toNatClampNeg) &&& 31) = 5
                  · have h := lf_t h c_8
                    refine lv_tableIn (tgt := 408) hx hb d_La_law_50 (by rw [c_8]; decide) (by rw [c_8]; decide) (by rw [c_8]; (try rfl)) (by decide) ?_
                    exact hB_408 _ hr_33 hm_33 y_4 Y G S T oo _ _ _ h hP hD hS (lv_sub hl [0, 1, 2, 3, 4] rfl)
                  · have h := lf_f h c_8
                    by_cases c_9 : ((xs y_4.toNatClampNeg) &&& 31) = 6
                    · have h := lf_t h c_9
                      refine lv_tableIn (tgt := 421) hx hb d_La_law_50 (by rw [c_9]; decide) (by rw [c_9]; decide) (by rw [c_9]; (try rfl)) (by decide) ?_
                      exact hB_421 _ hr_33 hm_33 y_4 Y G S T oo _ _ _ h hP hD hS (lv_sub hl [0, 1, 2, 3, 4] rfl)
                    · have h := lf_f h c_9
                      by_cases c_10 : ((xs y_4.toNatClampNeg) &&& 31) = 7
                      · have h := lf_t h c_10
                        refine lv_tableIn (tgt := 434) hx hb d_La_law_50 (by rw [c_10]; decide) (by rw [c_10]; decide) (by rw [c_10]; (try rfl)) (by decide) ?_
                        exact hB_434 _ hr_33 hm_33 y_4 Y G S T oo _ _ _ h hP hD hS (lv_sub hl [0, 1, 2, 3, 4] rfl)
                      · have h := lf_f h c_10
                        by_cases c_11 : ((xs y_4.toNatClampNeg) &&& 31) = 8
                        · have h := lf_t h c_11
                          refine lv_tableIn (tgt := 471) hx hb d_La_law_50 (by rw [c_11]; decide) (by rw [c_11]; decide) (by rw [c_11]; (try rfl)) (by decide) ?_
                          exact hB_471 _ hr_33 hm_33 y_4 Y G S T oo _ _ _ h hP hD hS (lv_sub hl [0, 1, 2, 3, 4] rfl)
                        · have h := lf_f h c_11
                          by_cases c_12 : ((xs y_4.toNatClampNeg) &&& 31) = 9
                          · have h := lf_t h c_12
                            refine lv_tableIn (tgt := 515) hx hb d_La_law_50 (by rw [c_12]; decide) (by rw [c_12]; decide) (by rw [c_12]; (try rfl)) (by decide) ?_
                            exact hB_515 _ hr_33 hm_33 y_4 Y G S T oo _ _ _ h hP hD hS (lv_sub hl [0, 1, 2, 3, 4] rfl)
                          · have h := lf_f h c_12
                            by_cases c_13 : ((xs y_4.toNatClampNeg) &&& 31) = 10
                            · have h := lf_t h c_13
                              refine lv_tableIn (tgt := 583) hx hb d_La_law_50 (by rw [c_13]; decide) (by rw [c_13]; decide) (by rw [c_13]; (try rfl)) (by decide) ?_
                              exact hB_583 _ hr_33 hm_33 y_4 Y G S T oo _ _ _ h hP hD hS (lv_sub hl [0, 1, 2, 3, 4] rfl)
                            · have h := lf_f h c_13
                              by_cases c_14 : ((xs y_4.toNatClampNeg) &&& 31) = 11
                              · have h := lf_t h c_14
                                refine lv_tableIn (tgt := 650) hx hb d_La_law_50 (by rw [c_14]; decide) (by rw [c_14]; decide) (by rw [c_14]; (try rfl)) (by decide) ?_
                                exact hB_650 _ hr_33 hm_33 y_4 Y G S T oo _ _ _ h hP hD hS (lv_sub hl [0, 1, 2, 3, 4] rfl)
                              · have h := lf_f h c_14
                                by_cases c_15 : ((xs y_4.toNatClampNeg) &&& 31) = 12
                                · have h := lf_t h c_15
                                  refine lv_tableIn (tgt := 718) hx hb d_La_law_50 (by rw [c_15]; decide) (by rw [c_15]; decide) (by rw [c_15]; (try rfl)) (by decide) ?_
                                  exact hB_718 _ hr_33 hm_33 y_4 Y G S T oo _ _ _ h hP hD hS (lv_sub hl [0, 1, 2, 3, 4] rfl)
                                · have h := lf_f h c_15
                                  by_cases c_16 : ((xs y_4.toNatClampNeg) &&& 31) = 13
                                  · have h := lf_t h c_16
                                    refine lv_tableIn (tgt := 774) hx hb d_La_law_50 (by rw [c_16]; decide) (by rw [c_16]; decide) (by rw [c_16]; (try rfl)) (by decide) ?_
                                    exact hB_774 _ hr_33 hm_33 y_4 Y G S T oo _ _ _ h hP hD hS (lv_sub hl [0, 1, 2, 3, 4] rfl)
                                  · have h := lf_f h c_16
                                    by_cases c_17 : ((xs y_4.toNatClampNeg) &&& 31) = 14
                                    · have h := lf_t h c_17
                                      refine lv_tableIn (tgt := 825) hx hb d_La_law_50 (by rw [c_17]; decide) (by rw [c_17]; decide) (by rw [c_17]; (try rfl)) (by decide) ?_
                                      exact hB_825 _ hr_33 hm_33 y_4 Y G S T oo _ _ _ h hP hD hS (lv_sub hl [0, 1, 2, 3, 4] rfl)
                                    · have h := lf_f h c_17
                                      by_cases c_18 : ((xs y_4.toNatClampNeg) &&& 31) = 15
                                      · have h := lf_t h c_18
                                        refine lv_tableIn (tgt := 897) hx hb d_La_law_50 (by rw [c_18]; decide) (by rw [c_18]; decide) (by rw [c_18]; (try rfl)) (by decide) ?_
                                        exact hB_897 _ hr_33 hm_33 y_4 Y G S T oo _ _ _ h hP hD hS (lv_sub hl [0, 1, 2, 3, 4] rfl)
                                      · have h := lf_f h c_18
                                        by_cases c_19 : ((xs y_4.toNatClampNeg) &&& 31) = 16
                                        · have h := lf_t h c_19
                                          refine lv_tableIn (tgt := 953) hx hb d_La_law_50 (by rw [c_19]; decide) (by rw [c_19]; decide) (by rw [c_19]; (try rfl)) (by decide) ?_
                                          exact hB_953 _ hr_33 hm_33 y_4 Y G S T oo _ _ _ h hP hD hS (lv_sub hl [0, 1, 2, 3, 4] rfl)
                                        · have h := lf_f h c_19
                                          by_cases c_20 : ((xs y_4.toNatClampNeg) &&& 31) = 17
                                          · have h := lf_t h c_20
                                            refine lv_tableIn (tgt := 1033) hx hb d_La_law_50 (by rw [c_20]; decide) (by rw [c_20]; decide) (by rw [c_20]; (try rfl)) (by decide) ?_
                                            exact hB_1033 _ hr_33 hm_33 y_4 Y G S T oo _ _ _ h hP hD hS (lv_sub hl [0, 1, 2, 3, 4] rfl)
                                          · have h := lf_f h c_20
                                            by_cases c_21 : ((xs y_4.toNatClampNeg) &&& 31) = 18
                                            · have h := lf_t h c_21
                                              refine lv_tableIn (tgt := 1101) hx hb d_La_law_50 (by rw [c_21]; decide) (by rw [c_21]; decide) (by rw [c_21]; (try rfl)) (by decide) ?_
                                              exact hB_1101 _ hr_33 hm_33 y_4 Y G S T oo _ _ _ h hP hD hS (lv_sub hl [0, 1, 2, 3, 4] rfl)
                                            · have h := lf_f h c_21
                                              by_cases c_22 : ((xs y_4.toNatClampNeg) &&& 31) = 19
                                              · have h := lf_t h c_22
                                                refine lv_tableIn (tgt := 1137) hx hb d_La_law_50 (by rw [c_22]; decide) (by rw [c_22]; decide) (by rw [c_22]; (try rfl)) (by decide) ?_
                                                exact hB_1137 _ hr_33 hm_33 y_4 Y G S T oo _ _ _ h hP hD hS (lv_sub hl [0, 1, 2, 3, 4] rfl)
                                              · have h := lf_f h c_22
                                                by_cases c_23 : ((xs y_4.toNatClampNeg) &&& 31) = 20
                                                · have h := lf_t h c_23
                                                  refine lv_tableIn (tgt := 1209) hx hb d_La_law_50 (by rw [c_23]; decide) (by rw [c_23]; decide) (by rw [c_23]; (try rfl)) (by decide) ?_
                                                  exact hB_1209 _ hr_33 hm_33 y_4 Y G S T oo _ _ _ h hP hD hS (lv_sub hl [0, 1, 2, 3, 4] rfl)
                                                · have h := lf_f h c_23
                                                  by_cases c_24 : ((xs y_4.toNatClampNeg) &&& 31) = 21
                                                  · have h := lf_t h c_24
                                                    refine lv_tableIn (tgt := 1246) hx hb d_La_law_50 (by rw [c_24]; decide) (by rw [c_24]; decide) (by rw [c_24]; (try rfl)) (by decide) ?_
                                                    exact hB_1246 _ hr_33 hm_33 y_4 Y G S T oo _ _ _ h hP hD hS (lv_sub hl [0, 1, 2, 3, 4] rfl)
                                                  · have h := lf_f h c_24
                                                    by_cases c_25 : ((xs y_4.toNatClampNeg) &&& 31) = 22
                                                    · have h := lf_t h c_25
                                                      refine lv_tableIn (tgt := 1283) hx hb d_La_law_50 (by rw [c_25]; decide) (by rw [c_25]; decide) (by rw [c_25]; (try rfl)) (by decide) ?_
                                                      exact hB_1283 _ hr_33 hm_33 y_4 Y G S T oo _ _ _ h hP hD hS (lv_sub hl [0, 1, 2, 3, 4] rfl)
                                                    · have h := lf_f h c_25
                                                      by_cases c_26 : ((xs y_4.toNatClampNeg) &&& 31) = 23
                                                      · have h := lf_t h c_26
                                                        refine lv_tableIn (tgt := 1320) hx hb d_La_law_50 (by rw [c_26]; decide) (by rw [c_26]; decide) (by rw [c_26]; (try rfl)) (by decide) ?_
                                                        exact hB_1320 _ hr_33 hm_33 y_4 Y G S T oo _ _ _ h hP hD hS (lv_sub hl [0, 1, 2, 3, 4] rfl)
                                                      · have h := lf_f h c_26
                                                        refine lv_tableOut (tgt := 1388) hx hb d_La_law_50 (by have n0 := lv_neT (a := 0) c_3 (by decide); have n1 := lv_neT (a := 1) c_4 (by decide); have n2 := lv_neT (a := 2) c_5 (by decide); have n3 := lv_neT (a := 3) c_6 (by decide); have n4 := lv_neT (a := 4) c_7 (by decide); have n5 := lv_neT (a := 5) c_8 (by decide); have n6 := lv_neT (a := 6) c_9 (by decide); have n7 := lv_neT (a := 7) c_10 (by decide); have n8 := lv_neT (a := 8) c_11 (by decide); have n9 := lv_neT (a := 9) c_12 (by decide); have n10 := lv_neT (a := 10) c_13 (by decide); have n11 := lv_neT (a := 11) c_14 (by decide); have n12 := lv_neT (a := 12) c_15 (by decide); have n13 := lv_neT (a := 13) c_16 (by decide); have n14 := lv_neT (a := 14) c_17 (by decide); have n15 := lv_neT (a := 15) c_18 (by decide); have n16 := lv_neT (a := 16) c_19 (by decide); have n17 := lv_neT (a := 17) c_20 (by decide); have n18 := lv_neT (a := 18) c_21 (by decide); have n19 := lv_neT (a := 19) c_22 (by decide); have n20 := lv_neT (a := 20) c_23 (by decide); have n21 := lv_neT (a := 21) c_24 (by decide); have n22 := lv_neT (a := 22) c_25 (by decide); have n23 := lv_neT (a := 23) c_26 (by decide); omega) (by decide) ?_
                                                        exact hB_1388 _ hr_33 hm_33 y_4 Y G S T oo _ _ _ h hP hD hS (lv_sub hl [0, 1, 2, 3, 4] rfl)
  exact hB_33
