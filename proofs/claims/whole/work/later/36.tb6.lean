/-- the first table's entries, the first i of them read -/
def tb_nx (n : Nat) (f : Nat → Int32) (v k : Int32) (i : Nat) (nx : Nat → Int32) : Nat → Int32 := fun j => if j < i then (if k + 2 ≤ nI j then 0 else dk_four n f (v * 512 + 4 * nI j) &&& 268435455) else nx j
theorem tb_nx0 (n : Nat) (f : Nat → Int32) (v k : Int32) (nx : Nat → Int32) : tb_nx n f v k 0 nx = nx := by
  funext j
  exact if_neg (Nat.not_lt_zero j)
theorem tb_nxS {n : Nat} {f : Nat → Int32} {v k : Int32} {i : Nat} {nx : Nat → Int32} {x : Int32} (hi : i < 2 ^ 31) (hx : (if k + 2 ≤ nI i then 0 else dk_four n f (v * 512 + 4 * nI i) &&& 268435455) = x) : upd (tb_nx n f v k i nx) (nI i).toNatClampNeg x = tb_nx n f v k (i + 1) nx := by
  funext j
  rw [nI_clamp hi]
  unfold upd tb_nx
  by_cases h : j = i
  · subst h; rw [if_pos rfl, if_pos (show j < j + 1 by omega), hx]
  · rw [if_neg h]
    by_cases h2 : j < i
    · rw [if_pos h2, if_pos (show j < i + 1 by omega)]
    · rw [if_neg h2, if_neg (show ¬ j < i + 1 by omega)]
def tb_rd (sec : Int32) (n : Nat) (f : Nat → Int32) (nl : Nat) (u : Int32 × Int32 × Int32 × Int32 × Int32 × Int32 × Int32 × (Nat → Int32)) : Int32 × (Int32 × Int32 × Int32 × Int32 × Int32 × Int32 × Int32 × (Nat → Int32)) :=
  if tb_const sec n f = 0 then (0, u) else if tb_fit (dk_one n f 13) (dk_two n f 14) (dk_one n f 16) (dk_four n f 36) = 0 then (0, u) else if tb_en (tb_cw sec (dk_one n f 13) (dk_two n f 14) (dk_one n f 16) (dk_four n f 36)) (dk_four n f 36) = 0 then (0, u) else if dk_four n f 44 < 2 then (0, u) else if dk_four n f 44 ≤ tb_cw sec (dk_one n f 13) (dk_two n f 14) (dk_one n f 16) (dk_four n f 36) + 1 then (1, (dk_one n f 13, dk_two n f 14, dk_one n f 16, dk_four n f 36, dk_four n f 44, dk_two n f 14 + dk_one n f 16 * dk_four n f 36, tb_cw sec (dk_one n f 13) (dk_two n f 14) (dk_one n f 16) (dk_four n f 36), tb_nx n f (dk_two n f 14) (tb_cw sec (dk_one n f 13) (dk_two n f 14) (dk_one n f 16) (dk_four n f 36)) nl u.2.2.2.2.2.2.2)) else (0, u)
set_option maxHeartbeats 4000000 in
set_option maxRecDepth 100000 in
/-- read: sector 0 as told, then the first table -/
theorem c_Tb_read (l : Launch) (dC : Nat → ClassId) (dI : Nat → Nat → Nat) (b0 b1 b2 h0 sz : Nat) (cl be co le ro sa ks : Int32) (c1 : ClassId) (nl : Nat) (nx : Nat → Int32) (hnl : nl < 2 ^ 31) (h1 : Nat) (cB : ClassId) (sec pw : Int32) (n : Nat) (f : Nat → Int32) (h4 : 4 ≤ n) (hn : n < 2 ^ 31) : Met l y_Tb_read (.code y_Tb_read b_Tb_read 8 (some .boolean) :: V_Tb) ({ frames := 2, cells := 0, slots := 0, locals := 41 }) (va_Pc [.ref b0] (fun U => U.heap.size = sz ∧ at_ (dC, dI) (fun _ => True) [(b0, .inr (4, [.ref h0, .int cl, .int be, .int co, .int le, .int ro, .int sa, .int ks, .ref b1, .ref b2])), (b1, .inl (c1, nl, .inl nx)), (h0, .inr (0, [.int sec, .ref h1, .int pw])), (h1, .inl (cB, n, .inl f))] [(c1, .int), (cB, .byte)] U)) (va_Qi (fun (r : Int32) (u : Int32 × Int32 × Int32 × Int32 × Int32 × Int32 × Int32 × (Nat → Int32)) => (r, u) = tb_rd sec n f nl (cl, be, co, le, ro, sa, ks, nx)) (fun (u : Int32 × Int32 × Int32 × Int32 × Int32 × Int32 × Int32 × (Nat → Int32)) t => at_ (dC, dI) (va_A [(b0, .inr (4, [.ref h0, .int cl, .int be, .int co, .int le, .int ro, .int sa, .int ks, .ref b1, .ref b2])), (b1, .inl (c1, nl, .inl nx)), (h0, .inr (0, [.int sec, .ref h1, .int pw])), (h1, .inl (cB, n, .inl f))] sz) [(b0, .inr (4, [.ref h0, .int u.1, .int u.2.1, .int u.2.2.1, .int u.2.2.2.1, .int u.2.2.2.2.1, .int u.2.2.2.2.2.1, .int u.2.2.2.2.2.2.1, .ref b1, .ref b2])), (b1, .inl (c1, nl, .inl u.2.2.2.2.2.2.2)), (h0, .inr (0, [.int sec, .ref h1, .int pw])), (h1, .inl (cB, n, .inl f))] [(c1, .int), (cB, .byte)] t) (va_A [(b0, .inr (4, [.ref h0, .int cl, .int be, .int co, .int le, .int ro, .int sa, .int ks, .ref b1, .ref b2])), (b1, .inl (c1, nl, .inl nx)), (h0, .inr (0, [.int sec, .ref h1, .int pw])), (h1, .inl (cB, n, .inl f))] sz)) 0 0 (va_A [(b0, .inr (4, [.ref h0, .int cl, .int be, .int co, .int le, .int ro, .int sa, .int ks, .ref b1, .ref b2])), (b1, .inl (c1, nl, .inl nx)), (h0, .inr (0, [.int sec, .ref h1, .int pw])), (h1, .inl (cB, n, .inl f))] sz) := by
  refine Met.ofW (cc := b_Tb_read) (maxL := 8) (ret := (some .boolean)) (by decide) rfl ?_
  intro p e s m args below meth c s₁ B hml hv
  obtain ⟨rfl, hsz, hP, hK, hD0⟩ := hv
  have hx := B.exec
  have hb := B.bytes
  have hr := B.returns
  have hts0 := atoms_spec (ws := .code y_Tb_read b_Tb_read 8 (some .boolean) :: V_Tb) B.pre
  have hts : ∀ w ∈ V_Tb, w.before ([.ref b0] : List Value).toArray s = true := fun w h => hts0 w (List.mem_cons_of_mem _ h)
  have hown : s.vm.findClass R_Tb = some m.cls := findClass_of_methodNamed B.named
  have hlocks := B.notSynchronized
  subst hsz
  have hD := hD0.self (sz := s.heap.size)
  generalize hAe : va_A [(b0, .inr (4, [.ref h0, .int cl, .int be, .int co, .int le, .int ro, .int sa, .int ks, .ref b1, .ref b2])), (b1, .inl (c1, nl, .inl nx)), (h0, .inr (0, [.int sec, .ref h1, .int pw])), (h1, .inl (cB, n, .inl f))] s.heap.size = A at hD ⊢
  have hA : ∀ q : Nat, s.heap.size ≤ q → A q := fun q h => by rw [← hAe]; exact Or.inr h
  have hS : va_S A s.heap s.heap [] := va_S.rf
  have hP : va_P (dC, dI) classes [(b0, .inr (4, [.ref h0, .int cl, .int be, .int co, .int le, .int ro, .int sa, .int ks, .ref b1, .ref b2])), (b1, .inl (c1, nl, .inl nx)), (h0, .inr (0, [.int sec, .ref h1, .int pw])), (h1, .inl (cB, n, .inl f))] s.heap := hP
  have hK : va_K (dC, dI) classes [(c1, .int), (cB, .byte)] s := hK
  have hl := lv_entry ([.ref b0]) (n := 8) (Nat.le_of_ble_eq_true rfl)
  rw [lg_entry_eq]
  generalize (lg_sl ([.ref b0]) ++ List.replicate (8 - (lg_sl ([.ref b0])).length) Slot.unset).toArray = ls at hl ⊢
  have hl : lv_has ls 8 [(0, .ref b0)] := hl
  refine qabs (fun Q hQ => ?_)
  have hL156 : ∀ (k_ : Nat) (i : Nat) (vc : Int32) (vv : Int32) (vy : Int32) (vz : Int32) (vr : Int32) (vk : Int32) (va : Int32) (H : Heap) (locs : List Loc) (ls : Array Slot), nl - i < k_ → (i ≤ nl) → ((1, (vc, vv, vy, vz, vr, va, vk, tb_nx n f vv vk nl nx)) = tb_rd sec n f nl (cl, be, co, le, ro, sa, ks, nx)) → va_P (dC, dI) classes [(b0, .inr (4, [.ref h0, .int vc, .int vv, .int vy, .int vz, .int vr, .int va, .int vk, .ref b1, .ref b2])), (b1, .inl (c1, nl, .inl (tb_nx n f vv vk i nx))), (h0, .inr (0, [.int sec, .ref h1, .int pw])), (h1, .inl (cB, n, .inl f))] H → va_D A [(b0, .inr (4, [.ref h0, .int vc, .int vv, .int vy, .int vz, .int vr, .int va, .int vk, .ref b1, .ref b2])), (b1, .inl (c1, nl, .inl (tb_nx n f vv vk i nx))), (h0, .inr (0, [.int sec, .ref h1, .int pw])), (h1, .inl (cB, n, .inl f))] → va_S A s.heap H locs → lv_has ls 8 [(0, .ref b0), (1, .int vc), (2, .int vv), (3, .int vy), (4, .int vz), (5, .int vr), (6, .int vk), (7, .int (nI i))] → W p l e ({ frames := 2, cells := 0, slots := 0, locals := 41 }) s m ([.ref b0] : List Value).toArray below meth c H locs 0 0 Q (F0 m 156 ls []) := by
    intro k_
    induction k_ with
    | zero => intro i vc vv vy vz vr vk va H locs ls hk_; exact absurd hk_ (Nat.not_lt_zero _)
    | succ k_ ih =>
      intro i vc vv vy vz vr vk va H locs ls hk_ hi he hP hD hS hl
      refine lv_iload hx hb d_Tb_read_156 (lv_at hl 7 rfl) ?_
      refine lv_aload_n hx hb d_Tb_read_158 rfl (lv_at hl 0 rfl) ?_
      refine va_get (D := (dC, dI)) (ci := 4) (v := .ref b1) (C := R_Tb) (T := F_Tb) (N := 10) hx hb hts i_Tb hown hK hP 0 rfl rfl 8 (by decide) (hts _ (k_Tb_14)) (fun _ h9 => h9) rfl d_Tb_read_159 ?_
      refine va_alen (v := nI nl) hx hb hK hP 1 0 rfl rfl rfl d_Tb_read_162 ?_
      refine lv_icmp_ge (tgt := 212) hx hb d_Tb_read_163 (by decide) (fun c_1 => ?_) (fun c_1 => ?_)
      · have hi9 : i = nl := Nat.le_antisymm hi ((nI_leI (by omega) (by omega)).mp c_1)
        refine lv_iconst (v := 1) hx hb d_Tb_read_212 (by decide) ?_
        rw [hQ]
        exact W.zret (v := 1) hx hb hr rfl (fun t ht hW => ⟨⟨1, (vc, vv, vy, vz, vr, va, vk, tb_nx n f vv vk i nx), rfl, by rw [hi9]; exact he, by rw [ht]; exact hP, va_K.moved hW.alike hK, hD⟩, hS.F ht⟩) hS.2.2 d_Tb_read_213
      · have hlt : i < nl := Nat.lt_of_not_le (fun h => c_1 ((nI_leI (by omega) (by omega)).mpr h))
        refine lv_aload_n hx hb d_Tb_read_166 rfl (lv_at hl 0 rfl) ?_
        refine va_get (D := (dC, dI)) (ci := 4) (v := .ref b1) (C := R_Tb) (T := F_Tb) (N := 10) hx hb hts i_Tb hown hK hP 0 rfl rfl 8 (by decide) (hts _ (k_Tb_14)) (fun _ h9 => h9) rfl d_Tb_read_167 ?_
        refine lv_iload hx hb d_Tb_read_170 (lv_at hl 7 rfl) ?_
        refine lv_iload hx hb d_Tb_read_172 (lv_at hl 7 rfl) ?_
        refine lv_iload hx hb d_Tb_read_174 (lv_at hl 6 rfl) ?_
        refine lv_iconst (v := 2) hx hb d_Tb_read_176 (by decide) ?_
        refine lv_iadd hx hb d_Tb_read_177 ?_
        refine lv_icmp_ge (tgt := 204) hx hb d_Tb_read_178 (by decide) (fun c_2 => ?_) (fun c_2 => ?_)
        · refine lv_iconst (v := 0) hx hb d_Tb_read_204 (by decide) ?_
          refine va_iast hx hb hK hP hD hS 1 0 rfl rfl (vp_in_nI hlt hnl) d_Tb_read_205 (fun H locs hP hD hS => ?_)
          have hP : va_P (dC, dI) classes [(b0, .inr (4, [.ref h0, .int vc, .int vv, .int vy, .int vz, .int vr, .int va, .int vk, .ref b1, .ref b2])), (b1, .inl (c1, nl, .inl (upd (tb_nx n f vv vk i nx) (nI i).toNatClampNeg 0))), (h0, .inr (0, [.int sec, .ref h1, .int pw])), (h1, .inl (cB, n, .inl f))] H := hP
          have hD : va_D A [(b0, .inr (4, [.ref h0, .int vc, .int vv, .int vy, .int vz, .int vr, .int va, .int vk, .ref b1, .ref b2])), (b1, .inl (c1, nl, .inl (upd (tb_nx n f vv vk i nx) (nI i).toNatClampNeg 0))), (h0, .inr (0, [.int sec, .ref h1, .int pw])), (h1, .inl (cB, n, .inl f))] := hD
          refine lv_iinc (v := nI (i + 1)) (lv' := [(7, .int (nI (i + 1))), (0, .ref b0), (1, .int vc), (2, .int vv), (3, .int vy), (4, .int vz), (5, .int vr), (6, .int vk)]) hx hb d_Tb_read_206 hl (k := 7) rfl (by exact nI_1 i) (by decide) rfl (fun ls hl => ?_)
          refine lv_goto (tgt := 156) hx hb d_Tb_read_209 (by decide) ?_
          rw [tb_nxS (by omega) (if_pos c_2)] at hP hD
          exact ih (i + 1) vc vv vy vz vr vk va _ _ _ (by omega) hlt he hP hD hS (lv_sub hl [1, 2, 3, 4, 5, 6, 7, 0] rfl)
        · refine lv_aload_n hx hb d_Tb_read_181 rfl (lv_at hl 0 rfl) ?_
          refine va_get (D := (dC, dI)) (ci := 4) (v := .ref h0) (C := R_Tb) (T := F_Tb) (N := 10) hx hb hts i_Tb hown hK hP 0 rfl rfl 0 (by decide) (hts _ (k_Tb_6)) (fun _ h9 => h9) rfl d_Tb_read_182 ?_
          refine lv_iload_n hx hb d_Tb_read_185 rfl (lv_at hl 2 rfl) ?_
          refine lv_sipush (v := 512) hx hb d_Tb_read_186 (by decide) ?_
          refine lv_imul hx hb d_Tb_read_189 ?_
          refine lv_iconst (v := 4) hx hb d_Tb_read_190 (by decide) ?_
          refine lv_iload hx hb d_Tb_read_191 (lv_at hl 7 rfl) ?_
          refine lv_imul hx hb d_Tb_read_193 ?_
          refine lv_iadd hx hb d_Tb_read_194 ?_
          have hPc := hP.sub (ws' := [(h0, .inr (0, [.int sec, .ref h1, .int pw])), (h1, .inl (cB, n, .inl f))]) [2, 3] rfl
          have hDc := hD.sub (ws' := [(h0, .inr (0, [.int sec, .ref h1, .int pw])), (h1, .inl (cB, n, .inl f))]) [2, 3] (by decide) rfl
          have hKc := hK.sub (tys' := [(cB, .byte)]) [1] rfl
          have hFc := va_free (wc := [(h0, .inr (0, [.int sec, .ref h1, .int pw])), (h1, .inl (cB, n, .inl f))]) hD hS hA [2, 3] rfl
          refine va_calli (va_runV (As := [.int ((vv * 512) + (4 * (nI i)))]) (rest := [.int (nI i), .ref b1]) ⟨hx, hb, hml, hown, hts⟩ (c_Dk_four l dC dI h0 h1 H.size cB sec pw n f h4 hn ((vv * 512) + (4 * (nI i)))) (cwV 1 hts (gwV good_Tb (k_Tb_24) (u_Tb_Dk _ k_Dk_14) (u_Tb_Dk _ k_Dk_15) (u_Tb_Dk _ k_Dk_0) (wcs (u_Tb_Dk _ k_Dk_16) u_Tb_Dk)) rfl rfl rfl (by decide +kernel) ⟨Nat.le_of_ble_eq_true rfl, Nat.le_of_ble_eq_true rfl⟩) (pv_of hPc hKc hDc (va_recv hKc hPc (ci := 0) (q0 := 0) rfl rfl)) rfl rfl hl.1 rfl (lv_room (Nat.le_of_ble_eq_true rfl)) d_Tb_read_195 ⟨by decide, by decide⟩) hS (fun q _ h => hFc q h) hFc (fun r_3 u t H1 locs ht hvm hw hB hz1 hk1 hS => ?_)
          obtain ⟨er_3, rfl⟩ := hw
          obtain ⟨hP1, hK1, hD1⟩ := hB
          rw [ht] at hP1
          have hP1 : va_P (dC, dI) classes [(h0, .inr (0, [.int sec, .ref h1, .int pw])), (h1, .inl (cB, n, .inl f))] H1 := hP1
          have hD1 : va_D _ [(h0, .inr (0, [.int sec, .ref h1, .int pw])), (h1, .inl (cB, n, .inl f))] := hD1
          obtain ⟨hP, hD⟩ := va_join (wr := [(b0, .inr (4, [.ref h0, .int vc, .int vv, .int vy, .int vz, .int vr, .int va, .int vk, .ref b1, .ref b2])), (b1, .inl (c1, nl, .inl (tb_nx n f vv vk i nx)))]) (w1 := [(h0, .inr (0, [.int sec, .ref h1, .int pw])), (h1, .inl (cB, n, .inl f))]) hP hD [2, 3] [0, 1] rfl rfl (by decide) (by decide) hk1 hFc hP1 hD1
          generalize H1 = H at hP hS ⊢
          have hP : va_P (dC, dI) classes [(b0, .inr (4, [.ref h0, .int vc, .int vv, .int vy, .int vz, .int vr, .int va, .int vk, .ref b1, .ref b2])), (b1, .inl (c1, nl, .inl (tb_nx n f vv vk i nx))), (h0, .inr (0, [.int sec, .ref h1, .int pw])), (h1, .inl (cB, n, .inl f))] H := hP
          have hD : va_D A [(b0, .inr (4, [.ref h0, .int vc, .int vv, .int vy, .int vz, .int vr, .int va, .int vk, .ref b1, .ref b2])), (b1, .inl (c1, nl, .inl (tb_nx n f vv vk i nx))), (h0, .inr (0, [.int sec, .ref h1, .int pw])), (h1, .inl (cB, n, .inl f))] := hD
          refine lv_ldc (v := 268435455) hx hb hown (hts _ (k_Tb_38)) d_Tb_read_198 ?_
          refine lv_iand hx hb d_Tb_read_200 ?_
          refine lv_goto (tgt := 205) hx hb d_Tb_read_201 (by decide) ?_
          refine va_iast hx hb hK hP hD hS 1 0 rfl rfl (vp_in_nI hlt hnl) d_Tb_read_205 (fun H locs hP hD hS => ?_)
          have hP : va_P (dC, dI) classes [(b0, .inr (4, [.ref h0, .int vc, .int vv, .int vy, .int vz, .int vr, .int va, .int vk, .ref b1, .ref b2])), (b1, .inl (c1, nl, .inl (upd (tb_nx n f vv vk i nx) (nI i).toNatClampNeg (r_3 &&& 268435455)))), (h0, .inr (0, [.int sec, .ref h1, .int pw])), (h1, .inl (cB, n, .inl f))] H := hP
          have hD : va_D A [(b0, .inr (4, [.ref h0, .int vc, .int vv, .int vy, .int vz, .int vr, .int va, .int vk, .ref b1, .ref b2])), (b1, .inl (c1, nl, .inl (upd (tb_nx n f vv vk i nx) (nI i).toNatClampNeg (r_3 &&& 268435455)))), (h0, .inr (0, [.int sec, .ref h1, .int pw])), (h1, .inl (cB, n, .inl f))] := hD
          refine lv_iinc (v := nI (i + 1)) (lv' := [(7, .int (nI (i + 1))), (0, .ref b0), (1, .int vc), (2, .int vv), (3, .int vy), (4, .int vz), (5, .int vr), (6, .int vk)]) hx hb d_Tb_read_206 hl (k := 7) rfl (by exact nI_1 i) (by decide) rfl (fun ls hl => ?_)
          refine lv_goto (tgt := 156) hx hb d_Tb_read_209 (by decide) ?_
          rw [tb_nxS (by omega) (by rw [if_neg c_2, ← er_3])] at hP hD
          exact ih (i + 1) vc vv vy vz vr vk va _ _ _ (by omega) hlt he hP hD hS (lv_sub hl [1, 2, 3, 4, 5, 6, 7, 0] rfl)
  refine lv_aload_n hx hb d_Tb_read_0 rfl (lv_at hl 0 rfl) ?_
  refine va_get (D := (dC, dI)) (ci := 4) (v := .ref h0) (C := R_Tb) (T := F_Tb) (N := 10) hx hb hts i_Tb hown hK hP 0 rfl rfl 0 (by decide) (hts _ (k_Tb_6)) (fun _ h9 => h9) rfl d_Tb_read_1 ?_
  refine lv_bipush (v := 13) hx hb d_Tb_read_4 (by decide) ?_
  have hPc := hP.sub (ws' := [(h0, .inr (0, [.int sec, .ref h1, .int pw])), (h1, .inl (cB, n, .inl f))]) [2, 3] rfl
  have hDc := hD.sub (ws' := [(h0, .inr (0, [.int sec, .ref h1, .int pw])), (h1, .inl (cB, n, .inl f))]) [2, 3] (by decide) rfl
  have hKc := hK.sub (tys' := [(cB, .byte)]) [1] rfl
  have hFc := va_free (wc := [(h0, .inr (0, [.int sec, .ref h1, .int pw])), (h1, .inl (cB, n, .inl f))]) hD hS hA [2, 3] rfl
  refine va_calli (va_runV (As := [.int 13]) (rest := []) ⟨hx, hb, hml, hown, hts⟩ (c_Dk_one l dC dI h0 h1 s.heap.size cB sec pw n f h4 hn 13) (cwV 1 hts (gwV good_Tb (k_Tb_22) (u_Tb_Dk _ k_Dk_20) (u_Tb_Dk _ k_Dk_21) (u_Tb_Dk _ k_Dk_0) (wcs (u_Tb_Dk _ k_Dk_22) u_Tb_Dk)) rfl rfl rfl (by decide +kernel) ⟨Nat.le_of_ble_eq_true rfl, Nat.le_of_ble_eq_true rfl⟩) (pv_of hPc hKc hDc (va_recv hKc hPc (ci := 0) (q0 := 0) rfl rfl)) rfl rfl hl.1 rfl (lv_room (Nat.le_of_ble_eq_true rfl)) d_Tb_read_6 ⟨by decide, by decide⟩) hS (fun q _ h => hFc q h) hFc (fun r_4 u t H1 locs ht hvm hw hB hz1 hk1 hS => ?_)
  obtain ⟨er_4, rfl⟩ := hw
  obtain ⟨hP1, hK1, hD1⟩ := hB
  rw [ht] at hP1
  have hP1 : va_P (dC, dI) classes [(h0, .inr (0, [.int sec, .ref h1, .int pw])), (h1, .inl (cB, n, .inl f))] H1 := hP1
  have hD1 : va_D _ [(h0, .inr (0, [.int sec, .ref h1, .int pw])), (h1, .inl (cB, n, .inl f))] := hD1
  obtain ⟨hP, hD⟩ := va_join (wr := [(b0, .inr (4, [.ref h0, .int cl, .int be, .int co, .int le, .int ro, .int sa, .int ks, .ref b1, .ref b2])), (b1, .inl (c1, nl, .inl nx))]) (w1 := [(h0, .inr (0, [.int sec, .ref h1, .int pw])), (h1, .inl (cB, n, .inl f))]) hP hD [2, 3] [0, 1] rfl rfl (by decide) (by decide) hk1 hFc hP1 hD1
  generalize H1 = H at hP hS ⊢
  have hP : va_P (dC, dI) classes [(b0, .inr (4, [.ref h0, .int cl, .int be, .int co, .int le, .int ro, .int sa, .int ks, .ref b1, .ref b2])), (b1, .inl (c1, nl, .inl nx)), (h0, .inr (0, [.int sec, .ref h1, .int pw])), (h1, .inl (cB, n, .inl f))] H := hP
  have hD : va_D A [(b0, .inr (4, [.ref h0, .int cl, .int be, .int co, .int le, .int ro, .int sa, .int ks, .ref b1, .ref b2])), (b1, .inl (c1, nl, .inl nx)), (h0, .inr (0, [.int sec, .ref h1, .int pw])), (h1, .inl (cB, n, .inl f))] := hD
  refine lv_istore_n (lv' := [(1, .int r_4), (0, .ref b0)]) hx hb d_Tb_read_9 rfl hl (by decide) rfl (fun ls hl => ?_)
  refine lv_aload_n hx hb d_Tb_read_10 rfl (lv_at hl 1 rfl) ?_
  refine va_get (D := (dC, dI)) (ci := 4) (v := .ref h0) (C := R_Tb) (T := F_Tb) (N := 10) hx hb hts i_Tb hown hK hP 0 rfl rfl 0 (by decide) (hts _ (k_Tb_6)) (fun _ h9 => h9) rfl d_Tb_read_11 ?_
  refine lv_bipush (v := 14) hx hb d_Tb_read_14 (by decide) ?_
  have hPc := hP.sub (ws' := [(h0, .inr (0, [.int sec, .ref h1, .int pw])), (h1, .inl (cB, n, .inl f))]) [2, 3] rfl
  have hDc := hD.sub (ws' := [(h0, .inr (0, [.int sec, .ref h1, .int pw])), (h1, .inl (cB, n, .inl f))]) [2, 3] (by decide) rfl
  have hKc := hK.sub (tys' := [(cB, .byte)]) [1] rfl
  have hFc := va_free (wc := [(h0, .inr (0, [.int sec, .ref h1, .int pw])), (h1, .inl (cB, n, .inl f))]) hD hS hA [2, 3] rfl
  refine va_calli (va_runV (As := [.int 14]) (rest := []) ⟨hx, hb, hml, hown, hts⟩ (c_Dk_two l dC dI h0 h1 H.size cB sec pw n f h4 hn 14) (cwV 1 hts (gwV good_Tb (k_Tb_23) (u_Tb_Dk _ k_Dk_17) (u_Tb_Dk _ k_Dk_18) (u_Tb_Dk _ k_Dk_0) (wcs (u_Tb_Dk _ k_Dk_19) u_Tb_Dk)) rfl rfl rfl (by decide +kernel) ⟨Nat.le_of_ble_eq_true rfl, Nat.le_of_ble_eq_true rfl⟩) (pv_of hPc hKc hDc (va_recv hKc hPc (ci := 0) (q0 := 0) rfl rfl)) rfl rfl hl.1 rfl (lv_room (Nat.le_of_ble_eq_true rfl)) d_Tb_read_16 ⟨by decide, by decide⟩) hS (fun q _ h => hFc q h) hFc (fun r_5 u t H1 locs ht hvm hw hB hz1 hk1 hS => ?_)
  obtain ⟨er_5, rfl⟩ := hw
  obtain ⟨hP1, hK1, hD1⟩ := hB
  rw [ht] at hP1
  have hP1 : va_P (dC, dI) classes [(h0, .inr (0, [.int sec, .ref h1, .int pw])), (h1, .inl (cB, n, .inl f))] H1 := hP1
  have hD1 : va_D _ [(h0, .inr (0, [.int sec, .ref h1, .int pw])), (h1, .inl (cB, n, .inl f))] := hD1
  obtain ⟨hP, hD⟩ := va_join (wr := [(b0, .inr (4, [.ref h0, .int cl, .int be, .int co, .int le, .int ro, .int sa, .int ks, .ref b1, .ref b2])), (b1, .inl (c1, nl, .inl nx))]) (w1 := [(h0, .inr (0, [.int sec, .ref h1, .int pw])), (h1, .inl (cB, n, .inl f))]) hP hD [2, 3] [0, 1] rfl rfl (by decide) (by decide) hk1 hFc hP1 hD1
  generalize H1 = H at hP hS ⊢
  have hP : va_P (dC, dI) classes [(b0, .inr (4, [.ref h0, .int cl, .int be, .int co, .int le, .int ro, .int sa, .int ks, .ref b1, .ref b2])), (b1, .inl (c1, nl, .inl nx)), (h0, .inr (0, [.int sec, .ref h1, .int pw])), (h1, .inl (cB, n, .inl f))] H := hP
  have hD : va_D A [(b0, .inr (4, [.ref h0, .int cl, .int be, .int co, .int le, .int ro, .int sa, .int ks, .ref b1, .ref b2])), (b1, .inl (c1, nl, .inl nx)), (h0, .inr (0, [.int sec, .ref h1, .int pw])), (h1, .inl (cB, n, .inl f))] := hD
  refine lv_istore_n (lv' := [(2, .int r_5), (1, .int r_4), (0, .ref b0)]) hx hb d_Tb_read_19 rfl hl (by decide) rfl (fun ls hl => ?_)
  refine lv_aload_n hx hb d_Tb_read_20 rfl (lv_at hl 2 rfl) ?_
  refine va_get (D := (dC, dI)) (ci := 4) (v := .ref h0) (C := R_Tb) (T := F_Tb) (N := 10) hx hb hts i_Tb hown hK hP 0 rfl rfl 0 (by decide) (hts _ (k_Tb_6)) (fun _ h9 => h9) rfl d_Tb_read_21 ?_
  refine lv_bipush (v := 16) hx hb d_Tb_read_24 (by decide) ?_
  have hPc := hP.sub (ws' := [(h0, .inr (0, [.int sec, .ref h1, .int pw])), (h1, .inl (cB, n, .inl f))]) [2, 3] rfl
  have hDc := hD.sub (ws' := [(h0, .inr (0, [.int sec, .ref h1, .int pw])), (h1, .inl (cB, n, .inl f))]) [2, 3] (by decide) rfl
  have hKc := hK.sub (tys' := [(cB, .byte)]) [1] rfl
  have hFc := va_free (wc := [(h0, .inr (0, [.int sec, .ref h1, .int pw])), (h1, .inl (cB, n, .inl f))]) hD hS hA [2, 3] rfl
  refine va_calli (va_runV (As := [.int 16]) (rest := []) ⟨hx, hb, hml, hown, hts⟩ (c_Dk_one l dC dI h0 h1 H.size cB sec pw n f h4 hn 16) (cwV 1 hts (gwV good_Tb (k_Tb_22) (u_Tb_Dk _ k_Dk_20) (u_Tb_Dk _ k_Dk_21) (u_Tb_Dk _ k_Dk_0) (wcs (u_Tb_Dk _ k_Dk_22) u_Tb_Dk)) rfl rfl rfl (by decide +kernel) ⟨Nat.le_of_ble_eq_true rfl, Nat.le_of_ble_eq_true rfl⟩) (pv_of hPc hKc hDc (va_recv hKc hPc (ci := 0) (q0 := 0) rfl rfl)) rfl rfl hl.1 rfl (lv_room (Nat.le_of_ble_eq_true rfl)) d_Tb_read_26 ⟨by decide, by decide⟩) hS (fun q _ h => hFc q h) hFc (fun r_6 u t H1 locs ht hvm hw hB hz1 hk1 hS => ?_)
  obtain ⟨er_6, rfl⟩ := hw
  obtain ⟨hP1, hK1, hD1⟩ := hB
  rw [ht] at hP1
  have hP1 : va_P (dC, dI) classes [(h0, .inr (0, [.int sec, .ref h1, .int pw])), (h1, .inl (cB, n, .inl f))] H1 := hP1
  have hD1 : va_D _ [(h0, .inr (0, [.int sec, .ref h1, .int pw])), (h1, .inl (cB, n, .inl f))] := hD1
  obtain ⟨hP, hD⟩ := va_join (wr := [(b0, .inr (4, [.ref h0, .int cl, .int be, .int co, .int le, .int ro, .int sa, .int ks, .ref b1, .ref b2])), (b1, .inl (c1, nl, .inl nx))]) (w1 := [(h0, .inr (0, [.int sec, .ref h1, .int pw])), (h1, .inl (cB, n, .inl f))]) hP hD [2, 3] [0, 1] rfl rfl (by decide) (by decide) hk1 hFc hP1 hD1
  generalize H1 = H at hP hS ⊢
  have hP : va_P (dC, dI) classes [(b0, .inr (4, [.ref h0, .int cl, .int be, .int co, .int le, .int ro, .int sa, .int ks, .ref b1, .ref b2])), (b1, .inl (c1, nl, .inl nx)), (h0, .inr (0, [.int sec, .ref h1, .int pw])), (h1, .inl (cB, n, .inl f))] H := hP
  have hD : va_D A [(b0, .inr (4, [.ref h0, .int cl, .int be, .int co, .int le, .int ro, .int sa, .int ks, .ref b1, .ref b2])), (b1, .inl (c1, nl, .inl nx)), (h0, .inr (0, [.int sec, .ref h1, .int pw])), (h1, .inl (cB, n, .inl f))] := hD
  refine lv_istore_n (lv' := [(3, .int r_6), (2, .int r_5), (1, .int r_4), (0, .ref b0)]) hx hb d_Tb_read_29 rfl hl (by decide) rfl (fun ls hl => ?_)
  refine lv_aload_n hx hb d_Tb_read_30 rfl (lv_at hl 3 rfl) ?_
  refine va_get (D := (dC, dI)) (ci := 4) (v := .ref h0) (C := R_Tb) (T := F_Tb) (N := 10) hx hb hts i_Tb hown hK hP 0 rfl rfl 0 (by decide) (hts _ (k_Tb_6)) (fun _ h9 => h9) rfl d_Tb_read_31 ?_
  refine lv_bipush (v := 36) hx hb d_Tb_read_34 (by decide) ?_
  have hPc := hP.sub (ws' := [(h0, .inr (0, [.int sec, .ref h1, .int pw])), (h1, .inl (cB, n, .inl f))]) [2, 3] rfl
  have hDc := hD.sub (ws' := [(h0, .inr (0, [.int sec, .ref h1, .int pw])), (h1, .inl (cB, n, .inl f))]) [2, 3] (by decide) rfl
  have hKc := hK.sub (tys' := [(cB, .byte)]) [1] rfl
  have hFc := va_free (wc := [(h0, .inr (0, [.int sec, .ref h1, .int pw])), (h1, .inl (cB, n, .inl f))]) hD hS hA [2, 3] rfl
  refine va_calli (va_runV (As := [.int 36]) (rest := []) ⟨hx, hb, hml, hown, hts⟩ (c_Dk_four l dC dI h0 h1 H.size cB sec pw n f h4 hn 36) (cwV 1 hts (gwV good_Tb (k_Tb_24) (u_Tb_Dk _ k_Dk_14) (u_Tb_Dk _ k_Dk_15) (u_Tb_Dk _ k_Dk_0) (wcs (u_Tb_Dk _ k_Dk_16) u_Tb_Dk)) rfl rfl rfl (by decide +kernel) ⟨Nat.le_of_ble_eq_true rfl, Nat.le_of_ble_eq_true rfl⟩) (pv_of hPc hKc hDc (va_recv hKc hPc (ci := 0) (q0 := 0) rfl rfl)) rfl rfl hl.1 rfl (lv_room (Nat.le_of_ble_eq_true rfl)) d_Tb_read_36 ⟨by decide, by decide⟩) hS (fun q _ h => hFc q h) hFc (fun r_7 u t H1 locs ht hvm hw hB hz1 hk1 hS => ?_)
  obtain ⟨er_7, rfl⟩ := hw
  obtain ⟨hP1, hK1, hD1⟩ := hB
  rw [ht] at hP1
  have hP1 : va_P (dC, dI) classes [(h0, .inr (0, [.int sec, .ref h1, .int pw])), (h1, .inl (cB, n, .inl f))] H1 := hP1
  have hD1 : va_D _ [(h0, .inr (0, [.int sec, .ref h1, .int pw])), (h1, .inl (cB, n, .inl f))] := hD1
  obtain ⟨hP, hD⟩ := va_join (wr := [(b0, .inr (4, [.ref h0, .int cl, .int be, .int co, .int le, .int ro, .int sa, .int ks, .ref b1, .ref b2])), (b1, .inl (c1, nl, .inl nx))]) (w1 := [(h0, .inr (0, [.int sec, .ref h1, .int pw])), (h1, .inl (cB, n, .inl f))]) hP hD [2, 3] [0, 1] rfl rfl (by decide) (by decide) hk1 hFc hP1 hD1
  generalize H1 = H at hP hS ⊢
  have hP : va_P (dC, dI) classes [(b0, .inr (4, [.ref h0, .int cl, .int be, .int co, .int le, .int ro, .int sa, .int ks, .ref b1, .ref b2])), (b1, .inl (c1, nl, .inl nx)), (h0, .inr (0, [.int sec, .ref h1, .int pw])), (h1, .inl (cB, n, .inl f))] H := hP
  have hD : va_D A [(b0, .inr (4, [.ref h0, .int cl, .int be, .int co, .int le, .int ro, .int sa, .int ks, .ref b1, .ref b2])), (b1, .inl (c1, nl, .inl nx)), (h0, .inr (0, [.int sec, .ref h1, .int pw])), (h1, .inl (cB, n, .inl f))] := hD
  refine lv_istore (lv' := [(4, .int r_7), (3, .int r_6), (2, .int r_5), (1, .int r_4), (0, .ref b0)]) hx hb d_Tb_read_39 hl (by decide) rfl (fun ls hl => ?_)
  refine lv_aload_n hx hb d_Tb_read_41 rfl (lv_at hl 4 rfl) ?_
  refine va_get (D := (dC, dI)) (ci := 4) (v := .ref h0) (C := R_Tb) (T := F_Tb) (N := 10) hx hb hts i_Tb hown hK hP 0 rfl rfl 0 (by decide) (hts _ (k_Tb_6)) (fun _ h9 => h9) rfl d_Tb_read_42 ?_
  refine lv_bipush (v := 44) hx hb d_Tb_read_45 (by decide) ?_
  have hPc := hP.sub (ws' := [(h0, .inr (0, [.int sec, .ref h1, .int pw])), (h1, .inl (cB, n, .inl f))]) [2, 3] rfl
  have hDc := hD.sub (ws' := [(h0, .inr (0, [.int sec, .ref h1, .int pw])), (h1, .inl (cB, n, .inl f))]) [2, 3] (by decide) rfl
  have hKc := hK.sub (tys' := [(cB, .byte)]) [1] rfl
  have hFc := va_free (wc := [(h0, .inr (0, [.int sec, .ref h1, .int pw])), (h1, .inl (cB, n, .inl f))]) hD hS hA [2, 3] rfl
  refine va_calli (va_runV (As := [.int 44]) (rest := []) ⟨hx, hb, hml, hown, hts⟩ (c_Dk_four l dC dI h0 h1 H.size cB sec pw n f h4 hn 44) (cwV 1 hts (gwV good_Tb (k_Tb_24) (u_Tb_Dk _ k_Dk_14) (u_Tb_Dk _ k_Dk_15) (u_Tb_Dk _ k_Dk_0) (wcs (u_Tb_Dk _ k_Dk_16) u_Tb_Dk)) rfl rfl rfl (by decide +kernel) ⟨Nat.le_of_ble_eq_true rfl, Nat.le_of_ble_eq_true rfl⟩) (pv_of hPc hKc hDc (va_recv hKc hPc (ci := 0) (q0 := 0) rfl rfl)) rfl rfl hl.1 rfl (lv_room (Nat.le_of_ble_eq_true rfl)) d_Tb_read_47 ⟨by decide, by decide⟩) hS (fun q _ h => hFc q h) hFc (fun r_8 u t H1 locs ht hvm hw hB hz1 hk1 hS => ?_)
  obtain ⟨er_8, rfl⟩ := hw
  obtain ⟨hP1, hK1, hD1⟩ := hB
  rw [ht] at hP1
  have hP1 : va_P (dC, dI) classes [(h0, .inr (0, [.int sec, .ref h1, .int pw])), (h1, .inl (cB, n, .inl f))] H1 := hP1
  have hD1 : va_D _ [(h0, .inr (0, [.int sec, .ref h1, .int pw])), (h1, .inl (cB, n, .inl f))] := hD1
  obtain ⟨hP, hD⟩ := va_join (wr := [(b0, .inr (4, [.ref h0, .int cl, .int be, .int co, .int le, .int ro, .int sa, .int ks, .ref b1, .ref b2])), (b1, .inl (c1, nl, .inl nx))]) (w1 := [(h0, .inr (0, [.int sec, .ref h1, .int pw])), (h1, .inl (cB, n, .inl f))]) hP hD [2, 3] [0, 1] rfl rfl (by decide) (by decide) hk1 hFc hP1 hD1
  generalize H1 = H at hP hS ⊢
  have hP : va_P (dC, dI) classes [(b0, .inr (4, [.ref h0, .int cl, .int be, .int co, .int le, .int ro, .int sa, .int ks, .ref b1, .ref b2])), (b1, .inl (c1, nl, .inl nx)), (h0, .inr (0, [.int sec, .ref h1, .int pw])), (h1, .inl (cB, n, .inl f))] H := hP
  have hD : va_D A [(b0, .inr (4, [.ref h0, .int cl, .int be, .int co, .int le, .int ro, .int sa, .int ks, .ref b1, .ref b2])), (b1, .inl (c1, nl, .inl nx)), (h0, .inr (0, [.int sec, .ref h1, .int pw])), (h1, .inl (cB, n, .inl f))] := hD
  refine lv_istore (lv' := [(5, .int r_8), (4, .int r_7), (3, .int r_6), (2, .int r_5), (1, .int r_4), (0, .ref b0)]) hx hb d_Tb_read_50 hl (by decide) rfl (fun ls hl => ?_)
  refine lv_aload_n hx hb d_Tb_read_52 rfl (lv_at hl 5 rfl) ?_
  have hPc := hP.sub (ws' := [(b0, .inr (4, [.ref h0, .int cl, .int be, .int co, .int le, .int ro, .int sa, .int ks, .ref b1, .ref b2])), (h0, .inr (0, [.int sec, .ref h1, .int pw])), (h1, .inl (cB, n, .inl f))]) [0, 2, 3] rfl
  have hDc := hD.sub (ws' := [(b0, .inr (4, [.ref h0, .int cl, .int be, .int co, .int le, .int ro, .int sa, .int ks, .ref b1, .ref b2])), (h0, .inr (0, [.int sec, .ref h1, .int pw])), (h1, .inl (cB, n, .inl f))]) [0, 2, 3] (by decide) rfl
  have hKc := hK.sub (tys' := [(cB, .byte)]) [1] rfl
  have hFc := va_free (wc := [(b0, .inr (4, [.ref h0, .int cl, .int be, .int co, .int le, .int ro, .int sa, .int ks, .ref b1, .ref b2])), (h0, .inr (0, [.int sec, .ref h1, .int pw])), (h1, .inl (cB, n, .inl f))]) hD hS hA [0, 2, 3] rfl
  refine va_calli (va_runV (As := []) (rest := []) ⟨hx, hb, hml, hown, hts⟩ (c_Tb_constantsFit l dC dI b0 b1 b2 h0 H.size cl be co le ro sa ks h1 cB sec pw n f h4 hn) (cwV 0 hts (gwV good_Tb (k_Tb_25) (k_Tb_26) (k_Tb_110) (k_Tb_0) (wcs (k_Tb_27) (fun _ h => h))) rfl rfl rfl (by decide +kernel) ⟨Nat.le_of_ble_eq_true rfl, Nat.le_of_ble_eq_true rfl⟩) (pv_of hPc hKc hDc (va_recv hKc hPc (ci := 4) (q0 := 0) rfl rfl)) rfl rfl hl.1 rfl (lv_room (Nat.le_of_ble_eq_true rfl)) d_Tb_read_53 ⟨by decide, by decide⟩) hS (fun q _ h => hFc q h) hFc (fun r_9 u t H1 locs ht hvm hw hB hz1 hk1 hS => ?_)
  have er_9 := hw
  obtain ⟨hP1, hK1, hD1⟩ := hB
  rw [ht] at hP1
  have hP1 : va_P (dC, dI) classes [(b0, .inr (4, [.ref h0, .int cl, .int be, .int co, .int le, .int ro, .int sa, .int ks, .ref b1, .ref b2])), (h0, .inr (0, [.int sec, .ref h1, .int pw])), (h1, .inl (cB, n, .inl f))] H1 := hP1
  have hD1 : va_D _ [(b0, .inr (4, [.ref h0, .int cl, .int be, .int co, .int le, .int ro, .int sa, .int ks, .ref b1, .ref b2])), (h0, .inr (0, [.int sec, .ref h1, .int pw])), (h1, .inl (cB, n, .inl f))] := hD1
  obtain ⟨hP, hD⟩ := va_join (wr := [(b1, .inl (c1, nl, .inl nx))]) (w1 := [(b0, .inr (4, [.ref h0, .int cl, .int be, .int co, .int le, .int ro, .int sa, .int ks, .ref b1, .ref b2])), (h0, .inr (0, [.int sec, .ref h1, .int pw])), (h1, .inl (cB, n, .inl f))]) hP hD [0, 2, 3] [1] rfl rfl (by decide) (by decide) hk1 hFc hP1 hD1
  generalize H1 = H at hP hS ⊢
  have hP : va_P (dC, dI) classes [(b1, .inl (c1, nl, .inl nx)), (b0, .inr (4, [.ref h0, .int cl, .int be, .int co, .int le, .int ro, .int sa, .int ks, .ref b1, .ref b2])), (h0, .inr (0, [.int sec, .ref h1, .int pw])), (h1, .inl (cB, n, .inl f))] H := hP
  have hD : va_D A [(b1, .inl (c1, nl, .inl nx)), (b0, .inr (4, [.ref h0, .int cl, .int be, .int co, .int le, .int ro, .int sa, .int ks, .ref b1, .ref b2])), (h0, .inr (0, [.int sec, .ref h1, .int pw])), (h1, .inl (cB, n, .inl f))] := hD
  refine lv_if_eq (tgt := 70) hx hb d_Tb_read_56 (by decide) (fun c_10 => ?_) (fun c_10 => ?_)
  · refine lv_iconst (v := 0) hx hb d_Tb_read_70 (by decide) ?_
    have hP := hP.sub (ws' := [(b0, .inr (4, [.ref h0, .int cl, .int be, .int co, .int le, .int ro, .int sa, .int ks, .ref b1, .ref b2])), (b1, .inl (c1, nl, .inl nx)), (h0, .inr (0, [.int sec, .ref h1, .int pw])), (h1, .inl (cB, n, .inl f))]) [1, 0, 2, 3] rfl
    have hD := hD.sub (ws' := [(b0, .inr (4, [.ref h0, .int cl, .int be, .int co, .int le, .int ro, .int sa, .int ks, .ref b1, .ref b2])), (b1, .inl (c1, nl, .inl nx)), (h0, .inr (0, [.int sec, .ref h1, .int pw])), (h1, .inl (cB, n, .inl f))]) [1, 0, 2, 3] (by decide) rfl
    rw [hQ]
    exact W.zret (v := 0) hx hb hr rfl (fun t ht hW => ⟨⟨0, (cl, be, co, le, ro, sa, ks, nx), rfl, by rw [tb_rd]; try rw [← er_4]; try rw [← er_5]; try rw [← er_6]; try rw [← er_7]; try rw [← er_8]; try rw [← er_9]; try rw [if_pos c_10]; try rfl, by rw [ht]; exact hP, va_K.moved hW.alike hK, hD⟩, hS.F ht⟩) hS.2.2 d_Tb_read_71
  · refine lv_iload_n hx hb d_Tb_read_59 rfl (lv_at hl 4 rfl) ?_
    refine lv_iload_n hx hb d_Tb_read_60 rfl (lv_at hl 3 rfl) ?_
    refine lv_iload_n hx hb d_Tb_read_61 rfl (lv_at hl 2 rfl) ?_
    refine lv_iload hx hb d_Tb_read_62 (lv_at hl 1 rfl) ?_
    have hPc := hP.sub (ws' := []) [] rfl
    have hDc := hD.sub (ws' := []) [] (by decide) rfl
    have hKc := hK.sub (tys' := []) [] rfl
    have hFc := va_free (wc := []) hD hS hA [] rfl
    refine va_calli (va_runS (As := [.int r_4, .int r_5, .int r_6, .int r_7]) (rest := []) ⟨hx, hb, hml, hown, hts⟩ (c_Tb_numbersFit l dC dI H.size r_4 r_5 r_6 r_7) (va_cwS 4 hts (gwS good_Tb (k_Tb_29) (k_Tb_30) (k_Tb_0) (wcs (k_Tb_31) (fun _ h => h))) rfl rfl rfl (by decide +kernel) ⟨Nat.le_of_ble_eq_true rfl, Nat.le_of_ble_eq_true rfl⟩) (ps_of hPc hKc hDc) rfl rfl hl.1 rfl (lv_room (Nat.le_of_ble_eq_true rfl)) d_Tb_read_64 ⟨by decide, by decide⟩) hS (fun q _ h => hFc q h) hFc (fun r_11 u t H1 locs ht hvm hw hB hz1 hk1 hS => ?_)
    have er_11 := hw
    obtain ⟨hP1, hK1, hD1⟩ := hB
    rw [ht] at hP1
    have hP1 : va_P (dC, dI) classes [] H1 := hP1
    have hD1 : va_D _ [] := hD1
    obtain ⟨hP, hD⟩ := va_join (wr := [(b1, .inl (c1, nl, .inl nx)), (b0, .inr (4, [.ref h0, .int cl, .int be, .int co, .int le, .int ro, .int sa, .int ks, .ref b1, .ref b2])), (h0, .inr (0, [.int sec, .ref h1, .int pw])), (h1, .inl (cB, n, .inl f))]) (w1 := []) hP hD [] [0, 1, 2, 3] rfl rfl (by decide) (by decide) hk1 hFc hP1 hD1
    generalize H1 = H at hP hS ⊢
    have hP : va_P (dC, dI) classes [(b1, .inl (c1, nl, .inl nx)), (b0, .inr (4, [.ref h0, .int cl, .int be, .int co, .int le, .int ro, .int sa, .int ks, .ref b1, .ref b2])), (h0, .inr (0, [.int sec, .ref h1, .int pw])), (h1, .inl (cB, n, .inl f))] H := hP
    have hD : va_D A [(b1, .inl (c1, nl, .inl nx)), (b0, .inr (4, [.ref h0, .int cl, .int be, .int co, .int le, .int ro, .int sa, .int ks, .ref b1, .ref b2])), (h0, .inr (0, [.int sec, .ref h1, .int pw])), (h1, .inl (cB, n, .inl f))] := hD
    refine lv_if_ne (tgt := 72) hx hb d_Tb_read_67 (by decide) (fun c_12 => ?_) (fun c_12 => ?_)
    · refine lv_aload_n hx hb d_Tb_read_72 rfl (lv_at hl 5 rfl) ?_
      refine lv_iload_n hx hb d_Tb_read_73 rfl (lv_at hl 4 rfl) ?_
      refine lv_iload_n hx hb d_Tb_read_74 rfl (lv_at hl 3 rfl) ?_
      refine lv_iload_n hx hb d_Tb_read_75 rfl (lv_at hl 2 rfl) ?_
      refine lv_iload hx hb d_Tb_read_76 (lv_at hl 1 rfl) ?_
      have hPc := hP.sub (ws' := [(b0, .inr (4, [.ref h0, .int cl, .int be, .int co, .int le, .int ro, .int sa, .int ks, .ref b1, .ref b2])), (h0, .inr (0, [.int sec, .ref h1, .int pw]))]) [1, 2] rfl
      have hDc := hD.sub (ws' := [(b0, .inr (4, [.ref h0, .int cl, .int be, .int co, .int le, .int ro, .int sa, .int ks, .ref b1, .ref b2])), (h0, .inr (0, [.int sec, .ref h1, .int pw]))]) [1, 2] (by decide) rfl
      have hKc := hK.sub (tys' := []) [] rfl
      have hFc := va_free (wc := [(b0, .inr (4, [.ref h0, .int cl, .int be, .int co, .int le, .int ro, .int sa, .int ks, .ref b1, .ref b2])), (h0, .inr (0, [.int sec, .ref h1, .int pw]))]) hD hS hA [1, 2] rfl
      refine va_calli (va_runV (As := [.int r_4, .int r_5, .int r_6, .int r_7]) (rest := []) ⟨hx, hb, hml, hown, hts⟩ (c_Tb_clustersWith l dC dI b0 b1 b2 h0 h1 H.size cl be co le ro sa ks sec pw r_4 r_5 r_6 r_7) (cwV 4 hts (gwV good_Tb (k_Tb_32) (k_Tb_33) (k_Tb_109) (k_Tb_0) (wcs (k_Tb_34) (fun _ h => h))) rfl rfl rfl (by decide +kernel) ⟨Nat.le_of_ble_eq_true rfl, Nat.le_of_ble_eq_true rfl⟩) (pv_of hPc hKc hDc (va_recv hKc hPc (ci := 4) (q0 := 0) rfl rfl)) rfl rfl hl.1 rfl (lv_room (Nat.le_of_ble_eq_true rfl)) d_Tb_read_78 ⟨by decide, by decide⟩) hS (fun q _ h => hFc q h) hFc (fun r_13 u t H1 locs ht hvm hw hB hz1 hk1 hS => ?_)
      have er_13 := hw
      obtain ⟨hP1, hK1, hD1⟩ := hB
      rw [ht] at hP1
      have hP1 : va_P (dC, dI) classes [(b0, .inr (4, [.ref h0, .int cl, .int be, .int co, .int le, .int ro, .int sa, .int ks, .ref b1, .ref b2])), (h0, .inr (0, [.int sec, .ref h1, .int pw]))] H1 := hP1
      have hD1 : va_D _ [(b0, .inr (4, [.ref h0, .int cl, .int be, .int co, .int le, .int ro, .int sa, .int ks, .ref b1, .ref b2])), (h0, .inr (0, [.int sec, .ref h1, .int pw]))] := hD1
      obtain ⟨hP, hD⟩ := va_join (wr := [(b1, .inl (c1, nl, .inl nx)), (h1, .inl (cB, n, .inl f))]) (w1 := [(b0, .inr (4, [.ref h0, .int cl, .int be, .int co, .int le, .int ro, .int sa, .int ks, .ref b1, .ref b2])), (h0, .inr (0, [.int sec, .ref h1, .int pw]))]) hP hD [1, 2] [0, 3] rfl rfl (by decide) (by decide) hk1 hFc hP1 hD1
      generalize H1 = H at hP hS ⊢
      have hP : va_P (dC, dI) classes [(b1, .inl (c1, nl, .inl nx)), (h1, .inl (cB, n, .inl f)), (b0, .inr (4, [.ref h0, .int cl, .int be, .int co, .int le, .int ro, .int sa, .int ks, .ref b1, .ref b2])), (h0, .inr (0, [.int sec, .ref h1, .int pw]))] H := hP
      have hD : va_D A [(b1, .inl (c1, nl, .inl nx)), (h1, .inl (cB, n, .inl f)), (b0, .inr (4, [.ref h0, .int cl, .int be, .int co, .int le, .int ro, .int sa, .int ks, .ref b1, .ref b2])), (h0, .inr (0, [.int sec, .ref h1, .int pw]))] := hD
      refine lv_istore (lv' := [(6, .int r_13), (5, .int r_8), (4, .int r_7), (3, .int r_6), (2, .int r_5), (1, .int r_4), (0, .ref b0)]) hx hb d_Tb_read_81 hl (by decide) rfl (fun ls hl => ?_)
      refine lv_iload hx hb d_Tb_read_83 (lv_at hl 0 rfl) ?_
      refine lv_iload hx hb d_Tb_read_85 (lv_at hl 2 rfl) ?_
      have hPc := hP.sub (ws' := []) [] rfl
      have hDc := hD.sub (ws' := []) [] (by decide) rfl
      have hKc := hK.sub (tys' := []) [] rfl
      have hFc := va_free (wc := []) hD hS hA [] rfl
      refine va_calli (va_runS (As := [.int r_13, .int r_7]) (rest := []) ⟨hx, hb, hml, hown, hts⟩ (c_Tb_isEnough l dC dI H.size r_13 r_7) (va_cwS 2 hts (gwS good_Tb (k_Tb_35) (k_Tb_36) (k_Tb_0) (wcs (k_Tb_37) (fun _ h => h))) rfl rfl rfl (by decide +kernel) ⟨Nat.le_of_ble_eq_true rfl, Nat.le_of_ble_eq_true rfl⟩) (ps_of hPc hKc hDc) rfl rfl hl.1 rfl (lv_room (Nat.le_of_ble_eq_true rfl)) d_Tb_read_87 ⟨by decide, by decide⟩) hS (fun q _ h => hFc q h) hFc (fun r_14 u t H1 locs ht hvm hw hB hz1 hk1 hS => ?_)
      have er_14 := hw
      obtain ⟨hP1, hK1, hD1⟩ := hB
      rw [ht] at hP1
      have hP1 : va_P (dC, dI) classes [] H1 := hP1
      have hD1 : va_D _ [] := hD1
      obtain ⟨hP, hD⟩ := va_join (wr := [(b1, .inl (c1, nl, .inl nx)), (h1, .inl (cB, n, .inl f)), (b0, .inr (4, [.ref h0, .int cl, .int be, .int co, .int le, .int ro, .int sa, .int ks, .ref b1, .ref b2])), (h0, .inr (0, [.int sec, .ref h1, .int pw]))]) (w1 := []) hP hD [] [0, 1, 2, 3] rfl rfl (by decide) (by decide) hk1 hFc hP1 hD1
      generalize H1 = H at hP hS ⊢
      have hP : va_P (dC, dI) classes [(b1, .inl (c1, nl, .inl nx)), (h1, .inl (cB, n, .inl f)), (b0, .inr (4, [.ref h0, .int cl, .int be, .int co, .int le, .int ro, .int sa, .int ks, .ref b1, .ref b2])), (h0, .inr (0, [.int sec, .ref h1, .int pw]))] H := hP
      have hD : va_D A [(b1, .inl (c1, nl, .inl nx)), (h1, .inl (cB, n, .inl f)), (b0, .inr (4, [.ref h0, .int cl, .int be, .int co, .int le, .int ro, .int sa, .int ks, .ref b1, .ref b2])), (h0, .inr (0, [.int sec, .ref h1, .int pw]))] := hD
      refine lv_if_eq (tgt := 108) hx hb d_Tb_read_90 (by decide) (fun c_15 => ?_) (fun c_15 => ?_)
      · refine lv_iconst (v := 0) hx hb d_Tb_read_108 (by decide) ?_
        have hP := hP.sub (ws' := [(b0, .inr (4, [.ref h0, .int cl, .int be, .int co, .int le, .int ro, .int sa, .int ks, .ref b1, .ref b2])), (b1, .inl (c1, nl, .inl nx)), (h0, .inr (0, [.int sec, .ref h1, .int pw])), (h1, .inl (cB, n, .inl f))]) [2, 0, 3, 1] rfl
        have hD := hD.sub (ws' := [(b0, .inr (4, [.ref h0, .int cl, .int be, .int co, .int le, .int ro, .int sa, .int ks, .ref b1, .ref b2])), (b1, .inl (c1, nl, .inl nx)), (h0, .inr (0, [.int sec, .ref h1, .int pw])), (h1, .inl (cB, n, .inl f))]) [2, 0, 3, 1] (by decide) rfl
        rw [hQ]
        exact W.zret (v := 0) hx hb hr rfl (fun t ht hW => ⟨⟨0, (cl, be, co, le, ro, sa, ks, nx), rfl, by rw [tb_rd]; try rw [← er_4]; try rw [← er_5]; try rw [← er_6]; try rw [← er_7]; try rw [← er_8]; try rw [← er_9]; try rw [if_neg c_10]; try rw [← er_11]; try rw [if_neg c_12]; try rw [← er_13]; try rw [← er_14]; try rw [if_pos c_15]; try rfl, by rw [ht]; exact hP, va_K.moved hW.alike hK, hD⟩, hS.F ht⟩) hS.2.2 d_Tb_read_109
      · refine lv_iload hx hb d_Tb_read_93 (lv_at hl 1 rfl) ?_
        refine lv_iconst (v := 2) hx hb d_Tb_read_95 (by decide) ?_
        refine lv_icmp_lt (tgt := 108) hx hb d_Tb_read_96 (by decide) (fun c_16 => ?_) (fun c_16 => ?_)
        · refine lv_iconst (v := 0) hx hb d_Tb_read_108 (by decide) ?_
          have hP := hP.sub (ws' := [(b0, .inr (4, [.ref h0, .int cl, .int be, .int co, .int le, .int ro, .int sa, .int ks, .ref b1, .ref b2])), (b1, .inl (c1, nl, .inl nx)), (h0, .inr (0, [.int sec, .ref h1, .int pw])), (h1, .inl (cB, n, .inl f))]) [2, 0, 3, 1] rfl
          have hD := hD.sub (ws' := [(b0, .inr (4, [.ref h0, .int cl, .int be, .int co, .int le, .int ro, .int sa, .int ks, .ref b1, .ref b2])), (b1, .inl (c1, nl, .inl nx)), (h0, .inr (0, [.int sec, .ref h1, .int pw])), (h1, .inl (cB, n, .inl f))]) [2, 0, 3, 1] (by decide) rfl
          rw [hQ]
          exact W.zret (v := 0) hx hb hr rfl (fun t ht hW => ⟨⟨0, (cl, be, co, le, ro, sa, ks, nx), rfl, by rw [tb_rd]; try rw [← er_4]; try rw [← er_5]; try rw [← er_6]; try rw [← er_7]; try rw [← er_8]; try rw [← er_9]; try rw [if_neg c_10]; try rw [← er_11]; try rw [if_neg c_12]; try rw [← er_13]; try rw [← er_14]; try rw [if_neg c_15]; try rw [if_pos c_16]; try rfl, by rw [ht]; exact hP, va_K.moved hW.alike hK, hD⟩, hS.F ht⟩) hS.2.2 d_Tb_read_109
        · refine lv_iload hx hb d_Tb_read_99 (lv_at hl 1 rfl) ?_
          refine lv_iload hx hb d_Tb_read_101 (lv_at hl 0 rfl) ?_
          refine lv_iconst (v := 1) hx hb d_Tb_read_103 (by decide) ?_
          refine lv_iadd hx hb d_Tb_read_104 ?_
          refine lv_icmp_le (tgt := 110) hx hb d_Tb_read_105 (by decide) (fun c_17 => ?_) (fun c_17 => ?_)
          · refine lv_aload_n hx hb d_Tb_read_110 rfl (lv_at hl 6 rfl) ?_
            refine lv_iload_n hx hb d_Tb_read_111 rfl (lv_at hl 5 rfl) ?_
            refine va_put (D := (dC, dI)) (ci := 4) (v := .int r_4) (ty := .int) (C := R_Tb) (T := F_Tb) (N := 10) hx hb hts i_Tb t_Tb t_Tb_ok n_Tb hown hK hP hD hS 2 rfl rfl 1 (by decide) (hts _ (k_Tb_7)) (fun _ h9 => h9) rfl (by decide +kernel) rfl rfl (Nat.le_of_ble_eq_true rfl) d_Tb_read_112 (fun H locs hP hD hS => ?_)
            have hP : va_P (dC, dI) classes [(b1, .inl (c1, nl, .inl nx)), (h1, .inl (cB, n, .inl f)), (b0, .inr (4, [.ref h0, .int r_4, .int be, .int co, .int le, .int ro, .int sa, .int ks, .ref b1, .ref b2])), (h0, .inr (0, [.int sec, .ref h1, .int pw]))] H := hP
            have hD : va_D A [(b1, .inl (c1, nl, .inl nx)), (h1, .inl (cB, n, .inl f)), (b0, .inr (4, [.ref h0, .int r_4, .int be, .int co, .int le, .int ro, .int sa, .int ks, .ref b1, .ref b2])), (h0, .inr (0, [.int sec, .ref h1, .int pw]))] := hD
            refine lv_aload_n hx hb d_Tb_read_115 rfl (lv_at hl 6 rfl) ?_
            refine lv_iload_n hx hb d_Tb_read_116 rfl (lv_at hl 4 rfl) ?_
            refine va_put (D := (dC, dI)) (ci := 4) (v := .int r_5) (ty := .int) (C := R_Tb) (T := F_Tb) (N := 10) hx hb hts i_Tb t_Tb t_Tb_ok n_Tb hown hK hP hD hS 2 rfl rfl 2 (by decide) (hts _ (k_Tb_8)) (fun _ h9 => h9) rfl (by decide +kernel) rfl rfl (Nat.le_of_ble_eq_true rfl) d_Tb_read_117 (fun H locs hP hD hS => ?_)
            have hP : va_P (dC, dI) classes [(b1, .inl (c1, nl, .inl nx)), (h1, .inl (cB, n, .inl f)), (b0, .inr (4, [.ref h0, .int r_4, .int r_5, .int co, .int le, .int ro, .int sa, .int ks, .ref b1, .ref b2])), (h0, .inr (0, [.int sec, .ref h1, .int pw]))] H := hP
            have hD : va_D A [(b1, .inl (c1, nl, .inl nx)), (h1, .inl (cB, n, .inl f)), (b0, .inr (4, [.ref h0, .int r_4, .int r_5, .int co, .int le, .int ro, .int sa, .int ks, .ref b1, .ref b2])), (h0, .inr (0, [.int sec, .ref h1, .int pw]))] := hD
            refine lv_aload_n hx hb d_Tb_read_120 rfl (lv_at hl 6 rfl) ?_
            refine lv_iload_n hx hb d_Tb_read_121 rfl (lv_at hl 3 rfl) ?_
            refine va_put (D := (dC, dI)) (ci := 4) (v := .int r_6) (ty := .int) (C := R_Tb) (T := F_Tb) (N := 10) hx hb hts i_Tb t_Tb t_Tb_ok n_Tb hown hK hP hD hS 2 rfl rfl 3 (by decide) (hts _ (k_Tb_9)) (fun _ h9 => h9) rfl (by decide +kernel) rfl rfl (Nat.le_of_ble_eq_true rfl) d_Tb_read_122 (fun H locs hP hD hS => ?_)
            have hP : va_P (dC, dI) classes [(b1, .inl (c1, nl, .inl nx)), (h1, .inl (cB, n, .inl f)), (b0, .inr (4, [.ref h0, .int r_4, .int r_5, .int r_6, .int le, .int ro, .int sa, .int ks, .ref b1, .ref b2])), (h0, .inr (0, [.int sec, .ref h1, .int pw]))] H := hP
            have hD : va_D A [(b1, .inl (c1, nl, .inl nx)), (h1, .inl (cB, n, .inl f)), (b0, .inr (4, [.ref h0, .int r_4, .int r_5, .int r_6, .int le, .int ro, .int sa, .int ks, .ref b1, .ref b2])), (h0, .inr (0, [.int sec, .ref h1, .int pw]))] := hD
            refine lv_aload_n hx hb d_Tb_read_125 rfl (lv_at hl 6 rfl) ?_
            refine lv_iload hx hb d_Tb_read_126 (lv_at hl 2 rfl) ?_
            refine va_put (D := (dC, dI)) (ci := 4) (v := .int r_7) (ty := .int) (C := R_Tb) (T := F_Tb) (N := 10) hx hb hts i_Tb t_Tb t_Tb_ok n_Tb hown hK hP hD hS 2 rfl rfl 4 (by decide) (hts _ (k_Tb_10)) (fun _ h9 => h9) rfl (by decide +kernel) rfl rfl (Nat.le_of_ble_eq_true rfl) d_Tb_read_128 (fun H locs hP hD hS => ?_)
            have hP : va_P (dC, dI) classes [(b1, .inl (c1, nl, .inl nx)), (h1, .inl (cB, n, .inl f)), (b0, .inr (4, [.ref h0, .int r_4, .int r_5, .int r_6, .int r_7, .int ro, .int sa, .int ks, .ref b1, .ref b2])), (h0, .inr (0, [.int sec, .ref h1, .int pw]))] H := hP
            have hD : va_D A [(b1, .inl (c1, nl, .inl nx)), (h1, .inl (cB, n, .inl f)), (b0, .inr (4, [.ref h0, .int r_4, .int r_5, .int r_6, .int r_7, .int ro, .int sa, .int ks, .ref b1, .ref b2])), (h0, .inr (0, [.int sec, .ref h1, .int pw]))] := hD
            refine lv_aload_n hx hb d_Tb_read_131 rfl (lv_at hl 6 rfl) ?_
            refine lv_iload hx hb d_Tb_read_132 (lv_at hl 1 rfl) ?_
            refine va_put (D := (dC, dI)) (ci := 4) (v := .int r_8) (ty := .int) (C := R_Tb) (T := F_Tb) (N := 10) hx hb hts i_Tb t_Tb t_Tb_ok n_Tb hown hK hP hD hS 2 rfl rfl 5 (by decide) (hts _ (k_Tb_11)) (fun _ h9 => h9) rfl (by decide +kernel) rfl rfl (Nat.le_of_ble_eq_true rfl) d_Tb_read_134 (fun H locs hP hD hS => ?_)
            have hP : va_P (dC, dI) classes [(b1, .inl (c1, nl, .inl nx)), (h1, .inl (cB, n, .inl f)), (b0, .inr (4, [.ref h0, .int r_4, .int r_5, .int r_6, .int r_7, .int r_8, .int sa, .int ks, .ref b1, .ref b2])), (h0, .inr (0, [.int sec, .ref h1, .int pw]))] H := hP
            have hD : va_D A [(b1, .inl (c1, nl, .inl nx)), (h1, .inl (cB, n, .inl f)), (b0, .inr (4, [.ref h0, .int r_4, .int r_5, .int r_6, .int r_7, .int r_8, .int sa, .int ks, .ref b1, .ref b2])), (h0, .inr (0, [.int sec, .ref h1, .int pw]))] := hD
            refine lv_aload_n hx hb d_Tb_read_137 rfl (lv_at hl 6 rfl) ?_
            refine lv_iload_n hx hb d_Tb_read_138 rfl (lv_at hl 4 rfl) ?_
            refine lv_iload_n hx hb d_Tb_read_139 rfl (lv_at hl 3 rfl) ?_
            refine lv_iload hx hb d_Tb_read_140 (lv_at hl 2 rfl) ?_
            refine lv_imul hx hb d_Tb_read_142 ?_
            refine lv_iadd hx hb d_Tb_read_143 ?_
            refine lv_topi (fun x_18 ex_18 => ?_)
            refine va_put (D := (dC, dI)) (ci := 4) (v := .int x_18) (ty := .int) (C := R_Tb) (T := F_Tb) (N := 10) hx hb hts i_Tb t_Tb t_Tb_ok n_Tb hown hK hP hD hS 2 rfl rfl 6 (by decide) (hts _ (k_Tb_12)) (fun _ h9 => h9) rfl (by decide +kernel) rfl rfl (Nat.le_of_ble_eq_true rfl) d_Tb_read_144 (fun H locs hP hD hS => ?_)
            have hP : va_P (dC, dI) classes [(b1, .inl (c1, nl, .inl nx)), (h1, .inl (cB, n, .inl f)), (b0, .inr (4, [.ref h0, .int r_4, .int r_5, .int r_6, .int r_7, .int r_8, .int x_18, .int ks, .ref b1, .ref b2])), (h0, .inr (0, [.int sec, .ref h1, .int pw]))] H := hP
            have hD : va_D A [(b1, .inl (c1, nl, .inl nx)), (h1, .inl (cB, n, .inl f)), (b0, .inr (4, [.ref h0, .int r_4, .int r_5, .int r_6, .int r_7, .int r_8, .int x_18, .int ks, .ref b1, .ref b2])), (h0, .inr (0, [.int sec, .ref h1, .int pw]))] := hD
            refine lv_aload_n hx hb d_Tb_read_147 rfl (lv_at hl 6 rfl) ?_
            refine lv_iload hx hb d_Tb_read_148 (lv_at hl 0 rfl) ?_
            refine va_put (D := (dC, dI)) (ci := 4) (v := .int r_13) (ty := .int) (C := R_Tb) (T := F_Tb) (N := 10) hx hb hts i_Tb t_Tb t_Tb_ok n_Tb hown hK hP hD hS 2 rfl rfl 7 (by decide) (hts _ (k_Tb_13)) (fun _ h9 => h9) rfl (by decide +kernel) rfl rfl (Nat.le_of_ble_eq_true rfl) d_Tb_read_150 (fun H locs hP hD hS => ?_)
            have hP : va_P (dC, dI) classes [(b1, .inl (c1, nl, .inl nx)), (h1, .inl (cB, n, .inl f)), (b0, .inr (4, [.ref h0, .int r_4, .int r_5, .int r_6, .int r_7, .int r_8, .int x_18, .int r_13, .ref b1, .ref b2])), (h0, .inr (0, [.int sec, .ref h1, .int pw]))] H := hP
            have hD : va_D A [(b1, .inl (c1, nl, .inl nx)), (h1, .inl (cB, n, .inl f)), (b0, .inr (4, [.ref h0, .int r_4, .int r_5, .int r_6, .int r_7, .int r_8, .int x_18, .int r_13, .ref b1, .ref b2])), (h0, .inr (0, [.int sec, .ref h1, .int pw]))] := hD
            refine lv_iconst (v := 0) hx hb d_Tb_read_153 (by decide) ?_
            refine lv_istore (lv' := [(7, .int 0), (6, .int r_13), (5, .int r_8), (4, .int r_7), (3, .int r_6), (2, .int r_5), (1, .int r_4), (0, .ref b0)]) hx hb d_Tb_read_154 hl (by decide) rfl (fun ls hl => ?_)
            rw [← tb_nx0 n f r_5 r_13 nx] at hP hD
            exact hL156 (nl + 1) 0 _ _ _ _ _ _ _ _ _ _ (by omega) (Nat.zero_le _) (by rw [tb_rd]; try rw [← er_4]; try rw [← er_5]; try rw [← er_6]; try rw [← er_7]; try rw [← er_8]; try rw [← er_9]; try rw [if_neg c_10]; try rw [← er_11]; try rw [if_neg c_12]; try rw [← er_13]; try rw [← er_14]; try rw [if_neg c_15]; try rw [if_neg c_16]; try rw [if_pos c_17]; try rw [← ex_18]; try rfl) (hP.sub [2, 0, 3, 1] rfl) (hD.sub [2, 0, 3, 1] (by decide) rfl) hS (lv_sub hl [7, 6, 5, 4, 3, 2, 1, 0] rfl)
          · refine lv_iconst (v := 0) hx hb d_Tb_read_108 (by decide) ?_
            have hP := hP.sub (ws' := [(b0, .inr (4, [.ref h0, .int cl, .int be, .int co, .int le, .int ro, .int sa, .int ks, .ref b1, .ref b2])), (b1, .inl (c1, nl, .inl nx)), (h0, .inr (0, [.int sec, .ref h1, .int pw])), (h1, .inl (cB, n, .inl f))]) [2, 0, 3, 1] rfl
            have hD := hD.sub (ws' := [(b0, .inr (4, [.ref h0, .int cl, .int be, .int co, .int le, .int ro, .int sa, .int ks, .ref b1, .ref b2])), (b1, .inl (c1, nl, .inl nx)), (h0, .inr (0, [.int sec, .ref h1, .int pw])), (h1, .inl (cB, n, .inl f))]) [2, 0, 3, 1] (by decide) rfl
            rw [hQ]
            exact W.zret (v := 0) hx hb hr rfl (fun t ht hW => ⟨⟨0, (cl, be, co, le, ro, sa, ks, nx), rfl, by rw [tb_rd]; try rw [← er_4]; try rw [← er_5]; try rw [← er_6]; try rw [← er_7]; try rw [← er_8]; try rw [← er_9]; try rw [if_neg c_10]; try rw [← er_11]; try rw [if_neg c_12]; try rw [← er_13]; try rw [← er_14]; try rw [if_neg c_15]; try rw [if_neg c_16]; try rw [if_neg c_17]; try rfl, by rw [ht]; exact hP, va_K.moved hW.alike hK, hD⟩, hS.F ht⟩) hS.2.2 d_Tb_read_109
    · refine lv_iconst (v := 0) hx hb d_Tb_read_70 (by decide) ?_
      have hP := hP.sub (ws' := [(b0, .inr (4, [.ref h0, .int cl, .int be, .int co, .int le, .int ro, .int sa, .int ks, .ref b1, .ref b2])), (b1, .inl (c1, nl, .inl nx)), (h0, .inr (0, [.int sec, .ref h1, .int pw])), (h1, .inl (cB, n, .inl f))]) [1, 0, 2, 3] rfl
      have hD := hD.sub (ws' := [(b0, .inr (4, [.ref h0, .int cl, .int be, .int co, .int le, .int ro, .int sa, .int ks, .ref b1, .ref b2])), (b1, .inl (c1, nl, .inl nx)), (h0, .inr (0, [.int sec, .ref h1, .int pw])), (h1, .inl (cB, n, .inl f))]) [1, 0, 2, 3] (by decide) rfl
      rw [hQ]
      exact W.zret (v := 0) hx hb hr rfl (fun t ht hW => ⟨⟨0, (cl, be, co, le, ro, sa, ks, nx), rfl, by rw [tb_rd]; try rw [← er_4]; try rw [← er_5]; try rw [← er_6]; try rw [← er_7]; try rw [← er_8]; try rw [← er_9]; try rw [if_neg c_10]; try rw [← er_11]; try rw [if_pos c_12]; try rfl, by rw [ht]; exact hP, va_K.moved hW.alike hK, hD⟩, hS.F ht⟩) hS.2.2 d_Tb_read_71
