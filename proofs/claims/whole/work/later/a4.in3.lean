/-- the entries of one block, from at on, s of them seen before: where the k-th begins, if it is here; how many are seen then -/
def in_fe1 (n : Nat) (f : Nat → Int32) (fr k : Int32) : Nat → Int32 → Int32 → Option Int32 × Int32
  | 0, _, s => (none, s)
  | g + 1, a, s => if 1024 ≤ a then (none, s) else if s = k then (some (fr + a), s) else in_fe1 n f fr k g (a + (if dk_two n f (fr + a + 4) < 12 then 12 else dk_two n f (fr + a + 4))) (s + 1)
def in_fe2 (n : Nat) (f : Nat → Int32) (pl k : Int32) : Nat → Nat → Int32 → Int32 × Int32
  | 0, _, s => (-1, s)
  | g + 1, j, s => match in_fe1 n f (in_block n f pl (nI j) * 1024) k 1024 0 s with
    | (some r, s') => (r, s')
    | (none, s') => in_fe2 n f pl k g (j + 1) s'
def in_find (n : Nat) (f : Nat → Int32) (p1 k : Int32) : Int32 × Int32 := in_fe2 n f (in_place n f (in_dirino p1)) k (dk_four n f (in_place n f (in_dirino p1) + 4) / 1024).toNatClampNeg 0 0
theorem dk_two_lt (n : Nat) (f : Nat → Int32) (a : Int32) : ∃ w : Nat, w < 65536 ∧ dk_two n f a = nI w := by
  have hb : ∀ x : Int32, ∃ j : Nat, j < 256 ∧ x &&& 255 = nI j := fun x => pk_andE x (m := 255) 8 (by decide)
  unfold dk_two
  by_cases h : a < 0
  · rw [if_pos h]; exact ⟨0, by omega, rfl⟩
  · rw [if_neg h]
    by_cases h2 : a ≤ nI n - 2
    · rw [if_pos h2]
      obtain ⟨j, hj, ej⟩ := hb (f a.toNatClampNeg)
      obtain ⟨k, hk, ek⟩ := hb (f (a + 1).toNatClampNeg)
      rw [ej, ek, pk_shlN ((8 : Int32) &&& 31) 8 (by decide) (by omega)]
      refine ⟨j + k * 256, by omega, ?_⟩
      apply Int32.toBitVec_inj.1
      show BitVec.ofNat 32 j ||| BitVec.ofNat 32 (k * 2 ^ 8) = BitVec.ofNat 32 (j + k * 256)
      have e1 : j ||| k * 2 ^ 8 = j + k * 256 := by rw [Nat.or_comm, ← Nat.shiftLeft_eq, ← Nat.shiftLeft_add_eq_or_of_lt (by omega : j < 2 ^ 8), Nat.shiftLeft_eq]; omega
      rw [← e1]
      apply BitVec.eq_of_getLsbD_eq
      intro i hi
      simp [hi]
    · rw [if_neg h2]; exact ⟨0, by omega, rfl⟩
theorem clamp_lt31 (x : Int32) : x.toNatClampNeg < 2 ^ 31 := by
  by_cases h : x < 0
  · have h2 := Int32.lt_iff_toInt_lt.mp h
    have : x.toNatClampNeg = 0 := by
      show x.toInt.toNat = 0
      have h0 : (0 : Int32).toInt = 0 := by decide
      omega
    omega
  · obtain ⟨j, hj, rfl⟩ := nI_of h
    rw [nI_clamp hj]; exact hj
theorem clamp_le {x : Int32} {j : Nat} (h : x ≤ nI j) (hj : j < 2 ^ 31) : x.toNatClampNeg ≤ j := by
  by_cases h0 : x < 0
  · have h2 := Int32.lt_iff_toInt_lt.mp h0
    have h3 : (0 : Int32).toInt = 0 := by decide
    have : x.toNatClampNeg = 0 := by
      show x.toInt.toNat = 0
      omega
    omega
  · obtain ⟨k, hk, rfl⟩ := nI_of h0
    rw [nI_clamp hk]; exact (nI_leI hk hj).mp h
theorem clamp_gt {x : Int32} {j : Nat} (h : ¬ x ≤ nI j) (hj : j < 2 ^ 31) : j < x.toNatClampNeg := by
  obtain ⟨k, hk, rfl⟩ := nI_of (x := x) (fun q => h (Int32.le_of_lt (Int32.lt_of_lt_of_le q (nI_pos' hj))))
  rw [nI_clamp hk]
  exact Nat.lt_of_not_le (fun q => h (nI_le q hj))
theorem in_max {n : Nat} {f : Nat → Int32} {a : Int32} : ∃ w : Nat, 12 ≤ w ∧ w < 65536 ∧ (if dk_two n f a < 12 then 12 else dk_two n f a) = nI w := by
  obtain ⟨w, hw, e⟩ := dk_two_lt n f a
  rw [e]
  by_cases h : nI w < 12
  · rw [if_pos h]; exact ⟨12, by omega, by omega, rfl⟩
  · rw [if_neg h]; exact ⟨w, Nat.le_of_not_lt (fun q => h (nI_lt (b := 12) q (by decide))), hw, rfl⟩
set_option maxHeartbeats 4000000 in
set_option maxRecDepth 100000 in
/-- where the k-th entry of a directory begins -/
theorem c_In_findEntry (l : Launch) (dC : Nat → ClassId) (dI : Nat → Nat → Nat) (i0 h0 sz : Nat) (se : Int32) (h1 : Nat) (cB : ClassId) (sec pw : Int32) (n : Nat) (f : Nat → Int32) (h4 : 4 ≤ n) (hn : n < 2 ^ 31) (p1 p2 : Int32) : Met l y_In_findEntry (.code y_In_findEntry b_In_findEntry 8 (some .int) :: V_In) ({ frames := 2, cells := 0, slots := 0, locals := 60 }) (va_Pc [.ref i0, .int p1, .int p2] (fun U => U.heap.size = sz ∧ at_ (dC, dI) (fun _ => True) [(i0, .inr (6, [.ref h0, .int se])), (h0, .inr (0, [.int sec, .ref h1, .int pw])), (h1, .inl (cB, n, .inl f))] [(cB, .byte)] U)) (va_Qi (fun (r : Int32) (u : Int32) => (r, u) = in_find n f p1 p2) (fun (u : Int32) t => at_ (dC, dI) (va_A [(i0, .inr (6, [.ref h0, .int se])), (h0, .inr (0, [.int sec, .ref h1, .int pw])), (h1, .inl (cB, n, .inl f))] sz) [(i0, .inr (6, [.ref h0, .int u])), (h0, .inr (0, [.int sec, .ref h1, .int pw])), (h1, .inl (cB, n, .inl f))] [(cB, .byte)] t) (va_A [(i0, .inr (6, [.ref h0, .int se])), (h0, .inr (0, [.int sec, .ref h1, .int pw])), (h1, .inl (cB, n, .inl f))] sz)) 0 0 (va_A [(i0, .inr (6, [.ref h0, .int se])), (h0, .inr (0, [.int sec, .ref h1, .int pw])), (h1, .inl (cB, n, .inl f))] sz) := by
  refine Met.ofW (cc := b_In_findEntry) (maxL := 8) (ret := (some .int)) (by decide) rfl ?_
  intro p e s m args below meth c s₁ B hml hv
  obtain ⟨rfl, hsz, hP, hK, hD0⟩ := hv
  have hx := B.exec
  have hb := B.bytes
  have hr := B.returns
  have hts0 := atoms_spec (ws := .code y_In_findEntry b_In_findEntry 8 (some .int) :: V_In) B.pre
  have hts : ∀ w ∈ V_In, w.before ([.ref i0, .int p1, .int p2] : List Value).toArray s = true := fun w h => hts0 w (List.mem_cons_of_mem _ h)
  have hown : s.vm.findClass R_In = some m.cls := findClass_of_methodNamed B.named
  have hlocks := B.notSynchronized
  subst hsz
  have hD := hD0.self (sz := s.heap.size)
  generalize hAe : va_A [(i0, .inr (6, [.ref h0, .int se])), (h0, .inr (0, [.int sec, .ref h1, .int pw])), (h1, .inl (cB, n, .inl f))] s.heap.size = A at hD ⊢
  have hA : ∀ q : Nat, s.heap.size ≤ q → A q := fun q h => by rw [← hAe]; exact Or.inr h
  have hS : va_S A s.heap s.heap [] := va_S.rf
  have hP : va_P (dC, dI) classes [(i0, .inr (6, [.ref h0, .int se])), (h0, .inr (0, [.int sec, .ref h1, .int pw])), (h1, .inl (cB, n, .inl f))] s.heap := hP
  have hK : va_K (dC, dI) classes [(cB, .byte)] s := hK
  have hl := lv_entry ([.ref i0, .int p1, .int p2]) (n := 8) (Nat.le_of_ble_eq_true rfl)
  rw [lg_entry_eq]
  generalize (lg_sl ([.ref i0, .int p1, .int p2]) ++ List.replicate (8 - (lg_sl ([.ref i0, .int p1, .int p2])).length) Slot.unset).toArray = ls at hl ⊢
  have hl : lv_has ls 8 [(0, .ref i0), (1, .int p1), (2, .int p2)] := hl
  refine qabs (fun Q hQ => ?_)
  have hL33 : ∀ (k_ : Nat) (j : Nat) (F : Nat) (pl : Int32) (bl : Int32) (se : Int32) (H : Heap) (locs : List Loc) (ls : Array Slot), F < k_ → (j < 2 ^ 31) → (bl.toNatClampNeg = j + F) → (in_fe2 n f pl p2 F j se = in_find n f p1 p2) → va_P (dC, dI) classes [(i0, .inr (6, [.ref h0, .int se])), (h0, .inr (0, [.int sec, .ref h1, .int pw])), (h1, .inl (cB, n, .inl f))] H → va_D A [(i0, .inr (6, [.ref h0, .int se])), (h0, .inr (0, [.int sec, .ref h1, .int pw])), (h1, .inl (cB, n, .inl f))] → va_S A s.heap H locs → lv_has ls 8 [(0, .ref i0), (1, .int p1), (2, .int p2), (3, .int pl), (4, .int bl), (5, .int (nI j))] → W p l e ({ frames := 2, cells := 0, slots := 0, locals := 60 }) s m ([.ref i0, .int p1, .int p2] : List Value).toArray below meth c H locs 0 0 Q (F0 m 33 ls []) := by
    intro k_
    induction k_ with
    | zero => intro j F pl bl se H locs ls hk_; exact absurd hk_ (Nat.not_lt_zero _)
    | succ k_ ih =>
      intro j F pl bl se H locs ls hk_ hj hF he hP hD hS hl
      refine lv_iload hx hb d_In_findEntry_33 (lv_at hl 5 rfl) ?_
      refine lv_iload hx hb d_In_findEntry_35 (lv_at hl 4 rfl) ?_
      refine lv_icmp_ge (tgt := 121) hx hb d_In_findEntry_37 (by decide) (fun c_1 => ?_) (fun c_1 => ?_)
      · have hb9 := clamp_le c_1 (by omega)
        have hF0 : F = 0 := by omega
        refine lv_iconst (v := (-1)) hx hb d_In_findEntry_121 (by decide) ?_
        rw [hQ]
        exact W.iret (v := ((-1))) hx hb hr (fun t ht hW => ⟨⟨((-1)), se, rfl, by rw [← he, hF0, in_fe2], by rw [ht]; exact hP, va_K.moved hW.alike hK, hD⟩, hS.F ht⟩) hS.2.2 d_In_findEntry_122
      · have hb9 := clamp_gt c_1 (by omega)
        have hb8 := clamp_lt31 bl
        obtain ⟨F9, eF⟩ : ∃ F9, F = F9 + 1 := ⟨F - 1, by omega⟩
        refine lv_aload_n hx hb d_In_findEntry_40 rfl (lv_at hl 0 rfl) ?_
        refine lv_iload_n hx hb d_In_findEntry_41 rfl (lv_at hl 3 rfl) ?_
        refine lv_iload hx hb d_In_findEntry_42 (lv_at hl 5 rfl) ?_
        have hPc := hP.sub (ws' := [(i0, .inr (6, [.ref h0, .int se])), (h0, .inr (0, [.int sec, .ref h1, .int pw])), (h1, .inl (cB, n, .inl f))]) [0, 1, 2] rfl
        have hDc := hD.sub (ws' := [(i0, .inr (6, [.ref h0, .int se])), (h0, .inr (0, [.int sec, .ref h1, .int pw])), (h1, .inl (cB, n, .inl f))]) [0, 1, 2] (by decide) rfl
        have hKc := hK.sub (tys' := [(cB, .byte)]) [0] rfl
        have hFc := va_free (wc := [(i0, .inr (6, [.ref h0, .int se])), (h0, .inr (0, [.int sec, .ref h1, .int pw])), (h1, .inl (cB, n, .inl f))]) hD hS hA [0, 1, 2] rfl
        refine va_calli (va_runV (As := [.int pl, .int (nI j)]) (rest := []) ⟨hx, hb, hml, hown, hts⟩ (c_In_blockOf l dC dI i0 h0 H.size se h1 cB sec pw n f h4 hn pl (nI j)) (cwV 2 hts (gwV good_In (k_In_39) (k_In_40) (k_In_71) (k_In_0) (wcs (k_In_41) (fun _ h => h))) rfl rfl rfl (by decide +kernel) ⟨Nat.le_of_ble_eq_true rfl, Nat.le_of_ble_eq_true rfl⟩) (pv_of hPc hKc hDc (va_recv hKc hPc (ci := 6) (q0 := 0) rfl rfl)) rfl rfl hl.1 rfl (lv_room (Nat.le_of_ble_eq_true rfl)) d_In_findEntry_44 ⟨by decide, by decide⟩) hS (fun q _ h => hFc q h) hFc (fun r_2 u t H1 locs ht hvm hw hB hz1 hk1 hS => ?_)
        rw [hw]
        obtain ⟨hP1, hK1, hD1⟩ := hB
        rw [ht] at hP1
        have hP1 : va_P (dC, dI) classes [(i0, .inr (6, [.ref h0, .int se])), (h0, .inr (0, [.int sec, .ref h1, .int pw])), (h1, .inl (cB, n, .inl f))] H1 := hP1
        have hD1 : va_D _ [(i0, .inr (6, [.ref h0, .int se])), (h0, .inr (0, [.int sec, .ref h1, .int pw])), (h1, .inl (cB, n, .inl f))] := hD1
        obtain ⟨hP, hD⟩ := va_join (wr := []) (w1 := [(i0, .inr (6, [.ref h0, .int se])), (h0, .inr (0, [.int sec, .ref h1, .int pw])), (h1, .inl (cB, n, .inl f))]) hP hD [0, 1, 2] [] rfl rfl (by decide) (by decide) hk1 hFc hP1 hD1
        generalize H1 = H at hP hS ⊢
        have hP : va_P (dC, dI) classes [(i0, .inr (6, [.ref h0, .int se])), (h0, .inr (0, [.int sec, .ref h1, .int pw])), (h1, .inl (cB, n, .inl f))] H := hP
        have hD : va_D A [(i0, .inr (6, [.ref h0, .int se])), (h0, .inr (0, [.int sec, .ref h1, .int pw])), (h1, .inl (cB, n, .inl f))] := hD
        refine lv_sipush (v := 1024) hx hb d_In_findEntry_47 (by decide) ?_
        refine lv_imul hx hb d_In_findEntry_50 ?_
        refine lv_topi (fun x_3 ex_3 => ?_)
        refine lv_istore (lv' := [(6, .int x_3), (0, .ref i0), (1, .int p1), (2, .int p2), (3, .int pl), (4, .int bl), (5, .int (nI j))]) hx hb d_In_findEntry_51 hl (by decide) rfl (fun ls hl => ?_)
        refine lv_iconst (v := 0) hx hb d_In_findEntry_53 (by decide) ?_
        refine lv_istore (lv' := [(7, .int 0), (6, .int x_3), (0, .ref i0), (1, .int p1), (2, .int p2), (3, .int pl), (4, .int bl), (5, .int (nI j))]) hx hb d_In_findEntry_54 hl (by decide) rfl (fun ls hl => ?_)
        have ihO := ih
        have hL56 : ∀ (k_ : Nat) (aN : Nat) (G : Nat) (s2 : Int32) (H : Heap) (locs : List Loc) (ls : Array Slot), 1024 - aN < k_ → (aN < 100000) → (1024 ≤ aN + G) → (in_fe1 n f x_3 p2 G (nI aN) s2 = in_fe1 n f x_3 p2 1024 0 se) → va_P (dC, dI) classes [(i0, .inr (6, [.ref h0, .int s2])), (h0, .inr (0, [.int sec, .ref h1, .int pw])), (h1, .inl (cB, n, .inl f))] H → va_D A [(i0, .inr (6, [.ref h0, .int s2])), (h0, .inr (0, [.int sec, .ref h1, .int pw])), (h1, .inl (cB, n, .inl f))] → va_S A s.heap H locs → lv_has ls 8 [(0, .ref i0), (1, .int p1), (2, .int p2), (3, .int pl), (4, .int bl), (5, .int (nI j)), (6, .int x_3), (7, .int (nI aN))] → W p l e ({ frames := 2, cells := 0, slots := 0, locals := 60 }) s m ([.ref i0, .int p1, .int p2] : List Value).toArray below meth c H locs 0 0 Q (F0 m 56 ls []) := by
          intro k_
          induction k_ with
          | zero => intro aN G s2 H locs ls hk_; exact absurd hk_ (Nat.not_lt_zero _)
          | succ k_ ih =>
            intro aN G s2 H locs ls hk_ haN hG hi hP hD hS hl
            refine lv_iload hx hb d_In_findEntry_56 (lv_at hl 7 rfl) ?_
            refine lv_sipush (v := 1024) hx hb d_In_findEntry_58 (by decide) ?_
            refine lv_icmp_ge (tgt := 115) hx hb d_In_findEntry_61 (by decide) (fun c_4 => ?_) (fun c_4 => ?_)
            · refine lv_iinc (v := nI (j + 1)) (lv' := [(5, .int (nI (j + 1))), (0, .ref i0), (1, .int p1), (2, .int p2), (3, .int pl), (4, .int bl), (6, .int x_3), (7, .int (nI aN))]) hx hb d_In_findEntry_115 hl (k := 5) rfl (by exact nI_1 j) (by decide) rfl (fun ls hl => ?_)
              refine lv_goto (tgt := 33) hx hb d_In_findEntry_118 (by decide) ?_
              have h1 : in_fe1 n f x_3 p2 1024 0 se = (none, s2) := by rw [← hi]; cases G with
                | zero => rw [in_fe1]
                | succ g => rw [in_fe1, if_pos c_4]
              have he9 : in_fe2 n f pl p2 F9 (j + 1) s2 = in_find n f p1 p2 := by rw [← he, eF, in_fe2, ← ex_3, h1]
              exact ihO (j + 1) F9 pl bl s2 _ _ _ (by omega) (by omega) (by omega) he9 hP hD hS (lv_sub hl [1, 2, 3, 4, 5, 0] rfl)
            · have ha9 : aN < 1024 := Nat.lt_of_not_le (fun h => c_4 (nI_le (a := 1024) h (by omega)))
              refine lv_aload_n hx hb d_In_findEntry_64 rfl (lv_at hl 0 rfl) ?_
              refine va_get (D := (dC, dI)) (ci := 6) (v := .int s2) (C := R_In) (T := F_In) (N := 2) hx hb hts i_In hown hK hP 0 rfl rfl 1 (by decide) (hts _ (k_In_6)) (fun _ h9 => h9) rfl d_In_findEntry_65 ?_
              refine lv_iload_n hx hb d_In_findEntry_68 rfl (lv_at hl 2 rfl) ?_
              refine lv_icmp_ne (tgt := 78) hx hb d_In_findEntry_69 (by decide) (fun c_5 => ?_) (fun c_5 => ?_)
              · refine lv_aload_n hx hb d_In_findEntry_78 rfl (lv_at hl 0 rfl) ?_
                refine lv_dup hx hb d_In_findEntry_79 rfl ?_
                refine va_get (D := (dC, dI)) (ci := 6) (v := .int s2) (C := R_In) (T := F_In) (N := 2) hx hb hts i_In hown hK hP 0 rfl rfl 1 (by decide) (hts _ (k_In_6)) (fun _ h9 => h9) rfl d_In_findEntry_80 ?_
                refine lv_iconst (v := 1) hx hb d_In_findEntry_83 (by decide) ?_
                refine lv_iadd hx hb d_In_findEntry_84 ?_
                refine lv_topi (fun x_6 ex_6 => ?_)
                refine va_put (D := (dC, dI)) (ci := 6) (v := .int x_6) (ty := .int) (C := R_In) (T := F_In) (N := 2) hx hb hts i_In t_In t_In_ok n_In hown hK hP hD hS 0 rfl rfl 1 (by decide) (hts _ (k_In_6)) (fun _ h9 => h9) rfl (by decide +kernel) rfl rfl (Nat.le_of_ble_eq_true rfl) d_In_findEntry_85 (fun H locs hP hD hS => ?_)
                have hP : va_P (dC, dI) classes [(i0, .inr (6, [.ref h0, .int x_6])), (h0, .inr (0, [.int sec, .ref h1, .int pw])), (h1, .inl (cB, n, .inl f))] H := hP
                have hD : va_D A [(i0, .inr (6, [.ref h0, .int x_6])), (h0, .inr (0, [.int sec, .ref h1, .int pw])), (h1, .inl (cB, n, .inl f))] := hD
                refine lv_iload hx hb d_In_findEntry_88 (lv_at hl 7 rfl) ?_
                refine lv_aload_n hx hb d_In_findEntry_90 rfl (lv_at hl 0 rfl) ?_
                refine va_get (D := (dC, dI)) (ci := 6) (v := .ref h0) (C := R_In) (T := F_In) (N := 2) hx hb hts i_In hown hK hP 0 rfl rfl 0 (by decide) (hts _ (k_In_5)) (fun _ h9 => h9) rfl d_In_findEntry_91 ?_
                refine lv_iload hx hb d_In_findEntry_94 (lv_at hl 6 rfl) ?_
                refine lv_iload hx hb d_In_findEntry_96 (lv_at hl 7 rfl) ?_
                refine lv_iadd hx hb d_In_findEntry_98 ?_
                refine lv_iconst (v := 4) hx hb d_In_findEntry_99 (by decide) ?_
                refine lv_iadd hx hb d_In_findEntry_100 ?_
                have hPc := hP.sub (ws' := [(h0, .inr (0, [.int sec, .ref h1, .int pw])), (h1, .inl (cB, n, .inl f))]) [1, 2] rfl
                have hDc := hD.sub (ws' := [(h0, .inr (0, [.int sec, .ref h1, .int pw])), (h1, .inl (cB, n, .inl f))]) [1, 2] (by decide) rfl
                have hKc := hK.sub (tys' := [(cB, .byte)]) [0] rfl
                have hFc := va_free (wc := [(h0, .inr (0, [.int sec, .ref h1, .int pw])), (h1, .inl (cB, n, .inl f))]) hD hS hA [1, 2] rfl
                refine va_calli (va_runV (As := [.int ((x_3 + (nI aN)) + 4)]) (rest := [.int (nI aN)]) ⟨hx, hb, hml, hown, hts⟩ (c_Dk_two l dC dI h0 h1 H.size cB sec pw n f h4 hn ((x_3 + (nI aN)) + 4)) (cwV 1 hts (gwV good_In (k_In_16) (u_In_Dk _ k_Dk_17) (u_In_Dk _ k_Dk_18) (u_In_Dk _ k_Dk_0) (wcs (u_In_Dk _ k_Dk_19) u_In_Dk)) rfl rfl rfl (by decide +kernel) ⟨Nat.le_of_ble_eq_true rfl, Nat.le_of_ble_eq_true rfl⟩) (pv_of hPc hKc hDc (va_recv hKc hPc (ci := 0) (q0 := 0) rfl rfl)) rfl rfl hl.1 rfl (lv_room (Nat.le_of_ble_eq_true rfl)) d_In_findEntry_101 ⟨by decide, by decide⟩) hS (fun q _ h => hFc q h) hFc (fun r_7 u t H1 locs ht hvm hw hB hz1 hk1 hS => ?_)
                obtain ⟨hw1, rfl⟩ := hw
                rw [hw1]
                obtain ⟨hP1, hK1, hD1⟩ := hB
                rw [ht] at hP1
                have hP1 : va_P (dC, dI) classes [(h0, .inr (0, [.int sec, .ref h1, .int pw])), (h1, .inl (cB, n, .inl f))] H1 := hP1
                have hD1 : va_D _ [(h0, .inr (0, [.int sec, .ref h1, .int pw])), (h1, .inl (cB, n, .inl f))] := hD1
                obtain ⟨hP, hD⟩ := va_join (wr := [(i0, .inr (6, [.ref h0, .int x_6]))]) (w1 := [(h0, .inr (0, [.int sec, .ref h1, .int pw])), (h1, .inl (cB, n, .inl f))]) hP hD [1, 2] [0] rfl rfl (by decide) (by decide) hk1 hFc hP1 hD1
                generalize H1 = H at hP hS ⊢
                have hP : va_P (dC, dI) classes [(i0, .inr (6, [.ref h0, .int x_6])), (h0, .inr (0, [.int sec, .ref h1, .int pw])), (h1, .inl (cB, n, .inl f))] H := hP
                have hD : va_D A [(i0, .inr (6, [.ref h0, .int x_6])), (h0, .inr (0, [.int sec, .ref h1, .int pw])), (h1, .inl (cB, n, .inl f))] := hD
                refine lv_bipush (v := 12) hx hb d_In_findEntry_104 (by decide) ?_
                refine va_mmax hx hb (by rw [hml]; exact hl.1.symm) hown (hts _ (k_In_42)) (hts _ (u_In_J _ k_J_5)) (hts _ (u_In_J _ k_J_0)) (hts _ (u_In_J _ k_J_6)) (Nat.le_of_ble_eq_true rfl) (Nat.le_of_ble_eq_true rfl) (by decide) (by decide) d_In_findEntry_106 ?_
                refine lv_iadd hx hb d_In_findEntry_109 ?_
                refine lv_topi (fun x_8 ex_8 => ?_)
                refine lv_istore (lv' := [(7, .int x_8), (0, .ref i0), (1, .int p1), (2, .int p2), (3, .int pl), (4, .int bl), (5, .int (nI j)), (6, .int x_3)]) hx hb d_In_findEntry_110 hl (by decide) rfl (fun ls hl => ?_)
                refine lv_goto (tgt := 56) hx hb d_In_findEntry_112 (by decide) ?_
                obtain ⟨w, hw12, hw6, ew⟩ := in_max (n := n) (f := f) (a := x_3 + nI aN + 4)
                have h7 : x_8 = nI (aN + w) := by rw [ex_8, ew, nI_add]
                obtain ⟨G9, eG⟩ : ∃ G9, G = G9 + 1 := ⟨G - 1, by omega⟩
                have hi9 : in_fe1 n f x_3 p2 G9 (nI (aN + w)) x_6 = in_fe1 n f x_3 p2 1024 0 se := by rw [← hi, eG, in_fe1, if_neg c_4, if_neg c_5, ew, nI_add, ex_6]
                rw [h7] at hl
                exact ih (aN + w) G9 x_6 _ _ _ (by omega) (by omega) (by omega) hi9 hP hD hS (lv_sub hl [1, 2, 3, 4, 5, 6, 7, 0] rfl)
              · refine lv_iload hx hb d_In_findEntry_72 (lv_at hl 6 rfl) ?_
                refine lv_iload hx hb d_In_findEntry_74 (lv_at hl 7 rfl) ?_
                refine lv_iadd hx hb d_In_findEntry_76 ?_
                rw [hQ]
                exact W.iret (v := (x_3 + (nI aN))) hx hb hr (fun t ht hW => ⟨⟨(x_3 + (nI aN)), s2, rfl, by
        obtain ⟨G9, eG⟩ : ∃ G9, G = G9 + 1 := ⟨G - 1, by omega⟩
        have h1 : in_fe1 n f x_3 p2 1024 0 se = (some (x_3 + nI aN), s2) := by rw [← hi, eG, in_fe1, if_neg c_4, if_pos c_5]
        rw [← he, eF, in_fe2, ← ex_3, h1], by rw [ht]; exact hP, va_K.moved hW.alike hK, hD⟩, hS.F ht⟩) hS.2.2 d_In_findEntry_77
        exact hL56 1025 0 1024 se _ _ _ (by omega) (by omega) (by omega) rfl hP hD hS (lv_sub hl [2, 3, 4, 5, 6, 7, 1, 0] rfl)
  refine lv_aload_n hx hb d_In_findEntry_0 rfl (lv_at hl 0 rfl) ?_
  refine lv_iload_n hx hb d_In_findEntry_1 rfl (lv_at hl 1 rfl) ?_
  have hPc := hP.sub (ws' := []) [] rfl
  have hDc := hD.sub (ws' := []) [] (by decide) rfl
  have hKc := hK.sub (tys' := []) [] rfl
  have hFc := va_free (wc := []) hD hS hA [] rfl
  refine va_calli (va_runS (As := [.int p1]) (rest := [.ref i0]) ⟨hx, hb, hml, hown, hts⟩ (c_In_directoryInode l dC dI s.heap.size p1) (va_cwS 1 hts (gwS good_In (k_In_33) (k_In_34) (k_In_0) (wcs (k_In_35) (fun _ h => h))) rfl rfl rfl (by decide +kernel) ⟨Nat.le_of_ble_eq_true rfl, Nat.le_of_ble_eq_true rfl⟩) (ps_of hPc hKc hDc) rfl rfl hl.1 rfl (lv_room (Nat.le_of_ble_eq_true rfl)) d_In_findEntry_2 ⟨by decide, by decide⟩) hS (fun q _ h => hFc q h) hFc (fun r_9 u t H1 locs ht hvm hw hB hz1 hk1 hS => ?_)
  rw [hw]
  obtain ⟨hP1, hK1, hD1⟩ := hB
  rw [ht] at hP1
  have hP1 : va_P (dC, dI) classes [] H1 := hP1
  have hD1 : va_D _ [] := hD1
  obtain ⟨hP, hD⟩ := va_join (wr := [(i0, .inr (6, [.ref h0, .int se])), (h0, .inr (0, [.int sec, .ref h1, .int pw])), (h1, .inl (cB, n, .inl f))]) (w1 := []) hP hD [] [0, 1, 2] rfl rfl (by decide) (by decide) hk1 hFc hP1 hD1
  generalize H1 = H at hP hS ⊢
  have hP : va_P (dC, dI) classes [(i0, .inr (6, [.ref h0, .int se])), (h0, .inr (0, [.int sec, .ref h1, .int pw])), (h1, .inl (cB, n, .inl f))] H := hP
  have hD : va_D A [(i0, .inr (6, [.ref h0, .int se])), (h0, .inr (0, [.int sec, .ref h1, .int pw])), (h1, .inl (cB, n, .inl f))] := hD
  have hPc := hP.sub (ws' := [(i0, .inr (6, [.ref h0, .int se])), (h0, .inr (0, [.int sec, .ref h1, .int pw])), (h1, .inl (cB, n, .inl f))]) [0, 1, 2] rfl
  have hDc := hD.sub (ws' := [(i0, .inr (6, [.ref h0, .int se])), (h0, .inr (0, [.int sec, .ref h1, .int pw])), (h1, .inl (cB, n, .inl f))]) [0, 1, 2] (by decide) rfl
  have hKc := hK.sub (tys' := [(cB, .byte)]) [0] rfl
  have hFc := va_free (wc := [(i0, .inr (6, [.ref h0, .int se])), (h0, .inr (0, [.int sec, .ref h1, .int pw])), (h1, .inl (cB, n, .inl f))]) hD hS hA [0, 1, 2] rfl
  refine va_calli (va_runV (As := [.int (in_dirino p1)]) (rest := []) ⟨hx, hb, hml, hown, hts⟩ (c_In_inodePlace l dC dI i0 h0 H.size se h1 cB sec pw n f h4 hn (in_dirino p1)) (cwV 1 hts (gwV good_In (k_In_36) (k_In_37) (k_In_70) (k_In_0) (wcs (k_In_38) (fun _ h => h))) rfl rfl rfl (by decide +kernel) ⟨Nat.le_of_ble_eq_true rfl, Nat.le_of_ble_eq_true rfl⟩) (pv_of hPc hKc hDc (va_recv hKc hPc (ci := 6) (q0 := 0) rfl rfl)) rfl rfl hl.1 rfl (lv_room (Nat.le_of_ble_eq_true rfl)) d_In_findEntry_5 ⟨by decide, by decide⟩) hS (fun q _ h => hFc q h) hFc (fun r_10 u t H1 locs ht hvm hw hB hz1 hk1 hS => ?_)
  rw [hw]
  obtain ⟨hP1, hK1, hD1⟩ := hB
  rw [ht] at hP1
  have hP1 : va_P (dC, dI) classes [(i0, .inr (6, [.ref h0, .int se])), (h0, .inr (0, [.int sec, .ref h1, .int pw])), (h1, .inl (cB, n, .inl f))] H1 := hP1
  have hD1 : va_D _ [(i0, .inr (6, [.ref h0, .int se])), (h0, .inr (0, [.int sec, .ref h1, .int pw])), (h1, .inl (cB, n, .inl f))] := hD1
  obtain ⟨hP, hD⟩ := va_join (wr := []) (w1 := [(i0, .inr (6, [.ref h0, .int se])), (h0, .inr (0, [.int sec, .ref h1, .int pw])), (h1, .inl (cB, n, .inl f))]) hP hD [0, 1, 2] [] rfl rfl (by decide) (by decide) hk1 hFc hP1 hD1
  generalize H1 = H at hP hS ⊢
  have hP : va_P (dC, dI) classes [(i0, .inr (6, [.ref h0, .int se])), (h0, .inr (0, [.int sec, .ref h1, .int pw])), (h1, .inl (cB, n, .inl f))] H := hP
  have hD : va_D A [(i0, .inr (6, [.ref h0, .int se])), (h0, .inr (0, [.int sec, .ref h1, .int pw])), (h1, .inl (cB, n, .inl f))] := hD
  refine lv_topi (fun x_11 ex_11 => ?_)
  refine lv_istore_n (lv' := [(3, .int x_11), (0, .ref i0), (1, .int p1), (2, .int p2)]) hx hb d_In_findEntry_8 rfl hl (by decide) rfl (fun ls hl => ?_)
  refine lv_aload_n hx hb d_In_findEntry_9 rfl (lv_at hl 1 rfl) ?_
  refine va_get (D := (dC, dI)) (ci := 6) (v := .ref h0) (C := R_In) (T := F_In) (N := 2) hx hb hts i_In hown hK hP 0 rfl rfl 0 (by decide) (hts _ (k_In_5)) (fun _ h9 => h9) rfl d_In_findEntry_10 ?_
  refine lv_iload_n hx hb d_In_findEntry_13 rfl (lv_at hl 0 rfl) ?_
  refine lv_iconst (v := 4) hx hb d_In_findEntry_14 (by decide) ?_
  refine lv_iadd hx hb d_In_findEntry_15 ?_
  have hPc := hP.sub (ws' := [(h0, .inr (0, [.int sec, .ref h1, .int pw])), (h1, .inl (cB, n, .inl f))]) [1, 2] rfl
  have hDc := hD.sub (ws' := [(h0, .inr (0, [.int sec, .ref h1, .int pw])), (h1, .inl (cB, n, .inl f))]) [1, 2] (by decide) rfl
  have hKc := hK.sub (tys' := [(cB, .byte)]) [0] rfl
  have hFc := va_free (wc := [(h0, .inr (0, [.int sec, .ref h1, .int pw])), (h1, .inl (cB, n, .inl f))]) hD hS hA [1, 2] rfl
  refine va_calli (va_runV (As := [.int (x_11 + 4)]) (rest := []) ⟨hx, hb, hml, hown, hts⟩ (c_Dk_four l dC dI h0 h1 H.size cB sec pw n f h4 hn (x_11 + 4)) (cwV 1 hts (gwV good_In (k_In_14) (u_In_Dk _ k_Dk_14) (u_In_Dk _ k_Dk_15) (u_In_Dk _ k_Dk_0) (wcs (u_In_Dk _ k_Dk_16) u_In_Dk)) rfl rfl rfl (by decide +kernel) ⟨Nat.le_of_ble_eq_true rfl, Nat.le_of_ble_eq_true rfl⟩) (pv_of hPc hKc hDc (va_recv hKc hPc (ci := 0) (q0 := 0) rfl rfl)) rfl rfl hl.1 rfl (lv_room (Nat.le_of_ble_eq_true rfl)) d_In_findEntry_16 ⟨by decide, by decide⟩) hS (fun q _ h => hFc q h) hFc (fun r_12 u t H1 locs ht hvm hw hB hz1 hk1 hS => ?_)
  obtain ⟨hw1, rfl⟩ := hw
  rw [hw1]
  obtain ⟨hP1, hK1, hD1⟩ := hB
  rw [ht] at hP1
  have hP1 : va_P (dC, dI) classes [(h0, .inr (0, [.int sec, .ref h1, .int pw])), (h1, .inl (cB, n, .inl f))] H1 := hP1
  have hD1 : va_D _ [(h0, .inr (0, [.int sec, .ref h1, .int pw])), (h1, .inl (cB, n, .inl f))] := hD1
  obtain ⟨hP, hD⟩ := va_join (wr := [(i0, .inr (6, [.ref h0, .int se]))]) (w1 := [(h0, .inr (0, [.int sec, .ref h1, .int pw])), (h1, .inl (cB, n, .inl f))]) hP hD [1, 2] [0] rfl rfl (by decide) (by decide) hk1 hFc hP1 hD1
  generalize H1 = H at hP hS ⊢
  have hP : va_P (dC, dI) classes [(i0, .inr (6, [.ref h0, .int se])), (h0, .inr (0, [.int sec, .ref h1, .int pw])), (h1, .inl (cB, n, .inl f))] H := hP
  have hD : va_D A [(i0, .inr (6, [.ref h0, .int se])), (h0, .inr (0, [.int sec, .ref h1, .int pw])), (h1, .inl (cB, n, .inl f))] := hD
  refine lv_sipush (v := 1024) hx hb d_In_findEntry_19 (by decide) ?_
  refine lv_idiv hx hb d_In_findEntry_22 (by decide) ?_
  refine lv_topi (fun x_13 ex_13 => ?_)
  refine lv_istore (lv' := [(4, .int x_13), (3, .int x_11), (0, .ref i0), (1, .int p1), (2, .int p2)]) hx hb d_In_findEntry_23 hl (by decide) rfl (fun ls hl => ?_)
  refine lv_aload_n hx hb d_In_findEntry_25 rfl (lv_at hl 2 rfl) ?_
  refine lv_iconst (v := 0) hx hb d_In_findEntry_26 (by decide) ?_
  refine va_put (D := (dC, dI)) (ci := 6) (v := .int 0) (ty := .int) (C := R_In) (T := F_In) (N := 2) hx hb hts i_In t_In t_In_ok n_In hown hK hP hD hS 0 rfl rfl 1 (by decide) (hts _ (k_In_6)) (fun _ h9 => h9) rfl (by decide +kernel) rfl rfl (Nat.le_of_ble_eq_true rfl) d_In_findEntry_27 (fun H locs hP hD hS => ?_)
  have hP : va_P (dC, dI) classes [(i0, .inr (6, [.ref h0, .int 0])), (h0, .inr (0, [.int sec, .ref h1, .int pw])), (h1, .inl (cB, n, .inl f))] H := hP
  have hD : va_D A [(i0, .inr (6, [.ref h0, .int 0])), (h0, .inr (0, [.int sec, .ref h1, .int pw])), (h1, .inl (cB, n, .inl f))] := hD
  refine lv_iconst (v := 0) hx hb d_In_findEntry_30 (by decide) ?_
  refine lv_istore (lv' := [(5, .int 0), (4, .int x_13), (3, .int x_11), (0, .ref i0), (1, .int p1), (2, .int p2)]) hx hb d_In_findEntry_31 hl (by decide) rfl (fun ls hl => ?_)
  exact hL33 (x_13.toNatClampNeg + 1) 0 x_13.toNatClampNeg x_11 x_13 0 _ _ _ (by omega) (by omega) (by omega) (by rw [in_find, ← ex_11, ← ex_13]) hP hD hS (lv_sub hl [3, 4, 5, 2, 1, 0] rfl)
