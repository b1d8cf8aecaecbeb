abbrev b_Ar_copyOfI : ByteArray := prog_33_method_123_code
def y_Ar_copyOfI : MethodName := ⟨"java/util/Arrays", "copyOf", "([II)[I"⟩
theorem d_Ar_copyOfI_0 : decode b_Ar_copyOfI 0 = .ok (.iload_n 1, 1) := by decide +kernel
theorem d_Ar_copyOfI_1 : decode b_Ar_copyOfI 1 = .ok (.aload_n 0, 1) := by decide +kernel
theorem d_Ar_copyOfI_2 : decode b_Ar_copyOfI 2 = .ok (.arraylength, 1) := by decide +kernel
theorem d_Ar_copyOfI_3 : decode b_Ar_copyOfI 3 = .ok (.if_icmp .ne 11, 3) := by decide +kernel
theorem d_Ar_copyOfI_14 : decode b_Ar_copyOfI 14 = .ok (.iload_n 1, 1) := by decide +kernel
theorem d_Ar_copyOfI_15 : decode b_Ar_copyOfI 15 = .ok (.newarray .int, 2) := by decide +kernel
theorem d_Ar_copyOfI_17 : decode b_Ar_copyOfI 17 = .ok (.astore_n 2, 1) := by decide +kernel
theorem d_Ar_copyOfI_18 : decode b_Ar_copyOfI 18 = .ok (.aload_n 0, 1) := by decide +kernel
theorem d_Ar_copyOfI_19 : decode b_Ar_copyOfI 19 = .ok (.iconst 0, 1) := by decide +kernel
theorem d_Ar_copyOfI_20 : decode b_Ar_copyOfI 20 = .ok (.aload_n 2, 1) := by decide +kernel
theorem d_Ar_copyOfI_21 : decode b_Ar_copyOfI 21 = .ok (.iconst 0, 1) := by decide +kernel
theorem d_Ar_copyOfI_22 : decode b_Ar_copyOfI 22 = .ok (.aload_n 0, 1) := by decide +kernel
theorem d_Ar_copyOfI_23 : decode b_Ar_copyOfI 23 = .ok (.arraylength, 1) := by decide +kernel
theorem d_Ar_copyOfI_24 : decode b_Ar_copyOfI 24 = .ok (.iload_n 1, 1) := by decide +kernel
theorem d_Ar_copyOfI_25 : decode b_Ar_copyOfI 25 = .ok (.invokestatic 304, 3) := by decide +kernel
theorem d_Ar_copyOfI_28 : decode b_Ar_copyOfI 28 = .ok (.invokestatic 150, 3) := by decide +kernel
theorem d_Ar_copyOfI_31 : decode b_Ar_copyOfI 31 = .ok (.aload_n 2, 1) := by decide +kernel
theorem d_Ar_copyOfI_32 : decode b_Ar_copyOfI 32 = .ok (.areturn, 1) := by decide +kernel
set_option maxHeartbeats 4000000 in
set_option maxRecDepth 100000 in
/-- a row of ints made anew, of another length -/
theorem c_Ar_copyOfI (l : Launch) (dC : Nat → ClassId) (dI : Nat → Nat → Nat) (h1 sz : Nat) (cI : ClassId) (n : Nat) (f : Nat → Int32) (hn : n < 2 ^ 31) (N : Nat) (hN : N < 2 ^ 31) (hne : ¬ N = n) (g2 : N * 4 ≤ 536870912) : Met l y_Ar_copyOfI (.code y_Ar_copyOfI b_Ar_copyOfI 3 (some (.array .int)) :: V_J) ({ frames := 1, cells := 1, slots := N, locals := 60 }) (va_Pc [.ref h1, .int (nI N)] (fun U => U.heap.size = sz ∧ at_ (dC, dI) (fun _ => True) [(h1, .inl (cI, n, .inl f))] [(cI, .int)] U)) (va_Qr (fun u : Unit => True) (fun (u : Unit) a t => at_ (dC, dI) (va_A [(h1, .inl (cI, n, .inl f))] sz) [(h1, .inl (cI, n, .inl f)), (a, .inl (cI, N, .inl (va_cpy f (fun _ => 0) 0 0 (min n N))))] [(cI, .int)] t) (va_A [(h1, .inl (cI, n, .inl f))] sz)) 1 N (va_A [(h1, .inl (cI, n, .inl f))] sz) := by
  refine Met.ofW (cc := b_Ar_copyOfI) (maxL := 3) (ret := (some (.array .int))) (by decide) rfl ?_
  intro p e s m args below meth c s₁ B hml hv
  obtain ⟨rfl, hsz, hP, hK, hD0⟩ := hv
  have hx := B.exec
  have hb := B.bytes
  have hr := B.returns
  have hts0 := atoms_spec (ws := .code y_Ar_copyOfI b_Ar_copyOfI 3 (some (.array .int)) :: V_J) B.pre
  have hts : ∀ w ∈ V_J, w.before ([.ref h1, .int (nI N)] : List Value).toArray s = true := fun w h => hts0 w (List.mem_cons_of_mem _ h)
  have hown : s.vm.findClass "java/util/Arrays" = some m.cls := findClass_of_methodNamed B.named
  have hlocks := B.notSynchronized
  subst hsz
  have hD := hD0.self (sz := s.heap.size)
  generalize hAe : va_A [(h1, .inl (cI, n, .inl f))] s.heap.size = A at hD ⊢
  have hA : ∀ q : Nat, s.heap.size ≤ q → A q := fun q h => by rw [← hAe]; exact Or.inr h
  have hS : va_S A s.heap s.heap [] := va_S.rf
  have hP : va_P (dC, dI) classes [(h1, .inl (cI, n, .inl f))] s.heap := hP
  have hK0 : va_K (dC, dI) classes [(cI, .int)] s := hK
  have hl := lv_entry ([.ref h1, .int (nI N)]) (n := 3) (Nat.le_of_ble_eq_true rfl)
  rw [lg_entry_eq]
  generalize (lg_sl ([.ref h1, .int (nI N)]) ++ List.replicate (3 - (lg_sl ([.ref h1, .int (nI N)])).length) Slot.unset).toArray = ls at hl ⊢
  have hl : lv_has ls 3 [(0, .ref h1), (1, .int (nI N))] := hl
  refine lv_iload_n hx hb d_Ar_copyOfI_0 rfl (lv_at hl 1 rfl) ?_
  refine lv_aload_n hx hb d_Ar_copyOfI_1 rfl (lv_at hl 0 rfl) ?_
  refine va_alen (v := nI n) hx hb hK hP 0 0 rfl rfl rfl d_Ar_copyOfI_2 ?_
  refine lv_icmp_ne (tgt := 14) hx hb d_Ar_copyOfI_3 (by decide) (fun c_1 => ?_) (fun c_1 => absurd (by have z := congrArg Int32.toNatClampNeg c_1; rw [nI_clamp hN, nI_clamp hn] at z; exact z) hne)
  refine lv_iload_n hx hb d_Ar_copyOfI_14 rfl (lv_at hl 1 rfl) ?_
  refine va_newa (atype := .int) (N' := N) (a0 := (N, .inl (fun _ => 0))) hx hb (hts _ (k_J_9)) rfl hK hP hD hS hA (fun _ => rfl) (nI_pos hN) (nI_clamp hN) g2 (Nat.le_refl 1) (Nat.le_of_eq (Nat.zero_add _)) d_Ar_copyOfI_15 (fun q cA H hK hP hD hS => ?_)
  have ec : cA = cI := by
    have z1 := (hK.2 0 (cI, .int) rfl).2
    have z2 := (hK.2 1 (cA, .int) rfl).2
    exact Option.some.inj (z2.symm.trans z1)
  subst ec
  have hP : va_P (dC, dI) classes [(h1, .inl (cA, n, .inl f)), (q, .inl (cA, N, .inl (fun _ => 0)))] H := hP
  have hD : va_D A [(h1, .inl (cA, n, .inl f)), (q, .inl (cA, N, .inl (fun _ => 0)))] := hD
  have hK : va_K (dC, dI) classes [(cA, .int), (cA, .int)] s := hK
  refine lv_astore_n (lv' := [(2, .ref q), (0, .ref h1), (1, .int (nI N))]) hx hb d_Ar_copyOfI_17 rfl hl (by decide) rfl (fun ls hl => ?_)
  refine lv_aload_n hx hb d_Ar_copyOfI_18 rfl (lv_at hl 1 rfl) ?_
  refine lv_iconst (v := 0) hx hb d_Ar_copyOfI_19 (by decide) ?_
  refine lv_aload_n hx hb d_Ar_copyOfI_20 rfl (lv_at hl 0 rfl) ?_
  refine lv_iconst (v := 0) hx hb d_Ar_copyOfI_21 (by decide) ?_
  refine lv_aload_n hx hb d_Ar_copyOfI_22 rfl (lv_at hl 1 rfl) ?_
  refine va_alen (v := nI n) hx hb hK hP 0 0 rfl rfl rfl d_Ar_copyOfI_23 ?_
  refine lv_iload_n hx hb d_Ar_copyOfI_24 rfl (lv_at hl 2 rfl) ?_
  refine W.widen (k := 1) (n := N) (by omega) (by omega) ?_
  refine va_mmin hx hb (by rw [hml]; exact hl.1.symm) hown (hts _ (k_J_22)) (hts _ (k_J_7)) (hts _ (k_J_0)) (hts _ (k_J_8)) (Nat.le_of_ble_eq_true rfl) (Nat.le_of_ble_eq_true rfl) (Nat.le_refl _) (Nat.le_refl _) d_Ar_copyOfI_25 ?_
  refine lv_topi (fun cv ecv => ?_)
  have hm : min n N < 2 ^ 31 := Nat.lt_of_le_of_lt (Nat.min_le_left _ _) hn
  have hcv : cv = nI (min n N) := by
    rw [ecv]
    by_cases z : N < n
    · rw [if_pos (nI_lt z hn), Nat.min_eq_right (Nat.le_of_lt z)]
    · rw [if_neg (nI_nlt (Nat.not_lt.mp z) hN), Nat.min_eq_left (Nat.not_lt.mp z)]
  rw [hcv]
  refine va_copyi (ty := .int) hx hb (by rw [hml]; exact hl.1.symm) hown (hts _ (k_J_23)) (hts _ (k_J_13)) (hts _ (k_J_12)) (hts _ (k_J_1)) hK hP hD hS 0 1 0 1 rfl rfl rfl rfl rfl (by decide) (by decide) (nI_pos hm) (by rw [nI_clamp hm]; show 0 + min n N ≤ n; omega) (by rw [nI_clamp hm]; show 0 + min n N ≤ N; omega) (fun _ _ => rfl) (Nat.le_of_ble_eq_true rfl) (Nat.le_of_ble_eq_true rfl) d_Ar_copyOfI_28 (fun H locs hP hD hS => ?_)
  rw [nI_clamp hm] at hP hD
  refine lv_aload_n hx hb d_Ar_copyOfI_31 rfl (lv_at hl 0 rfl) ?_
  exact W.aret (v := .ref q) hx hb hr (Or.inr ⟨_, rfl⟩) (Or.inr ⟨_, rfl⟩) (fun t ht hW => ⟨⟨(), q, rfl, trivial, by rw [ht]; exact hP, va_K.moved hW.alike hK0, hD⟩, hS.F ht⟩) hS.2.2 d_Ar_copyOfI_32
theorem l_Ar_copyOf (l : Launch) (dC : Nat → ClassId) (dI : Nat → Nat → Nat) (h1 sz : Nat) (cI : ClassId) (n : Nat) (f : Nat → Int32) (hn : n < 2 ^ 31) {p1 : Int32} (g1 : ¬ p1 < 0) (g2 : p1.toNatClampNeg * 4 ≤ 536870912 ∧ ¬ p1.toNatClampNeg = n) : Met l y_Ar_copyOfI (.code y_Ar_copyOfI b_Ar_copyOfI 3 (some (.array .int)) :: V_J) ({ frames := 1, cells := 1, slots := p1.toNatClampNeg, locals := 60 }) (va_Pc [.ref h1, .int p1] (fun U => U.heap.size = sz ∧ at_ (dC, dI) (fun _ => True) [(h1, .inl (cI, n, .inl f))] [(cI, .int)] U)) (va_Qr (fun u : Unit => True) (fun (u : Unit) a t => at_ (dC, dI) (va_A [(h1, .inl (cI, n, .inl f))] sz) [(h1, .inl (cI, n, .inl f)), (a, .inl (cI, p1.toNatClampNeg, .inl (va_cpy f (fun _ => 0) 0 0 (min n p1.toNatClampNeg))))] [(cI, .int)] t) (va_A [(h1, .inl (cI, n, .inl f))] sz)) 1 p1.toNatClampNeg (va_A [(h1, .inl (cI, n, .inl f))] sz) := by
  obtain ⟨N, hN, rfl⟩ := nI_of g1
  rw [nI_clamp hN] at g2 ⊢
  exact c_Ar_copyOfI l dC dI h1 sz cI n f hn N hN g2.2 g2.1
theorem ly_leR {α : Type} {x y : α} {G G' : CG} {S S' : CS} (h : some (x, G, S) = some (y, G', S')) : CG.le G G' := by
  have e : G = G' := congrArg (fun z => z.2.1) (Option.some.inj h)
  rw [e]; exact ⟨Nat.le_refl _, Nat.le_refl _⟩
theorem ly_thr {α : Type} {x y : α} {G G' : CG} {S S' : CS} {c s : Nat} (h : some (x, G.made c s, S) = some (y, G', S')) : CG.le G G' := by
  have e : G.made c s = G' := congrArg (fun z => z.2.1) (Option.some.inj h)
  rw [← e]; exact ⟨Nat.le_add_right _ _, Nat.le_add_right _ _⟩
theorem ly_c0 {a b c : Nat} (h : b ≤ c) : b - a + 0 ≤ c - a := Nat.sub_le_sub_right h a
theorem ly_c1 {a b c d : Nat} (h1 : a ≤ b) (h2 : b ≤ c) (h3 : c ≤ d) : b - a + (c - b) ≤ d - a := by omega
theorem ly_c2 {a b c : Nat} (h1 : a ≤ b) (h2 : b ≤ c) : b - a + (c - b) ≤ c - a := by omega
theorem ly_wc {G0 G G' : CG} (e : G = G') : G.gc - G0.gc ≤ G'.gc - G0.gc := by rw [e]; exact Nat.le_refl _
theorem ly_ws {G0 G G' : CG} (e : G = G') : G.gs - G0.gs ≤ G'.gs - G0.gs := by rw [e]; exact Nat.le_refl _
theorem ly_newP3 {D : va_G} {M : CA} {Y : CT} {G1 G : CG} {x y : CS} {H : Heap} (eG : G1 = G) (e : x = y) (hP : va_P D classes (wV M Y G y) H) : va_P D classes (wV M Y G1 x) H := by rw [eG, e]; exact hP
theorem ly_newD3 {A : Nat → Prop} {M : CA} {Y : CT} {G1 G : CG} {x y : CS} (eG : G1 = G) (e : x = y) (hD : va_D A (wV M Y G y)) : va_D A (wV M Y G1 x) := by rw [eG, e]; exact hD
theorem ly_madeP {D : va_G} {M : CA} {Y : CT} {G : CG} {S : CS} {H : Heap} {c n : Nat} (h : va_P D classes (wV M Y G S) H) : va_P D classes (wV M Y (G.made c n) S) H := h
theorem ly_madeD {A : Nat → Prop} {M : CA} {Y : CT} {G : CG} {S : CS} {c n : Nat} (h : va_D A (wV M Y G S)) : va_D A (wV M Y (G.made c n) S) := h
theorem ly_t1 {G0 G G' : CG} (e : G.made 1 6 = G') (m0 : CG.le G0 G) : G.gc - G0.gc + 1 ≤ G'.gc - G0.gc := by
  have a1 : G'.gc = G.gc + 1 := by rw [← e]; rfl
  have c1 := m0.1
  omega
theorem ly_t2 {G0 G G' : CG} (e : G.made 1 6 = G') (m0 : CG.le G0 G) : G.gs - G0.gs + 6 ≤ G'.gs - G0.gs := by
  have a1 : G'.gs = G.gs + 6 := by rw [← e]; rfl
  have c1 := m0.2
  omega
theorem ly_mqx {below : List Frame} {Qc : Array Value → State → Outcome → State → Prop} {cls : String} {A : Nat → Prop} {B1 B2 : State → Prop} {args : Array Value} {s : State} {mc ms : Nat} (hB : ∀ t, B1 t → B2 t) : ∀ t, MQX below Qc (x_Q cls A B1) args s mc ms A t → MQX below Qc (x_Q cls A B2) args s mc ms A t := by
  intro t h
  rcases h with h | ⟨q, h1, h2, E, ce, ⟨e1, e2, e3⟩, h4⟩
  · exact Or.inl h
  · exact Or.inr ⟨q, h1, h2, E, ce, ⟨e1, e2, hB _ e3⟩, h4⟩
theorem ly_outQ {D : va_G} {A : Nat → Prop} {M : CA} {Y : CT} {G G' : CG} {S S' : CS} {H : Heap} {locs : List Loc} {s st t U : State} {cls E : String} (hS : va_S A s.heap H locs) (hK : va_K D classes (tV M) s) (hF : ∀ q, va_A (wV M Y G S) H.size q → A q) (h1 : st.heap = H) (hX : x_Q cls (va_A (wV M Y G S) H.size) (fun t => ∃ u : CT, at_ D (va_A (wV M Y G S) H.size) (wV M u G' S') (tV M) t) E st t) (hU : U.heap = t.heap) (hal : s.vm.Alike U.vm) : x_Q cls A (fun t => ∃ u : CT, at_ D A (wV M u G' S') (tV M) t) E s U := by
  subst h1
  obtain ⟨rfl, hF1, u, hP1, hK1, hD1⟩ := hX
  exact ⟨rfl, ⟨by rw [hU]; exact Nat.le_trans hS.1 hF1.1, fun q g1 g2 => by rw [hU, hF1.2 q (Nat.lt_of_lt_of_le g1 hS.1) (fun z => g2 (hF q z))]; exact hS.2.1 q g1 g2⟩, u, by rw [hU]; exact hP1, hK.moved hal, lx_dj hD1 hF⟩
theorem ly_c3_parent {G0 G G1 G' : CG} {R : Room} {n : Nat} (hc : R.cells = G'.gc - G0.gc) (hs : R.slots = G'.gs - G0.gs) (e : G1 = (G.u_l_parent n).made 1 n) (m0 : CG.le G0 G) (mF : CG.le G1 G') : G.gc - G0.gc + 1 ≤ R.cells ∧ G.gs - G0.gs + n ≤ R.slots := by
  have a1 : G1.gc = G.gc + 1 := by rw [e]; rfl
  have a2 : G1.gs = G.gs + n := by rw [e]; rfl
  have b1 := mF.1
  have b2 := mF.2
  have c1 := m0.1
  have c2 := m0.2
  rw [hc, hs]
  omega
theorem ly_c4_parent {G0 G G1 : CG} {n : Nat} (e : G1 = (G.u_l_parent n).made 1 n) (m0 : CG.le G0 G) : G.gc - G0.gc + 1 ≤ G1.gc - G0.gc := by
  have a1 : G1.gc = G.gc + 1 := by rw [e]; rfl
  have c1 := m0.1
  omega
theorem ly_c5_parent {G0 G G1 : CG} {n : Nat} (e : G1 = (G.u_l_parent n).made 1 n) (m0 : CG.le G0 G) : G.gs - G0.gs + n ≤ G1.gs - G0.gs := by
  have a1 : G1.gs = G.gs + n := by rw [e]; rfl
  have c1 := m0.2
  omega
theorem ly_c3_first {G0 G G1 G' : CG} {R : Room} {n : Nat} (hc : R.cells = G'.gc - G0.gc) (hs : R.slots = G'.gs - G0.gs) (e : G1 = (G.u_l_first n).made 1 n) (m0 : CG.le G0 G) (mF : CG.le G1 G') : G.gc - G0.gc + 1 ≤ R.cells ∧ G.gs - G0.gs + n ≤ R.slots := by
  have a1 : G1.gc = G.gc + 1 := by rw [e]; rfl
  have a2 : G1.gs = G.gs + n := by rw [e]; rfl
  have b1 := mF.1
  have b2 := mF.2
  have c1 := m0.1
  have c2 := m0.2
  rw [hc, hs]
  omega
theorem ly_c4_first {G0 G G1 : CG} {n : Nat} (e : G1 = (G.u_l_first n).made 1 n) (m0 : CG.le G0 G) : G.gc - G0.gc + 1 ≤ G1.gc - G0.gc := by
  have a1 : G1.gc = G.gc + 1 := by rw [e]; rfl
  have c1 := m0.1
  omega
theorem ly_c5_first {G0 G G1 : CG} {n : Nat} (e : G1 = (G.u_l_first n).made 1 n) (m0 : CG.le G0 G) : G.gs - G0.gs + n ≤ G1.gs - G0.gs := by
  have a1 : G1.gs = G.gs + n := by rw [e]; rfl
  have c1 := m0.2
  omega
theorem ly_c3_size {G0 G G1 G' : CG} {R : Room} {n : Nat} (hc : R.cells = G'.gc - G0.gc) (hs : R.slots = G'.gs - G0.gs) (e : G1 = (G.u_l_size n).made 1 n) (m0 : CG.le G0 G) (mF : CG.le G1 G') : G.gc - G0.gc + 1 ≤ R.cells ∧ G.gs - G0.gs + n ≤ R.slots := by
  have a1 : G1.gc = G.gc + 1 := by rw [e]; rfl
  have a2 : G1.gs = G.gs + n := by rw [e]; rfl
  have b1 := mF.1
  have b2 := mF.2
  have c1 := m0.1
  have c2 := m0.2
  rw [hc, hs]
  omega
theorem ly_c4_size {G0 G G1 : CG} {n : Nat} (e : G1 = (G.u_l_size n).made 1 n) (m0 : CG.le G0 G) : G.gc - G0.gc + 1 ≤ G1.gc - G0.gc := by
  have a1 : G1.gc = G.gc + 1 := by rw [e]; rfl
  have c1 := m0.1
  omega
theorem ly_c5_size {G0 G G1 : CG} {n : Nat} (e : G1 = (G.u_l_size n).made 1 n) (m0 : CG.le G0 G) : G.gs - G0.gs + n ≤ G1.gs - G0.gs := by
  have a1 : G1.gs = G.gs + n := by rw [e]; rfl
  have c1 := m0.2
  omega
theorem ly_c3_bits {G0 G G1 G' : CG} {R : Room} {n : Nat} (hc : R.cells = G'.gc - G0.gc) (hs : R.slots = G'.gs - G0.gs) (e : G1 = (G.u_l_bits n).made 1 n) (m0 : CG.le G0 G) (mF : CG.le G1 G') : G.gc - G0.gc + 1 ≤ R.cells ∧ G.gs - G0.gs + n ≤ R.slots := by
  have a1 : G1.gc = G.gc + 1 := by rw [e]; rfl
  have a2 : G1.gs = G.gs + n := by rw [e]; rfl
  have b1 := mF.1
  have b2 := mF.2
  have c1 := m0.1
  have c2 := m0.2
  rw [hc, hs]
  omega
theorem ly_c4_bits {G0 G G1 : CG} {n : Nat} (e : G1 = (G.u_l_bits n).made 1 n) (m0 : CG.le G0 G) : G.gc - G0.gc + 1 ≤ G1.gc - G0.gc := by
  have a1 : G1.gc = G.gc + 1 := by rw [e]; rfl
  have c1 := m0.1
  omega
theorem ly_c5_bits {G0 G G1 : CG} {n : Nat} (e : G1 = (G.u_l_bits n).made 1 n) (m0 : CG.le G0 G) : G.gs - G0.gs + n ≤ G1.gs - G0.gs := by
  have a1 : G1.gs = G.gs + n := by rw [e]; rfl
  have c1 := m0.2
  omega
theorem ly_c3_spot {G0 G G1 G' : CG} {R : Room} {n : Nat} (hc : R.cells = G'.gc - G0.gc) (hs : R.slots = G'.gs - G0.gs) (e : G1 = (G.u_l_spot n).made 1 n) (m0 : CG.le G0 G) (mF : CG.le G1 G') : G.gc - G0.gc + 1 ≤ R.cells ∧ G.gs - G0.gs + n ≤ R.slots := by
  have a1 : G1.gc = G.gc + 1 := by rw [e]; rfl
  have a2 : G1.gs = G.gs + n := by rw [e]; rfl
  have b1 := mF.1
  have b2 := mF.2
  have c1 := m0.1
  have c2 := m0.2
  rw [hc, hs]
  omega
theorem ly_c4_spot {G0 G G1 : CG} {n : Nat} (e : G1 = (G.u_l_spot n).made 1 n) (m0 : CG.le G0 G) : G.gc - G0.gc + 1 ≤ G1.gc - G0.gc := by
  have a1 : G1.gc = G.gc + 1 := by rw [e]; rfl
  have c1 := m0.1
  omega
theorem ly_c5_spot {G0 G G1 : CG} {n : Nat} (e : G1 = (G.u_l_spot n).made 1 n) (m0 : CG.le G0 G) : G.gs - G0.gs + n ≤ G1.gs - G0.gs := by
  have a1 : G1.gs = G.gs + n := by rw [e]; rfl
  have c1 := m0.2
  omega
theorem ly_c3_slot {G0 G G1 G' : CG} {R : Room} {n : Nat} (hc : R.cells = G'.gc - G0.gc) (hs : R.slots = G'.gs - G0.gs) (e : G1 = (G.u_l_slot n).made 1 n) (m0 : CG.le G0 G) (mF : CG.le G1 G') : G.gc - G0.gc + 1 ≤ R.cells ∧ G.gs - G0.gs + n ≤ R.slots := by
  have a1 : G1.gc = G.gc + 1 := by rw [e]; rfl
  have a2 : G1.gs = G.gs + n := by rw [e]; rfl
  have b1 := mF.1
  have b2 := mF.2
  have c1 := m0.1
  have c2 := m0.2
  rw [hc, hs]
  omega
theorem ly_c4_slot {G0 G G1 : CG} {n : Nat} (e : G1 = (G.u_l_slot n).made 1 n) (m0 : CG.le G0 G) : G.gc - G0.gc + 1 ≤ G1.gc - G0.gc := by
  have a1 : G1.gc = G.gc + 1 := by rw [e]; rfl
  have c1 := m0.1
  omega
theorem ly_c5_slot {G0 G G1 : CG} {n : Nat} (e : G1 = (G.u_l_slot n).made 1 n) (m0 : CG.le G0 G) : G.gs - G0.gs + n ≤ G1.gs - G0.gs := by
  have a1 : G1.gs = G.gs + n := by rw [e]; rfl
  have c1 := m0.2
  omega
theorem ly_c3_parts {G0 G G1 G' : CG} {R : Room} {n : Nat} (hc : R.cells = G'.gc - G0.gc) (hs : R.slots = G'.gs - G0.gs) (e : G1 = (G.u_l_parts n).made 1 n) (m0 : CG.le G0 G) (mF : CG.le G1 G') : G.gc - G0.gc + 1 ≤ R.cells ∧ G.gs - G0.gs + n ≤ R.slots := by
  have a1 : G1.gc = G.gc + 1 := by rw [e]; rfl
  have a2 : G1.gs = G.gs + n := by rw [e]; rfl
  have b1 := mF.1
  have b2 := mF.2
  have c1 := m0.1
  have c2 := m0.2
  rw [hc, hs]
  omega
theorem ly_c4_parts {G0 G G1 : CG} {n : Nat} (e : G1 = (G.u_l_parts n).made 1 n) (m0 : CG.le G0 G) : G.gc - G0.gc + 1 ≤ G1.gc - G0.gc := by
  have a1 : G1.gc = G.gc + 1 := by rw [e]; rfl
  have c1 := m0.1
  omega
theorem ly_c5_parts {G0 G G1 : CG} {n : Nat} (e : G1 = (G.u_l_parts n).made 1 n) (m0 : CG.le G0 G) : G.gs - G0.gs + n ≤ G1.gs - G0.gs := by
  have a1 : G1.gs = G.gs + n := by rw [e]; rfl
  have c1 := m0.2
  omega
theorem ly_c3_kids {G0 G G1 G' : CG} {R : Room} {n : Nat} (hc : R.cells = G'.gc - G0.gc) (hs : R.slots = G'.gs - G0.gs) (e : G1 = (G.u_l_kids n).made 1 n) (m0 : CG.le G0 G) (mF : CG.le G1 G') : G.gc - G0.gc + 1 ≤ R.cells ∧ G.gs - G0.gs + n ≤ R.slots := by
  have a1 : G1.gc = G.gc + 1 := by rw [e]; rfl
  have a2 : G1.gs = G.gs + n := by rw [e]; rfl
  have b1 := mF.1
  have b2 := mF.2
  have c1 := m0.1
  have c2 := m0.2
  rw [hc, hs]
  omega
theorem ly_c4_kids {G0 G G1 : CG} {n : Nat} (e : G1 = (G.u_l_kids n).made 1 n) (m0 : CG.le G0 G) : G.gc - G0.gc + 1 ≤ G1.gc - G0.gc := by
  have a1 : G1.gc = G.gc + 1 := by rw [e]; rfl
  have c1 := m0.1
  omega
theorem ly_c5_kids {G0 G G1 : CG} {n : Nat} (e : G1 = (G.u_l_kids n).made 1 n) (m0 : CG.le G0 G) : G.gs - G0.gs + n ≤ G1.gs - G0.gs := by
  have a1 : G1.gs = G.gs + n := by rw [e]; rfl
  have c1 := m0.2
  omega
theorem ly_c3_kidCount {G0 G G1 G' : CG} {R : Room} {n : Nat} (hc : R.cells = G'.gc - G0.gc) (hs : R.slots = G'.gs - G0.gs) (e : G1 = (G.u_l_kidCount n).made 1 n) (m0 : CG.le G0 G) (mF : CG.le G1 G') : G.gc - G0.gc + 1 ≤ R.cells ∧ G.gs - G0.gs + n ≤ R.slots := by
  have a1 : G1.gc = G.gc + 1 := by rw [e]; rfl
  have a2 : G1.gs = G.gs + n := by rw [e]; rfl
  have b1 := mF.1
  have b2 := mF.2
  have c1 := m0.1
  have c2 := m0.2
  rw [hc, hs]
  omega
theorem ly_c4_kidCount {G0 G G1 : CG} {n : Nat} (e : G1 = (G.u_l_kidCount n).made 1 n) (m0 : CG.le G0 G) : G.gc - G0.gc + 1 ≤ G1.gc - G0.gc := by
  have a1 : G1.gc = G.gc + 1 := by rw [e]; rfl
  have c1 := m0.1
  omega
theorem ly_c5_kidCount {G0 G G1 : CG} {n : Nat} (e : G1 = (G.u_l_kidCount n).made 1 n) (m0 : CG.le G0 G) : G.gs - G0.gs + n ≤ G1.gs - G0.gs := by
  have a1 : G1.gs = G.gs + n := by rw [e]; rfl
  have c1 := m0.2
  omega
theorem ly_c3_nameAt {G0 G G1 G' : CG} {R : Room} {n : Nat} (hc : R.cells = G'.gc - G0.gc) (hs : R.slots = G'.gs - G0.gs) (e : G1 = (G.u_l_nameAt n).made 1 n) (m0 : CG.le G0 G) (mF : CG.le G1 G') : G.gc - G0.gc + 1 ≤ R.cells ∧ G.gs - G0.gs + n ≤ R.slots := by
  have a1 : G1.gc = G.gc + 1 := by rw [e]; rfl
  have a2 : G1.gs = G.gs + n := by rw [e]; rfl
  have b1 := mF.1
  have b2 := mF.2
  have c1 := m0.1
  have c2 := m0.2
  rw [hc, hs]
  omega
theorem ly_c4_nameAt {G0 G G1 : CG} {n : Nat} (e : G1 = (G.u_l_nameAt n).made 1 n) (m0 : CG.le G0 G) : G.gc - G0.gc + 1 ≤ G1.gc - G0.gc := by
  have a1 : G1.gc = G.gc + 1 := by rw [e]; rfl
  have c1 := m0.1
  omega
theorem ly_c5_nameAt {G0 G G1 : CG} {n : Nat} (e : G1 = (G.u_l_nameAt n).made 1 n) (m0 : CG.le G0 G) : G.gs - G0.gs + n ≤ G1.gs - G0.gs := by
  have a1 : G1.gs = G.gs + n := by rw [e]; rfl
  have c1 := m0.2
  omega
theorem ly_c3_nameLength {G0 G G1 G' : CG} {R : Room} {n : Nat} (hc : R.cells = G'.gc - G0.gc) (hs : R.slots = G'.gs - G0.gs) (e : G1 = (G.u_l_nameLength n).made 1 n) (m0 : CG.le G0 G) (mF : CG.le G1 G') : G.gc - G0.gc + 1 ≤ R.cells ∧ G.gs - G0.gs + n ≤ R.slots := by
  have a1 : G1.gc = G.gc + 1 := by rw [e]; rfl
  have a2 : G1.gs = G.gs + n := by rw [e]; rfl
  have b1 := mF.1
  have b2 := mF.2
  have c1 := m0.1
  have c2 := m0.2
  rw [hc, hs]
  omega
theorem ly_c4_nameLength {G0 G G1 : CG} {n : Nat} (e : G1 = (G.u_l_nameLength n).made 1 n) (m0 : CG.le G0 G) : G.gc - G0.gc + 1 ≤ G1.gc - G0.gc := by
  have a1 : G1.gc = G.gc + 1 := by rw [e]; rfl
  have c1 := m0.1
  omega
theorem ly_c5_nameLength {G0 G G1 : CG} {n : Nat} (e : G1 = (G.u_l_nameLength n).made 1 n) (m0 : CG.le G0 G) : G.gs - G0.gs + n ≤ G1.gs - G0.gs := by
  have a1 : G1.gs = G.gs + n := by rw [e]; rfl
  have c1 := m0.2
  omega
theorem ly_c3_nameBytes {G0 G G1 G' : CG} {R : Room} {n : Nat} (hc : R.cells = G'.gc - G0.gc) (hs : R.slots = G'.gs - G0.gs) (e : G1 = (G.u_l_nameBytes n).made 1 n) (m0 : CG.le G0 G) (mF : CG.le G1 G') : G.gc - G0.gc + 1 ≤ R.cells ∧ G.gs - G0.gs + n ≤ R.slots := by
  have a1 : G1.gc = G.gc + 1 := by rw [e]; rfl
  have a2 : G1.gs = G.gs + n := by rw [e]; rfl
  have b1 := mF.1
  have b2 := mF.2
  have c1 := m0.1
  have c2 := m0.2
  rw [hc, hs]
  omega
theorem ly_c4_nameBytes {G0 G G1 : CG} {n : Nat} (e : G1 = (G.u_l_nameBytes n).made 1 n) (m0 : CG.le G0 G) : G.gc - G0.gc + 1 ≤ G1.gc - G0.gc := by
  have a1 : G1.gc = G.gc + 1 := by rw [e]; rfl
  have c1 := m0.1
  omega
theorem ly_c5_nameBytes {G0 G G1 : CG} {n : Nat} (e : G1 = (G.u_l_nameBytes n).made 1 n) (m0 : CG.le G0 G) : G.gs - G0.gs + n ≤ G1.gs - G0.gs := by
  have a1 : G1.gs = G.gs + n := by rw [e]; rfl
  have c1 := m0.2
  omega
theorem ly_c3_built {G0 G G1 G' : CG} {R : Room} {n : Nat} (hc : R.cells = G'.gc - G0.gc) (hs : R.slots = G'.gs - G0.gs) (e : G1 = (G.u_l_built n).made 1 n) (m0 : CG.le G0 G) (mF : CG.le G1 G') : G.gc - G0.gc + 1 ≤ R.cells ∧ G.gs - G0.gs + n ≤ R.slots := by
  have a1 : G1.gc = G.gc + 1 := by rw [e]; rfl
  have a2 : G1.gs = G.gs + n := by rw [e]; rfl
  have b1 := mF.1
  have b2 := mF.2
  have c1 := m0.1
  have c2 := m0.2
  rw [hc, hs]
  omega
theorem ly_c4_built {G0 G G1 : CG} {n : Nat} (e : G1 = (G.u_l_built n).made 1 n) (m0 : CG.le G0 G) : G.gc - G0.gc + 1 ≤ G1.gc - G0.gc := by
  have a1 : G1.gc = G.gc + 1 := by rw [e]; rfl
  have c1 := m0.1
  omega
theorem ly_c5_built {G0 G G1 : CG} {n : Nat} (e : G1 = (G.u_l_built n).made 1 n) (m0 : CG.le G0 G) : G.gs - G0.gs + n ≤ G1.gs - G0.gs := by
  have a1 : G1.gs = G.gs + n := by rw [e]; rfl
  have c1 := m0.2
  omega
theorem ly_c3_builtBlocks {G0 G G1 G' : CG} {R : Room} {n : Nat} (hc : R.cells = G'.gc - G0.gc) (hs : R.slots = G'.gs - G0.gs) (e : G1 = (G.u_l_builtBlocks n).made 1 n) (m0 : CG.le G0 G) (mF : CG.le G1 G') : G.gc - G0.gc + 1 ≤ R.cells ∧ G.gs - G0.gs + n ≤ R.slots := by
  have a1 : G1.gc = G.gc + 1 := by rw [e]; rfl
  have a2 : G1.gs = G.gs + n := by rw [e]; rfl
  have b1 := mF.1
  have b2 := mF.2
  have c1 := m0.1
  have c2 := m0.2
  rw [hc, hs]
  omega
theorem ly_c4_builtBlocks {G0 G G1 : CG} {n : Nat} (e : G1 = (G.u_l_builtBlocks n).made 1 n) (m0 : CG.le G0 G) : G.gc - G0.gc + 1 ≤ G1.gc - G0.gc := by
  have a1 : G1.gc = G.gc + 1 := by rw [e]; rfl
  have c1 := m0.1
  omega
theorem ly_c5_builtBlocks {G0 G G1 : CG} {n : Nat} (e : G1 = (G.u_l_builtBlocks n).made 1 n) (m0 : CG.le G0 G) : G.gs - G0.gs + n ≤ G1.gs - G0.gs := by
  have a1 : G1.gs = G.gs + n := by rw [e]; rfl
  have c1 := m0.2
  omega
theorem ly_c3_pool {G0 G G1 G' : CG} {R : Room} {n : Nat} (hc : R.cells = G'.gc - G0.gc) (hs : R.slots = G'.gs - G0.gs) (e : G1 = (G.u_l_pool n).made 1 n) (m0 : CG.le G0 G) (mF : CG.le G1 G') : G.gc - G0.gc + 1 ≤ R.cells ∧ G.gs - G0.gs + n ≤ R.slots := by
  have a1 : G1.gc = G.gc + 1 := by rw [e]; rfl
  have a2 : G1.gs = G.gs + n := by rw [e]; rfl
  have b1 := mF.1
  have b2 := mF.2
  have c1 := m0.1
  have c2 := m0.2
  rw [hc, hs]
  omega
theorem ly_c4_pool {G0 G G1 : CG} {n : Nat} (e : G1 = (G.u_l_pool n).made 1 n) (m0 : CG.le G0 G) : G.gc - G0.gc + 1 ≤ G1.gc - G0.gc := by
  have a1 : G1.gc = G.gc + 1 := by rw [e]; rfl
  have c1 := m0.1
  omega
theorem ly_c5_pool {G0 G G1 : CG} {n : Nat} (e : G1 = (G.u_l_pool n).made 1 n) (m0 : CG.le G0 G) : G.gs - G0.gs + n ≤ G1.gs - G0.gs := by
  have a1 : G1.gs = G.gs + n := by rw [e]; rfl
  have c1 := m0.2
  omega
