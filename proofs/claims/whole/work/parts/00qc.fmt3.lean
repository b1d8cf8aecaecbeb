theorem wrN_F {X : Nat → Int32} {po : Nat → Nat} {sv : Nat → Int32} {q : Nat} : ∀ n, (∀ i, i < n → po i ≠ q) → wrN X po sv n q = X q := by
  intro n
  induction n with
  | zero => intro _; rfl
  | succ n ih =>
    intro h
    rw [wrN, pk_un (fun e => h n (by omega) e.symm), ih (fun i hi => h i (by omega))]
theorem sM {K p n a : Nat} (T : MS) (X : Nat → Int32) (hK : 100 ≤ K) (hp : p + n ≤ 524288) (ha0 : a < 2 ^ 63) (hn : n ≤ 8) : f_Mo_set K (T.u_v_disk X) (nI p) (nI n) (lN a) = some (T.u_v_disk (st X p a n)) := qM_set (T := T.u_v_disk X) hK hp ha0 hn
/-- the reference's format from the tables on -/
def fmTl (K : Nat) (y_5 : Int32) (S_55 : MS) : Option (Int32 × MS) := lf_c (f_Mo_head K S_55) fun r_56 S_56 => (f_Mo_setEntry K S_56 0 268435448).bind fun S_57 => (f_Mo_setEntry K S_57 1 268435455).bind fun S_58 => (f_Mo_setEntry K S_58 2 268435455).bind fun S_59 => if y_5 ≤ 0 then (f_Mo_format_570 K r_56 S_59) else (lf_c (f_Mo_place K S_59 2) fun r_61 S_61 => f_Mo_format_502 K K y_5 r_56 r_61 0 S_61)
theorem qM_f216 {K : Nat} {T : MS} {X : Nat → Int32} (p0 p1 p2 p3 n z : Int32) : ∀ (d i k : Nat), i + d = 524288 → d < k → f_Mo_format_216 K k p0 p1 p2 p3 n z (nI i) (T.u_v_disk (zr X 0 i)) = f_Mo_format_240 K K p0 p1 p2 p3 n z 3 (T.u_v_disk (zr X 0 524288)) := by
  intro d
  induction d with
  | zero =>
    intro i k h1 h2
    obtain ⟨k, rfl⟩ : ∃ m, k = m + 1 := ⟨k - 1, by omega⟩
    obtain rfl : i = 524288 := by omega
    rw [f_Mo_format_216, if_pos (show 524288 ≤ nI 524288 by decide)]
  | succ d ih =>
    intro i k h1 h2
    obtain ⟨k, rfl⟩ : ∃ m, k = m + 1 := ⟨k - 1, by omega⟩
    have hz0 := zr_s X 0 i
    rw [Nat.zero_add] at hz0
    rw [f_Mo_format_216, if_neg (show ¬ 524288 ≤ nI i from nI_ge (b := 524288) (by omega) (by decide)), q_g (q_in (by omega) (by decide)), q_l, show (1 : Int32) = nI 1 from rfl, nI_add, q_l, nI_clamp (by omega), show (T.u_v_disk (zr X 0 i)).v_disk = zr X 0 i from rfl, hz0]
    exact ih (i + 1) k (by omega) (by omega)
theorem qM_f240 {K N C V Y Z I : Nat} {T : MS} {X : Nat → Int32} (hK : 1000 ≤ K) (hC : C < 256) (hV : V < 65536) (hY : Y < 256) (hZ : Z < 65536) (hI : I < 2 ^ 32) (hN : N ≤ 1024) (ht : T.v_n = nI N) (n : Int32) : ∀ (d j k : Nat), j + d = 8 → d < k → f_Mo_format_240 K k (nI C) (nI V) (nI Y) (nI I) n (nI Z) (nI (3 + j)) (T.u_v_disk (wrN X (fun i => 0 + (3 + i)) (fun _ => wb 32) j)) = f_Mo_format_373 K K n 0 (T.u_v_disk (fW N C V Y Z I 0 X)) := by
  intro d
  induction d with
  | zero =>
    intro j k h1 h2
    obtain ⟨k, rfl⟩ : ∃ m, k = m + 1 := ⟨k - 1, by omega⟩
    obtain rfl : j = 8 := by omega
    have s1 : ∀ X, f_Mo_set K (T.u_v_disk X) 11 2 512 = some (T.u_v_disk (st X 11 512 2)) := fun X => sM T X (p := 11) (n := 2) (a := 512) (by omega) (by decide) (by decide) (by decide)
    have s2 : ∀ X, f_Mo_set K (T.u_v_disk X) 13 1 (nI C).toInt64 = some (T.u_v_disk (st X 13 C 1)) := fun X => by rw [nI_l (by omega)]; exact sM T X (p := 13) (n := 1) (a := C) (by omega) (by decide) (by omega) (by decide)
    have s3 : ∀ X, f_Mo_set K (T.u_v_disk X) 14 2 (nI V).toInt64 = some (T.u_v_disk (st X 14 V 2)) := fun X => by rw [nI_l (by omega)]; exact sM T X (p := 14) (n := 2) (a := V) (by omega) (by decide) (by omega) (by decide)
    have s4 : ∀ X, f_Mo_set K (T.u_v_disk X) 16 1 (nI Y).toInt64 = some (T.u_v_disk (st X 16 Y 1)) := fun X => by rw [nI_l (by omega)]; exact sM T X (p := 16) (n := 1) (a := Y) (by omega) (by decide) (by omega) (by decide)
    have s5 : ∀ X, f_Mo_set K (T.u_v_disk X) 32 4 (T.u_v_disk X).v_n.toInt64 = some (T.u_v_disk (st X 32 N 4)) := fun X => by rw [show (T.u_v_disk X).v_n = nI N from ht, nI_l (by omega)]; exact sM T X (p := 32) (n := 4) (a := N) (by omega) (by decide) (by omega) (by decide)
    have s6 : ∀ X, f_Mo_set K (T.u_v_disk X) 36 4 (nI Z).toInt64 = some (T.u_v_disk (st X 36 Z 4)) := fun X => by rw [nI_l (by omega)]; exact sM T X (p := 36) (n := 4) (a := Z) (by omega) (by decide) (by omega) (by decide)
    have s7 : ∀ X, f_Mo_set K (T.u_v_disk X) 44 4 2 = some (T.u_v_disk (st X 44 2 4)) := fun X => sM T X (p := 44) (n := 4) (a := 2) (by omega) (by decide) (by decide) (by decide)
    have s8 : ∀ X, f_Mo_set K (T.u_v_disk X) 48 2 1 = some (T.u_v_disk (st X 48 1 2)) := fun X => sM T X (p := 48) (n := 2) (a := 1) (by omega) (by decide) (by decide) (by decide)
    have s9 : ∀ X, f_Mo_set K (T.u_v_disk X) 50 2 6 = some (T.u_v_disk (st X 50 6 2)) := fun X => sM T X (p := 50) (n := 2) (a := 6) (by omega) (by decide) (by decide) (by decide)
    have s10 : ∀ X, f_Mo_set K (T.u_v_disk X) 67 4 (nI I).toInt64 = some (T.u_v_disk (st X 67 I 4)) := fun X => qM_setW (T := T.u_v_disk X) (p := 67) (by omega) (by decide) hI
    have s11 : ∀ X, f_Mo_set K (T.u_v_disk X) 510 2 43605 = some (T.u_v_disk (st X 510 43605 2)) := fun X => sM T X (p := 510) (n := 2) (a := 43605) (by omega) (by decide) (by decide) (by decide)
    rw [f_Mo_format_240, if_pos (show 11 ≤ nI (3 + 8) by decide), s1, q_b, s2, q_b, s3, q_b, s4, q_b, s5, q_b, s6, q_b, s7, q_b, s8, q_b, s9, q_b, s10, q_b, s11, q_b]
    unfold fW
    simp only [Nat.zero_add]
  | succ d ih =>
    intro j k h1 h2
    obtain ⟨k, rfl⟩ : ∃ m, k = m + 1 := ⟨k - 1, by omega⟩
    rw [f_Mo_format_240, if_neg (show ¬ 11 ≤ nI (3 + j) from nI_ge (b := 11) (by omega) (by decide)), q_g (q_in (by omega) (by decide)), q_l, show (1 : Int32) = nI 1 from rfl, nI_add, q_l, nI_clamp (by omega), show vp_nar .byte 32 = wb 32 by decide]
    have := ih (j + 1) k (by omega) (by omega)
    rw [wrN, Nat.zero_add] at this
    exact this
theorem qM_f373 {K : Nat} {T : MS} {A : Nat → Int32} (hK : 1000 ≤ K) (n : Int32) : ∀ (d i k : Nat), i + d = 512 → d < k → f_Mo_format_373 K k n (nI i) (T.u_v_disk (wrN A (fun i => 3072 + i) (fun i => vp_nar .byte (A i)) i)) = fmTl K n (T.u_v_disk (fX (wrN A (fun i => 3072 + i) (fun i => vp_nar .byte (A i)) 512))) := by
  intro d
  induction d with
  | zero =>
    intro i k h1 h2
    obtain ⟨k, rfl⟩ : ∃ m, k = m + 1 := ⟨k - 1, by omega⟩
    obtain rfl : i = 512 := by omega
    have s1 : ∀ X, f_Mo_set K (T.u_v_disk X) 512 4 1096897106 = some (T.u_v_disk (st X 512 1096897106 4)) := fun X => sM T X (p := 512) (n := 4) (a := 1096897106) (by omega) (by decide) (by decide) (by decide)
    have s2 : ∀ X, f_Mo_set K (T.u_v_disk X) 996 4 1631679090 = some (T.u_v_disk (st X 996 1631679090 4)) := fun X => sM T X (p := 996) (n := 4) (a := 1631679090) (by omega) (by decide) (by decide) (by decide)
    have s3 : ∀ X, f_Mo_set K (T.u_v_disk X) 1000 4 4294967295 = some (T.u_v_disk (st X 1000 4294967295 4)) := fun X => sM T X (p := 1000) (n := 4) (a := 4294967295) (by omega) (by decide) (by decide) (by decide)
    have s4 : ∀ X, f_Mo_set K (T.u_v_disk X) 1004 4 4294967295 = some (T.u_v_disk (st X 1004 4294967295 4)) := fun X => sM T X (p := 1004) (n := 4) (a := 4294967295) (by omega) (by decide) (by decide) (by decide)
    have s5 : ∀ X, f_Mo_set K (T.u_v_disk X) 1020 4 2857697280 = some (T.u_v_disk (st X 1020 2857697280 4)) := fun X => sM T X (p := 1020) (n := 4) (a := 2857697280) (by omega) (by decide) (by decide) (by decide)
    rw [f_Mo_format_373, if_pos (show 512 ≤ nI 512 by decide), s1, q_b, s2, q_b, s3, q_b, s4, q_b, s5, q_b]
    rfl
  | succ d ih =>
    intro i k h1 h2
    obtain ⟨k, rfl⟩ : ∃ m, k = m + 1 := ⟨k - 1, by omega⟩
    have e : (T.u_v_disk (wrN A (fun i => 3072 + i) (fun i => vp_nar .byte (A i)) i)).v_disk i = A i := wrN_F i (fun j hj e => by
      have e : 3072 + j = i := e
      omega)
    rw [f_Mo_format_373, if_neg (show ¬ 512 ≤ nI i from nI_ge (b := 512) (by omega) (by decide)), q_g (q_in (by omega) (by decide)), show (3072 : Int32) = nI 3072 from rfl, nI_add, q_g (q_in (by omega) (by decide)), q_l, show (1 : Int32) = nI 1 from rfl, nI_add, q_l, nI_clamp (by omega), nI_clamp (by omega), e]
    exact ih (i + 1) k (by omega) (by omega)
/-- the label's bytes -/
def lbM (tp : Nat → Int32) (n i : Nat) : Int32 := if i < n then vp_nar .byte (tp i) else vp_nar .byte 32
def lbD (tp : Nat → Int32) (n i : Nat) : Int32 := if i < n then wb (tp i &&& 255) else wb 32
theorem ub_tp (x : Int32) : ub (wb (x &&& 255)) = ub (vp_nar .byte x) := by
  rw [ub_b8, ub_and, ub_nI, vp_nar_byte, ← pk_vb, ub_b8]
  exact Nat.mod_eq_of_lt (Nat.mod_lt _ (by decide))
def fL (X : Nat → Int32) (p : Nat) (sv : Nat → Int32) : Nat → Int32 := st (st (wrN X (fun i => p + i) sv 11) (p + 11) 8 1) (p + 24) 33 2
theorem qM_f502 {K n p : Nat} {T : MS} {X tp : Nat → Int32} (hK : 1000 ≤ K) (hn : n ≤ 4096) (hp : p + 32 ≤ 524288) (ht : T.v_tape = tp) (y : Int32) : ∀ (d i k : Nat), i + d = 11 → d < k → f_Mo_format_502 K k (nI n) y (nI p) (nI i) (T.u_v_disk (wrN X (fun i => p + i) (lbM tp n) i)) = f_Mo_format_570 K y (T.u_v_disk (fL X p (lbM tp n))) := by
  intro d
  induction d with
  | zero =>
    intro i k h1 h2
    obtain ⟨k, rfl⟩ : ∃ m, k = m + 1 := ⟨k - 1, by omega⟩
    obtain rfl : i = 11 := by omega
    have s1 : ∀ X, f_Mo_set K (T.u_v_disk X) (nI p + 11) 1 8 = some (T.u_v_disk (st X (p + 11) 8 1)) := fun X => by
      rw [show (11 : Int32) = nI 11 from rfl, nI_add]
      exact sM T X (p := p + 11) (n := 1) (a := 8) (by omega) (by omega) (by decide) (by decide)
    have s2 : ∀ X, f_Mo_set K (T.u_v_disk X) (nI p + 24) 2 33 = some (T.u_v_disk (st X (p + 24) 33 2)) := fun X => by
      rw [show (24 : Int32) = nI 24 from rfl, nI_add]
      exact sM T X (p := p + 24) (n := 2) (a := 33) (by omega) (by omega) (by decide) (by decide)
    rw [f_Mo_format_502, if_pos (show 11 ≤ nI 11 by decide), s1, q_b, s2, q_b]
    rfl
  | succ d ih =>
    intro i k h1 h2
    obtain ⟨k, rfl⟩ : ∃ m, k = m + 1 := ⟨k - 1, by omega⟩
    have step : ∀ z : Int32, vp_nar .byte z = lbM tp n i → f_Mo_format_537 K (f_Mo_format_502 K k) (nI n) y (nI p) (nI i) (nI p + nI i) z (T.u_v_disk (wrN X (fun i => p + i) (lbM tp n) i)) = f_Mo_format_570 K y (T.u_v_disk (fL X p (lbM tp n))) := fun z hz0 => by
      unfold f_Mo_format_537
      rw [nI_add, q_g (q_in (by omega) (by decide)), q_l, show (1 : Int32) = nI 1 from rfl, nI_add, q_l, nI_clamp (by omega), hz0]
      exact ih (i + 1) k (by omega) (by omega)
    rw [f_Mo_format_502, if_neg (show ¬ 11 ≤ nI i from nI_ge (b := 11) (by omega) (by decide))]
    by_cases w : n ≤ i
    · rw [if_pos (nI_le w (by omega))]
      exact step _ (by unfold lbM; rw [if_neg (by omega)])
    · rw [if_neg (nI_ge (by omega) (by omega)), q_g (q_in (by omega) (by decide)), nI_clamp (by omega), show (T.u_v_disk (wrN X (fun i => p + i) (lbM tp n) i)).v_tape = tp from ht]
      exact step (tp i) (by unfold lbM; rw [if_pos (by omega)])
/-- all that the reference's format does where it takes the numbers -/
theorem qM_fmt {K N C V Y Z I n : Nat} {T : MS} {D tp : Nat → Int32} (hK : 600000 ≤ K) (hN1 : 256 ≤ N) (hN : N ≤ 1024) (hC : C = 2 ∨ C = 4 ∨ C = 8) (hV1 : 8 ≤ V) (hV : V ≤ 64) (hY : Y = 1 ∨ Y = 2) (hZ1 : 1 ≤ Z) (hZ : Z ≤ 32) (hI : I < 2 ^ 32) (hzP : zP N C V Y Z) (hD : T.v_disk = D) (ht : T.v_n = nI N) (htp : T.v_tape = tp) (hn : n ≤ 4096) : ∃ A3 T', (∀ q, q < 512 * N → o1 A3 q = fM N C V Y Z I q) ∧ f_Mo_format_216 K K (nI C) (nI V) (nI Y) (nI I) (nI n) (nI Z) 0 T = some (nI (hk N A3), T') ∧ T'.v_disk = (if n = 0 then lks A3 A3 [(0, 268435448), (1, 268435455), (2, 268435455)] else fL (lks A3 A3 [(0, 268435448), (1, 268435455), (2, 268435455)]) (plC A3 2) (lbM tp n)) ∧ ((T'.v_n, T'.v_tape, T'.v_ready, T'.v_taped, T'.v_told, T'.v_fed, T'.v_parent 0, T'.v_thrown) = (T.v_n, T.v_tape, T.v_ready, T.v_taped, T.v_told, T.v_fed, T.v_parent 0, T.v_thrown)) ∧ T'.v_turned = 0 ∧ T'.v_ran = 0 ∧ T'.v_here = 0 ∧ T'.v_looked = 0 := by
  have hYZ := ar_z hY hZ
  have h216 := qM_f216 (K := K) (T := T) (X := D) (nI C) (nI V) (nI Y) (nI I) (nI n) (nI Z) 524288 0 K (by omega) (by omega)
  have e0 : T.u_v_disk (zr D 0 0) = T := by rw [zr_0, ← hD]; rfl
  rw [e0] at h216
  have h216 : f_Mo_format_216 K K (nI C) (nI V) (nI Y) (nI I) (nI n) (nI Z) 0 T = _ := h216
  have h240 := qM_f240 (K := K) (N := N) (C := C) (V := V) (Y := Y) (Z := Z) (I := I) (T := T) (X := zr D 0 524288) (by omega) (by omega) (by omega) (by omega) (by omega) hI hN ht (nI n) 8 0 K (by omega) (by omega)
  have h240 : f_Mo_format_240 K K (nI C) (nI V) (nI Y) (nI I) (nI n) (nI Z) 3 (T.u_v_disk (zr D 0 524288)) = _ := h240
  have h373 := qM_f373 (K := K) (T := T) (A := fW N C V Y Z I 0 (zr D 0 524288)) (by omega) (nI n) 512 0 K (by omega) (by omega)
  have h373 : f_Mo_format_373 K K (nI n) 0 (T.u_v_disk (fW N C V Y Z I 0 (zr D 0 524288))) = _ := h373
  obtain ⟨A3, eA⟩ : ∃ A3, fX (wrN (fW N C V Y Z I 0 (zr D 0 524288)) (fun i => 3072 + i) (fun i => vp_nar .byte (fW N C V Y Z I 0 (zr D 0 524288) i)) 512) = A3 := ⟨_, rfl⟩
  have hA : ∀ q, q < 512 * N → o1 A3 q = fM N C V Y Z I q := fun q hq => by rw [← eA]; exact fR_o1 rfl (by omega) (by decide)
  rw [eA] at h373
  obtain ⟨ho, e1, e2, e3, e4, e5, e6⟩ := fM_hd hN1 hN hC hV1 hV hY hZ1 hZ hzP (fun q hq => hA q (by omega))
  have hf := hd_facts ho hN
  have hhd := (qM_head (K := K) (D := A3) (T := T.u_v_disk A3) rfl ht hN1 hN).1 ho
  obtain ⟨T2, eT2⟩ : ∃ T2, ((mH A3 (T.u_v_disk A3)).u_v_a (nI (ha A3))).u_v_k (nI (hk N A3)) = T2 := ⟨_, rfl⟩
  have v1 : T2.v_v = nI (hv A3) := by rw [← eT2]; rfl
  have v2 : T2.v_y = nI (hy A3) := by rw [← eT2]; rfl
  have v3 : T2.v_z = nI (hz A3) := by rw [← eT2]; rfl
  have v4 : T2.v_c = nI (hc A3) := by rw [← eT2]; rfl
  have v5 : T2.v_a = nI (ha A3) := by rw [← eT2]; rfl
  have v6 : T2.v_disk = A3 := by rw [← eT2]; rfl
  have v7 : T2.v_k = nI (hk N A3) := by rw [← eT2]; rfl
  have v8 : T2.v_tape = tp := by rw [← eT2]; exact htp
  have v9 : (T2.v_n, T2.v_tape, T2.v_ready, T2.v_taped, T2.v_told, T2.v_fed, T2.v_parent 0, T2.v_thrown) = (T.v_n, T.v_tape, T.v_ready, T.v_taped, T.v_told, T.v_fed, T.v_parent 0, T.v_thrown) := by rw [← eT2]; rfl
  rw [eT2] at hhd
  have l1 : ∀ X, f_Mo_setEntry K (T2.u_v_disk X) 0 268435448 = some (T2.u_v_disk (lk A3 X 0 268435448)) := fun X => qM_lk (T := T2.u_v_disk X) (x := 0) (v := 268435448) (by omega) ho hN (by omega) (by decide) v1 v2 v3
  have l2 : ∀ X, f_Mo_setEntry K (T2.u_v_disk X) 1 268435455 = some (T2.u_v_disk (lk A3 X 1 268435455)) := fun X => qM_lk (T := T2.u_v_disk X) (x := 1) (v := 268435455) (by omega) ho hN (by omega) (by decide) v1 v2 v3
  have l3 : ∀ X, f_Mo_setEntry K (T2.u_v_disk X) 2 268435455 = some (T2.u_v_disk (lk A3 X 2 268435455)) := fun X => qM_lk (T := T2.u_v_disk X) (x := 2) (v := 268435455) (by omega) ho hN (by omega) (by decide) v1 v2 v3
  have e22 : T2 = T2.u_v_disk A3 := by rw [← v6]; rfl
  have f570 : ∀ X, f_Mo_format_570 K 1 (T2.u_v_disk X) = some (nI (hk N A3), ((((T2.u_v_disk X).u_v_turned 0).u_v_ran 0).u_v_here 0).u_v_looked 0) := fun X => by
    unfold f_Mo_format_570 f_Mo_changed
    rw [q_l, q_l, q_l, q_l, q_b, if_neg (by decide)]
    exact congrArg (fun x => some (x, _)) v7
  have hpl : plC A3 2 = 512 * ha A3 := by unfold plC; rw [Nat.sub_self, Nat.zero_mul, Nat.add_zero]
  refine ⟨A3, if n = 0 then ((((T2.u_v_disk (lks A3 A3 [(0, 268435448), (1, 268435455), (2, 268435455)])).u_v_turned 0).u_v_ran 0).u_v_here 0).u_v_looked 0 else ((((T2.u_v_disk (fL (lks A3 A3 [(0, 268435448), (1, 268435455), (2, 268435455)]) (plC A3 2) (lbM tp n))).u_v_turned 0).u_v_ran 0).u_v_here 0).u_v_looked 0, hA, ?_, ?_, ?_, ?_, ?_, ?_, ?_⟩
  · rw [h216, h240, h373]
    unfold fmTl
    rw [hhd, q_c, e22, l1, q_b, l2, q_b, l3, q_b]
    show (if nI n ≤ 0 then f_Mo_format_570 K 1 (T2.u_v_disk (lks A3 A3 [(0, 268435448), (1, 268435455), (2, 268435455)])) else lf_c (f_Mo_place K (T2.u_v_disk (lks A3 A3 [(0, 268435448), (1, 268435455), (2, 268435455)])) 2) fun r_61 S_61 => f_Mo_format_502 K K (nI n) 1 r_61 0 S_61) = _
    generalize lks A3 A3 [(0, 268435448), (1, 268435455), (2, 268435455)] = X4
    by_cases w : n = 0
    · rw [if_pos (show nI n ≤ 0 by rw [w]; decide), f570, if_pos w]
      rfl
    · have hP : f_Mo_place K (T2.u_v_disk X4) 2 = some (nI (plC A3 2), T2.u_v_disk X4) := by
        unfold f_Mo_place plC
        rw [show (T2.u_v_disk X4).v_a = nI (ha A3) from v5, show (T2.u_v_disk X4).v_c = nI (hc A3) from v4, show (2 : Int32) = nI 2 from rfl, pk_sub (by omega), pk_mul, nI_add, show (512 : Int32) = nI 512 from rfl, pk_mul]
      have h5 := qM_f502 (K := K) (n := n) (p := plC A3 2) (T := T2) (X := X4) (tp := tp) (by omega) hn (by omega) v8 1 11 0 K (by omega) (by omega)
      have h5 : f_Mo_format_502 K K (nI n) 1 (nI (plC A3 2)) 0 (T2.u_v_disk X4) = _ := h5
      rw [if_neg (show ¬ nI n ≤ 0 from nI_nle (by omega) (by omega)), hP, q_c, h5, f570, if_neg w]
      rfl
  · by_cases w : n = 0
    · rw [if_pos w, if_pos w]; rfl
    · rw [if_neg w, if_neg w]; rfl
  · by_cases w : n = 0
    · rw [if_pos w]; exact v9
    · rw [if_neg w]; exact v9
  · by_cases w : n = 0
    · rw [if_pos w]; rfl
    · rw [if_neg w]; rfl
  · by_cases w : n = 0
    · rw [if_pos w]; rfl
    · rw [if_neg w]; rfl
  · by_cases w : n = 0
    · rw [if_pos w]; rfl
    · rw [if_neg w]; rfl
  · by_cases w : n = 0
    · rw [if_pos w]; rfl
    · rw [if_neg w]; rfl
