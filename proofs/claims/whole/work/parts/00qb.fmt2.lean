/-! format: what it writes. -/
theorem nI_all (x : Int32) : ∃ u, u < 2 ^ 32 ∧ x = nI u := ⟨x.toBitVec.toNat, x.toBitVec.isLt, by
  apply Int32.toBitVec_inj.mp
  rw [q_bv, BitVec.ofNat_toNat, BitVec.setWidth_eq]⟩
/-- the numbers of a first sector, at b -/
def fW (N C V Y Z I b : Nat) (X : Nat → Int32) : Nat → Int32 := st (st (st (st (st (st (st (st (st (st (st (wrN X (fun i => b + (3 + i)) (fun _ => wb 32) 8) (b + 11) 512 2) (b + 13) C 1) (b + 14) V 2) (b + 16) Y 1) (b + 32) N 4) (b + 36) Z 4) (b + 44) 2 4) (b + 48) 1 2) (b + 50) 6 2) (b + 67) I 4) (b + 510) 43605 2
def fB (N C V Y Z I i : Nat) : Nat := if 510 ≤ i ∧ i < 510 + 2 then 43605 / 256 ^ (i - 510) % 256 else if 67 ≤ i ∧ i < 67 + 4 then I / 256 ^ (i - 67) % 256 else if 50 ≤ i ∧ i < 50 + 2 then 6 / 256 ^ (i - 50) % 256 else if 48 ≤ i ∧ i < 48 + 2 then 1 / 256 ^ (i - 48) % 256 else if 44 ≤ i ∧ i < 44 + 4 then 2 / 256 ^ (i - 44) % 256 else if 36 ≤ i ∧ i < 36 + 4 then Z / 256 ^ (i - 36) % 256 else if 32 ≤ i ∧ i < 32 + 4 then N / 256 ^ (i - 32) % 256 else if 16 ≤ i ∧ i < 16 + 1 then Y / 256 ^ (i - 16) % 256 else if 14 ≤ i ∧ i < 14 + 2 then V / 256 ^ (i - 14) % 256 else if 13 ≤ i ∧ i < 13 + 1 then C / 256 ^ (i - 13) % 256 else if 11 ≤ i ∧ i < 11 + 2 then 512 / 256 ^ (i - 11) % 256 else if 3 ≤ i ∧ i < 3 + 8 then 32 else 0
theorem st_sh {X : Nat → Int32} {b k a n i : Nat} : o1 (st X (b + k) a n) (b + i) = if k ≤ i ∧ i < k + n then a / 256 ^ (i - k) % 256 else o1 X (b + i) := by
  rw [st_o1, Nat.add_sub_add_left]
  by_cases w : k ≤ i ∧ i < k + n
  · rw [if_pos w, if_pos (by omega)]
  · rw [if_neg w, if_neg (by omega)]
theorem bl_sh {X : Nat → Int32} {b i : Nat} : o1 (wrN X (fun i => b + (3 + i)) (fun _ => wb 32) 8) (b + i) = if 3 ≤ i ∧ i < 3 + 8 then 32 else o1 X (b + i) := by
  by_cases w : 3 ≤ i ∧ i < 3 + 8
  · rw [if_pos w]
    have := wrN_at (X := X) (po := fun i => b + (3 + i)) (sv := fun _ => wb 32) (i := i - 3) 8 (fun a c _ _ e => by
      have e : b + (3 + a) = b + (3 + c) := e
      omega) (by omega)
    have e : b + (3 + (i - 3)) = b + i := by omega
    have this : o1 _ (b + (3 + (i - 3))) = _ := this
    rw [e] at this
    rw [this]
    decide
  · rw [if_neg w]
    refine wrN_out 8 fun j hj e => ?_
    have e : b + (3 + j) = b + i := e
    omega
theorem fW_in {N C V Y Z I b i : Nat} {X : Nat → Int32} (h0 : o1 X (b + i) = 0) : o1 (fW N C V Y Z I b X) (b + i) = fB N C V Y Z I i := by
  unfold fW fB
  rw [st_sh, st_sh, st_sh, st_sh, st_sh, st_sh, st_sh, st_sh, st_sh, st_sh, st_sh, bl_sh, h0]
theorem fW_out {N C V Y Z I b q : Nat} {X : Nat → Int32} (h : q < b ∨ b + 512 ≤ q) : o1 (fW N C V Y Z I b X) q = o1 X q := by
  unfold fW
  rw [st_out (by omega), st_out (by omega), st_out (by omega), st_out (by omega), st_out (by omega), st_out (by omega), st_out (by omega), st_out (by omega), st_out (by omega), st_out (by omega), st_out (by omega)]
  refine wrN_out 8 fun j hj e => ?_
  have e : b + (3 + j) = q := e
  omega
/-- the second sector -/
def fX (X : Nat → Int32) : Nat → Int32 := st (st (st (st (st X 512 1096897106 4) 996 1631679090 4) 1000 4294967295 4) 1004 4294967295 4) 1020 2857697280 4
def fXB (q : Nat) : Nat := if 1020 ≤ q ∧ q < 1020 + 4 then 2857697280 / 256 ^ (q - 1020) % 256 else if 1004 ≤ q ∧ q < 1004 + 4 then 4294967295 / 256 ^ (q - 1004) % 256 else if 1000 ≤ q ∧ q < 1000 + 4 then 4294967295 / 256 ^ (q - 1000) % 256 else if 996 ≤ q ∧ q < 996 + 4 then 1631679090 / 256 ^ (q - 996) % 256 else if 512 ≤ q ∧ q < 512 + 4 then 1096897106 / 256 ^ (q - 512) % 256 else 0
theorem fX_in {X : Nat → Int32} {q : Nat} (h0 : o1 X q = 0) : o1 (fX X) q = fXB q := by
  unfold fX fXB
  rw [st_o1, st_o1, st_o1, st_o1, st_o1, h0]
theorem fX_out {X : Nat → Int32} {q : Nat} (h : q < 512 ∨ 1024 ≤ q) : o1 (fX X) q = o1 X q := by
  unfold fX
  rw [st_out (by omega), st_out (by omega), st_out (by omega), st_out (by omega), st_out (by omega)]
/-- the disk before the tables -/
def fM (N C V Y Z I q : Nat) : Nat := if q < 512 then fB N C V Y Z I q else if q < 1024 then fXB q else if 3072 ≤ q ∧ q < 3584 then fB N C V Y Z I (q - 3072) else 0
theorem fC_o1 {N C V Y Z I n q : Nat} {E : Nat → Int32} (hq : q < n) : o1 (fX (fW N C V Y Z I 3072 (fW N C V Y Z I 0 (zr E 0 n)))) q = fM N C V Y Z I q := by
  have hz0 : o1 (zr E 0 n) q = 0 := by rw [zr_o1, if_pos (by omega)]
  unfold fM
  by_cases a : q < 512
  · rw [if_pos a, fX_out (by omega), fW_out (by omega)]
    have := fW_in (N := N) (C := C) (V := V) (Y := Y) (Z := Z) (I := I) (b := 0) (i := q) (X := zr E 0 n) (by rw [Nat.zero_add]; exact hz0)
    rw [Nat.zero_add] at this
    exact this
  rw [if_neg a]
  by_cases b : q < 1024
  · rw [if_pos b]
    exact fX_in (by rw [fW_out (by omega), fW_out (by omega)]; exact hz0)
  rw [if_neg b, fX_out (by omega)]
  by_cases c : 3072 ≤ q ∧ q < 3584
  · rw [if_pos c]
    have e : 3072 + (q - 3072) = q := by omega
    have := fW_in (N := N) (C := C) (V := V) (Y := Y) (Z := Z) (I := I) (b := 3072) (i := q - 3072) (X := fW N C V Y Z I 0 (zr E 0 n)) (by rw [e, fW_out (by omega)]; exact hz0)
    rw [e] at this
    exact this
  · rw [if_neg c, fW_out (by omega), fW_out (by omega)]
    exact hz0
/-- the first sector once more at sector 6 -/
theorem fR_o1 {N C V Y Z I n q : Nat} {D A : Nat → Int32} (hA : A = fW N C V Y Z I 0 (zr D 0 n)) (hq : q < n) (hn : 512 ≤ n) : o1 (fX (wrN A (fun i => 3072 + i) (fun i => vp_nar .byte (A i)) 512)) q = fM N C V Y Z I q := by
  have hz0 : ∀ q, q < n → o1 (zr D 0 n) q = 0 := fun q hq => by rw [zr_o1, if_pos (by omega)]
  have hA0 : ∀ q, q < 512 → o1 A q = fB N C V Y Z I q := fun q h5 => by
    rw [hA]
    have := fW_in (N := N) (C := C) (V := V) (Y := Y) (Z := Z) (I := I) (b := 0) (i := q) (X := zr D 0 n) (by rw [Nat.zero_add]; exact hz0 q (by omega))
    rw [Nat.zero_add] at this
    exact this
  have hA1 : ∀ q, 512 ≤ q → q < n → o1 A q = 0 := fun q h5 h6 => by rw [hA, fW_out (by omega)]; exact hz0 q h6
  have hw : ∀ q, q < 3072 ∨ 3584 ≤ q → o1 (wrN A (fun i => 3072 + i) (fun i => vp_nar .byte (A i)) 512) q = o1 A q := fun q h5 => wrN_out 512 fun j hj e => by
    have e : 3072 + j = q := e
    omega
  unfold fM
  by_cases a : q < 512
  · rw [if_pos a, fX_out (by omega), hw q (by omega), hA0 q a]
  rw [if_neg a]
  by_cases b : q < 1024
  · rw [if_pos b]
    exact fX_in (by rw [hw q (by omega)]; exact hA1 q (by omega) hq)
  rw [if_neg b, fX_out (by omega)]
  by_cases c : 3072 ≤ q ∧ q < 3584
  · rw [if_pos c]
    have := wrN_at (X := A) (po := fun i => 3072 + i) (sv := fun i => vp_nar .byte (A i)) (i := q - 3072) 512 (fun a c _ _ e => by
      have e : 3072 + a = 3072 + c := e
      omega) (by omega)
    have e : 3072 + (q - 3072) = q := by omega
    have this : o1 _ (3072 + (q - 3072)) = _ := this
    rw [e] at this
    rw [this, ← hA0 (q - 3072) (by omega)]
    show ub (vp_nar .byte (A (q - 3072))) = ub (A (q - 3072))
    rw [vp_nar_byte, ← pk_vb, ub_b8]
  · rw [if_neg c, hw q (by omega)]
    exact hA1 q (by omega) hq
/-- what is read of it -/
theorem fM_lo {N C V Y Z I q : Nat} (h : q < 512) : fM N C V Y Z I q = fB N C V Y Z I q := if_pos h
theorem fB_11 {N C V Y Z I : Nat} : fB N C V Y Z I 11 = 512 / 256 ^ 0 % 256 := by
  unfold fB
  repeat rw [if_neg (by decide)]
  rw [if_pos (by decide)]
theorem fB_12 {N C V Y Z I : Nat} : fB N C V Y Z I 12 = 512 / 256 ^ 1 % 256 := by
  unfold fB
  repeat rw [if_neg (by decide)]
  rw [if_pos (by decide)]
theorem fB_13 {N C V Y Z I : Nat} : fB N C V Y Z I 13 = C / 256 ^ 0 % 256 := by
  unfold fB
  repeat rw [if_neg (by decide)]
  rw [if_pos (by decide)]
theorem fB_14 {N C V Y Z I : Nat} : fB N C V Y Z I 14 = V / 256 ^ 0 % 256 := by
  unfold fB
  repeat rw [if_neg (by decide)]
  rw [if_pos (by decide)]
theorem fB_15 {N C V Y Z I : Nat} : fB N C V Y Z I 15 = V / 256 ^ 1 % 256 := by
  unfold fB
  repeat rw [if_neg (by decide)]
  rw [if_pos (by decide)]
theorem fB_16 {N C V Y Z I : Nat} : fB N C V Y Z I 16 = Y / 256 ^ 0 % 256 := by
  unfold fB
  repeat rw [if_neg (by decide)]
  rw [if_pos (by decide)]
theorem fB_32 {N C V Y Z I : Nat} : fB N C V Y Z I 32 = N / 256 ^ 0 % 256 := by
  unfold fB
  repeat rw [if_neg (by decide)]
  rw [if_pos (by decide)]
theorem fB_33 {N C V Y Z I : Nat} : fB N C V Y Z I 33 = N / 256 ^ 1 % 256 := by
  unfold fB
  repeat rw [if_neg (by decide)]
  rw [if_pos (by decide)]
theorem fB_34 {N C V Y Z I : Nat} : fB N C V Y Z I 34 = N / 256 ^ 2 % 256 := by
  unfold fB
  repeat rw [if_neg (by decide)]
  rw [if_pos (by decide)]
theorem fB_35 {N C V Y Z I : Nat} : fB N C V Y Z I 35 = N / 256 ^ 3 % 256 := by
  unfold fB
  repeat rw [if_neg (by decide)]
  rw [if_pos (by decide)]
theorem fB_36 {N C V Y Z I : Nat} : fB N C V Y Z I 36 = Z / 256 ^ 0 % 256 := by
  unfold fB
  repeat rw [if_neg (by decide)]
  rw [if_pos (by decide)]
theorem fB_37 {N C V Y Z I : Nat} : fB N C V Y Z I 37 = Z / 256 ^ 1 % 256 := by
  unfold fB
  repeat rw [if_neg (by decide)]
  rw [if_pos (by decide)]
theorem fB_38 {N C V Y Z I : Nat} : fB N C V Y Z I 38 = Z / 256 ^ 2 % 256 := by
  unfold fB
  repeat rw [if_neg (by decide)]
  rw [if_pos (by decide)]
theorem fB_39 {N C V Y Z I : Nat} : fB N C V Y Z I 39 = Z / 256 ^ 3 % 256 := by
  unfold fB
  repeat rw [if_neg (by decide)]
  rw [if_pos (by decide)]
theorem fB_44 {N C V Y Z I : Nat} : fB N C V Y Z I 44 = 2 / 256 ^ 0 % 256 := by
  unfold fB
  repeat rw [if_neg (by decide)]
  rw [if_pos (by decide)]
theorem fB_45 {N C V Y Z I : Nat} : fB N C V Y Z I 45 = 2 / 256 ^ 1 % 256 := by
  unfold fB
  repeat rw [if_neg (by decide)]
  rw [if_pos (by decide)]
theorem fB_46 {N C V Y Z I : Nat} : fB N C V Y Z I 46 = 2 / 256 ^ 2 % 256 := by
  unfold fB
  repeat rw [if_neg (by decide)]
  rw [if_pos (by decide)]
theorem fB_47 {N C V Y Z I : Nat} : fB N C V Y Z I 47 = 2 / 256 ^ 3 % 256 := by
  unfold fB
  repeat rw [if_neg (by decide)]
  rw [if_pos (by decide)]
theorem fB_48 {N C V Y Z I : Nat} : fB N C V Y Z I 48 = 1 / 256 ^ 0 % 256 := by
  unfold fB
  repeat rw [if_neg (by decide)]
  rw [if_pos (by decide)]
theorem fB_49 {N C V Y Z I : Nat} : fB N C V Y Z I 49 = 1 / 256 ^ 1 % 256 := by
  unfold fB
  repeat rw [if_neg (by decide)]
  rw [if_pos (by decide)]
theorem fB_50 {N C V Y Z I : Nat} : fB N C V Y Z I 50 = 6 / 256 ^ 0 % 256 := by
  unfold fB
  repeat rw [if_neg (by decide)]
  rw [if_pos (by decide)]
theorem fB_51 {N C V Y Z I : Nat} : fB N C V Y Z I 51 = 6 / 256 ^ 1 % 256 := by
  unfold fB
  repeat rw [if_neg (by decide)]
  rw [if_pos (by decide)]
theorem fB_510 {N C V Y Z I : Nat} : fB N C V Y Z I 510 = 43605 / 256 ^ 0 % 256 := by
  unfold fB
  repeat rw [if_neg (by decide)]
  rw [if_pos (by decide)]
theorem fB_511 {N C V Y Z I : Nat} : fB N C V Y Z I 511 = 43605 / 256 ^ 1 % 256 := by
  unfold fB
  repeat rw [if_neg (by decide)]
  rw [if_pos (by decide)]
theorem fB_17 {N C V Y Z I : Nat} : fB N C V Y Z I 17 = 0 := by
  unfold fB
  repeat rw [if_neg (by decide)]
theorem fB_18 {N C V Y Z I : Nat} : fB N C V Y Z I 18 = 0 := by
  unfold fB
  repeat rw [if_neg (by decide)]
theorem fB_19 {N C V Y Z I : Nat} : fB N C V Y Z I 19 = 0 := by
  unfold fB
  repeat rw [if_neg (by decide)]
theorem fB_20 {N C V Y Z I : Nat} : fB N C V Y Z I 20 = 0 := by
  unfold fB
  repeat rw [if_neg (by decide)]
theorem fB_22 {N C V Y Z I : Nat} : fB N C V Y Z I 22 = 0 := by
  unfold fB
  repeat rw [if_neg (by decide)]
theorem fB_23 {N C V Y Z I : Nat} : fB N C V Y Z I 23 = 0 := by
  unfold fB
  repeat rw [if_neg (by decide)]
theorem fM_hd {N C V Y Z I : Nat} {D : Nat → Int32} (hN1 : 256 ≤ N) (hN : N ≤ 1024) (hC : C = 2 ∨ C = 4 ∨ C = 8) (hV1 : 8 ≤ V) (hV : V ≤ 64) (hY : Y = 1 ∨ Y = 2) (hZ1 : 1 ≤ Z) (hZ : Z ≤ 32) (hz0 : zP N C V Y Z) (hD : ∀ q, q < 512 → o1 D q = fM N C V Y Z I q) : hdOk N D ∧ hc D = C ∧ hv D = V ∧ hy D = Y ∧ hz D = Z ∧ hr D = 2 ∧ ha D = V + Y * Z := by
  have hB : ∀ q, q < 512 → o1 D q = fB N C V Y Z I q := fun q hq => (hD q hq).trans (fM_lo hq)
  have hYZ := ar_z hY hZ
  have e1 : hc D = C := by
    have : hc D = o1 D 13 := rfl
    rw [this, hB 13 (by decide), fB_13, Nat.pow_zero, Nat.div_one]
    omega
  have e2 : hv D = V := by
    have : hv D = o1 D 14 + 256 * o1 D 15 := rfl
    rw [this, hB 14 (by decide), hB 15 (by decide), fB_14, fB_15, Nat.pow_zero, Nat.div_one, Nat.pow_one]
    omega
  have e3 : hy D = Y := by
    have : hy D = o1 D 16 := rfl
    rw [this, hB 16 (by decide), fB_16, Nat.pow_zero, Nat.div_one]
    omega
  have e4 : hz D = Z := by
    have : hz D = o1 D 36 + 256 * o1 D 37 + 65536 * (o1 D 38 + 256 * o1 D 39) := rfl
    rw [this, hB 36 (by decide), hB 37 (by decide), hB 38 (by decide), hB 39 (by decide), fB_36, fB_37, fB_38, fB_39, Nat.pow_zero, Nat.div_one, Nat.pow_one]
    omega
  have e5 : hr D = 2 := by
    have : hr D = o1 D 44 + 256 * o1 D 45 + 65536 * (o1 D 46 + 256 * o1 D 47) := rfl
    rw [this, hB 44 (by decide), hB 45 (by decide), hB 46 (by decide), hB 47 (by decide), fB_44, fB_45, fB_46, fB_47]
  have e6 : ha D = V + Y * Z := by unfold ha; rw [e2, e3, e4]
  have e7 : o4 D 32 = N := by
    have : o4 D 32 = o1 D 32 + 256 * o1 D 33 + 65536 * (o1 D 34 + 256 * o1 D 35) := rfl
    rw [this, hB 32 (by decide), hB 33 (by decide), hB 34 (by decide), hB 35 (by decide), fB_32, fB_33, fB_34, fB_35, Nat.pow_zero, Nat.div_one, Nat.pow_one]
    omega
  have e8 : hk N D = (N - V - Y * Z) / C := by unfold hk; rw [e1, e6, Nat.sub_add_eq]
  have f1 : o2 D 11 = 512 := by
    have : o2 D 11 = o1 D 11 + 256 * o1 D 12 := rfl
    rw [this, hB 11 (by decide), hB 12 (by decide), fB_11, fB_12]
  have f2 : o2 D 17 = 0 := by
    have : o2 D 17 = o1 D 17 + 256 * o1 D 18 := rfl
    rw [this, hB 17 (by decide), hB 18 (by decide), fB_17, fB_18]
  have f3 : o2 D 19 = 0 := by
    have : o2 D 19 = o1 D 19 + 256 * o1 D 20 := rfl
    rw [this, hB 19 (by decide), hB 20 (by decide), fB_19, fB_20]
  have f4 : o2 D 22 = 0 := by
    have : o2 D 22 = o1 D 22 + 256 * o1 D 23 := rfl
    rw [this, hB 22 (by decide), hB 23 (by decide), fB_22, fB_23]
  have f5 : o2 D 48 = 1 := by
    have : o2 D 48 = o1 D 48 + 256 * o1 D 49 := rfl
    rw [this, hB 48 (by decide), hB 49 (by decide), fB_48, fB_49]
  have f6 : o2 D 50 = 6 := by
    have : o2 D 50 = o1 D 50 + 256 * o1 D 51 := rfl
    rw [this, hB 50 (by decide), hB 51 (by decide), fB_50, fB_51]
  have f7 : o2 D 510 = 43605 := by
    have : o2 D 510 = o1 D 510 + 256 * o1 D 511 := rfl
    rw [this, hB 510 (by decide), hB 511 (by decide), fB_510, fB_511]
  obtain ⟨z1, z2⟩ := hz0
  refine ⟨⟨⟨f1, by rw [e1]; exact hC, by rw [e2]; exact ⟨hV1, hV⟩, by rw [e3]; exact hY, f2, f3, f4, e7, by rw [e4]; exact ⟨hZ1, hZ⟩, f5, f6, f7⟩, ?_⟩, e1, e2, e3, e4, e5, e6⟩
  unfold hdB
  rw [e4, e5, e6, e8]
  generalize (N - V - Y * Z) / C = k at *
  omega
