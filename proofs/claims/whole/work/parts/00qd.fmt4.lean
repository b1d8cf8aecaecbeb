theorem qC_wf14 {K N C V Y Z I b : Nat} {G : CG} {S : CS} {X : Nat → Int32} (hG : G.n = N) (hN1 : 256 ≤ N) (hN : N ≤ 1024) (hV : V < 65536) (hI : I < 2 ^ 32) (hZ : Z < 65536) (hb : b ≤ 3072) (hs : S.v_Dk_sectors = nI N) (rec : Int32 → Int32 → Int32 → Int32 → Int32 → Int32 → CS → Option CS) : ∀ (d j k : Nat), j + d = 8 → d < k → f_Tb_writeFirstSectors_14 K G rec k (nI C) (nI V) (nI Y) (nI Z) (nI I) (nI b) (nI (3 + j)) (S.u_w_Dk_bytes (wrN X (fun i => b + (3 + i)) (fun _ => wb 32) j)) = rec (nI C) (nI V) (nI Y) (nI Z) (nI I) (nI (b + 3072)) (S.u_w_Dk_bytes (fW N C V Y Z I b X)) := by
  intro d
  induction d with
  | zero =>
    intro j k h1 h2
    obtain ⟨k, rfl⟩ : ∃ m, k = m + 1 := ⟨k - 1, by omega⟩
    obtain rfl : j = 8 := by omega
    have p1 : ∀ (X : Nat → Int32) (o a : Nat), o < 512 → f_Dk_putOne K G (S.u_w_Dk_bytes X) (nI b + nI o) (nI a) = some (S.u_w_Dk_bytes (st X (b + o) a 1)) := fun X o a h => by
      rw [nI_add]
      exact qC_put1 (S := S.u_w_Dk_bytes X) hG hN1 hN (by omega)
    have p2 : ∀ (X : Nat → Int32) (o a : Nat), o < 511 → a < 2 ^ 31 → f_Dk_putTwo K G (S.u_w_Dk_bytes X) (nI b + nI o) (nI a) = some (S.u_w_Dk_bytes (st X (b + o) a 2)) := fun X o a h g => by
      rw [nI_add]
      exact qC_put2 (S := S.u_w_Dk_bytes X) hG hN1 hN (by omega) g
    have p4 : ∀ (X : Nat → Int32) (o a : Nat), o < 509 → a < 2 ^ 32 → f_Dk_putFour K G (S.u_w_Dk_bytes X) (nI b + nI o) (nI a) = some (S.u_w_Dk_bytes (st X (b + o) a 4)) := fun X o a h g => by
      rw [nI_add]
      exact qC_put4W (S := S.u_w_Dk_bytes X) hG hN1 hN (by omega) g
    have s1 : ∀ X, f_Dk_putTwo K G (S.u_w_Dk_bytes X) (nI b + 11) 512 = _ := fun X => p2 X 11 512 (by decide) (by decide)
    have s2 : ∀ X, f_Dk_putOne K G (S.u_w_Dk_bytes X) (nI b + 13) (nI C) = _ := fun X => p1 X 13 C (by decide)
    have s3 : ∀ X, f_Dk_putTwo K G (S.u_w_Dk_bytes X) (nI b + 14) (nI V) = _ := fun X => p2 X 14 V (by decide) (by omega)
    have s4 : ∀ X, f_Dk_putOne K G (S.u_w_Dk_bytes X) (nI b + 16) (nI Y) = _ := fun X => p1 X 16 Y (by decide)
    have s5 : ∀ X, f_Dk_putFour K G (S.u_w_Dk_bytes X) (nI b + 32) (S.u_w_Dk_bytes X).v_Dk_sectors = some (S.u_w_Dk_bytes (st X (b + 32) N 4)) := fun X => by
      rw [show (S.u_w_Dk_bytes X).v_Dk_sectors = nI N from hs]
      exact p4 X 32 N (by decide) (by omega)
    have s6 : ∀ X, f_Dk_putFour K G (S.u_w_Dk_bytes X) (nI b + 36) (nI Z) = _ := fun X => p4 X 36 Z (by decide) (by omega)
    have s7 : ∀ X, f_Dk_putFour K G (S.u_w_Dk_bytes X) (nI b + 44) 2 = _ := fun X => p4 X 44 2 (by decide) (by decide)
    have s8 : ∀ X, f_Dk_putTwo K G (S.u_w_Dk_bytes X) (nI b + 48) 1 = _ := fun X => p2 X 48 1 (by decide) (by decide)
    have s9 : ∀ X, f_Dk_putTwo K G (S.u_w_Dk_bytes X) (nI b + 50) 6 = _ := fun X => p2 X 50 6 (by decide) (by decide)
    have s10 : ∀ X, f_Dk_putFour K G (S.u_w_Dk_bytes X) (nI b + 67) (nI I) = _ := fun X => p4 X 67 I (by decide) hI
    have s11 : ∀ X, f_Dk_putTwo K G (S.u_w_Dk_bytes X) (nI b + 510) 43605 = _ := fun X => p2 X 510 43605 (by decide) (by decide)
    rw [f_Tb_writeFirstSectors_14, if_pos (show 11 ≤ nI (3 + 8) by decide), s1, q_b, s2, q_b, s3, q_b, s4, q_b, s5, q_b, s6, q_b, s7, q_b, s8, q_b, s9, q_b, s10, q_b, s11, q_b, show (3072 : Int32) = nI 3072 from rfl, nI_add, q_l]
    rfl
  | succ d ih =>
    intro j k h1 h2
    obtain ⟨k, rfl⟩ : ∃ m, k = m + 1 := ⟨k - 1, by omega⟩
    have hp := qC_put (K := K) (q := b + (3 + j)) (S := S.u_w_Dk_bytes (wrN X (fun i => b + (3 + i)) (fun _ => wb 32) j)) hG hN (by omega) 32
    rw [f_Tb_writeFirstSectors_14, if_neg (show ¬ 11 ≤ nI (3 + j) from nI_ge (b := 11) (by omega) (by decide)), nI_add b, hp, q_b, show (1 : Int32) = nI 1 from rfl, nI_add, q_l]
    exact ih (j + 1) k (by omega) (by omega)
theorem qC_wf {K N C V Y Z I : Nat} {G : CG} {S : CS} {X : Nat → Int32} (hK : 1000 ≤ K) (hG : G.n = N) (hN1 : 256 ≤ N) (hN : N ≤ 1024) (hV : V < 65536) (hI : I < 2 ^ 32) (hZ : Z < 65536) (hs : S.v_Dk_sectors = nI N) : f_Tb_writeFirstSectors K G (S.u_w_Dk_bytes X) (nI C) (nI V) (nI Y) (nI Z) (nI I) = some (S.u_w_Dk_bytes (fX (fW N C V Y Z I 3072 (fW N C V Y Z I 0 X)))) := by
  obtain ⟨k, rfl⟩ : ∃ m, K = m + 3 := ⟨K - 3, by omega⟩
  have p4 : ∀ (X : Nat → Int32) (o a : Nat), o < 1021 → a < 2 ^ 32 → f_Dk_putFour (k + 3) G (S.u_w_Dk_bytes X) (nI o) (nI a) = some (S.u_w_Dk_bytes (st X o a 4)) := fun X o a h g => qC_put4W (S := S.u_w_Dk_bytes X) hG hN1 hN (by omega) g
  have s1 : ∀ X, f_Dk_putFour (k + 3) G (S.u_w_Dk_bytes X) 512 1096897106 = _ := fun X => p4 X 512 1096897106 (by decide) (by decide)
  have s2 : ∀ X, f_Dk_putFour (k + 3) G (S.u_w_Dk_bytes X) 996 1631679090 = _ := fun X => p4 X 996 1631679090 (by decide) (by decide)
  have s3 : ∀ X, f_Dk_putFour (k + 3) G (S.u_w_Dk_bytes X) 1000 (-1) = some (S.u_w_Dk_bytes (st X 1000 4294967295 4)) := fun X => by
    rw [show (-1 : Int32) = nI 4294967295 by decide]
    exact p4 X 1000 4294967295 (by decide) (by decide)
  have s4 : ∀ X, f_Dk_putFour (k + 3) G (S.u_w_Dk_bytes X) 1004 (-1) = some (S.u_w_Dk_bytes (st X 1004 4294967295 4)) := fun X => by
    rw [show (-1 : Int32) = nI 4294967295 by decide]
    exact p4 X 1004 4294967295 (by decide) (by decide)
  have s5 : ∀ X, f_Dk_putFour (k + 3) G (S.u_w_Dk_bytes X) 1020 (-1437270016) = some (S.u_w_Dk_bytes (st X 1020 2857697280 4)) := fun X => by
    rw [show (-1437270016 : Int32) = nI 2857697280 by decide]
    exact p4 X 1020 2857697280 (by decide) (by decide)
  have w := fun b X hb rec => qC_wf14 (K := k + 3) (N := N) (C := C) (V := V) (Y := Y) (Z := Z) (I := I) (b := b) (S := S) (X := X) hG hN1 hN hV hI hZ hb hs rec 8 0 (k + 3) (by omega) (by omega)
  have w0 : ∀ X rec, f_Tb_writeFirstSectors_14 (k + 3) G rec (k + 3) (nI C) (nI V) (nI Y) (nI Z) (nI I) 0 3 (S.u_w_Dk_bytes X) = rec (nI C) (nI V) (nI Y) (nI Z) (nI I) (nI 3072) (S.u_w_Dk_bytes (fW N C V Y Z I 0 X)) := fun X rec => w 0 X (by decide) rec
  have w1 : ∀ X rec, f_Tb_writeFirstSectors_14 (k + 3) G rec (k + 3) (nI C) (nI V) (nI Y) (nI Z) (nI I) (nI 3072) 3 (S.u_w_Dk_bytes X) = rec (nI C) (nI V) (nI Y) (nI Z) (nI I) (nI 6144) (S.u_w_Dk_bytes (fW N C V Y Z I 3072 X)) := fun X rec => w 3072 X (by decide) rec
  unfold f_Tb_writeFirstSectors
  rw [f_Tb_writeFirstSectors_3, if_neg (by decide), w0, f_Tb_writeFirstSectors_3, if_neg (by decide), w1, f_Tb_writeFirstSectors_3, if_pos (by decide), s1, q_b, s2, q_b, s3, q_b, s4, q_b, s5, q_b]
  rfl
theorem qC_wl18 {K N n p : Nat} {G : CG} {S : CS} {X tp : Nat → Int32} (hG : G.n = N) (hN1 : 256 ≤ N) (hN : N ≤ 1024) (hn : n ≤ 4096) (hp : p + 32 ≤ 512 * N) (ht : S.w_Tp_bytes = tp) : ∀ (d i k : Nat), i + d = 11 → d < k → f_Ed_writeLabel_18 K G k (nI n) (nI p) (nI i) (S.u_w_Dk_bytes (wrN X (fun i => p + i) (lbD tp n) i)) = some (S.u_w_Dk_bytes (fL X p (lbD tp n))) := by
  intro d
  induction d with
  | zero =>
    intro i k h1 h2
    obtain ⟨k, rfl⟩ : ∃ m, k = m + 1 := ⟨k - 1, by omega⟩
    obtain rfl : i = 11 := by omega
    have s1 : ∀ X, f_Dk_putOne K G (S.u_w_Dk_bytes X) (nI p + 11) 8 = some (S.u_w_Dk_bytes (st X (p + 11) 8 1)) := fun X => by
      rw [show (11 : Int32) = nI 11 from rfl, nI_add]
      exact qC_put1 (S := S.u_w_Dk_bytes X) (a := 8) hG hN1 hN (by omega)
    have s2 : ∀ X, f_Dk_putTwo K G (S.u_w_Dk_bytes X) (nI p + 24) 33 = some (S.u_w_Dk_bytes (st X (p + 24) 33 2)) := fun X => by
      rw [show (24 : Int32) = nI 24 from rfl, nI_add]
      exact qC_put2 (S := S.u_w_Dk_bytes X) (a := 33) hG hN1 hN (by omega) (by decide)
    rw [f_Ed_writeLabel_18, if_pos (show 11 ≤ nI 11 by decide), s1, q_b, s2, q_b]
    rfl
  | succ d ih =>
    intro i k h1 h2
    obtain ⟨k, rfl⟩ : ∃ m, k = m + 1 := ⟨k - 1, by omega⟩
    obtain ⟨S2, eS⟩ : ∃ S2, S.u_w_Dk_bytes (wrN X (fun i => p + i) (lbD tp n) i) = S2 := ⟨_, rfl⟩
    have ho : f_Tp_one K G S2 (nI i) = some (tp i &&& 255, S2) := by
      unfold f_Tp_one
      rw [if_neg (nI_pos (by omega)), if_neg (show ¬ 4096 ≤ nI i from nI_ge (b := 4096) (by omega) (by omega)), q_g (q_in (by omega) (by decide)), nI_clamp (by omega), show S2.w_Tp_bytes = tp by rw [← eS]; exact ht]
    have step : ∀ z : Int32, wb z = lbD tp n i → f_Ed_writeLabel_50 K G (f_Ed_writeLabel_18 K G k) (nI n) (nI p) (nI i) (nI p + nI i) z S2 = some (S.u_w_Dk_bytes (fL X p (lbD tp n))) := fun z hz0 => by
      unfold f_Ed_writeLabel_50
      rw [nI_add, qC_put hG hN (by omega), q_b, show (1 : Int32) = nI 1 from rfl, nI_add, q_l, hz0, ← eS]
      exact ih (i + 1) k (by omega) (by omega)
    rw [eS, f_Ed_writeLabel_18, if_neg (show ¬ 11 ≤ nI i from nI_ge (b := 11) (by omega) (by decide))]
    by_cases w : n ≤ i
    · rw [if_pos (nI_le w (by omega))]
      exact step _ (by unfold lbD; rw [if_neg (by omega)])
    · rw [if_neg (nI_ge (by omega) (by omega)), ho, q_c]
      exact step (tp i &&& 255) (by unfold lbD; rw [if_pos (by omega)])
/-- the class's format where it takes the numbers -/
def fmC (K : Nat) (G0 : CG) (p0 p1 p2 r_2 p3 r_1 : Int32) (S_4 : CS) : Option (Except Nat Int32 × CG × CS) := (f_Dk_zero K G0 S_4 0 (S_4.v_Dk_sectors * 512)).bind fun S_6 => (f_Tb_writeFirstSectors K G0 S_6 p0 p1 p2 r_2 p3).bind fun S_7 => lf_c (f_Tb_read K G0 S_7) fun _ S_8 => (f_Tb_startTables K G0 S_8).bind fun S_9 => if r_1 ≤ 0 then (f_Vt_format_115 K G0 S_9) else ((f_Ed_writeLabel K G0 S_9 r_1).bind fun S_11 => f_Vt_format_115 K G0 S_11)
abbrev coF (S : CS) := ((S.w_Vt_failAsks, S.w_Vt_failWrites, S.v_Vt_fails), (S.v_Dk_sectors, S.v_Pl_blocks), (S.w_Tp_bytes, S.w_Tp_ready, S.v_Tp_used))
theorem qC_fmt {K N C V Y Z I n : Nat} {G : CG} {S : CS} {E tp : Nat → Int32} (hK : 1000 ≤ K) (hG : G.n = N) (hN1 : 256 ≤ N) (hN : N ≤ 1024) (hC : C = 2 ∨ C = 4 ∨ C = 8) (hV1 : 8 ≤ V) (hV : V ≤ 64) (hY : Y = 1 ∨ Y = 2) (hZ1 : 1 ≤ Z) (hZ : Z ≤ 32) (hI : I < 2 ^ 32) (hzP : zP N C V Y Z) (hE : S.w_Dk_bytes = E) (hs : S.v_Dk_sectors = nI N) (htp : S.w_Tp_bytes = tp) (hn : n ≤ 4096) : ∃ B3 S', (∀ q, q < 512 * N → o1 B3 q = fM N C V Y Z I q) ∧ fmC K G (nI C) (nI V) (nI Y) (nI Z) (nI I) (nI n) S = some (.ok (nI (hk N B3)), G, S') ∧ S'.w_Dk_bytes = (if n = 0 then lks B3 B3 [(0, 268435448), (1, 268435455), (2, 268435455)] else fL (lks B3 B3 [(0, 268435448), (1, 268435455), (2, 268435455)]) (plC B3 2) (lbD tp n)) ∧ coF S' = coF S ∧ S'.v_Vt_hasRun = 0 ∧ S'.v_Vt_stale = 1 ∧ S'.v_Vt_here = 0 := by
  have hYZ := ar_z hY hZ
  have hz0 : f_Dk_zero K G S 0 (S.v_Dk_sectors * 512) = some (S.u_w_Dk_bytes (zr E 0 (512 * N))) := by
    rw [hs, show (512 : Int32) = nI 512 from rfl, pk_mul, Nat.mul_comm, show (0 : Int32) = nI 0 from rfl, qC_zero hG hN (by omega), hE]
  have hwf := qC_wf (K := K) (C := C) (V := V) (Y := Y) (Z := Z) (I := I) (S := S) (X := zr E 0 (512 * N)) hK hG hN1 hN (by omega) hI (by omega) hs
  obtain ⟨B3, eB⟩ : ∃ B3, fX (fW N C V Y Z I 3072 (fW N C V Y Z I 0 (zr E 0 (512 * N)))) = B3 := ⟨_, rfl⟩
  have hB : ∀ q, q < 512 * N → o1 B3 q = fM N C V Y Z I q := fun q hq => by rw [← eB]; exact fC_o1 hq
  rw [eB] at hwf
  obtain ⟨ho, e1, e2, e3, e4, e5, e6⟩ := fM_hd hN1 hN hC hV1 hV hY hZ1 hZ hzP (fun q hq => hB q (by omega))
  have hf := hd_facts ho hN
  have hrd := (qV_read (K := K) (D := B3) (S := S.u_w_Dk_bytes B3) hK hG rfl hN1 hN hs).1 ho
  obtain ⟨S2, eS2⟩ : ∃ S2, cT N B3 (S.u_w_Dk_bytes B3) = S2 := ⟨_, rfl⟩
  have v1 : S2.v_Tb_before = nI (hv B3) := by rw [← eS2]; rfl
  have v2 : S2.v_Tb_copies = nI (hy B3) := by rw [← eS2]; rfl
  have v3 : S2.v_Tb_length = nI (hz B3) := by rw [← eS2]; rfl
  have v4 : S2.v_Tb_cluster = nI (hc B3) := by rw [← eS2]; rfl
  have v5 : S2.v_Tb_start = nI (ha B3) := by rw [← eS2]; rfl
  have v6 : S2.w_Dk_bytes = B3 := by rw [← eS2]; rfl
  have v7 : S2.v_Tb_clusters = nI (hk N B3) := by rw [← eS2]; rfl
  have v8 : S2.w_Tp_bytes = tp := by rw [← eS2]; exact htp
  have v9 : coF S2 = coF S := by rw [← eS2]; rfl
  have v10 : S2.v_Tb_root = nI 2 := by rw [← eS2, ← e5]; rfl
  rw [eS2] at hrd
  have l0 : ∀ (x v : Nat) (g X : Nat → Int32), x < hk N B3 + 2 → v < 2 ^ 28 → f_Tb_link K G ((S2.u_w_Tb_next g).u_w_Dk_bytes X) (nI x) (nI v) = some ((S2.u_w_Tb_next (upd g x (nI v))).u_w_Dk_bytes (lk B3 X x v)) := fun x v g X hx hv0 => qC_lk (S := (S2.u_w_Tb_next g).u_w_Dk_bytes X) hK hG hN1 ho hN hx hv0 v1 v2 v3 v7
  have l1 : ∀ g X, f_Tb_link K G ((S2.u_w_Tb_next g).u_w_Dk_bytes X) 0 268435448 = _ := fun g X => l0 0 268435448 g X (by omega) (by decide)
  have l2 : ∀ g X, f_Tb_link K G ((S2.u_w_Tb_next g).u_w_Dk_bytes X) 1 268435455 = _ := fun g X => l0 1 268435455 g X (by omega) (by decide)
  have l3 : ∀ g X, f_Tb_link K G ((S2.u_w_Tb_next g).u_w_Dk_bytes X) ((S2.u_w_Tb_next g).u_w_Dk_bytes X).v_Tb_root 268435455 = some ((S2.u_w_Tb_next (upd g 2 (nI 268435455))).u_w_Dk_bytes (lk B3 X 2 268435455)) := fun g X => by
    rw [show ((S2.u_w_Tb_next g).u_w_Dk_bytes X).v_Tb_root = nI 2 from v10]
    exact l0 2 268435455 g X (by omega) (by decide)
  have e22 : S2 = (S2.u_w_Tb_next S2.w_Tb_next).u_w_Dk_bytes B3 := by rw [← v6]; rfl
  have hst : ∃ g, f_Tb_startTables K G S2 = some ((S2.u_w_Tb_next g).u_w_Dk_bytes (lks B3 B3 [(0, 268435448), (1, 268435455), (2, 268435455)])) := by
    refine ⟨upd (upd (upd S2.w_Tb_next 0 (nI 268435448)) 1 (nI 268435455)) 2 (nI 268435455), ?_⟩
    unfold f_Tb_startTables
    rw [show f_Tb_link K G S2 0 268435448 = _ from (congrArg (fun s => f_Tb_link K G s 0 268435448) e22).trans (l1 S2.w_Tb_next B3), q_b, l2, q_b, l3, q_b]
    rfl
  obtain ⟨g, hst⟩ := hst
  obtain ⟨S3, eS3⟩ : ∃ S3, S2.u_w_Tb_next g = S3 := ⟨_, rfl⟩
  rw [eS3] at hst
  have w4 : S3.v_Tb_cluster = nI (hc B3) := by rw [← eS3]; exact v4
  have w5 : S3.v_Tb_start = nI (ha B3) := by rw [← eS3]; exact v5
  have w7 : S3.v_Tb_clusters = nI (hk N B3) := by rw [← eS3]; exact v7
  have w8 : S3.w_Tp_bytes = tp := by rw [← eS3]; exact v8
  have w9 : coF S3 = coF S := by rw [← eS3]; exact v9
  have w10 : S3.v_Tb_root = nI 2 := by rw [← eS3]; exact v10
  have f115 : ∀ X, f_Vt_format_115 K G (S3.u_w_Dk_bytes X) = some (.ok (nI (hk N B3)), G, (((S3.u_w_Dk_bytes X).u_v_Vt_hasRun 0).u_v_Vt_stale 1).u_v_Vt_here 0) := fun X => by
    unfold f_Vt_format_115 f_Vt_changed
    rw [q_l, q_l, q_b, q_l]
    exact congrArg (fun x => some (Except.ok x, _, _)) w7
  have hpl : plC B3 2 = 512 * ha B3 := by unfold plC; rw [Nat.sub_self, Nat.zero_mul, Nat.add_zero]
  have hpb := plC_lt (c := 2) (j := 512 * hc B3 - 1) ho hN ⟨Nat.le_refl _, by omega⟩ (by omega)
  refine ⟨B3, if n = 0 then (((S3.u_w_Dk_bytes (lks B3 B3 [(0, 268435448), (1, 268435455), (2, 268435455)])).u_v_Vt_hasRun 0).u_v_Vt_stale 1).u_v_Vt_here 0 else (((S3.u_w_Dk_bytes (fL (lks B3 B3 [(0, 268435448), (1, 268435455), (2, 268435455)]) (plC B3 2) (lbD tp n))).u_v_Vt_hasRun 0).u_v_Vt_stale 1).u_v_Vt_here 0, hB, ?_, ?_, ?_, ?_, ?_, ?_⟩
  · unfold fmC
    rw [hz0, q_b, hwf, q_b, hrd, q_c, hst, q_b]
    generalize lks B3 B3 [(0, 268435448), (1, 268435455), (2, 268435455)] = X4
    by_cases w : n = 0
    · rw [if_pos (show nI n ≤ 0 by rw [w]; decide), f115, if_pos w]
    · have hP : f_Tb_place K G (S3.u_w_Dk_bytes X4) (S3.u_w_Dk_bytes X4).v_Tb_root = some (nI (plC B3 2), S3.u_w_Dk_bytes X4) := by
        unfold f_Tb_place plC
        rw [show (S3.u_w_Dk_bytes X4).v_Tb_root = nI 2 from w10, show (S3.u_w_Dk_bytes X4).v_Tb_start = nI (ha B3) from w5, show (S3.u_w_Dk_bytes X4).v_Tb_cluster = nI (hc B3) from w4, show (2 : Int32) = nI 2 from rfl, pk_sub (by omega), pk_mul, nI_add, show (512 : Int32) = nI 512 from rfl, pk_mul, Nat.mul_comm]
      have h5 := qC_wl18 (K := K) (n := n) (p := plC B3 2) (S := S3) (X := X4) (tp := tp) hG hN1 hN hn (by omega) w8 11 0 K (by omega) (by omega)
      have h5 : f_Ed_writeLabel_18 K G K (nI n) (nI (plC B3 2)) 0 (S3.u_w_Dk_bytes X4) = _ := h5
      unfold f_Ed_writeLabel
      rw [if_neg (show ¬ nI n ≤ 0 from nI_nle (by omega) (by omega)), hP, q_c, h5, q_b, f115, if_neg w]
  · by_cases w : n = 0
    · rw [if_pos w, if_pos w]; rfl
    · rw [if_neg w, if_neg w]; rfl
  · by_cases w : n = 0
    · rw [if_pos w]; exact w9
    · rw [if_neg w]; exact w9
  · by_cases w : n = 0
    · rw [if_pos w]; rfl
    · rw [if_neg w]; rfl
  · by_cases w : n = 0
    · rw [if_pos w]; rfl
    · rw [if_neg w]; rfl
  · by_cases w : n = 0
    · rw [if_pos w]; rfl
    · rw [if_neg w]; rfl
