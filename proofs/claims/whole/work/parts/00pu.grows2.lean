theorem app_snoc (ch : List Nat) (x : Nat) (xs : List Nat) : ch ++ x :: xs = (ch ++ [x]) ++ xs := (List.append_assoc ch [x] xs).symm
theorem grL_ok {N x : Nat} {D : Nat → Int32} {ch : List Nat} {l : List (Nat × Nat)} (h : hdOk N D) (hN : N ≤ 1024) (hx : isCl N D x) (hcl : ∀ y ∈ ch, isCl N D y) (hl : lsOk N D l) : lsOk N D (l ++ grL ch x) := fun a ha1 => by
  have hf := hd_facts h hN
  have hx2 := hx.2
  rcases List.mem_append.mp ha1 with w | w
  · exact hl a w
  · rcases grL_mem w with ⟨e1, e2⟩ | ⟨e1, e2⟩
    · rw [e1, e2]; exact ⟨by omega, by decide⟩
    · have := (hcl _ e1).2
      rw [e2]; exact ⟨by omega, by omega⟩
theorem ent_28 (D : Nat → Int32) (y : Nat) : ent D y < 2 ^ 28 := Nat.mod_lt _ (by decide)
theorem qM_grs {K N p n : Nat} {D : Nat → Int32} (hK : 5000 ≤ K) (h : hdOk N D) (hN : N ≤ 1024) (hT : tabOk N D) (hp1 : 512 * ha D ≤ p) (hp : p + 32 ≤ 512 * N) (hn : n < 2 ^ 31) (y2 y3 y4 y6 y7 : Int32) : ∀ (xs : List Nat) (i k : Nat) (ch : List Nat) (l : List (Nat × Nat)) (T : MS), i + xs.length = n → xs.length < k → tkn N D xs l ch → lsOk N D l → (∀ q, 512 * hv D ≤ q → q < 512 * ha D → o1 T.v_disk q = o1 (lks D D l) q) → T.v_v = nI (hv D) → T.v_y = nI (hy D) → T.v_z = nI (hz D) → T.v_c = nI (hc D) → T.v_a = nI (ha D) → T.v_links = nI ch.length → ch.length + xs.length ≤ 514 → (∀ q, q < ch.length → T.v_chain q = nI (ch.getD q 0)) → (∀ y ∈ ch, isCl N D y) → ∃ f, f_Mo_append_85 K k y2 y3 y4 (nI p) y6 y7 (nI n) (nI i) T = f_Mo_append_195 K K y2 y3 y4 (nI p) y6 y7 0 (((T.u_v_disk (grN D p xs T.v_disk ch)).u_v_chain f).u_v_links (nI (ch ++ xs).length)) ∧ ∀ q, q < (ch ++ xs).length → f q = nI ((ch ++ xs).getD q 0) := by
  intro xs
  induction xs with
  | nil =>
    intro i k ch l T g1 g2 _ _ _ _ _ _ _ _ hl _ hch _
    obtain ⟨k, rfl⟩ : ∃ m, k = m + 1 := ⟨k - 1, by omega⟩
    have g1 : i + 0 = n := g1
    obtain rfl : i = n := by omega
    refine ⟨T.v_chain, ?_, by rw [List.append_nil]; exact hch⟩
    rw [f_Mo_append_85, if_pos (Int32.le_refl _), List.append_nil, ← hl, grN]
    rfl
  | cons x xs ih =>
    intro i k ch l T g1 g2 ⟨⟨hx, hxl⟩, hr⟩ hlo ht t1 t2 t3 t4 t5 hl hll hch hcl
    obtain ⟨k, rfl⟩ : ∃ m, k = m + 1 := ⟨k - 1, by omega⟩
    rw [List.length_cons] at g1 g2 hll
    have hxc : isCl N D x := ⟨hx.1, by omega⟩
    have he : ∀ y, lkV l y (ent D y) < 2 ^ 28 := fun y => lkV_lt (fun a ha1 => (hlo a ha1).2) (ent_28 D y)
    obtain ⟨f, e1, e2⟩ := qM_gr (k := k) (e := fun y => lkV l y (ent D y)) hK h hN he (fun y hy0 => qM_entryL h hN hT hlo hy0 t1 t3 rfl ht) t1 t2 t3 t4 t5 hx hxl hl (by omega) hch hcl hp (show i < n by omega) hn y2 y3 y4 y6 y7
    rw [e1]
    obtain ⟨T2, eT⟩ : ∃ T2, (((T.u_v_disk (gr D T.v_disk p ch x)).u_v_chain f).u_v_links (nI (ch.length + 1))) = T2 := ⟨_, rfl⟩
    have hd2 : T2.v_disk = gr D T.v_disk p ch x := by rw [← eT]; rfl
    have hlen : (ch ++ [x]).length = ch.length + 1 := List.length_append
    obtain ⟨f', e3, e4⟩ := ih (i + 1) k (ch ++ [x]) (l ++ grL ch x) T2 (by omega) (by omega) hr (grL_ok h hN hxc hcl hlo) (by rw [hd2, lks_app]; exact gr_tab h hN hxc hcl hp1 ht) (by rw [← eT]; exact t1) (by rw [← eT]; exact t2) (by rw [← eT]; exact t3) (by rw [← eT]; exact t4) (by rw [← eT]; exact t5) (by rw [← eT, hlen]; rfl) (by rw [hlen]; omega) (by rw [← eT]; exact e2) (snoc_cl hxc hcl)
    refine ⟨f', ?_, by rw [app_snoc ch x xs]; exact e4⟩
    rw [eT, e3, hd2, app_snoc ch x xs, grN, ← eT]
    rfl
theorem qC_grs {K N p n : Nat} {D : Nat → Int32} {G : CG} (hK : 5000 ≤ K) (hN1 : 256 ≤ N) (h : hdOk N D) (hN : N ≤ 1024) (hn : n < 2 ^ 31) (y2 y4 : Int32) : ∀ (xs : List Nat) (i k : Nat) (ch : List Nat) (l : List (Nat × Nat)) (S : CS), i + xs.length = n → xs.length < k → tkn N D xs l ch → lsOk N D l → nxR N D (fun y => lkV l y (ent D y)) G S → (xs = [] ∨ 1 ≤ ch.length) → S.v_Tb_before = nI (hv D) → S.v_Tb_copies = nI (hy D) → S.v_Tb_length = nI (hz D) → S.v_Tb_cluster = nI (hc D) → S.v_Tb_start = nI (ha D) → S.v_Ed_roadLength = nI ch.length → ch.length + xs.length < N / 2 + 2 → (∀ q, q < ch.length → S.w_Ed_road q = nI (ch.getD q 0)) → (∀ y ∈ ch, isCl N D y) → ∃ f g, f_Ed_lengthen_85 K G k y2 (nI p) y4 (nI n) (nI i) S = (f_Dk_putFour K G ((((S.u_w_Tb_next g).u_w_Dk_bytes (grN D p xs S.w_Dk_bytes ch)).u_w_Ed_road f).u_v_Ed_roadLength (nI (ch ++ xs).length)) (nI p + 28) (y4 + y2)).bind (fun S => some S) ∧ ∀ q, q < (ch ++ xs).length → f q = nI ((ch ++ xs).getD q 0) := by
  intro xs
  induction xs with
  | nil =>
    intro i k ch l S g1 g2 _ _ _ _ _ _ _ _ _ hl _ hch _
    obtain ⟨k, rfl⟩ : ∃ m, k = m + 1 := ⟨k - 1, by omega⟩
    have g1 : i + 0 = n := g1
    obtain rfl : i = n := by omega
    refine ⟨S.w_Ed_road, S.w_Tb_next, ?_, by rw [List.append_nil]; exact hch⟩
    rw [f_Ed_lengthen_85, if_pos (Int32.le_refl _), List.append_nil, ← hl, grN]
    rfl
  | cons x xs ih =>
    intro i k ch l S g1 g2 ⟨⟨hx, hxl⟩, hr⟩ hlo hnx hc1 t1 t2 t3 t4 t5 hl hll hch hcl
    obtain ⟨k, rfl⟩ : ∃ m, k = m + 1 := ⟨k - 1, by omega⟩
    rw [List.length_cons] at g1 g2 hll
    have hc1 : 1 ≤ ch.length := hc1.resolve_left (fun w => by cases w)
    have hxc : isCl N D x := ⟨hx.1, by omega⟩
    have he : ∀ y, lkV l y (ent D y) < 2 ^ 28 := fun y => lkV_lt (fun a ha1 => (hlo a ha1).2) (ent_28 D y)
    obtain ⟨f, g, e1, e2, e5⟩ := qC_gr (e := fun y => lkV l y (ent D y)) hK hN1 h hN he hnx t1 t2 t3 t4 t5 hx hxl hl (by omega) hch hcl
    have egr : (if ch.length = 0 then zr (lk D S.w_Dk_bytes x 268435455) (plC D x) (512 * hc D) else lk D (zr (lk D S.w_Dk_bytes x 268435455) (plC D x) (512 * hc D)) (ch.getD (ch.length - 1) 0) x) = gr D S.w_Dk_bytes p ch x := by
      unfold gr
      rw [if_neg (by omega), if_neg (by omega)]
    rw [egr] at e1
    rw [f_Ed_lengthen_85, if_neg (nI_ge (show i < n by omega) hn), e1, q_b, show (1 : Int32) = nI 1 from rfl, nI_add, q_l]
    obtain ⟨S2, eS⟩ : ∃ S2, ((((S.u_w_Tb_next g).u_w_Dk_bytes (gr D S.w_Dk_bytes p ch x)).u_w_Ed_road f).u_v_Ed_roadLength (nI (ch.length + 1))) = S2 := ⟨_, rfl⟩
    have hd2 : S2.w_Dk_bytes = gr D S.w_Dk_bytes p ch x := by rw [← eS]; rfl
    have hlen : (ch ++ [x]).length = ch.length + 1 := List.length_append
    have hnx2 : nxR N D (fun y => lkV (l ++ grL ch x) y (ent D y)) G S2 := by
      refine ⟨hnx.1, by rw [← eS]; exact hnx.2.1, fun y hy0 => ?_⟩
      rw [← eS]
      show g y = nI (lkV (l ++ grL ch x) y (ent D y))
      rw [lkV_app (w := 0)]
      exact e5 y hy0
    obtain ⟨f', g', e3, e4⟩ := ih (i + 1) k (ch ++ [x]) (l ++ grL ch x) S2 (by omega) (by omega) hr (grL_ok h hN hxc hcl hlo) hnx2 (Or.inr (by omega)) (by rw [← eS]; exact t1) (by rw [← eS]; exact t2) (by rw [← eS]; exact t3) (by rw [← eS]; exact t4) (by rw [← eS]; exact t5) (by rw [← eS, hlen]; rfl) (by rw [hlen]; omega) (by rw [← eS]; exact e2) (snoc_cl hxc hcl)
    refine ⟨f', g', ?_, by rw [app_snoc ch x xs]; exact e4⟩
    rw [eS, e3, hd2, app_snoc ch x xs, grN, ← eS]
    rfl
theorem qC_cf {K x : Nat} {D : Nat → Int32} {G : CG} {S : CS} (hC : hc D = 2 ∨ hc D = 4 ∨ hc D = 8) (h : S.v_Tb_cluster = nI (hc D)) (hx : x < 2 ^ 24) : f_Ed_clustersFor K G S (nI x) = some (nI ((x + 512 * hc D - 1) / (512 * hc D)), S) := by
  unfold f_Ed_clustersFor f_Tb_clusterBytes
  rw [h, show (512 : Int32) = nI 512 from rfl, pk_mul, Nat.mul_comm (hc D), q_c, if_pos (show 1 ≤ nI (512 * hc D) from nI_le (a := 1) (by omega) (by omega)), q_g (nI_ne0 (by omega) (by omega)), nI_add, show (1 : Int32) = nI 1 from rfl, pk_sub (by omega), pk_div (by omega) (by omega) (by omega)]
theorem qC_lengthen {K N j p s n : Nat} {D E : Nat → Int32} {mp : Nat → Nat} {its : List It} {G : CG} {S : CS} {ch xs : List Nat} (hK : 5000 ≤ K) (hN1 : 256 ≤ N) (hN : N ≤ 1024) (ho : hdOk N D) (hH : agH D E) (hcI : cIs N E G S) (hG : gOk N G) (hS : rcI D mp its S) (hl : its.length ≤ G.l_parent) (hj : j < its.length) (hsp : spI mp its j = p) (hp : p + 32 ≤ 512 * N) (hsz : szI D its j = s) (hb28 : begI D its j < 2 ^ 28) (hcl : ∀ y ∈ ch, isCl N D y) (hlk : lnk N D (begI D its j) ch) (htk : tkn N D xs [] ch) (hlen : ch.length + xs.length < N / 2 + 2) (hs : s + n < 2 ^ 24) (hc0 : (s + n + 512 * hc D - 1) / (512 * hc D) = ch.length + xs.length) : ∃ S', f_Ed_lengthen K G S (nI j) (nI n) = some S' ∧ S'.w_Dk_bytes = st (grN D p xs E ch) (p + 28) (s + n) 4 ∧ S'.v_Ed_roadLength = nI (ch ++ xs).length ∧ (∀ q, q < (ch ++ xs).length → S'.w_Ed_road q = nI ((ch ++ xs).getD q 0)) ∧ (S'.v_Tb_cluster = nI (hc D) ∧ S'.v_Tb_start = nI (ha D)) ∧ coE S' = coE S ∧ S'.v_Vt_stale = S.v_Vt_stale := by
  have hf := hd_facts ho hN
  have hC := hf.1
  obtain ⟨ec, ev', ey, ez, er, ea, ek⟩ := agH_n hH
  obtain ⟨f, r1, r2⟩ := qC_road (K := K) (by omega) ho hN hH hcI (by omega) hb28 hlk
  have hnx := nxR_of ho hN hH hcI
  unfold f_Ed_lengthen
  rw [qC_spot hG hS hl hj, q_c, qC_size hG hS hl hj, q_c, qC_first hG hS hl hj, q_c, r1, q_c, q_l, hsp, hsz, nI_add]
  obtain ⟨S2, eS2⟩ : ∃ S2, (S.u_w_Ed_road f).u_v_Ed_roadLength (nI ch.length) = S2 := ⟨_, rfl⟩
  have q1 : S2.v_Ed_roadLength = nI ch.length := by rw [← eS2]; rfl
  have q2 : ∀ q, q < ch.length → S2.w_Ed_road q = nI (ch.getD q 0) := by rw [← eS2]; exact r2
  have q3 : S2.v_Tb_before = nI (hv D) := by rw [← eS2, ← ev']; exact hcI.2.2.2.2.1
  have q4 : S2.v_Tb_copies = nI (hy D) := by rw [← eS2, ← ey]; exact hcI.2.2.2.2.2.1
  have q5 : S2.v_Tb_length = nI (hz D) := by rw [← eS2, ← ez]; exact hcI.2.2.2.2.2.2.1
  have q6 : nxR N D (fun y => lkV [] y (ent D y)) G S2 := by rw [← eS2]; exact hnx
  have q7 : S2.v_Tb_cluster = nI (hc D) := by rw [← eS2, ← ec]; exact hcI.2.2.2.1
  have q8 : S2.w_Dk_bytes = E := by rw [← eS2]; exact hcI.2.1
  have q9 : coE S2 = coE S := by rw [← eS2]; rfl
  have q10 : S2.v_Vt_stale = S.v_Vt_stale := by rw [← eS2]; rfl
  have q11 : S2.v_Tb_start = nI (ha D) := by rw [← eS2, ← ea]; exact hcI.2.2.2.2.2.2.2.2.1
  rw [eS2]
  clear eS2
  rw [qC_cf hC q7 hs, q_c, hc0, q1]
  have tail : ∀ (S3 : CS) (ch3 xs3 : List Nat) (l3 : List (Nat × Nat)), ch3.length + xs3.length = ch.length + xs.length → tkn N D xs3 l3 ch3 → lsOk N D l3 → nxR N D (fun y => lkV l3 y (ent D y)) G S3 → (xs3 = [] ∨ 1 ≤ ch3.length) → S3.v_Tb_before = nI (hv D) → S3.v_Tb_copies = nI (hy D) → S3.v_Tb_length = nI (hz D) → S3.v_Tb_cluster = nI (hc D) → S3.v_Tb_start = nI (ha D) → S3.v_Ed_roadLength = nI ch3.length → (∀ q, q < ch3.length → S3.w_Ed_road q = nI (ch3.getD q 0)) → (∀ y ∈ ch3, isCl N D y) → coE S3 = coE S → S3.v_Vt_stale = S.v_Vt_stale → ∃ S', f_Ed_lengthen_79 K G (nI n) (nI p) (nI s) (nI (ch.length + xs.length)) S3 = some S' ∧ S'.w_Dk_bytes = st (grN D p xs3 S3.w_Dk_bytes ch3) (p + 28) (s + n) 4 ∧ S'.v_Ed_roadLength = nI (ch3 ++ xs3).length ∧ (∀ q, q < (ch3 ++ xs3).length → S'.w_Ed_road q = nI ((ch3 ++ xs3).getD q 0)) ∧ (S'.v_Tb_cluster = nI (hc D) ∧ S'.v_Tb_start = nI (ha D)) ∧ coE S' = coE S ∧ S'.v_Vt_stale = S.v_Vt_stale := by
    intro S3 ch3 xs3 l3 hlen3 w1 w2 w3 w4 w5 w6 w7 w8 w9 w10 w11 w12 w13 w14
    obtain ⟨f, g, e1, e2⟩ := qC_grs (p := p) (n := ch.length + xs.length) hK hN1 ho hN (by omega) (nI n) (nI s) xs3 ch3.length K ch3 l3 S3 hlen3 (by omega) w1 w2 w3 w4 w5 w6 w7 w8 w9 w10 (by omega) w11 w12
    unfold f_Ed_lengthen_79
    rw [w10, q_l, e1, show (28 : Int32) = nI 28 from rfl, nI_add, nI_add, qC_put4W hG.1 hN1 hN (by omega) (by omega), q_b]
    exact ⟨_, rfl, rfl, rfl, e2, ⟨w8, w9⟩, w13, w14⟩
  by_cases g0 : ch.length = 0
  · rw [if_pos (show nI ch.length = 0 by rw [g0]; rfl)]
    by_cases g1 : xs = []
    · rw [if_pos (show nI (ch.length + xs.length) ≤ 0 by rw [g0, g1]; decide)]
      have := tail S2 ch xs [] rfl htk (fun a ha1 => by cases ha1) q6 (Or.inl g1) q3 q4 q5 q7 q11 q1 q2 hcl q9 q10
      rw [q8] at this
      exact this
    obtain ⟨x, xs', rfl⟩ : ∃ x xs', xs = x :: xs' := by
      cases xs with
      | nil => exact absurd rfl g1
      | cons x xs' => exact ⟨x, xs', rfl⟩
    obtain ⟨⟨hx, hxl⟩, hr⟩ := htk
    have hxc : isCl N D x := ⟨hx.1, by omega⟩
    have hl1 : (x :: xs').length = xs'.length + 1 := List.length_cons
    have hl2 : (ch ++ [x]).length = ch.length + 1 := List.length_append
    obtain ⟨f, g, e1, e2, e5⟩ := qC_gr (e := fun y => lkV [] y (ent D y)) hK hN1 ho hN (fun y => ent_28 D y) q6 q3 q4 q5 q7 q11 hx hxl q1 (by omega) q2 hcl
    rw [if_neg (show ¬ nI (ch.length + (x :: xs').length) ≤ 0 from nI_nle (by omega) (by omega)), e1, q_b, q8, if_pos g0, hG.1]
    generalize hX1 : zr (lk D E x 268435455) (plC D x) (512 * hc D) = X1
    obtain ⟨S3, eS3⟩ : ∃ S3, (((S2.u_w_Tb_next g).u_w_Dk_bytes X1).u_w_Ed_road f).u_v_Ed_roadLength (nI (ch.length + 1)) = S3 := ⟨_, rfl⟩
    have b1 : S3.w_Dk_bytes = X1 := by rw [← eS3]; rfl
    have b2 : S3.w_Ed_road (0 : Int32).toNatClampNeg = nI x := by
      rw [← eS3]
      show f 0 = nI x
      rw [e2 0 (by omega)]
      have : ch = [] := List.eq_nil_of_length_eq_zero g0
      rw [this]; rfl
    have hput : f_Ed_putFirstCluster K G S3 (nI p) (nI x) = some ((S3.u_w_Dk_bytes (st X1 (p + 20) (x / 65536) 2)).u_w_Dk_bytes (st (st X1 (p + 20) (x / 65536) 2) (p + 26) x 2)) := by
      unfold f_Ed_putFirstCluster
      have e16 : nI x >>> ((16 : Int32) &&& 31) = nI (x / 2 ^ 16) := q_shr (k := 16) (by omega) (by decide)
      rw [e16, show (20 : Int32) = nI 20 from rfl, show (26 : Int32) = nI 26 from rfl, nI_add, nI_add, qC_put2 hG.1 hN1 hN (by omega) (by omega), q_b, qC_put2 hG.1 hN1 hN (by omega) (by omega), q_b, b1]
      rfl
    rw [eS3, q_g (show lf_in 0 (N / 2 + 2) from q_in (j := 0) (by omega) (by omega)), b2, hput, q_b]
    obtain ⟨S4, eS4⟩ : ∃ S4, (S3.u_w_Dk_bytes (st X1 (p + 20) (x / 65536) 2)).u_w_Dk_bytes (st (st X1 (p + 20) (x / 65536) 2) (p + 26) x 2) = S4 := ⟨_, rfl⟩
    have c1 : S4.w_Dk_bytes = gr D E p ch x := by
      rw [← eS4]
      unfold gr
      rw [if_pos g0, hX1]
      rfl
    rw [eS4]
    have := tail S4 (ch ++ [x]) xs' ([] ++ grL ch x) (by omega) hr (grL_ok ho hN hxc hcl (fun a ha1 => by cases ha1)) ⟨q6.1, by rw [← eS4, ← eS3]; exact q6.2.1, fun y hy0 => by rw [← eS4, ← eS3]; exact e5 y hy0⟩ (Or.inr (by omega)) (by rw [← eS4, ← eS3]; exact q3) (by rw [← eS4, ← eS3]; exact q4) (by rw [← eS4, ← eS3]; exact q5) (by rw [← eS4, ← eS3]; exact q7) (by rw [← eS4, ← eS3]; exact q11) (by rw [← eS4, ← eS3, hl2]; rfl) (by rw [← eS4, ← eS3]; exact e2) (snoc_cl hxc hcl) (by rw [← eS4, ← eS3]; exact q9) (by rw [← eS4, ← eS3]; exact q10)
    rw [c1] at this
    rw [app_snoc ch x xs', grN]
    exact this
  · rw [if_neg (nI_ne0 (by omega) (by omega))]
    have := tail S2 ch xs [] rfl htk (fun a ha1 => by cases ha1) q6 (Or.inr (by omega)) q3 q4 q5 q7 q11 q1 q2 hcl q9 q10
    rw [q8] at this
    exact this
