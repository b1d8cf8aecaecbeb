theorem capW {s n i : Nat} {D : Nat → Int32} {ch : List Nat} (hC : hc D = 2 ∨ hc D = 4 ∨ hc D = 8) (hi : i < n) : psF D ch (s + i) / 32 ∈ (List.range (n / 32 + 2)).map (fun k => psF D ch (32 * (s / 32 + k)) / 32) := by
  refine List.mem_map.mpr ⟨(s + i) / 32 - s / 32, List.mem_range.mpr (by omega), ?_⟩
  have e : s + i = 32 * ((s + i) / 32) + (s + i) % 32 := (Nat.div_add_mod _ _).symm
  have hp := psF_slot (f := (s + i) / 32) (j := (s + i) % 32) (ch := ch) hC (Nat.mod_lt _ (by decide))
  rw [← e] at hp
  rw [show s / 32 + ((s + i) / 32 - s / 32) = (s + i) / 32 by omega]
  omega
theorem capG {N p s n i a w : Nat} {D X : Nat → Int32} {ch : List Nat} {sv : Nat → Int32} {y : Int32} (h : hdOk N D) (hN : N ≤ 1024) (hcl : ∀ x ∈ ch, isCl N D x) (hn : ch.Nodup) (hsn : s + n ≤ ch.length * (512 * hc D)) (hs : s + n < 2 ^ 24) (hsv : ∀ i, i < n → sv i = wb (gP y i)) (hp : p % 32 = 0) (hi : i < n) (hw : psF D ch (s + i) / 32 = w) (hL : w ∉ [p / 32, psF D ch s / 32, psF D ch (s + n - 1) / 32]) : ¬ cpP (st (wrN X (fun i => psF D ch (s + i)) sv n) (p + 28) a 4) (32 * w) := by
  have hC := (hd_facts h hN).1
  have sl : ∀ f, psF D ch f / 32 = psF D ch (32 * (f / 32)) / 32 := fun f => by
    have hp := psF_slot (f := f / 32) (j := f % 32) (ch := ch) hC (Nat.mod_lt _ (by decide))
    rw [Nat.div_add_mod] at hp
    omega
  have n1 : w ≠ p / 32 := fun e => hL (by rw [e]; exact List.mem_cons_self)
  have n2 : (s + i) / 32 ≠ s / 32 := fun e => hL (by
    rw [← hw, sl (s + i), e, ← sl s]
    exact List.mem_cons_of_mem _ List.mem_cons_self)
  have n3 : (s + i) / 32 ≠ (s + n - 1) / 32 := fun e => hL (by
    rw [← hw, sl (s + i), e, ← sl (s + n - 1)]
    exact List.mem_cons_of_mem _ (List.mem_cons_of_mem _ List.mem_cons_self))
  have hw2 : psF D ch (32 * ((s + i) / 32)) = 32 * w := by
    have := (psF_slot (f := (s + i) / 32) (j := 0) (ch := ch) hC (by decide)).2
    rw [sl (s + i)] at hw
    omega
  generalize hf : (s + i) / 32 = f at *
  have b1 : s ≤ 32 * f := by omega
  have b2 : 32 * f + 31 < s + n := by omega
  refine pat_nocap (i0 := 32 * f - s) (y := y) (fun r hr => ?_) (by omega)
  rw [st_out (by omega)]
  have e1 : 32 * w + r = (fun i => psF D ch (s + i)) (32 * f - s + r) := by
    show 32 * w + r = psF D ch (s + (32 * f - s + r))
    rw [show s + (32 * f - s + r) = 32 * f + r by omega, (psF_slot (f := f) (ch := ch) hC hr).1, hw2]
  rw [e1, wrN_at (po := fun i => psF D ch (s + i)) n (fun a b ha0 hb0 e => by
    have := psF_inj h hN hcl hn (show s + a < _ by omega) (show s + b < _ by omega) e
    omega) (by omega), hsv _ (by omega), ub_b8]
theorem qM_app {K N j p s n : Nat} {D : Nat → Int32} {T : MS} {ch : List Nat} {sv tp : Nat → Int32} {y3 y4 : Int32} (hK : 5000 + n ≤ K) (hN : N ≤ 1024) (ho : hdOk N D) (hT : tabOk N D) (hM : mIs N D T) (hx0 : T.v_thrown = 0) (hj : j < 4200) (hat : T.v_at j = nI p) (hp1 : 512 * ha D ≤ p) (hp : p + 32 ≤ 512 * N) (hs : o4 D (p + 28) = s) (hb28 : fc D p < 2 ^ 28) (hcl : ∀ y ∈ ch, isCl N D y) (hlk : lnk N D (fc D p) ch) (hlen : ch.length ≤ 514) (hsl : ch.length = (s + 512 * hc D - 1) / (512 * hc D)) (hsn : s + n < 2 ^ 24) (htp : T.v_tape = tp) (hsv : (y3 = 0 ∧ ∀ i, i < n → sv i = wb (gP y4 i)) ∨ (¬ y3 = 0 ∧ n ≤ 4096 ∧ ∀ i, i < n → sv i = vp_nar .byte (tp i))) : (cntF (ent D) (hk N D) 2 < (s + n + 512 * hc D - 1) / (512 * hc D) - ch.length → f_Mo_append K T (nI j) (nI n) y3 y4 = some (0, T.u_v_thrown 4)) ∧ (∀ xs, tkn N D xs [] ch → ch.length + xs.length = (s + n + 512 * hc D - 1) / (512 * hc D) → ch.length + xs.length ≤ 514 → xs.length ≤ cntF (ent D) (hk N D) 2 → ∃ T', f_Mo_append K T (nI j) (nI n) y3 y4 = some (nI (s + n), T') ∧ T'.v_disk = st (wrN (grN D p xs D ch) (fun i => psF D (ch ++ xs) (s + i)) sv n) (p + 28) (s + n) 4 ∧ coN T' = coN T ∧ T'.v_looked = 0 ∧ T'.v_thrown = 0) := by
  have hf := hd_facts ho hN
  have hC := hf.1
  have hF := cntF_le (ent D) (hk N D) 2
  have e512 : 512 * T.v_c = nI (512 * hc D) := by rw [hM.2.2.1, show (512 : Int32) = nI 512 from rfl, pk_mul]
  have hW : ∀ a, a < 2 ^ 24 → f_Mo_whole K (nI a) (nI (512 * hc D)) = some (nI ((a + 512 * hc D - 1) / (512 * hc D))) := fun a ha0 => by
    unfold f_Mo_whole
    rw [q_g (nI_ne0 (by omega) (by omega)), nI_add, show (1 : Int32) = nI 1 from rfl, pk_sub (by omega), pk_div (by omega) (by omega) (by omega)]
  have hcc : (s + 512 * hc D - 1) / (512 * hc D) ≤ (s + n + 512 * hc D - 1) / (512 * hc D) := ceil_le (by omega) (Nat.le_add_right _ _)
  have hc24 : (s + n + 512 * hc D - 1) / (512 * hc D) < 2 ^ 25 := Nat.lt_of_le_of_lt (Nat.div_le_self _ _) (by omega)
  have hsz : s + n ≤ (s + n + 512 * hc D - 1) / (512 * hc D) * (512 * hc D) := le_ceil (by omega)
  have f4 := fun b : Prop => qM_fails (K := K) T b 4 hx0 (by decide)
  unfold f_Mo_append
  rw [q_g (q_in (by omega) (by decide)), nI_clamp (by omega), hat, q_l, show (28 : Int32) = nI 28 from rfl, nI_add, rM4 D hM.1 (by omega), q_c, hs, e512, q_l, nI_add, hW _ hsn, q_b, hW _ (by omega), q_b, ← hsl, pk_sub (by omega), q_l, qM_free (by omega) ho hN hM, q_c]
  generalize hcE : (s + n + 512 * hc D - 1) / (512 * hc D) = c at *
  unfold f_Mo_append_63
  refine ⟨fun w => ?_, fun xs x1 x2 x3 x4 => ?_⟩
  · rw [if_neg (nI_ge w (by omega)), show f_Mo_fails K T 1 4 = some (1, T.u_v_thrown 4) by
      have := f4 True
      rw [b01_t trivial, cif_t trivial] at this
      exact this, q_c, if_neg (by decide)]
  · obtain ⟨f, r1, r2⟩ := qM_walk (K := K) (by omega) ho hN hM hlen hb28 hlk
    rw [if_pos (nI_le (by omega) (by omega)), show f_Mo_fails K T 0 4 = some (0, T) by
      have := f4 False
      rw [b01_f (fun y => y), cif_f (fun y => y)] at this
      exact this, q_c, if_pos rfl, qM_firstOf hM.1 (by omega), q_c, r1, q_b]
    obtain ⟨T2, eT2⟩ : ∃ T2, (T.u_v_chain f).u_v_links (nI ch.length) = T2 := ⟨_, rfl⟩
    have q6 : T2.v_disk = D := by rw [← eT2]; exact hM.1
    rw [eT2, show c - ch.length = xs.length by omega]
    obtain ⟨g, e1, e2⟩ := qM_grs (K := K) (p := p) (n := xs.length) (by omega) ho hN hT hp1 hp (by omega) (nI n) y3 y4 (nI s) (nI (512 * hc D)) xs 0 K ch [] T2 (by omega) (by omega) x1 (fun a ha1 => by cases ha1) (fun q _ _ => by rw [q6]; rfl) (by rw [← eT2]; exact hM.2.2.2.1) (by rw [← eT2]; exact hM.2.2.2.2.1) (by rw [← eT2]; exact hM.2.2.2.2.2.1) (by rw [← eT2]; exact hM.2.2.1) (by rw [← eT2]; exact hM.2.2.2.2.2.2.2.1) (by rw [← eT2]; rfl) x3 (by rw [← eT2]; exact r2) hcl
    have e1 : f_Mo_append_85 K K (nI n) y3 y4 (nI p) (nI s) (nI (512 * hc D)) (nI xs.length) 0 T2 = _ := e1
    rw [e1, q6]
    have hxs : ∀ y ∈ xs, isCl N D y := fun y hy0 => ((tkn_free xs [] _ x1 (fun a ha1 => by cases ha1)).1 y hy0).1
    have hcs : ∀ y ∈ ch ++ xs, isCl N D y := fun y hy0 => (List.mem_append.mp hy0).elim (hcl y) (hxs y)
    have hl2 : (ch ++ xs).length = ch.length + xs.length := List.length_append
    obtain ⟨T3, eT3⟩ : ∃ T3, ((T2.u_v_disk (grN D p xs D ch)).u_v_chain g).u_v_links (nI (ch ++ xs).length) = T3 := ⟨_, rfl⟩
    have hb := qM_bytes (K := K) (p := p) (s := s) (n := n) (ch := ch ++ xs) (by omega) ho hN hcs (by omega) (by rw [hl2, x2]; exact hsz) hp (grN D p xs D ch) sv tp y3 y4 hsv n 0 K T3 (by omega) (by omega) (by rw [← eT3]; rfl) (by rw [← eT3, ← eT2]; exact hM.2.2.1) (by rw [← eT3, ← eT2]; exact hM.2.2.2.2.2.2.2.1) (by rw [← eT3, ← eT2]; exact htp) (by rw [← eT3]; exact e2)
    rw [eT3]
    refine ⟨_, hb, rfl, ?_, rfl, ?_⟩
    · rw [← eT3, ← eT2]; rfl
    · rw [← eT3, ← eT2]; exact hx0
theorem qC_vlen {K N j p s n : Nat} {D E : Nat → Int32} {mp : Nat → Nat} {its : List It} {G : CG} {S : CS} {ch : List Nat} (hK : 5000 ≤ K) (hN1 : 256 ≤ N) (hN : N ≤ 1024) (ho : hdOk N D) (hH : agH D E) (hcI : cIs N E G S) (hG : gOk N G) (hS : rcI D mp its S) (hl : its.length ≤ G.l_parent) (hj : j < its.length) (hsp : spI mp its j = p) (hp : p + 32 ≤ 512 * N) (hsz : szI D its j = s) (hb28 : begI D its j < 2 ^ 28) (hcl : ∀ y ∈ ch, isCl N D y) (hlk : lnk N D (begI D its j) ch) (hsl : ch.length = (s + 512 * hc D - 1) / (512 * hc D)) (hs : s + n < 2 ^ 24) : (cntF (ent D) (hk N D) 2 < (s + n + 512 * hc D - 1) / (512 * hc D) - ch.length → f_Vt_lengthen K G S (nI j) (nI n) = some (.error 3, G.made 1 6, S)) ∧ (∀ xs, tkn N D xs [] ch → ch.length + xs.length = (s + n + 512 * hc D - 1) / (512 * hc D) → ch.length + xs.length < N / 2 + 2 → xs.length ≤ cntF (ent D) (hk N D) 2 → ∃ S', f_Vt_lengthen K G S (nI j) (nI n) = some (.ok (nI s), G, S') ∧ S'.w_Dk_bytes = st (grN D p xs E ch) (p + 28) (s + n) 4 ∧ S'.v_Ed_roadLength = nI (ch ++ xs).length ∧ (∀ q, q < (ch ++ xs).length → S'.w_Ed_road q = nI ((ch ++ xs).getD q 0)) ∧ (S'.v_Tb_cluster = nI (hc D) ∧ S'.v_Tb_start = nI (ha D)) ∧ coE S' = coE S ∧ S'.v_Vt_stale = 1) := by
  have hf := hd_facts ho hN
  have hC := hf.1
  have hF := cntF_le (ent D) (hk N D) 2
  obtain ⟨ec, ev', ey, ez, er, ea, ek⟩ := agH_n hH
  have q7 : S.v_Tb_cluster = nI (hc D) := by rw [← ec]; exact hcI.2.2.2.1
  have hcc : (s + 512 * hc D - 1) / (512 * hc D) ≤ (s + n + 512 * hc D - 1) / (512 * hc D) := ceil_le (by omega) (Nat.le_add_right _ _)
  have hc24 : (s + n + 512 * hc D - 1) / (512 * hc D) < 2 ^ 25 := Nat.lt_of_le_of_lt (Nat.div_le_self _ _) (by omega)
  have hsz1 : f_Tr_sizeOf K G S (nI j) = some (nI s, S) := by rw [qC_size hG hS hl hj, hsz]
  unfold f_Vt_lengthen f_Ed_canHold
  rw [hsz1, q_c, hsz1, q_c, nI_add, qC_cf hC q7 hs, q_c, qC_cf hC q7 (by omega), q_c, qC_free (by omega) ho hN (nxR_of ho hN hH hcI) (fun y => ent_28 D y), q_c, ← hsl, pk_sub (by omega)]
  refine ⟨fun w => ?_, fun xs x1 x2 x3 x4 => ?_⟩
  · rw [if_pos (nI_lt w (by omega)), q_c, if_pos rfl]
  · rw [if_neg (show ¬ nI (cntF (ent D) (hk N D) 2) < _ from nI_nlt (by omega) (by omega)), q_c, if_neg (by decide)]
    unfold f_Vt_changed
    rw [q_l, q_b]
    obtain ⟨S', a1, a2, a3, a4, a5, a6, a7⟩ := qC_lengthen (K := K) (S := S.u_v_Vt_stale 1) (n := n) hK hN1 hN ho hH hcI hG hS hl hj hsp hp hsz hb28 hcl hlk x1 x3 hs x2.symm
    rw [a1, q_b]
    exact ⟨S', rfl, a2, a3, a4, a5, a6, a7⟩
