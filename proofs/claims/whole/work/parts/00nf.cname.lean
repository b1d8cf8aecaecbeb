/-! The name of the last item in the class. -/
theorem qC_width {K u : Nat} (h : u < 2 ^ 31) : f_Wo_width K (nI u) = some (nI (widN u)) := by
  unfold f_Wo_width widN
  have c1 : 128 ≤ nI u ↔ 128 ≤ u := nI_leI (a := 128) (by decide) h
  have c2 : 2048 ≤ nI u ↔ 2048 ≤ u := nI_leI (a := 2048) (by decide) h
  by_cases g1 : 128 ≤ u
  · rw [if_pos (c1.mpr g1), if_neg (show ¬ u < 128 by omega)]
    by_cases g2 : 2048 ≤ u
    · rw [if_pos (c2.mpr g2), if_neg (show ¬ u < 2048 by omega)]; rfl
    · rw [if_neg (fun z => g2 (c2.mp z)), if_pos (show u < 2048 by omega)]; rfl
  · rw [if_neg (fun z => g1 (c1.mp z)), if_pos (show u < 128 by omega)]; rfl
theorem take_getD {l : List Nat} {q : Nat} (h : q < l.length) : l.take (q + 1) = l.take q ++ [l.getD q 0] := by
  rw [List.take_succ, List.getElem?_eq_getElem h, List.getD_eq_getElem?_getD, List.getElem?_eq_getElem h]
  rfl
abbrev nlR (S S' : CS) (n b : Nat) (us : List Nat) : Prop := coC S' = coC S ∧ (S'.v_Tr_label = S.v_Tr_label ∧ S'.v_Tr_count = S.v_Tr_count ∧ S'.v_Tr_pooled = nI (b + us.length)) ∧ (S'.w_Rd_taken = S.w_Rd_taken ∧ S'.w_Rd_road = S.w_Rd_road ∧ S'.w_Rd_fileRoad = S.w_Rd_fileRoad ∧ S'.w_Rd_units = S.w_Rd_units ∧ S'.v_Rd_parts = S.v_Rd_parts ∧ S'.v_Rd_toCome = S.v_Rd_toCome ∧ S'.v_Rd_sum = S.v_Rd_sum) ∧ (S'.w_Tr_parent = S.w_Tr_parent ∧ S'.w_Tr_first = S.w_Tr_first ∧ S'.w_Tr_size = S.w_Tr_size ∧ S'.w_Tr_bits = S.w_Tr_bits ∧ S'.w_Tr_spot = S.w_Tr_spot ∧ S'.w_Tr_slot = S.w_Tr_slot ∧ S'.w_Tr_parts = S.w_Tr_parts ∧ S'.w_Tr_kids = S.w_Tr_kids ∧ S'.w_Tr_kidCount = S.w_Tr_kidCount) ∧ S'.w_Tr_nameAt = upd S.w_Tr_nameAt n (nI b) ∧ S'.w_Tr_nameLength = upd S.w_Tr_nameLength n (nI us.length) ∧ S'.w_Tr_nameBytes = upd S.w_Tr_nameBytes n (nI (tsz us)) ∧ (∀ u, u < b → S'.w_Tr_pool u = S.w_Tr_pool u) ∧ (∀ q, q < us.length → S'.w_Tr_pool (b + q) = nI (us.getD q 0))
def nlS (S : CS) (n b : Nat) (us : List Nat) : CS := ((((S.u_w_Tr_nameAt (upd S.w_Tr_nameAt n (nI b))).u_w_Tr_nameLength (upd S.w_Tr_nameLength n (nI us.length))).u_w_Tr_pool (unF S.w_Tr_pool b us us.length)).u_v_Tr_pooled (nI (b + us.length))).u_w_Tr_nameBytes (upd S.w_Tr_nameBytes n (nI (tsz us)))
theorem qC_name55 {K N n b : Nat} {G : CG} {S : CS} {us : List Nat} (hK : 1000 ≤ K) (hG : gOk N G) (hn : n < G.l_parent) (hb : S.v_Tr_pooled = nI b) (hp : b + us.length ≤ G.l_pool) (hl : us.length ≤ 260) (hu : bufR S.w_Rd_units us) (hlt : ∀ u ∈ us, u < 65536) : f_Tr_nameLast_Rdunits_55 K (nI us.length) (nI n) G S = some ((), G, nlS S n b us) := by
  obtain ⟨g0, ⟨-, -, -, -, -, -, -, -, g9, g10, g11, -⟩, ga, gb, gc, gd⟩ := hG
  have hcl : (nI n).toNatClampNeg = n := nI_clamp (by omega)
  unfold f_Tr_nameLast_Rdunits_55
  rw [q_g (q_in (by omega) (by omega)), q_l, q_g (q_in (by omega) (by omega)), q_l, hcl, hb]
  generalize hS1 : (S.u_w_Tr_nameAt (upd S.w_Tr_nameAt n (nI b))).u_w_Tr_nameLength (upd (S.u_w_Tr_nameAt (upd S.w_Tr_nameAt n (nI b))).w_Tr_nameLength n (nI us.length)) = S1
  have e1 : S1.v_Tr_pooled = nI b := by rw [← hS1]; exact hb
  have e2 : S1.w_Rd_units = S.w_Rd_units := by rw [← hS1]; rfl
  have e3 : S1.w_Tr_pool = S.w_Tr_pool := by rw [← hS1]; rfl
  have e4 : S1.w_Tr_nameBytes = S.w_Tr_nameBytes := by rw [← hS1]; rfl
  have key := lp (F := fun k i T => f_Tr_nameLast_Rdunits_78 K k (nI us.length) (nI n) (nI (tsz (us.take i))) (nI i) G T) (Inv := fun i s => s = S1.u_w_Tr_pool (unF S1.w_Tr_pool b us i)) (Post := fun r => r = some ((), G, nlS S n b us)) (n := us.length) ?_ ?_ us.length 0 K S1 (by omega) (by omega) ?_
  · exact key
  · intro i s k hi hI
    left
    refine ⟨_, rfl, ?_⟩
    have f1 : s.v_Tr_pooled = nI b := by rw [hI]; exact e1
    have f2 : s.w_Rd_units = S.w_Rd_units := by rw [hI]; exact e2
    have f3 : s.w_Tr_pool = unF S1.w_Tr_pool b us i := by rw [hI]; rfl
    have i2 : lf_in (nI i) 260 := q_in (by omega) (by decide)
    have hw := widN_le (us.getD i 0)
    have ht := tsz_le (us.take i)
    have hlt' : (us.take i).length ≤ us.length := by rw [List.length_take]; omega
    have hgl : us.getD i 0 < 65536 := getD_lt hlt (by decide)
    show f_Tr_nameLast_Rdunits_78 K (k + 1) (nI us.length) (nI n) (nI (tsz (us.take i))) (nI i) G s = f_Tr_nameLast_Rdunits_78 K k (nI us.length) (nI n) (nI (tsz (us.take (i + 1)))) (nI (i + 1)) G _
    rw [f_Tr_nameLast_Rdunits_78, if_neg (nI_ge hi (by omega)), q_g i2, f1, nI_add, q_g (q_in (by omega) (by omega)), q_l, q_g i2, nI_clamp (by omega), nI_clamp (by omega), f2, hu i hi]
    have f4 : ∀ x, (s.u_w_Tr_pool x).w_Rd_units i = nI (us.getD i 0) := fun x => by
      show s.w_Rd_units i = _
      rw [f2, hu i hi]
    have et : tsz (us.take i) + widN (us.getD i 0) = tsz (us.take (i + 1)) := by
      rw [take_getD hi, tsz_app]
      unfold tsz
      simp
    rw [f4, qC_width (by omega), q_b, q_l, q_l, nI_1, nI_add, et, f3, unF_add, hI]
    rfl
  · intro s k hI
    show f_Tr_nameLast_Rdunits_78 K (k + 1) (nI us.length) (nI n) (nI (tsz (us.take us.length))) (nI us.length) G s = _
    have f1 : s.v_Tr_pooled = nI b := by rw [hI]; exact e1
    rw [f_Tr_nameLast_Rdunits_78, if_pos (Int32.le_refl _), q_l, q_g (q_in (by omega) (by omega)), q_l, hcl, f1, nI_add, List.take_length]
    congr 3
    rw [hI]
    show ((S1.u_w_Tr_pool _).u_v_Tr_pooled _).u_w_Tr_nameBytes (upd S1.w_Tr_nameBytes n (nI (tsz us))) = _
    rw [e3, e4, ← hS1]
    rfl
  · show S1 = S1.u_w_Tr_pool (unF S1.w_Tr_pool b us 0)
    rw [unF_0]
    rfl
theorem nlS_R {S S0 : CS} {n b : Nat} {us : List Nat} (h : ∃ f, S = S0.u_w_Tr_pool f ∧ ∀ u, u < b → f u = S0.w_Tr_pool u) : nlR S0 (nlS S n b us) n b us := by
  obtain ⟨f, rfl, hf⟩ := h
  refine ⟨rfl, ⟨rfl, rfl, rfl⟩, ⟨rfl, rfl, rfl, rfl, rfl, rfl, rfl⟩, ⟨rfl, rfl, rfl, rfl, rfl, rfl, rfl, rfl, rfl⟩, rfl, rfl, rfl, fun u hu => ?_, fun q hq => ?_⟩
  · show unF f b us us.length u = _
    unfold unF
    rw [if_neg (by omega), hf u hu]
  · show unF f b us us.length (b + q) = _
    unfold unF
    rw [if_pos (by omega), Nat.add_sub_cancel_left]
theorem ar_4 {gc gp gl gp1 t x : Nat} (h : gc ≤ gl - 64 + (gp - 1024) + t) (h2 : gp1 = 2 * x) (h3 : gp < x) (h4 : 1024 ≤ gp) : gc + 1 ≤ gl - 64 + (gp1 - 1024) + t := by omega
theorem ar_5 {gs gp gl gp1 t x : Nat} (h : gs ≤ 28 * (gl - 64) + 2 * gp + 6 * t) (h2 : gp1 = 2 * x) (h3 : gp < x) : gs + gp1 ≤ 28 * (gl - 64) + 2 * gp1 + 6 * t := by omega
theorem qC_nameLast {K N n b t : Nat} {G : CG} {S : CS} {us : List Nat} (hK : 1000 ≤ K) (hG : gOk N G) (hn : n < G.l_parent) (hc : S.v_Tr_count = nI (n + 1)) (hb : S.v_Tr_pooled = nI b) (hb2 : b + us.length ≤ 90000) (hbp : b ≤ G.l_pool) (hl : us.length ≤ 260) (hu : bufR S.w_Rd_units us) (hlt : ∀ u ∈ us, u < 65536) (hlim : gLim t G) : ∃ G' S', f_Tr_nameLast_Rdunits K G S (nI us.length) = some ((), G', S') ∧ gOk N G' ∧ G'.l_parent = G.l_parent ∧ b + us.length ≤ G'.l_pool ∧ gLim t G' ∧ nlR S S' n b us := by
  have hGG := hG
  obtain ⟨g0, gx, ga, gb, gc, gd⟩ := hGG
  unfold f_Tr_nameLast_Rdunits
  rw [hc, show (1 : Int32) = nI 1 from rfl, pk_sub (by omega), Nat.add_sub_cancel, q_l, if_neg (nI_pos (by omega)), if_neg (nI_pos (by omega)), if_pos (show nI us.length ≤ 260 from nI_le (b := 260) hl (by decide)), hb, nI_add]
  by_cases w : b + us.length ≤ G.l_pool
  · rw [if_pos (nI_le w (by omega)), qC_name55 hK hG hn hb w hl hu hlt]
    exact ⟨G, _, rfl, hG, rfl, w, hlim, nlS_R ⟨S.w_Tr_pool, rfl, fun _ _ => rfl⟩⟩
  · have hcl : (nI (2 * (b + us.length))).toNatClampNeg = 2 * (b + us.length) := nI_clamp (by omega)
    rw [if_neg (nI_ge (by omega) (by omega)), show (2 : Int32) = nI 2 from rfl, pk_mul, hcl, q_g ⟨nI_pos (by omega), by omega, by omega, by omega⟩, q_l, q_l]
    generalize hG1 : (G.u_l_pool (2 * (b + us.length))).made 1 (2 * (b + us.length)) = G1
    have p1 : G1.l_pool = 2 * (b + us.length) := by rw [← hG1]; rfl
    have p2 : G1.l_parent = G.l_parent := by rw [← hG1]; rfl
    have p3 : G1.gc = G.gc + 1 := by rw [← hG1]; rfl
    have p4 : G1.gs = G.gs + 2 * (b + us.length) := by rw [← hG1]; rfl
    have hG1' : gOk N G1 := by
      rw [← hG1]
      exact ⟨g0, gx, ga, gb, by show 1024 ≤ 2 * (b + us.length); omega, by show 2 * (b + us.length) ≤ 400000; omega⟩
    have hpool : ∀ u, u < b → va_cpy S.w_Tr_pool (fun _ => (0 : Int32)) 0 0 (min G.l_pool (2 * (b + us.length))) u = S.w_Tr_pool u := fun u hu => by
      rw [pk_cpy_in (Nat.zero_le _) (by rw [Nat.zero_add]; exact Nat.lt_of_lt_of_le hu (Nat.le_min.mpr ⟨hbp, by omega⟩)), Nat.sub_zero, Nat.zero_add]
    rw [qC_name55 (S := S.u_w_Tr_pool (va_cpy S.w_Tr_pool (fun _ => (0 : Int32)) 0 0 (min G.l_pool (2 * (b + us.length))))) hK hG1' (by rw [p2]; exact hn) hb (by rw [p1]; omega) hl hu hlt]
    refine ⟨G1, _, rfl, hG1', p2, by rw [p1]; omega, ⟨?_, ?_⟩, nlS_R ⟨_, rfl, hpool⟩⟩
    · rw [p3, p2]; exact ar_4 hlim.1 p1 (by omega) gc
    · rw [p4, p2, ← p1]; exact ar_5 hlim.2 p1 (by omega)
