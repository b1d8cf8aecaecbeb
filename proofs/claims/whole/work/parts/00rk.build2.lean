def bSt (T : MS) (f : Nat → Int32) (x b kp : Int32) : MS := ((lSt T f x).u_v_builds b).u_v_kept kp
theorem qM_fn177 {K N A H : Nat} {D : Nat → Int32} {fks : List Nat} {its : List It} {T : MS} (hK : 20000 ≤ K) (h : trM N D fks its T) (hH : T.v_c = nI (2 * H)) (hH4 : H ≤ 4) (b0 kp0 : Nat) : ∀ (d i q : Nat) (f : Nat → Int32) (x : Int32), i + d = its.length → d < q → ∃ f' x', f_Mo_finds_177 K q (nI i) (bSt T f x (nI (b0 + sumN (bdI fks D its) i)) (nI (kp0 + sumN (kpI N D its H) i))) = f_Mo_finds_274 K K 0 2 (bSt T f' x' (nI (b0 + sumN (bdI fks D its) its.length)) (nI (kp0 + sumN (kpI N D its H) its.length))) := by
  have hlen := h.2.2.2.1.2.1
  intro d
  induction d with
  | zero =>
    intro i q f x h1 h2
    obtain ⟨q, rfl⟩ : ∃ m, q = m + 1 := ⟨q - 1, by omega⟩
    obtain rfl : i = its.length := by omega
    refine ⟨f, x, ?_⟩
    rw [f_Mo_finds_177, show (bSt T f x (nI (b0 + sumN (bdI fks D its) its.length)) (nI (kp0 + sumN (kpI N D its H) its.length))).v_items = nI its.length from h.2.2.1.1, if_pos (Int32.le_refl _)]
  | succ d ih =>
    intro i q f x h1 h2
    obtain ⟨q, rfl⟩ : ∃ m, q = m + 1 := ⟨q - 1, by omega⟩
    have hi : i < its.length := by omega
    obtain ⟨T1, eT⟩ : ∃ T1, bSt T f x (nI (b0 + sumN (bdI fks D its) i)) (nI (kp0 + sumN (kpI N D its H) i)) = T1 := ⟨_, rfl⟩
    have ht1 : trM N D fks its T1 := by rw [← eT]; exact h
    have hb1 : T1.v_builds = nI (b0 + sumN (bdI fks D its) i) := by rw [← eT]; rfl
    have hk1 : T1.v_kept = nI (kp0 + sumN (kpI N D its H) i) := by rw [← eT]; rfl
    have hfo : f_Mo_isFolder K T1 (nI i) = some (b01 (isDr D its i), T1) := qM_isFolder ht1.2.1.1 h.1.2 ht1.2.2.1 h.2.2.2.1 hi
    rw [eT, f_Mo_finds_177, ht1.2.2.1.1, if_neg (nI_ge hi (by omega)), hfo, q_c]
    by_cases w : isDr D its i
    · have hes := eSz_le h.2.2.2.1 h.2.2.2.2.2.1 (show i < fks.length by rw [h.2.2.2.2.2.2.1]; exact hi)
      have hfb : flB fks its i < 2 ^ 30 := by
        have := (pkS_le hes (eNo fks its i)).2.1
        have hno : eNo fks its i ≤ 4300 := by
          obtain ⟨d1, d2, d3, d4, d5⟩ := h.2.2.2.2.2.1 i (by rw [h.2.2.2.2.2.2.1]; exact hi)
          unfold eNo kcI
          unfold fkI at *
          split <;> omega
        unfold flB
        omega
      have hbd : bdI fks D its i = flB fks its i + indN (flB fks its i) := cif_t w
      have hkp : kpI N D its H i = (chI N D its i).length * H := cif_t w
      rw [b01_t w, if_neg (show ¬ nI 1 = 0 by decide), qM_folderBlocks hK ht1 hi, q_c, qM_folderBlocks hK ht1 hi, q_c, qM_indirect hfb, q_b]
      unfold f_Mo_finds_223 f_Mo_finds_260
      rw [hb1, nI_add, nI_add, q_l]
      obtain ⟨T2, eT2⟩ : ∃ T2, T1.u_v_builds (nI (b0 + sumN (bdI fks D its) i + (flB fks its i + indN (flB fks its i)))) = T2 := ⟨_, rfl⟩
      have ht2 : trM N D fks its T2 := by rw [← eT2]; exact ht1
      have hfo2 : f_Mo_isFolder K T2 (nI i) = some (b01 (isDr D its i), T2) := qM_isFolder ht2.2.1.1 h.1.2 ht2.2.2.1 h.2.2.2.1 hi
      obtain ⟨f1, x1, hc1⟩ := qM_clustersOf (K := K) (T := T2) (by omega) ht2 hi
      have hk2 : T2.v_kept = nI (kp0 + sumN (kpI N D its H) i) := by rw [← eT2]; exact hk1
      rw [eT2, hfo2, q_c, b01_t w, if_neg (show ¬ nI 1 = 0 by decide), hc1, q_c, show (lSt T2 f1 x1).v_c = nI (2 * H) by rw [← eT2, ← eT]; exact hH, half (by omega), pk_mul, hk2, nI_add, q_l, nI_1, q_l]
      obtain ⟨f', x', e⟩ := ih (i + 1) q f1 x1 (by omega) (by omega)
      refine ⟨f', x', ?_⟩
      rw [sumN, sumN, hbd, hkp, ← Nat.add_assoc b0, ← Nat.add_assoc kp0] at e
      rw [← eT2, ← eT]
      exact e
    · have hbd : bdI fks D its i = indN (fbN D its i) := cif_f w
      have hkp : kpI N D its H i = fbN D its i := cif_f w
      have hfbl : fbN D its i < 2 ^ 30 := by
        have hs := h.2.2.2.2.2.2.2.2 i hi w
        have i1 : 1 ≤ i := Nat.one_le_iff_ne_zero.mpr fun e => w (Or.inl e)
        have hdn : ¬ o1 D (isp (itr its i) + 11) / 16 % 2 = 1 := fun y => w (Or.inr y)
        have hszE : szI D its i = o4 D (isp (itr its i) + 28) := (if_neg (show ¬ i = 0 by omega)).trans (if_neg hdn)
        unfold fbN
        rw [hszE]
        omega
      rw [b01_f w, if_pos (show nI 0 = 0 from rfl), qM_fileBlocks ht1 hi w, q_c, qM_indirect hfbl, q_b]
      unfold f_Mo_finds_223 f_Mo_finds_260
      rw [hb1, nI_add, q_l]
      obtain ⟨T2, eT2⟩ : ∃ T2, T1.u_v_builds (nI (b0 + sumN (bdI fks D its) i + indN (fbN D its i))) = T2 := ⟨_, rfl⟩
      have ht2 : trM N D fks its T2 := by rw [← eT2]; exact ht1
      have hfo2 : f_Mo_isFolder K T2 (nI i) = some (b01 (isDr D its i), T2) := qM_isFolder ht2.2.1.1 h.1.2 ht2.2.2.1 h.2.2.2.1 hi
      have hk2 : T2.v_kept = nI (kp0 + sumN (kpI N D its H) i) := by rw [← eT2]; exact hk1
      rw [eT2, hfo2, q_c, b01_f w, if_pos (show nI 0 = 0 from rfl), qM_fileBlocks ht2 hi w, q_c, hk2, nI_add, q_l, nI_1, q_l]
      obtain ⟨f', x', e⟩ := ih (i + 1) q f x (by omega) (by omega)
      refine ⟨f', x', ?_⟩
      rw [sumN, sumN, hbd, hkp, ← Nat.add_assoc, ← Nat.add_assoc] at e
      rw [← eT2, ← eT]
      exact e
/-- the reference's rooms -/
theorem qM_fn286 {K A H k B P G r c : Nat} {fx : Nat → Prop} {e gl : Nat → Nat} {T : MS} {l : List Nat} (h : aimM A H k B P G r K fx e T) (hai : ∀ t, 2 ≤ t → t < 560 → (T.v_aimed t = 0 ↔ ¬ ∃ x, gl x = t)) (h2 : 2 ≤ c) (hc : c < k + 2) (hl : l.length ≤ (c - 2) * H) (hw : e c = 0 ∧ ∀ x, gl x ≠ c) (rec : Int32 → Int32 → MS → Option (Int32 × MS)) : ∀ (d j q : Nat) (f : Nat → Int32), j + d = H → d < q → arr f (l ++ rmB A H fx c j) → ∃ f', arr f' (l ++ rmB A H fx c H) ∧ f_Mo_finds_286 K rec q (nI (l ++ rmB A H fx c j).length) (nI c) (nI j) (T.u_v_built f) = rec (nI (l ++ rmB A H fx c H).length) (nI (c + 1)) (T.u_v_built f') := by
  obtain ⟨⟨hA, hH, hk0, hB, -, -, -, hAk⟩, hT, hf, hent, he⟩ := h
  intro d
  induction d with
  | zero =>
    intro j q f h1 h2' hf1
    obtain ⟨q, rfl⟩ : ∃ m, q = m + 1 := ⟨q - 1, by omega⟩
    obtain rfl : j = H := by omega
    refine ⟨f, hf1, ?_⟩
    rw [f_Mo_finds_286]
    unfold f_Mo_finds_364
    rw [show (T.u_v_built f).v_c = nI (2 * j) from hT.2.1, half (by omega), if_pos (Int32.le_refl _), nI_1, q_l]
  | succ d ih =>
    intro j q f h1 h2' hf1
    obtain ⟨q, rfl⟩ : ∃ m, q = m + 1 := ⟨q - 1, by omega⟩
    have hb := blk_lt (j := j) hAk h2 hc (by omega)
    have hlen : (l ++ rmB A H fx c j).length ≤ (c - 2) * H + j := by
      rw [List.length_append]
      have := rmB_len (A := A) (H := H) (fx := fx) (c := c) j
      omega
    have hpos : (T.u_v_built f).v_a / 2 + (nI c - 2) * ((T.u_v_built f).v_c / 2) + nI j = nI (A + (c - 2) * H + j) := by
      rw [show (T.u_v_built f).v_a = nI (2 * A) from hT.1, show (T.u_v_built f).v_c = nI (2 * H) from hT.2.1, half (by omega), half (by omega), show (2 : Int32) = nI 2 from rfl, pk_sub h2, pk_mul, nI_add, nI_add]
    rw [f_Mo_finds_286]
    unfold f_Mo_finds_358
    rw [show (T.u_v_built f).v_c = nI (2 * H) from hT.2.1, half (by omega), if_neg (nI_ge (by omega) (by omega)), hent (T.u_v_built f) rfl rfl rfl c hc, q_c, if_pos (show nI (e c) = 0 by rw [hw.1]; rfl), q_g (q_in (by omega) (by decide)), nI_clamp (by omega), if_pos (show (T.u_v_built f).v_aimed c = 0 from (hai c h2 (by omega)).mpr (fun ⟨x, hx⟩ => hw.2 x hx)), q_l, hpos, q_g (q_in (by omega) (by decide)), nI_clamp (by omega), show (T.u_v_built f).v_fixed (A + (c - 2) * H + j) = b01 (fx (A + (c - 2) * H + j)) from hf _ (by omega), nI_1, nI_1, q_l]
    by_cases w : fx (A + (c - 2) * H + j)
    · rw [b01_t w, if_neg (show ¬ nI 1 = 0 by decide)]
      have hs : rmB A H fx c (j + 1) = rmB A H fx c j := by rw [rmB, cif_t w, List.append_nil]
      obtain ⟨f', a, b⟩ := ih (j + 1) q f (by omega) (by omega) (by rw [hs]; exact hf1)
      refine ⟨f', a, ?_⟩
      rw [hs] at b
      exact b
    · rw [b01_f w, if_pos (show nI 0 = 0 from rfl)]
      have hs : l ++ rmB A H fx c (j + 1) = (l ++ rmB A H fx c j) ++ [A + (c - 2) * H + j] := by rw [rmB, cif_f w, List.append_assoc]
      have hsl : (l ++ rmB A H fx c (j + 1)).length = (l ++ rmB A H fx c j).length + 1 := by rw [hs, List.length_append]; rfl
      obtain ⟨f', a, b⟩ := ih (j + 1) q (upd f (l ++ rmB A H fx c j).length (nI (A + (c - 2) * H + j))) (by omega) (by omega) (by rw [hs]; exact arr_snoc hf1)
      refine ⟨f', a, ?_⟩
      rw [q_g (q_in (by omega) (by decide)), q_l, q_l, nI_clamp (by omega)]
      rw [hsl] at b
      exact b
theorem qM_fn274 {K A H k B P G r : Nat} {fx : Nat → Prop} {e gl : Nat → Nat} {T : MS} {bl : Nat} (hK : 1000 ≤ K) (h : aimM A H k B P G r K fx e T) (hai : ∀ t, 2 ≤ t → t < 560 → (T.v_aimed t = 0 ↔ ¬ ∃ x, gl x = t)) (hbl : T.v_builds = nI bl) (hbl2 : bl < 2 ^ 31) : ∀ (d n q : Nat) (f : Nat → Int32), n + d = k → d < q → arr f (rml A H fx e gl n) → ∃ f', arr f' (rml A H fx e gl k) ∧ f_Mo_finds_274 K q (nI (rml A H fx e gl n).length) (nI (n + 2)) (T.u_v_built f) = some (b01 (bl ≤ (rml A H fx e gl k).length), T.u_v_built f') := by
  have h0 := h
  obtain ⟨⟨hA, hH, hk0, hB, -, -, -, hAk⟩, hT, hf, hent, he⟩ := h
  have hrl := rml_len (A := A) (H := H) (fx := fx) (e := e) (gl := gl) k
  intro d
  induction d with
  | zero =>
    intro n q f h1 h2 hf1
    obtain ⟨q, rfl⟩ : ∃ m, q = m + 1 := ⟨q - 1, by omega⟩
    obtain rfl : n = k := by omega
    refine ⟨f, hf1, ?_⟩
    rw [f_Mo_finds_274, show (T.u_v_built f).v_k = nI n from hT.2.2.1, show (2 : Int32) = nI 2 from rfl, nI_add, if_pos (Int32.le_refl _), show (T.u_v_built f).v_builds = nI bl from hbl]
    by_cases w : bl ≤ (rml A H fx e gl n).length
    · rw [if_neg (nI_nlt w (by omega)), b01_t w]; rfl
    · rw [if_pos (nI_lt (by omega) hbl2), b01_f w]; rfl
  | succ d ih =>
    intro n q f h1 h2 hf1
    obtain ⟨q, rfl⟩ : ∃ m, q = m + 1 := ⟨q - 1, by omega⟩
    have hc : n + 2 < k + 2 := by omega
    have hec := he (n + 2)
    rw [f_Mo_finds_274, show (T.u_v_built f).v_k = nI k from hT.2.2.1, show (2 : Int32) = nI 2 from rfl, nI_add, if_neg (nI_ge hc (by omega))]
    by_cases hw : e (n + 2) = 0 ∧ ∀ x, gl x ≠ n + 2
    · have hs : rml A H fx e gl (n + 1) = rml A H fx e gl n ++ rmB A H fx (n + 2) H := by rw [rml, cif_t hw]
      obtain ⟨f1, c1, c2⟩ := qM_fn286 (c := n + 2) (l := rml A H fx e gl n) h0 hai (by omega) hc (rml_len n) hw (f_Mo_finds_274 K q) H 0 K f (by omega) (by omega) (by rw [rmB, List.append_nil]; exact hf1)
      rw [rmB, List.append_nil] at c2
      have c2 : f_Mo_finds_286 K (f_Mo_finds_274 K q) K (nI (rml A H fx e gl n).length) (nI (n + 2)) 0 (T.u_v_built f) = _ := c2
      obtain ⟨f', a, b⟩ := ih (n + 1) q f1 (by omega) (by omega) (by rw [hs]; exact c1)
      rw [hs] at b
      exact ⟨f', a, c2.trans b⟩
    · have hs : rml A H fx e gl (n + 1) = rml A H fx e gl n := by rw [rml, cif_f hw, List.append_nil]
      obtain ⟨f', a, b⟩ := ih (n + 1) q f (by omega) (by omega) (by rw [hs]; exact hf1)
      refine ⟨f', a, ?_⟩
      rw [hs] at b
      obtain ⟨kk, hkk⟩ : ∃ m, K = m + 1 := ⟨K - 1, by omega⟩
      have hskip : ∀ kk, f_Mo_finds_286 K (f_Mo_finds_274 K q) (kk + 1) (nI (rml A H fx e gl n).length) (nI (n + 2)) 0 (T.u_v_built f) = f_Mo_finds_274 K q (nI (rml A H fx e gl n).length) (nI (n + 1 + 2)) (T.u_v_built f) := fun kk => by
        rw [f_Mo_finds_286]
        unfold f_Mo_finds_364
        rw [show (T.u_v_built f).v_c = nI (2 * H) from hT.2.1, half (by omega), if_neg (show ¬ nI H ≤ 0 from nI_nle (by omega) (by omega)), hent (T.u_v_built f) rfl rfl rfl (n + 2) hc, q_c, q_g (q_in (by omega) (by decide)), nI_clamp (by omega), nI_1, q_l]
        by_cases e0 : e (n + 2) = 0
        · have hne : ¬ (T.u_v_built f).v_aimed (n + 2) = 0 := fun y => hw ⟨e0, fun x hx => (hai (n + 2) (by omega) (by omega)).mp y ⟨x, hx⟩⟩
          rw [if_pos (show nI (e (n + 2)) = 0 by rw [e0]; rfl), if_neg hne, nI_1, q_l]
        · rw [if_neg (nI_ne0 (by omega) (by omega)), nI_1, q_l]
      have := hskip kk
      rw [← hkk] at this
      rw [this]
      exact b
/-- all that the reference's search finds -/
def fnS (T : MS) (mo ai f : Nat → Int32) (m x b kp : Int32) (bt : Nat → Int32) : MS := (bSt (fSt T mo ai m) f x b kp).u_v_built bt
theorem qM_finds {K N A H k B P G r : Nat} {D : Nat → Int32} {fks : List Nat} {its : List It} {fx : Nat → Prop} {e : Nat → Nat} {T : MS} (hK : 20000 ≤ K) (h : aimM A H k B P G r K fx e T) (ht : trM N D fks its T) (hrc : rcB N D its A H < 2 ^ 30) (hbd : bdN N fks D its A H < 2 ^ 31) : (∀ to gl, aimR A H k fx e k to gl → ∃ mo ai f x bt, f_Mo_finds K T = some (b01 (bdN N fks D its A H ≤ (rml A H fx e gl k).length), fnS T mo ai f (nI (mvN A H fx e k)) x (nI (bdN N fks D its A H)) (nI (kpN N D its A H)) bt) ∧ (∀ c, c < 560 → mo c = nI (gl c)) ∧ arr bt (rml A H fx e gl k)) ∧ ((∃ i, i < k ∧ aimB A H k fx e i) → ∃ mo ai m, f_Mo_finds K T = some (0, fSt T mo ai m)) := by
  obtain ⟨a1, a2⟩ := qM_finds1 (K := K) (by omega) h
  refine ⟨fun to gl hR => ?_, a2⟩
  obtain ⟨mo, ai, b1, b2, b3⟩ := a1 to gl hR
  obtain ⟨T1, eT⟩ : ∃ T1, fSt T mo ai (nI (mvN A H fx e k)) = T1 := ⟨_, rfl⟩
  have ht1 : trM N D fks its T1 := by rw [← eT]; exact ht
  have hA := h.1.1
  have hH := h.1.2.1
  have hva : T1.v_a = nI (2 * A) := by rw [← eT]; exact h.2.1.1
  have hvc : T1.v_c = nI (2 * H) := by rw [← eT]; exact h.2.1.2.1
  obtain ⟨f1, x1, c1⟩ := qM_recordBlocks (K := K) (T := T1) hK ht1 hva hvc (by omega) (by omega)
  rw [b1, eT]
  unfold fnTl
  rw [c1, q_c, qM_indirect hrc, q_b, show (3 : Int32) = nI 3 from rfl, nI_add, q_l, show ((lSt T1 f1 x1).u_v_builds (nI (3 + indN (rcB N D its A H)))).v_a = nI (2 * A) from hva, half (by omega), pk_sub (by omega), q_l]
  obtain ⟨f2, x2, c2⟩ := qM_fn177 (K := K) (A := A) (T := T1) hK ht1 hvc (by omega) (3 + indN (rcB N D its A H)) (A - 3) its.length 0 K f1 x1 (by omega) (by have := ht.2.2.2.1.2.1; omega)
  have c2 : f_Mo_finds_177 K K 0 (((lSt T1 f1 x1).u_v_builds (nI (3 + indN (rcB N D its A H)))).u_v_kept (nI (A - 3))) = _ := c2
  rw [c2]
  obtain ⟨T2, eT2⟩ : ∃ T2, bSt T1 f2 x2 (nI (3 + indN (rcB N D its A H) + sumN (bdI fks D its) its.length)) (nI (A - 3 + sumN (kpI N D its H) its.length)) = T2 := ⟨_, rfl⟩
  have h2 : aimM A H k B P G r K fx e T2 := by rw [← eT2, ← eT]; exact h
  obtain ⟨f3, d1, d2⟩ := qM_fn274 (K := K) (gl := gl) (T := T2) (bl := bdN N fks D its A H) (by omega) h2 (by rw [← eT2, ← eT]; exact b3) (by rw [← eT2]; rfl) hbd k 0 K T2.v_built (by omega) (by have := h.1.2.2.1; omega) (fun i hi => absurd hi (Nat.not_lt_zero _))
  have d2 : f_Mo_finds_274 K K 0 2 T2 = _ := d2
  refine ⟨mo, ai, f2, x2, f3, ?_, b2, d1⟩
  rw [eT2, d2, ← eT2, ← eT]
  rfl
