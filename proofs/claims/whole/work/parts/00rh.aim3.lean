/-- a row of numbers -/
abbrev arr (f : Nat → Int32) (l : List Nat) : Prop := ∀ i, i < l.length → f i = nI (l.getD i 0)
theorem arr_snoc {f : Nat → Int32} {l : List Nat} {b : Nat} (h : arr f l) : arr (upd f l.length (nI b)) (l ++ [b]) := fun q hq => by
  rw [List.length_append] at hq
  have hq : q < l.length + 1 := hq
  by_cases w : q = l.length
  · rw [w, pk_us, List.getD_eq_getElem?_getD, List.getElem?_append_right (Nat.le_refl _), Nat.sub_self]
    rfl
  · rw [pk_un w, List.getD_eq_getElem?_getD, List.getElem?_append_left (by omega), ← List.getD_eq_getElem?_getD]
    exact h q (by omega)
def rSt (S : CS) (f : Nat → Int32) (x : Int32) : CS := (S.u_w_Pl_rooms f).u_v_Pl_roomCount x
theorem qC_addRooms {K A H k B P g0 r N c : Nat} {fx : Nat → Prop} {e : Nat → Nat} {G : CG} {S : CS} {l : List Nat} (hK : 100 ≤ K) (h : aimC A H k B P g0 r N fx e G S) (h2 : 2 ≤ c) (hc : c < k + 2) (hl : l.length ≤ (c - 2) * H) {f : Nat → Int32} (hf0 : arr f l) : ∃ f', arr f' (l ++ rmB A H fx c H) ∧ f_Pl_addRooms K G (rSt S f (nI l.length)) (nI (A + (c - 2) * H)) = some (rSt S f' (nI (l ++ rmB A H fx c H).length)) := by
  obtain ⟨⟨hA, hH, hk0, hB, -, -, -, hAk⟩, ⟨hG, hN, hBN, hkN⟩, hS, hf, hn, he⟩ := h
  have hend := blk_lt (j := H - 1) hAk h2 hc (by omega)
  have loop : ∀ (d j q : Nat) (f : Nat → Int32), j + d = H → d < q → arr f (l ++ rmB A H fx c j) → ∃ f', arr f' (l ++ rmB A H fx c H) ∧ f_Pl_addRooms_2 K G q (nI (A + (c - 2) * H)) (nI (A + (c - 2) * H + j)) (rSt S f (nI (l ++ rmB A H fx c j).length)) = some (rSt S f' (nI (l ++ rmB A H fx c H).length)) := by
    intro d
    induction d with
    | zero =>
      intro j q f h1 h2' hf1
      obtain ⟨q, rfl⟩ : ∃ m, q = m + 1 := ⟨q - 1, by omega⟩
      obtain rfl : j = H := by omega
      refine ⟨f, hf1, ?_⟩
      rw [f_Pl_addRooms_2, show (rSt S f (nI (l ++ rmB A j fx c j).length)).v_Tb_cluster = nI (2 * j) from hS.2.1, half (by omega), nI_add, if_pos (Int32.le_refl _)]
    | succ d ih =>
      intro j q f h1 h2' hf1
      obtain ⟨q, rfl⟩ : ∃ m, q = m + 1 := ⟨q - 1, by omega⟩
      have hb := blk_lt (j := j) hAk h2 hc (by omega)
      have hlen : (l ++ rmB A H fx c j).length ≤ (c - 2) * H + j := by
        rw [List.length_append]
        have := rmB_len (A := A) (H := H) (fx := fx) (c := c) j
        omega
      obtain ⟨S1, eS⟩ : ∃ S1, rSt S f (nI (l ++ rmB A H fx c j).length) = S1 := ⟨_, rfl⟩
      have e1 : S1.v_Tb_cluster = nI (2 * H) := by rw [← eS]; exact hS.2.1
      have e2 : S1.v_Pl_blocks = nI B := by rw [← eS]; exact hS.2.2.2.1
      have e3 : S1.w_Pl_fixed (A + (c - 2) * H + j) = b01 (fx (A + (c - 2) * H + j)) := by rw [← eS]; exact hf _ hb.2
      have e4 : S1.v_Pl_roomCount = nI (l ++ rmB A H fx c j).length := by rw [← eS]; rfl
      have e5 : S1.w_Pl_rooms = f := by rw [← eS]; rfl
      rw [eS, f_Pl_addRooms_2]
      unfold f_Pl_addRooms_66
      rw [e1, half (by omega), nI_add, if_neg (nI_ge (by omega) (by omega)), e2, if_neg (nI_ge (by omega) (by omega)), hG, ← hBN, q_g (q_in (by omega) (by omega)), nI_clamp (by omega), e3, e4, if_neg (nI_ge (by omega) (by omega)), q_g (q_in (by omega) (by omega)), nI_1, q_l, q_l]
      by_cases w : fx (A + (c - 2) * H + j)
      · rw [b01_t w, if_neg (show ¬ nI 1 = 0 by decide)]
        have hs : rmB A H fx c (j + 1) = rmB A H fx c j := by rw [rmB, cif_t w, List.append_nil]
        obtain ⟨f', a, b⟩ := ih (j + 1) q f (by omega) (by omega) (by rw [hs]; exact hf1)
        refine ⟨f', a, ?_⟩
        rw [hs, eS, ← Nat.add_assoc] at b
        exact b
      · rw [b01_f w, if_pos (show nI 0 = 0 from rfl)]
        have hs : l ++ rmB A H fx c (j + 1) = (l ++ rmB A H fx c j) ++ [A + (c - 2) * H + j] := by rw [rmB, cif_f w, List.append_assoc]
        have hsl : (l ++ rmB A H fx c (j + 1)).length = (l ++ rmB A H fx c j).length + 1 := by rw [hs, List.length_append]; rfl
        obtain ⟨f', a, b⟩ := ih (j + 1) q (upd f (l ++ rmB A H fx c j).length (nI (A + (c - 2) * H + j))) (by omega) (by omega) (by rw [hs]; exact arr_snoc hf1)
        refine ⟨f', a, ?_⟩
        rw [q_l, e5, show (S1.u_w_Pl_rooms (upd f (nI (l ++ rmB A H fx c j).length).toNatClampNeg (nI (A + (c - 2) * H + j)))).v_Pl_roomCount = nI (l ++ rmB A H fx c j).length from e4, nI_1, nI_clamp (by omega), ← eS]
        rw [hsl, ← Nat.add_assoc] at b
        exact b
  obtain ⟨f', a, b⟩ := loop H 0 K f (by omega) (by omega) (by rw [rmB, List.append_nil]; exact hf0)
  refine ⟨f', a, ?_⟩
  rw [rmB, List.append_nil, Nat.add_zero] at b
  exact b
theorem qC_findRooms {K A H k B P g0 r N : Nat} {fx : Nat → Prop} {e gl : Nat → Nat} {G : CG} {S : CS} (hK : 2000 ≤ K) (h : aimC A H k B P g0 r N fx e G S) (ha0 : ∀ t, 2 ≤ t → t < B + 2 → S.w_Pl_aimedAt t = b01 (∃ x, gl x = t)) : ∃ f, arr f (rml A H fx e gl k) ∧ f_Pl_findRooms K G S (nI (k + 2)) = some (rSt S f (nI (rml A H fx e gl k).length)) := by
  have h0 := h
  obtain ⟨⟨hA, hH, hk0, hB, -, -, -, hAk⟩, ⟨hG, hN, hBN, hkN⟩, hS, hf, hn, he⟩ := h
  have loop : ∀ (d n q : Nat) (f : Nat → Int32), n + d = k → d < q → arr f (rml A H fx e gl n) → ∃ f', arr f' (rml A H fx e gl k) ∧ f_Pl_findRooms_7 K G q (nI (k + 2)) (nI (n + 2)) (rSt S f (nI (rml A H fx e gl n).length)) = some (rSt S f' (nI (rml A H fx e gl k).length)) := by
    intro d
    induction d with
    | zero =>
      intro n q f h1 h2 hf1
      obtain ⟨q, rfl⟩ : ∃ m, q = m + 1 := ⟨q - 1, by omega⟩
      obtain rfl : n = k := by omega
      exact ⟨f, hf1, by rw [f_Pl_findRooms_7, if_pos (Int32.le_refl _)]⟩
    | succ d ih =>
      intro n q f h1 h2 hf1
      obtain ⟨q, rfl⟩ : ∃ m, q = m + 1 := ⟨q - 1, by omega⟩
      have hc : n + 2 < k + 2 := by omega
      obtain ⟨S1, eS⟩ : ∃ S1, rSt S f (nI (rml A H fx e gl n).length) = S1 := ⟨_, rfl⟩
      have h1' : aimC A H k B P g0 r N fx e G S1 := by rw [← eS]; exact h0
      have hfr := qC_fr (K := K) (S := S1) hG hN hkN h1'.2.2.1.2.2.1 h1'.2.2.2.2.1 he (show 2 ≤ n + 2 by omega) hc
      have hbk := (qC_hasFx (K := K) (S := S1) (by omega) h1'.1 (by rw [hG, hBN]) h1'.2.2.1 h1'.2.2.2.1 (show 2 ≤ n + 2 by omega) hc).1
      have ha1 : S1.w_Pl_aimedAt (n + 2) = b01 (∃ x, gl x = n + 2) := by rw [← eS]; exact ha0 _ (by omega) (by omega)
      have skip : ¬ (e (n + 2) = 0 ∧ ∀ x, gl x ≠ n + 2) → ∃ f', arr f' (rml A H fx e gl k) ∧ f_Pl_findRooms_7 K G q (nI (k + 2)) (nI (n + 2 + 1)) S1 = some (rSt S f' (nI (rml A H fx e gl k).length)) := fun w => by
        have hs : rml A H fx e gl (n + 1) = rml A H fx e gl n := by rw [rml, cif_f w, List.append_nil]
        obtain ⟨f', a, b⟩ := ih (n + 1) q f (by omega) (by omega) (by rw [hs]; exact hf1)
        rw [hs, eS] at b
        exact ⟨f', a, b⟩
      rw [eS, f_Pl_findRooms_7]
      unfold f_Pl_findRooms_41
      rw [if_neg (nI_ge hc (by omega)), hfr, q_c, hbk, q_c, nI_1, q_l, hG, q_g (q_in (by omega) (by omega)), nI_clamp (by omega), ha1]
      by_cases w1 : e (n + 2) = 0
      rotate_left
      · rw [b01_f w1, if_pos (show nI 0 = 0 from rfl)]
        exact skip (fun y => w1 y.1)
      rw [b01_t w1, if_neg (show ¬ nI 1 = 0 by decide)]
      by_cases w2 : ∃ x, gl x = n + 2
      · rw [b01_t w2, if_neg (show ¬ nI 1 = 0 by decide)]
        obtain ⟨x, hx⟩ := w2
        exact skip (fun y => y.2 x hx)
      rw [b01_f w2, if_pos (show nI 0 = 0 from rfl)]
      have hw : e (n + 2) = 0 ∧ ∀ x, gl x ≠ n + 2 := ⟨w1, fun x hx => w2 ⟨x, hx⟩⟩
      have hs : rml A H fx e gl (n + 1) = rml A H fx e gl n ++ rmB A H fx (n + 2) H := by rw [rml, cif_t hw]
      obtain ⟨f1, c1, c2⟩ := qC_addRooms (K := K) (c := n + 2) (l := rml A H fx e gl n) (by omega) h0 (by omega) hc (rml_len n) hf1
      rw [eS] at c2
      obtain ⟨f', a, b⟩ := ih (n + 1) q f1 (by omega) (by omega) (by rw [hs]; exact c1)
      rw [hs] at b
      refine ⟨f', a, ?_⟩
      rw [c2, q_b, q_l]
      exact b
  obtain ⟨f', a, b⟩ := loop k 0 K S.w_Pl_rooms (by omega) (by omega) (fun i hi => absurd hi (Nat.not_lt_zero _))
  refine ⟨f', a, ?_⟩
  unfold f_Pl_findRooms
  rw [q_l]
  exact b
theorem qC_aim20 {K B : Nat} {G : CG} {S : CS} (hB : B ≤ 512) (hG : G.n / 2 = B) (y : Int32) : ∀ (d i q : Nat) (a : Nat → Int32), i + d = B + 2 → d < q → (∀ b, b < i → a b = nI 0) → ∃ a', (∀ b, b < B + 2 → a' b = nI 0) ∧ f_Pl_aim_20 K G q y (nI i) (S.u_w_Pl_aimedAt a) = f_Pl_aim_51 K G K y 2 2 ((S.u_w_Pl_aimedAt a').u_v_Pl_moves 0) := by
  intro d
  induction d with
  | zero =>
    intro i q a h1 h2 hf
    obtain ⟨q, rfl⟩ : ∃ m, q = m + 1 := ⟨q - 1, by omega⟩
    obtain rfl : i = B + 2 := by omega
    exact ⟨a, hf, by rw [f_Pl_aim_20, hG, if_pos (Int32.le_refl _), q_l]⟩
  | succ d ih =>
    intro i q a h1 h2 hf
    obtain ⟨q, rfl⟩ : ∃ m, q = m + 1 := ⟨q - 1, by omega⟩
    obtain ⟨a', a1, b⟩ := ih (i + 1) q (upd a i (nI 0)) (by omega) (by omega) (fun b hb => by
      by_cases w : b = i
      · rw [w, pk_us]
      · rw [pk_un w]; exact hf b (by omega))
    refine ⟨a', a1, ?_⟩
    rw [f_Pl_aim_20, hG, if_neg (nI_ge (by omega) (by omega)), q_g (q_in (by omega) (by omega)), q_l, nI_1, q_l, nI_clamp (by omega)]
    exact b
theorem qC_aim {K A H k B P g0 r N : Nat} {fx : Nat → Prop} {e : Nat → Nat} {G : CG} {S : CS} (hK : 5000 ≤ K) (h : aimC A H k B P g0 r N fx e G S) : (∀ to gl, aimR A H k fx e k to gl → ∃ g a f, f_Pl_aim K G S = some (1, rSt (aSt S g a (nI (mvN A H fx e k))) f (nI (rml A H fx e gl k).length)) ∧ (∀ c, 2 ≤ c → c < k + 2 → g c = nI (gl c)) ∧ arr f (rml A H fx e gl k)) ∧ ((∃ i, i < k ∧ aimB A H k fx e i) → ∃ g a m, f_Pl_aim K G S = some (0, aSt S g a m)) := by
  have h0 := h
  obtain ⟨⟨hA, hH, hk0, hB, -, -, -, hAk⟩, ⟨hG, hN, hBN, hkN⟩, hS, hf, hn, he⟩ := h
  obtain ⟨a1, a2, a3⟩ := qC_aim20 (K := K) (G := G) (S := S) hB.2 (by rw [hG, hBN]) (nI (k + 2)) (B + 2) 0 K S.w_Pl_aimedAt (by omega) (by omega) (fun b hb => absurd hb (Nat.not_lt_zero _))
  have a3 : f_Pl_aim_20 K G K (nI (k + 2)) 0 S = f_Pl_aim_51 K G K (nI (k + 2)) (nI 2) (nI 2) (aSt S S.w_Tb_goal a1 (nI 0)) := a3
  have hst : f_Pl_aim K G S = f_Pl_aim_51 K G K (nI (k + 2)) (nI 2) (nI 2) (aSt S S.w_Tb_goal a1 (nI 0)) := by
    unfold f_Pl_aim
    rw [hS.2.2.1, show (2 : Int32) = nI 2 from rfl, nI_add, hG, if_neg (nI_nlt (by omega) (by omega)), q_l, a3]
  have hmain := qC_aim51 (K := K) (by omega) h0 k 0 K 2 (fun _ => 0) S.w_Tb_goal a1 (by omega) (by omega) ⟨rfl, rfl⟩ (fun c c1 c2 => by omega) (fun t t1 t2 => by rw [a2 t t2, b01_f (fun ⟨x, hx⟩ => by have hx : 0 = t := hx; omega)])
  rw [hst]
  rcases hmain with ⟨to', gl', g', a', m1, m2, m3, m4⟩ | ⟨i, g', a', m', m1, m2, m3⟩
  · have m4 : f_Pl_aim_51 K G K (nI (k + 2)) (nI 2) (nI 2) (aSt S S.w_Tb_goal a1 (nI 0)) = _ := m4
    refine ⟨fun to gl hR => ?_, fun ⟨i, i1, i2⟩ => absurd i2 (aimR_no k to' gl' m1 i i1)⟩
    obtain ⟨rfl, rfl⟩ := aimR_det _ _ _ _ _ m1 hR
    obtain ⟨f, c1, c2⟩ := qC_findRooms (K := K) (gl := gl') (by omega) (aimC_st (g := g') (a := a') (m := nI (mvN A H fx e k)) h0) m3
    refine ⟨g', a', f, ?_, m2, c1⟩
    rw [m4, c2, q_b]
  · have m3 : f_Pl_aim_51 K G K (nI (k + 2)) (nI 2) (nI 2) (aSt S S.w_Tb_goal a1 (nI 0)) = _ := m3
    exact ⟨fun to gl hR => absurd m2 (aimR_no k to gl hR i m1), fun _ => ⟨g', a', m', m3⟩⟩
