theorem qC_dirL {K N t m i fk : Nat} {G0 : CG} {D E : Nat → Int32} {g ks kcs : Nat → Nat} {tk0 ch : List Nat} {S0 : CS} (hK : 10000 ≤ K) (hS0 : cIs N E G0 S0) (hH : agH D E) (hA : agC N D E g) (h : hdOk N D) (hN : N ≤ 1024) (hcp : capOk N D m) (hm : m ≤ 4000) (hcl : ∀ x ∈ ch, isCl N D x ∧ ent D x ≠ 0) (hn : ch.Nodup) (hl : ch.length ≤ N / 2 + 2) (hd : ∀ x ∈ ch, x ∉ tk0) (h1 : 1 ≤ fk) (hki : ks i = fk) (hks : ∀ j, i < j → ks j = 0 ∧ kcs j = 0) (hro : ∀ q, q < ch.length → S0.w_Rd_road q = nI ((ch.map g).getD q 0)) : ∀ (d s k : Nat) (z : SS) (G : CG) (S : CS), s + d = ch.length * 16 * hc D → d < k → scC N t D E (mpP D g) ks kcs i fk tk0 ch s z S0 G S → (∀ s' z', dirL N D i fk ch d s z = .ok (s', z') → ∃ G' S', f_Rd_readDirectory_118 K k (nI i) (nI (ch.length * 16 * hc D)) (nI s) G S = f_Rd_readDirectory_288 K (nI i) (nI s') G' S' ∧ scC N t D E (mpP D g) ks kcs i fk tk0 ch s' z' S0 G' S') ∧ (∀ e, dirL N D i fk ch d s z = .error e → ∃ G' S', f_Rd_readDirectory_118 K k (nI i) (nI (ch.length * 16 * hc D)) (nI s) G S = some (nI e, G', S') ∧ coC S' = coC S0 ∧ gOk N G' ∧ gLim t G') := by
  have hC := (hd_facts h hN).1
  have hcl' : ∀ x ∈ ch, isCl N D x := fun x hx => (hcl x hx).1
  have htot : ch.length * 16 * hc D < 2 ^ 20 := by
    have := Nat.mul_le_mul_right (hc D) (Nat.mul_le_mul_right 16 (show ch.length ≤ 514 by omega))
    rcases hC with w | w | w <;> rw [w] at this ⊢ <;> omega
  intro d
  induction d with
  | zero =>
    intro s k z G S hs hk hI
    obtain ⟨k, rfl⟩ : ∃ q, k = q + 1 := ⟨k - 1, by omega⟩
    rw [dirL, f_Rd_readDirectory_118, if_pos (nI_le (by omega) (by omega))]
    refine ⟨fun s' z' e => ?_, fun e he => (by cases he)⟩
    cases e
    exact ⟨G, S, rfl, hI⟩
  | succ d ih =>
    intro s k z G S hs hk hI
    obtain ⟨k, rfl⟩ : ∃ q, k = q + 1 := ⟨k - 1, by omega⟩
    rw [dirL]
    by_cases w : o1 D (plS D ch s) = 0
    · rw [cif_t w]
      refine ⟨fun s' z' e => ?_, fun e he => (by cases he)⟩
      cases e
      refine ⟨G, S, ?_, hI⟩
      obtain ⟨f1, v1, hg, hz, hci, hmz, hii, hfk⟩ := hI
      have hS : cIs N E G S := cIs_co f1.1 (hg.1.1.trans hS0.1.symm) hS0
      obtain ⟨y1, y2⟩ := mp_slq h hN hA hcl (show s < ch.length * 16 * hc D by omega)
      have em := mpP_pl (g := g) h hN hcl' (show s < ch.length * 16 * hc D by omega)
      rw [em] at y1 y2
      have hpl : f_Tb_slotPlace_Rdroad K G S (nI s) = some (nI (plS D (ch.map g) s), S) := by
        refine qC_slotPl (ch := ch.map g) hS hH h hN (fun x hx => ?_) (by rw [List.length_map]; exact hl) (fun q hq => ?_) (by rw [List.length_map]; omega)
        · obtain ⟨y, hy, rfl⟩ := List.mem_map.mp hx
          exact (hA y (hcl y hy).1 (hcl y hy).2).1
        · rw [List.length_map] at hq
          rw [f1.2]; exact hro q hq
      rw [f_Rd_readDirectory_118, if_neg (nI_ge (by omega) (by omega)), hpl, q_c, rV1 E hS.1 hS.2.1 hN (by omega), q_c, slq_0 y1, w, if_pos (show nI 0 = 0 from rfl)]
    · rw [cif_f w]
      obtain ⟨q1, q2⟩ := qC_slotstep (k := k) hK hS0 hH hA h hN hcp hm hcl hn hl hd h1 hki hks hro rfl (show s < ch.length * 16 * hc D by omega) hI w
      cases hsl : slS N D i fk s (plS D ch s) z with
      | ok z1 =>
        obtain ⟨G1, S1, r1, r2⟩ := q1 z1 hsl
        rw [r1, exb_o]
        exact ih (s + 1) k z1 G1 S1 (by omega) (by omega) r2
      | error e1 =>
        obtain ⟨G1, S1, r1, r2⟩ := q2 e1 hsl
        rw [r1, exb_e]
        refine ⟨fun s' z' e => (by cases e), fun e h => ?_⟩
        cases h
        exact ⟨G1, S1, rfl, r2⟩
theorem qC_followW {K N x : Nat} {G : CG} {D E : Nat → Int32} {S : CS} {tk : List Nat} (hK : 1000 ≤ K) (hS : cIs N E G S) (hH : agH D E) (h : hdOk N D) (hN : N ≤ 1024) (htk : tkR N S.w_Rd_taken tk) (hx : x < 2 ^ 32) : (∀ ch, fo N D x tk = some ch → f_Rd_follow_Rdroad K G S (nI x) = some (nI ch.length, chC_road S ch)) ∧ (fo N D x tk = none → ∃ a b, f_Rd_follow_Rdroad K G S (nI x) = some (-nI 1, (S.u_w_Rd_taken a).u_w_Rd_road b)) := by
  have hEk : hdOk N E := (agH_ok hH).mpr h
  have hfc := hd_facts h hN
  have hfE : ∀ x tk, fo N E x tk = fo N D x tk := fun x tk => agH_fol hH h hN _ x tk
  by_cases g : x < 2 ^ 28
  · have := qV_follow_road (K := K) (x := x) hK hS hEk hN htk g
    rw [hfE] at this
    exact this
  · have e : fo N D x tk = none := by
      unfold fo
      rw [fol, if_neg (fun z => by have := z.1; omega)]
    refine ⟨fun ch hcc => (by rw [e] at hcc; cases hcc), fun _ => ⟨S.w_Rd_taken, S.w_Rd_road, ?_⟩⟩
    obtain ⟨k, rfl⟩ : ∃ m, K = m + 1 := ⟨K - 1, by omega⟩
    have hnx : f_Tb_nextOf (k + 1) G S (nI x) = some (0, S) := by
      unfold f_Tb_nextOf
      have c1 : nI x < 2 ↔ x < 2 ∨ 2 ^ 31 ≤ x := q_ltW hx (by decide)
      have hcls : S.v_Tb_clusters = nI (hk N D) := by rw [hS.2.2.2.2.2.2.2.2.2.1, (agH_n hH).2.2.2.2.2.2]
      by_cases w : 2 ^ 31 ≤ x
      · rw [if_pos (c1.mpr (Or.inr w))]; rfl
      · rw [if_neg (fun z => by have := c1.mp z; omega), hcls, show (2 : Int32) = nI 2 from rfl, nI_add, if_pos (nI_le (by omega) (by omega))]; rfl
    unfold f_Rd_follow_Rdroad
    rw [f_Rd_follow_Rdroad_5]
    rw [if_neg (show ¬ nI (G.n / 2 + 2) ≤ 0 from nI_nle (by omega) (by rw [hS.1]; omega)), hnx, q_c, if_pos rfl]
    rfl
/-- where a cluster stands, if those that move stand at their goals -/
def gF (mv : Nat) (gl : Nat → Nat) (c : Nat) : Nat := if mv = 1 ∧ gl c ≠ 0 then gl c else c
theorem qC_goal {K N c : Nat} {G : CG} {S : CS} {gl : Nat → Nat} (hG : G.n = N) (hN : N ≤ 1024) (hg : ∀ c, c < N / 2 + 2 → S.w_Tb_goal c = nI (gl c)) (hc : c < N / 2 + 2) : f_Tb_goalOf K G S (nI c) = some (nI (gl c), S) := by
  unfold f_Tb_goalOf
  rw [if_neg (nI_pos (by omega)), hG, if_neg (nI_ge hc (by omega)), q_g (q_in hc (by omega)), nI_clamp (by omega), hg c hc]
theorem qC_road27 {K N i mv : Nat} {G : CG} {S : CS} {gl : Nat → Nat} {ch : List Nat} (hK : 1000 ≤ K) (hG : G.n = N) (hN : N ≤ 1024) (hmv : mv = 0 ∨ mv = 1) (hg : ∀ c, c < N / 2 + 2 → S.w_Tb_goal c = nI (gl c)) (hgl : ∀ c, gl c < 2 ^ 31) (hcl : ∀ x ∈ ch, x < N / 2 + 2) (hl : ch.length ≤ N / 2 + 2) (hr : ∀ q, q < ch.length → S.w_Rd_road q = nI (ch.getD q 0)) : ∃ f, f_Rd_readDirectory_27 K K (nI i) (nI mv) (nI ch.length) 0 G S = f_Rd_readDirectory_91 K (nI i) (nI ch.length) G (S.u_w_Rd_road f) ∧ ∀ q, q < ch.length → f q = nI ((ch.map (gF mv gl)).getD q 0) := by
  have hmap : ∀ q, q < ch.length → (ch.map (gF mv gl)).getD q 0 = gF mv gl (ch.getD q 0) := fun q hq => by
    rw [List.getD_eq_getElem?_getD, List.getD_eq_getElem?_getD, List.getElem?_map, List.getElem?_eq_getElem hq]
    rfl
  rcases hmv with e | e
  · subst e
    obtain ⟨k, rfl⟩ : ∃ m, K = m + 1 := ⟨K - 1, by omega⟩
    refine ⟨S.w_Rd_road, ?_, fun q hq => ?_⟩
    · rw [f_Rd_readDirectory_27, if_pos (show nI 0 = 0 from rfl)]
      rfl
    · rw [hr q hq, hmap q hq]
      unfold gF
      rw [if_neg (fun w => by have := w.1; omega)]
  · subst e
    have key := lp (F := fun k q T => f_Rd_readDirectory_27 K k (nI i) (nI 1) (nI ch.length) (nI q) G T) (Inv := fun q T => ∃ f, T = S.u_w_Rd_road f ∧ ∀ r, r < ch.length → f r = nI (if r < q then (ch.map (gF 1 gl)).getD r 0 else ch.getD r 0)) (Post := fun r => ∃ f, r = f_Rd_readDirectory_91 K (nI i) (nI ch.length) G (S.u_w_Rd_road f) ∧ ∀ q, q < ch.length → f q = nI ((ch.map (gF 1 gl)).getD q 0)) (n := ch.length) ?_ ?_ ch.length 0 K S (by omega) (by omega) ?_
    · exact key
    · intro q T k hq hI
      left
      obtain ⟨f, rfl, hf⟩ := hI
      have hx : ch.getD q 0 < N / 2 + 2 := hcl _ (getD_mem hq)
      have hfq := hf q hq
      rw [if_neg (Nat.lt_irrefl _)] at hfq
      have hin : lf_in (nI q) (G.n / 2 + 2) := by rw [hG]; exact q_in (by omega) (by omega)
      have hgo : f_Tb_goalOf K G (S.u_w_Rd_road f) (nI (ch.getD q 0)) = some (nI (gl (ch.getD q 0)), S.u_w_Rd_road f) := qC_goal (S := S.u_w_Rd_road f) hG hN hg hx
      have hcl' : (nI q).toNatClampNeg = q := nI_clamp (by omega)
      refine ⟨S.u_w_Rd_road (upd f q (nI (gF 1 gl (ch.getD q 0)))), ⟨_, rfl, fun r hr' => ?_⟩, ?_⟩
      · by_cases w : r = q
        · rw [w, pk_us, if_pos (by omega), hmap q hq]
        · rw [pk_un w, hf r hr']
          by_cases y : r < q
          · rw [if_pos y, if_pos (by omega)]
          · rw [if_neg y, if_neg (by omega)]
      · show f_Rd_readDirectory_27 K (k + 1) (nI i) (nI 1) (nI ch.length) (nI q) G (S.u_w_Rd_road f) = f_Rd_readDirectory_27 K k (nI i) (nI 1) (nI ch.length) (nI (q + 1)) G _
        rw [f_Rd_readDirectory_27, if_neg (show ¬ nI 1 = 0 by decide), if_neg (nI_ge hq (by omega))]
        unfold f_Rd_readDirectory_84
        have e1 : (S.u_w_Rd_road f).w_Rd_road = f := rfl
        simp only [q_g hin]
        rw [hcl', e1, hfq, hgo, q_c]
        unfold gF
        by_cases w : gl (ch.getD q 0) = 0
        · rw [w, if_pos (show nI 0 = 0 from rfl), q_l, q_l, nI_1, e1, hfq, if_neg (fun y => y.2 rfl)]
          rfl
        · have := hgl (ch.getD q 0)
          rw [if_neg (nI_ne0 (by omega) (by omega)), e1, hfq, hgo, q_c, q_l, q_l, nI_1, if_pos ⟨rfl, w⟩]
          rfl
    · intro T k hI
      obtain ⟨f, rfl, hf⟩ := hI
      refine ⟨f, ?_, fun q hq => ?_⟩
      · show f_Rd_readDirectory_27 K (k + 1) (nI i) (nI 1) (nI ch.length) (nI ch.length) G (S.u_w_Rd_road f) = _
        rw [f_Rd_readDirectory_27, if_neg (show ¬ nI 1 = 0 by decide), if_pos (Int32.le_refl _)]
      · rw [hf q hq, if_pos hq]
    · exact ⟨S.w_Rd_road, rfl, fun r hr' => by rw [if_neg (Nat.not_lt_zero _)]; exact hr r hr'⟩
