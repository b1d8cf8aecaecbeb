/-! The record laid by the reference: the clusters of directories. -/
theorem ql_rc276 {K i : Nat} {N : Nat} {D : Nat → Int32} {fks : List Nat} {its : List It} {A H k B P g0 r : Nat} {gl : Nat → Nat} {rm ch l dl : List Nat} {T : MS} {n : Nat} {p : Nat → Prop} {rec : Int32 → Int32 → MS → Option MS} (hK : 2000 ≤ K) (h : tnM N D fks its A H k B P g0 r gl rm T) (hgl : ∀ c, gl c < k + 2) (hcl : ∀ c ∈ ch, 2 ≤ c ∧ c < k + 2 ∧ 2 ≤ stnd gl c) (hl : ch.length ≤ 514) (hle : l = chL A H gl ch) (hf5 : dl.length + l.length ≤ 512) (hlb : ∀ b ∈ l, b < 512) (hnd : l.Nodup) (hi : i < 5000) {F0 : Nat → Int32} : ∀ (d q w : Nat) (F U : Nat → Int32) (R : Rg), q + d = l.length → d < w → (∀ s, s < ch.length → R.2.2.2.2.2.1 s = nI (ch.getD s 0)) → R.2.2.2.2.2.2 = nI ch.length → (∀ s, s < dl.length + q → R.1 s = nI ((dl ++ l).getD s 0)) → (∀ s, s < q → bkA F (l.getD s 0) (fun j => D (1024 * srB A H ch s + j))) → (∀ x, (∀ s, s < q → x < 1024 * l.getD s 0 ∨ 1024 * l.getD s 0 + 1024 ≤ x) → o1 F x = o1 F0 x) → uM U (fun c => p c ∨ c ∈ l.take q) → ∃ F' U' R', f_Mo_makeRecord_276 K rec w (nI (dl.length + q)) (nI i) (nI q) (qS T F U n R) = rec (nI (dl ++ l).length) (nI (i + 1)) (qS T F' U' n R') ∧ (∀ s, s < (dl ++ l).length → R'.1 s = nI ((dl ++ l).getD s 0)) ∧ (∀ s, s < l.length → bkA F' (l.getD s 0) (fun j => D (1024 * srB A H ch s + j))) ∧ (∀ x, offB l x → o1 F' x = o1 F0 x) ∧ uM U' (fun c => p c ∨ c ∈ l) := by
  have hT := h.2.1.2.1
  have hpl := h.2.1.1
  have hH : 1 ≤ H ∧ H ≤ 4 := by have := hpl.2.1; omega
  have hll : l.length = ch.length * H := by rw [hle, chL_len]
  have hla : (dl ++ l).length = dl.length + l.length := List.length_append
  have hc2 : ∀ F U n R, (qS T F U n R).v_c / 2 = nI H := fun F U n R => by show T.v_c / 2 = _; rw [hT.2.1]; exact half (by omega)
  intro d
  induction d with
  | zero =>
    intro q w F U R e1 e2 h2 h7 h3 h4 h5 h6
    obtain ⟨w, rfl⟩ : ∃ m, w = m + 1 := ⟨w - 1, by omega⟩
    obtain rfl : q = l.length := by omega
    refine ⟨F, U, R, ?_, fun s hs => h3 s (by omega), h4, fun x hx => h5 x (fun s hs => hx _ (getD_mem hs)), fun c hc0 => ?_⟩
    · rw [f_Mo_makeRecord_276, show (qS T F U n R).v_links = nI ch.length from h7, hc2, pk_mul, if_pos (nI_le (by omega) (by omega))]
      unfold f_Mo_makeRecord_311
      rw [nI_1, q_l, hla]
    · rw [h6 c hc0, List.take_length]
  | succ d ih =>
    intro q w F U R e1 e2 h2 h7 h3 h4 h5 h6
    obtain ⟨w, rfl⟩ : ∃ m, w = m + 1 := ⟨w - 1, by omega⟩
    have hcp := ql_copied (K := K) (q := q) (F := F) (U := U) (n := n) (R := R) hK h hgl h2 hcl hl (by omega)
    rw [← hle] at hcp
    have hne : ∀ s, s < q → l.getD s 0 ≠ l.getD q 0 := fun s hs e => by have := nd_getD hnd (by omega) (by omega) e; omega
    have hgd : (dl ++ l).getD (dl.length + q) 0 = l.getD q 0 := by
      rw [List.getD_eq_getElem?_getD, List.getElem?_append_right (by omega), Nat.add_sub_cancel_left, ← List.getD_eq_getElem?_getD]
    obtain ⟨F', U', R', c1, c3, c4, c5, c6⟩ := ih (q + 1) w (cpB F D (l.getD q 0) (1024 * srB A H ch q) 1024) (upd U (l.getD q 0) (vp_nar .boolean 1)) (upd R.1 (dl.length + q) (nI (l.getD q 0)), R.2) (by omega) (by omega) h2 h7 (fun s hs => by
      show upd R.1 (dl.length + q) (nI (l.getD q 0)) s = _
      by_cases c : s = dl.length + q
      · rw [c, pk_us, hgd]
      · rw [pk_un c]; exact h3 s (by omega)) (fun s hs j hj => by
      rw [cpB_o1]
      by_cases c : s = q
      · rw [c, if_pos (by omega), Nat.add_sub_cancel_left]; rfl
      · have := hne s (by omega)
        rw [if_neg (by omega)]
        exact h4 s (by omega) j hj) (fun x hx => by
      have := hx q (by omega)
      rw [cpB_o1, if_neg (by omega)]
      exact h5 x (fun s hs => hx s (by omega))) (fun c hc0 => by
      rw [uM_upd h6 c hc0, take_s (by omega)]
      refine b01_iff ⟨fun y => ?_, fun y => ?_⟩
      · rcases y with (y | y) | y
        · exact Or.inl y
        · exact Or.inr (List.mem_append_left _ y)
        · exact Or.inr (List.mem_append_right _ (by rw [y]; exact List.mem_singleton.mpr rfl))
      · rcases y with y | y
        · exact Or.inl (Or.inl y)
        · rcases List.mem_append.mp y with z | z
          · exact Or.inl (Or.inr z)
          · exact Or.inr (List.mem_singleton.mp z))
    refine ⟨F', U', R', ?_, c3, c4, c5, c6⟩
    rw [f_Mo_makeRecord_276, show (qS T F U n R).v_links = nI ch.length from h7, hc2, pk_mul, if_neg (nI_ge (by omega) (by omega)), hcp, q_c, q_g (q_in (by omega) (by decide)), nI_clamp (by omega), q_l, nI_1, q_l, nI_1, q_l]
    exact c1
/-- the clusters of directory j have been copied -/
abbrev cpd (N : Nat) (D : Nat → Int32) (its : List It) (A H : Nat) (gl : Nat → Nat) (F : Nat → Int32) (j : Nat) : Prop := ∀ s, s < (chI N D its j).length * H → bkA F ((chL A H gl (chI N D its j)).getD s 0) (fun x => D (1024 * srB A H (chI N D its j) s + x))
theorem ql_rec246 {K : Nat} {N : Nat} {D : Nat → Int32} {fks : List Nat} {its : List It} {A H k B P g0 r : Nat} {gl : Nat → Nat} {rm l0 : List Nat} {T : MS} {n : Nat} {p : Nat → Prop} {F0 : Nat → Int32} (hK : 10000 ≤ K) (h : tnM N D fks its A H k B P g0 r gl rm T) (hgl : ∀ c, gl c < k + 2) (hcl : ∀ j, j < its.length → ∀ c ∈ chI N D its j, 2 ≤ c ∧ c < k + 2 ∧ 2 ≤ stnd gl c) (hf5 : (l0 ++ rcD N D its A H gl its.length).length ≤ 512) (hlb : ∀ b ∈ rcD N D its A H gl its.length, b < 512) (hnd : (rcD N D its A H gl its.length).Nodup) : ∀ (d i w : Nat) (F U : Nat → Int32) (R : Rg), i + d = its.length → d < w → (∀ s, s < (l0 ++ rcD N D its A H gl i).length → R.1 s = nI ((l0 ++ rcD N D its A H gl i).getD s 0)) → (∀ j, j < i → isDr D its j → cpd N D its A H gl F j) → (∀ x, offB (rcD N D its A H gl i) x → o1 F x = o1 F0 x) → uM U (fun c => p c ∨ c ∈ rcD N D its A H gl i) → ∃ F' U' R', f_Mo_makeRecord_246 K w (nI (l0 ++ rcD N D its A H gl i).length) (nI i) (qS T F U n R) = (f_Mo_inode_record K (qS T F' U' n R') 11 33024 1 0 0 0 (1024 * (nI (l0 ++ rcD N D its A H gl its.length).length).toInt64) (nI (l0 ++ rcD N D its A H gl its.length).length)).bind (fun S_33 => some S_33) ∧ (∀ s, s < (l0 ++ rcD N D its A H gl its.length).length → R'.1 s = nI ((l0 ++ rcD N D its A H gl its.length).getD s 0)) ∧ (∀ j, j < its.length → isDr D its j → cpd N D its A H gl F' j) ∧ (∀ x, offB (rcD N D its A H gl its.length) x → o1 F' x = o1 F0 x) ∧ uM U' (fun c => p c ∨ c ∈ rcD N D its A H gl its.length) := by
  have hM := h.1
  have hN := hM.1.2
  have ho := hM.2.2.2.1
  have hlen := ho.2.1
  have pre : ∀ d i, ∃ e, rcD N D its A H gl (i + d) = rcD N D its A H gl i ++ e := by
    intro d i
    induction d with
    | zero => exact ⟨[], (List.append_nil _).symm⟩
    | succ d ihd =>
      obtain ⟨e, he⟩ := ihd
      exact ⟨e ++ cif (isDr D its (i + d)) (chL A H gl (chI N D its (i + d))) [], by rw [← Nat.add_assoc, rcD, he, List.append_assoc]⟩
  intro d
  induction d with
  | zero =>
    intro i w F U R e1 e2 h1 h2 h3 h4
    obtain ⟨w, rfl⟩ : ∃ m, w = m + 1 := ⟨w - 1, by omega⟩
    obtain rfl : i = its.length := by omega
    refine ⟨F, U, R, ?_, h1, h2, h3, h4⟩
    rw [f_Mo_makeRecord_246, show (qS T F U n R).v_items = nI its.length from hM.2.2.1.1, if_pos (nI_le (Nat.le_refl _) (by omega))]
  | succ d ih =>
    intro i w F U R e1 e2 h1 h2 h3 h4
    obtain ⟨w, rfl⟩ : ∃ m, w = m + 1 := ⟨w - 1, by omega⟩
    have hi : i < its.length := by omega
    obtain ⟨e', he'⟩ := pre (its.length - (i + 1)) (i + 1)
    rw [show i + 1 + (its.length - (i + 1)) = its.length by omega] at he'
    rw [f_Mo_makeRecord_246, show (qS T F U n R).v_items = nI its.length from hM.2.2.1.1, if_neg (nI_ge (by omega) (by omega)), qM_isFolder (T := qS T F U n R) hM.2.1.1 hN hM.2.2.1 ho hi, q_c]
    by_cases g : isDr D its i
    · have e3 : rcD N D its A H gl (i + 1) = rcD N D its A H gl i ++ chL A H gl (chI N D its i) := by rw [rcD, cif_t g]
      obtain ⟨w1, w2, w3⟩ := hM.2.2.2.2.2.2.2.1 i hi
      obtain ⟨fch, v1, v2⟩ := qM_walk (K := K) (T := qS T F U n R) (by omega) hM.1.1 hN hM.2.1 w1 w2 w3
      have v1 : f_Mo_walk K (qS T F U n R) (nI (begI D its i)) = some (qS T F U n (R.1, R.2.1, R.2.2.1, R.2.2.2.1, R.2.2.2.2.1, fch, nI (chI N D its i).length)) := v1
      have hsub : ∀ b ∈ chL A H gl (chI N D its i), b ∈ rcD N D its A H gl its.length := fun b hb => by rw [he', e3]; exact List.mem_append_left _ (List.mem_append_right _ hb)
      have hnd2 : (rcD N D its A H gl i ++ chL A H gl (chI N D its i)).Nodup := by
        rw [he', e3] at hnd
        exact (List.nodup_append.mp hnd).1
      have hlen2 : (l0 ++ rcD N D its A H gl i).length + (chL A H gl (chI N D its i)).length ≤ 512 := by
        have : (l0 ++ rcD N D its A H gl its.length).length = (l0 ++ rcD N D its A H gl i).length + (chL A H gl (chI N D its i)).length + e'.length := by rw [he', e3]; simp only [List.length_append]; omega
        omega
      obtain ⟨F1, U1, R1, c1, c2, c3, c4, c5⟩ := ql_rc276 (K := K) (i := i) (n := n) (p := fun c => p c ∨ c ∈ rcD N D its A H gl i) (dl := l0 ++ rcD N D its A H gl i) (rec := f_Mo_makeRecord_246 K w) (F0 := F) (by omega) h hgl (hcl i hi) w1 rfl hlen2 (fun b hb => hlb b (hsub b hb)) (List.nodup_append.mp hnd2).2.1 (by omega) (chL A H gl (chI N D its i)).length 0 K F U (R.1, R.2.1, R.2.2.1, R.2.2.2.1, R.2.2.2.2.1, fch, nI (chI N D its i).length) (by omega) (by omega) v2 rfl (fun s hs => by
        rw [Nat.add_zero] at hs
        rw [show R.1 s = nI ((l0 ++ rcD N D its A H gl i).getD s 0) from h1 s hs, List.getD_eq_getElem?_getD, List.getD_eq_getElem?_getD, List.getElem?_append_left hs]) (fun s hs => absurd hs (Nat.not_lt_zero _)) (fun x _ => rfl) (fun c hc0 => by
        rw [h4 c hc0]
        exact b01_iff ⟨Or.inl, fun y => y.resolve_right (fun z => by cases z)⟩)
      have e4 : l0 ++ rcD N D its A H gl (i + 1) = l0 ++ rcD N D its A H gl i ++ chL A H gl (chI N D its i) := by rw [e3, List.append_assoc]
      obtain ⟨F', U', R', d1, d2, d3, d4, d5⟩ := ih (i + 1) w F1 U1 R1 (by omega) (by omega) (by rw [e4]; exact c2) (fun j hj hjd => by
        by_cases c : j = i
        · rw [c]
          intro s hs
          exact c3 s (by rw [chL_len]; exact hs)
        · intro s hs x hx
          rw [c4 _ (fun b hb => by
            have m1 : (chL A H gl (chI N D its j)).getD s 0 ∈ rcD N D its A H gl i := by
              obtain ⟨e5, he5⟩ := pre (i - (j + 1)) (j + 1)
              rw [show j + 1 + (i - (j + 1)) = i by omega] at he5
              rw [he5, rcD, cif_t hjd]
              exact List.mem_append_left _ (List.mem_append_right _ (getD_mem (by rw [chL_len]; exact hs)))
            have := (List.nodup_append.mp hnd2).2.2 _ m1 b hb
            omega)]
          exact h2 j (by omega) hjd s hs x hx) (fun x hx => by
        rw [e3] at hx
        rw [c4 x (fun b hb => hx b (List.mem_append_right _ hb))]
        exact h3 x (fun b hb => hx b (List.mem_append_left _ hb))) (fun c hc0 => by
        rw [c5 c hc0, e3]
        exact b01_iff ⟨fun y => y.elim (fun z => z.imp id (fun u => List.mem_append_left _ u)) (fun z => Or.inr (List.mem_append_right _ z)), fun y => y.elim (fun z => Or.inl (Or.inl z)) (fun z => (List.mem_append.mp z).elim (fun u => Or.inl (Or.inr u)) Or.inr)⟩)
      refine ⟨F', U', R', ?_, d2, d3, d4, d5⟩
      rw [b01_t (show i = 0 ∨ o1 D (isp (itr its i) + 11) / 16 % 2 = 1 from g), if_neg (show ¬ nI 1 = 0 by decide), qM_beginOf (T := qS T F U n R) hM.2.1.1 hM.2.1.2.2.2.2.2.2.1 hN hM.2.2.1 ho hi, q_c, v1, q_b]
      rw [← e4] at c1
      rw [Nat.add_zero] at c1
      have c1 : f_Mo_makeRecord_276 K (f_Mo_makeRecord_246 K w) K (nI (l0 ++ rcD N D its A H gl i).length) (nI i) 0 _ = _ := c1
      rw [c1]
      exact d1
    · have e3 : rcD N D its A H gl (i + 1) = rcD N D its A H gl i := by rw [rcD, cif_f g, List.append_nil]
      obtain ⟨F', U', R', d1, d2, d3, d4, d5⟩ := ih (i + 1) w F U R (by omega) (by omega) (by rw [e3]; exact h1) (fun j hj hjd => by
        by_cases c : j = i
        · rw [c] at hjd; exact absurd hjd g
        · exact h2 j (by omega) hjd) (by rw [e3]; exact h3) (by rw [e3]; exact h4)
      refine ⟨F', U', R', ?_, d2, d3, d4, d5⟩
      rw [b01_f (show ¬ (i = 0 ∨ o1 D (isp (itr its i) + 11) / 16 % 2 = 1) from g), if_pos (show nI 0 = 0 from rfl)]
      unfold f_Mo_makeRecord_311
      rw [e3] at d1
      rw [nI_1, q_l]
      exact d1
