/-! The record laid by the reference, whole. -/
theorem ql_rec2 {K : Nat} {D : Nat → Int32} {rm : List Nat} {T : MS} {p : Nat → Prop} {F0 : Nat → Int32} (hK : 3000 ≤ K) (hD : T.v_disk = D) (hbd : bdA T rm) (h3 : 3 ≤ rm.length) : ∀ (d q w : Nat) (F U : Nat → Int32) (R : Rg), q + d = 3 → d < w → (∀ s, s < q → R.1 s = nI (rm.getD s 0)) → (∀ s, s < q → bkA F (rm.getD s 0) (rvX D s)) → (∀ x, (∀ s, s < q → farR rm s x) → o1 F x = o1 F0 x) → uM U (fun c => p c ∨ c ∈ rmF rm 0 q) → ∃ F' U' R', f_Mo_makeRecord_2 K w (nI q) (qS T F U q R) = f_Mo_makeRecord_104 K K 3 3 (qS T F' U' 3 R') ∧ (∀ s, s < 3 → R'.1 s = nI (rm.getD s 0)) ∧ (∀ s, s < 3 → bkA F' (rm.getD s 0) (rvX D s)) ∧ (∀ x, (∀ s, s < 3 → farR rm s x) → o1 F' x = o1 F0 x) ∧ uM U' (fun c => p c ∨ c ∈ rmF rm 0 3) := by
  have hrl := hbd.2.1
  intro d
  induction d with
  | zero =>
    intro q w F U R e1 e2 g1 g2 g3 g4
    obtain ⟨w, rfl⟩ : ∃ m, w = m + 1 := ⟨w - 1, by omega⟩
    obtain rfl : q = 3 := by omega
    refine ⟨F, U, R, ?_, g1, g2, g3, g4⟩
    rw [f_Mo_makeRecord_2, if_pos (show (3 : Int32) ≤ nI 3 from nI_le (a := 3) (by omega) (by omega))]
  | succ d ih =>
    intro q w F U R e1 e2 g1 g2 g3 g4
    obtain ⟨w, rfl⟩ : ∃ m, w = m + 1 := ⟨w - 1, by omega⟩
    have hb := hbd.2.2.1 _ (getD_mem (l := rm) (j := q) (by omega))
    have hne : ∀ s, s < q → rm.getD s 0 ≠ rm.getD q 0 := fun s hs e => by have := nd_getD hbd.2.2.2 (by omega) (by omega) e; omega
    obtain ⟨F', U', R', c1, c2, c3, c4, c5⟩ := ih (q + 1) w (gpB F (rvX D q) (1024 * rm.getD q 0) 1024) (upd U (rm.getD q 0) (vp_nar .boolean 1)) (upd R.1 q (nI (rm.getD q 0)), R.2) (by omega) (by omega) (fun s hs => by
      show upd R.1 q (nI (rm.getD q 0)) s = _
      by_cases c : s = q
      · rw [c, pk_us]
      · rw [pk_un c]; exact g1 s (by omega)) (fun s hs j hj => by
      rw [gpB_o1]
      by_cases c : s = q
      · rw [c, if_pos (by omega), Nat.add_sub_cancel_left]
      · have := hne s (by omega)
        rw [if_neg (by omega)]
        exact g2 s (by omega) j hj) (fun x hx => by
      have := hx q (by omega)
      unfold farR at this
      rw [gpB_o1, if_neg (by omega)]
      exact g3 x (fun s hs => hx s (by omega))) (fun c hc0 => by
      rw [uM_upd g4 c hc0, rmF_app, Nat.zero_add]
      exact b01_iff ⟨fun y => y.elim (fun z => z.imp id (fun u => List.mem_append_left _ u)) (fun z => Or.inr (List.mem_append_right _ (by rw [z]; exact List.mem_singleton.mpr rfl))), fun y => y.elim (fun z => Or.inl (Or.inl z)) (fun z => (List.mem_append.mp z).elim (fun u => Or.inl (Or.inr u)) (fun u => Or.inr (List.mem_singleton.mp u)))⟩)
    refine ⟨F', U', R', ?_, c2, c3, c4, c5⟩
    rw [f_Mo_makeRecord_2, if_neg (show ¬ (3 : Int32) ≤ nI q from nI_ge (b := 3) (by omega) (by omega)), ql_build hbd (by omega), q_c, q_g (q_in (by omega) (by decide)), nI_clamp (by omega), q_l]
    have e9 := ql_rec19 (K := K) (q := q) (b := rm.getD q 0) (D := D) (T := T) (F := F) (U := upd U (rm.getD q 0) (vp_nar .boolean 1)) (n := q + 1) (R := (upd R.1 q (nI (rm.getD q 0)), R.2)) (rec := f_Mo_makeRecord_2 K w) hD (by omega) hb pk_us 1024 0 K (by omega) (by omega)
    exact e9.trans c1
/-- the sectors ahead of the clusters, as they were -/
def sYs (D : Nat → Int32) (s : Nat) : Nat → Int32 := fun j => D (512 * s + j)
theorem ql_record {K : Nat} {N : Nat} {D : Nat → Int32} {fks : List Nat} {its : List It} {A H k B P g0 r : Nat} {gl : Nat → Nat} {rm : List Nat} {T : MS} {F U : Nat → Int32} {R : Rg} {p : Nat → Prop} (hK : 20000 ≤ K) (h : tnM N D fks its A H k B P g0 r gl rm T) (hgl : ∀ c, gl c < k + 2) (hcl : ∀ j, j < its.length → ∀ c ∈ chI N D its j, 2 ≤ c ∧ c < k + 2 ∧ 2 ≤ stnd gl c) (hf5 : (recL N D its A H gl rm).length ≤ 512) (hrm : ∀ t, t < rm.length → A ≤ rm.getD t 0 ∧ rm.getD t 0 ∉ rcD N D its A H gl its.length) (hrc : ∀ b ∈ rcD N D its A H gl its.length, A ≤ b ∧ b < 512 ∧ (inPos A P (8 * r) 11 + 128 ≤ 1024 * b ∨ 1024 * b + 1024 ≤ inPos A P (8 * r) 11)) (hnd : (rcD N D its A H gl its.length).Nodup) (hin : 3 + indN (recL N D its A H gl rm).length ≤ rm.length) (hz : ∀ q, q < 524288 → o1 F q = 0) (ha0 : 1024 * A ≤ inPos A P (8 * r) 11 ∧ inPos A P (8 * r) 11 + 128 ≤ 524288) (hd : ∀ t, t < rm.length → inPos A P (8 * r) 11 + 128 ≤ 1024 * rm.getD t 0 ∨ 1024 * rm.getD t 0 + 1024 ≤ inPos A P (8 * r) 11) (hU : uM U p) : ∃ F' U' R', f_Mo_makeRecord K (qS T F U 0 R) = some (qS T F' U' (3 + indN (recL N D its A H gl rm).length) R') ∧ agW F' (kpS rm (sYs D)) ∧ (∀ q, 3072 ≤ q → q < 1024 * A → o1 F' q = if 3584 ≤ q ∧ q < 4096 then o1 (mrkX P r) (q - 3584) else o1 D q) ∧ (∀ j, j < its.length → isDr D its j → cpd N D its A H gl F' j) ∧ agW F' (inW rm 3 (recL N D its A H gl rm) (indN (recL N D its A H gl rm).length)) ∧ (∀ q, inPos A P (8 * r) 11 ≤ q → q < inPos A P (8 * r) 11 + 128 → o1 F' q = o1 (inX Zd (inPos A P (8 * r) 11) 33024 ((recL N D its A H gl rm).length * 1024) true (fun _ => 0) 1 (recL N D its A H gl rm) rm 3) q) ∧ (∀ q, q < 524288 → (q < 3072 ∨ 1024 * A ≤ q) → (q < inPos A P (8 * r) 11 ∨ inPos A P (8 * r) 11 + 128 ≤ q) → offB (rcD N D its A H gl its.length) q → (∀ s, s < 3 + indN (recL N D its A H gl rm).length → farR rm s q) → o1 F' q = 0) ∧ uM U' (fun c => (((p c ∨ c ∈ rmF rm 0 3) ∨ (3 ≤ c ∧ c < A)) ∨ c ∈ rcD N D its A H gl its.length) ∨ c ∈ rmF rm 3 (indN (recL N D its A H gl rm).length)) ∧ arr R'.1 (recL N D its A H gl rm) := by
  have hh := h
  obtain ⟨hM, ⟨hpl, hT, hI, hr, hil⟩, hbd, hmv, -, -⟩ := h
  have hA := hpl.1
  have hlen := hM.2.2.2.1.2.1
  have hlen1 := hM.2.2.2.1.1
  have hl0 : (rmF rm 0 3 ++ blk 0 (A - 3) 3).length = A := by rw [List.length_append, rmF_len, blk_len]; omega
  have hbg : ∀ d j s, s < d → (blk 0 d j).getD s 0 = j + s := by
    intro d
    induction d with
    | zero => intro j s hs; omega
    | succ d ihd =>
      intro j s hs
      cases s with
      | zero => show 0 + j = j + 0; omega
      | succ s =>
        show (blk 0 d (j + 1)).getD s 0 = _
        rw [ihd (j + 1) s (by omega)]
        omega
  obtain ⟨F1, U1, R1, a1, a2, a3, a4, a5⟩ := ql_rec2 (K := K) (p := p) (F0 := F) (by omega) hM.2.1.1 hbd (by omega) 3 0 K F U R (by omega) (by omega) (fun s hs => absurd hs (Nat.not_lt_zero _)) (fun s hs => absurd hs (Nat.not_lt_zero _)) (fun x _ => rfl) (fun c hc0 => by
    rw [hU c hc0]
    exact b01_iff ⟨Or.inl, fun y => y.resolve_right (fun z => by cases z)⟩)
  obtain ⟨F2, U2, R2, b1, b2, b3, b4, b5, b6, b7⟩ := ql_rec104 (K := K) (A := A) (n := 3) (p := fun c => p c ∨ c ∈ rmF rm 0 3) (F0 := F1) (by omega) hM.2.1.1 hT.1 (by omega) (A - 3) 3 K F1 U1 R1 (by omega) (by omega) (by omega) (fun s s1 s2 => by omega) (fun q q1 q2 => by omega) (fun q _ => rfl) (fun c hc0 => by
    rw [a5 c hc0]
    exact b01_iff ⟨Or.inl, fun y => y.resolve_right (fun z => by omega)⟩)
  have hP2 : P ≤ 256 := by have := hpl.2.2.2.2.1; omega
  obtain ⟨F3, c1, c2⟩ := ql_rec178 (K := K) (A := A) (P := P) (r := r) (T := T) (F := F2) (U := U2) (n := 3) (R := R2) (by omega) hT.2.2.2.2.1 hP2 hI hpl.2.2.2.2.2.2.1
  have e0 : (rmF rm 0 3 ++ blk 0 (A - 3) 3) ++ rcD N D its A H gl its.length = recL N D its A H gl rm := rfl
  obtain ⟨F4, U4, R4, d1, d2, d3, d4, d5⟩ := ql_rec246 (K := K) (n := 3) (p := fun c => (p c ∨ c ∈ rmF rm 0 3) ∨ (3 ≤ c ∧ c < A)) (l0 := rmF rm 0 3 ++ blk 0 (A - 3) 3) (F0 := F3) (by omega) hh hgl hcl (by rw [e0]; exact hf5) (fun b hb => (hrc b hb).2.1) hnd its.length 0 K F3 U2 R2 (by omega) (by omega) (fun s hs => by
    rw [rcD, List.append_nil] at hs ⊢
    rw [hl0] at hs
    by_cases c : s < 3
    · rw [b2 s c, a2 s c, List.getD_eq_getElem?_getD (l := rmF rm 0 3 ++ _), List.getElem?_append_left (by rw [rmF_len]; exact c), ← List.getD_eq_getElem?_getD, rmF_getD rm 3 0 s c, Nat.zero_add]
    · rw [b3 s (by omega) hs, List.getD_eq_getElem?_getD (l := rmF rm 0 3 ++ _), List.getElem?_append_right (by rw [rmF_len]; omega), rmF_len, ← List.getD_eq_getElem?_getD, hbg _ _ _ (by omega), show 3 + (s - 3) = s by omega]) (fun j hj => absurd hj (Nat.not_lt_zero _)) (fun x _ => rfl) (fun c hc0 => by
    rw [b6 c hc0]
    exact b01_iff ⟨Or.inl, fun y => y.resolve_right (fun z => by cases z)⟩)
  rw [e0] at d1 d2
  rw [rcD, List.append_nil, hl0] at d1
  have hrb := fun t ht => hbd.2.2.1 _ (getD_mem (l := rm) (j := t) ht)
  have hlow : ∀ q, q < 1024 * A → o1 F4 q = o1 F3 q := fun q hq => d4 q (fun b hb => by have := (hrc b hb).1; omega)
  have hoffr : ∀ t, t < rm.length → ∀ j, j < 1024 → o1 F4 (1024 * rm.getD t 0 + j) = o1 F1 (1024 * rm.getD t 0 + j) := fun t ht j hj => by
    have := hrm t ht
    rw [d4 _ (fun b hb => by have : b ≠ rm.getD t 0 := fun e => this.2 (by rw [← e]; exact hb); omega), c2, if_neg (by omega), b5 _ (by omega)]
  have hfar : ∀ s u, s < rm.length → u < rm.length → s ≠ u → ∀ q, 1024 * rm.getD s 0 ≤ q → q < 1024 * rm.getD s 0 + 1024 → farR rm u q := fun s u hs hu h q q1 q2 => by
    have : rm.getD s 0 ≠ rm.getD u 0 := fun e => h (nd_getD hbd.2.2.2 hs hu e)
    unfold farR
    omega
  have hslot4 : ∀ q, inPos A P (8 * r) 11 ≤ q → q < inPos A P (8 * r) 11 + 128 → o1 F4 q = 0 := fun q q1 q2 => by
    rw [d4 q (fun b hb => by have := (hrc b hb).2.2; omega), c2, if_neg (by omega), b5 q (by omega), a4 q (fun s hs => by have := hd s (by omega); unfold farR; omega), hz _ (by omega)]
  obtain ⟨F5, U5, g1, g2, g3, g4, g5⟩ := ql_inode_record (K := K) (i := 11) (mode := 33024) (links := 1) (size := (recL N D its A H gl rm).length * 1024) (t0 := 0) (t1 := 0) (t2 := 0) (T := T) (F := F4) (U := U4) (n := 3) (R := R4) (rm := rm) (l := recL N D its A H gl rm) (by omega) hbd hpl hT hI hr ⟨by omega, by omega⟩ hf5 (fun x hx => by
    have : x < 512 := by
      unfold recL at hx
      rcases List.mem_append.mp hx with y | y
      · rcases List.mem_append.mp y with z | z
        · obtain ⟨s, s1, s2, s3⟩ := (rmF_mem _ _).mp z
          rw [s3]
          exact hrb s (by omega)
        · have := (blk_mem _ _).mp z
          omega
      · exact (hrc x y).2.1
    omega) (fun s hs => d2 s hs) ha0.2 (by decide) (by decide) (by omega) ⟨by decide, by decide, by decide⟩ hin (fun t t1 t2 j hj => by
    rw [hoffr t (by omega) j hj, a4 _ (fun s hs => hfar t s (by omega) (by omega) (by omega) _ (by omega) (by omega)), hz _ (by have := hrb t (by omega); omega)]
    rfl) hd
  refine ⟨F5, U5, R4, ?_, ?_, fun q q1 q2 => ?_, fun j hj hjd s hs x hx => ?_, g3, fun q q1 q2 => ?_, fun q q0 q1 q2 q3 q4 => ?_, g5 _ d5, fun s hs => d2 s hs⟩
  · unfold f_Mo_makeRecord
    have a1 : f_Mo_makeRecord_2 K K 0 (qS T F U 0 R) = _ := a1
    have b1 : f_Mo_makeRecord_104 K K 3 3 (qS T F1 U1 3 R1) = _ := b1
    have d1 : f_Mo_makeRecord_246 K K (nI A) 0 (qS T F3 U2 3 R2) = _ := d1
    have e10 : (1024 : Int64) * (nI (recL N D its A H gl rm).length).toInt64 = lN ((recL N D its A H gl rm).length * 1024) := by rw [nI_l (by omega), show (1024 : Int64) = lN 1024 from rfl, lN_mul, Nat.mul_comm]
    have g1 : f_Mo_inode_record K (qS T F4 U4 3 R4) 11 33024 1 0 0 0 (lN ((recL N D its A H gl rm).length * 1024)) (nI (recL N D its A H gl rm).length) = _ := g1
    rw [a1, b1, c1, d1, e10, g1, q_b]
  · have hk : ∀ s, s < 3 → ∀ j, j < 1024 → o1 F5 (1024 * rm.getD s 0 + j) = o1 (rvX D s) j := fun s hs j hj => by
      have := hd s (by omega)
      rw [g4 _ (by omega) (fun t t1 t2 => hfar s t (by omega) (by omega) (by omega) _ (by omega) (by omega)), hoffr s (by omega) j hj]
      exact a3 s hs j hj
    have k0 := hk 0 (by decide)
    have k1 := hk 1 (by decide)
    have k2 := hk 2 (by decide)
    intro w ww j hj
    unfold kpS at ww
    rcases List.mem_cons.mp ww with y | ww
    · rw [y, show 512 * (2 * rm.getD 0 0) + j = 1024 * rm.getD 0 0 + j by omega]
      exact k0 j (by omega)
    rcases List.mem_cons.mp ww with y | ww
    · rw [y]
      show o1 F5 (512 * (2 * rm.getD 0 0 + 1) + j) = _
      rw [show 512 * (2 * rm.getD 0 0 + 1) + j = 1024 * rm.getD 0 0 + (512 + j) by omega, k0 _ (by omega)]
      show ub (if 0 < 2 then D (1024 + 1024 * 0 + (512 + j)) else _) = ub (D (512 * 3 + j))
      rw [if_pos (by decide), show 1024 + 1024 * 0 + (512 + j) = 512 * 3 + j by omega]
    rcases List.mem_cons.mp ww with y | ww
    · rw [y]
      show o1 F5 (512 * (2 * rm.getD 1 0) + j) = _
      rw [show 512 * (2 * rm.getD 1 0) + j = 1024 * rm.getD 1 0 + j by omega, k1 _ (by omega)]
      show ub (if 1 < 2 then D (1024 + 1024 * 1 + j) else _) = ub (D (512 * 4 + j))
      rw [if_pos (by decide)]
    rcases List.mem_cons.mp ww with y | ww
    · rw [y]
      show o1 F5 (512 * (2 * rm.getD 1 0 + 1) + j) = _
      rw [show 512 * (2 * rm.getD 1 0 + 1) + j = 1024 * rm.getD 1 0 + (512 + j) by omega, k1 _ (by omega)]
      show ub (if 1 < 2 then D (1024 + 1024 * 1 + (512 + j)) else _) = ub (D (512 * 5 + j))
      rw [if_pos (by decide), show 1024 + 1024 * 1 + (512 + j) = 512 * 5 + j by omega]
    rcases List.mem_cons.mp ww with y | ww
    · rw [y]
      show o1 F5 (512 * (2 * rm.getD 2 0) + j) = _
      rw [show 512 * (2 * rm.getD 2 0) + j = 1024 * rm.getD 2 0 + j by omega, k2 _ (by omega)]
      show ub (if 2 < 2 then _ else if j < 512 then D (3584 + j) else 0) = ub (D (512 * 7 + j))
      rw [if_neg (by decide), if_pos hj]
    · rw [List.mem_singleton.mp ww]
      show o1 F5 (512 * (2 * rm.getD 2 0 + 1) + j) = _
      rw [show 512 * (2 * rm.getD 2 0 + 1) + j = 1024 * rm.getD 2 0 + (512 + j) by omega, k2 _ (by omega)]
      show ub (if 2 < 2 then _ else if 512 + j < 512 then D (3584 + (512 + j)) else 0) = ub 0
      rw [if_neg (by decide), if_neg (by omega)]
  · rw [g4 q (by omega) (fun t t1 t2 => by have := (hrm t (by omega)).1; unfold farR; omega), hlow q q2, c2]
    by_cases w : 3584 ≤ q ∧ q < 4096
    · rw [if_pos w, if_pos w]
    · rw [if_neg w, if_neg w]; exact b4 q q1 q2
  · have hm : (chL A H gl (chI N D its j)).getD s 0 ∈ rcD N D its A H gl its.length := by
      have key : ∀ m, j < m → (chL A H gl (chI N D its j)).getD s 0 ∈ rcD N D its A H gl m := by
        intro m
        induction m with
        | zero => intro hm; omega
        | succ m ihm =>
          intro hm
          rw [rcD]
          by_cases c : j = m
          · rw [← c, cif_t hjd]
            exact List.mem_append_right _ (getD_mem (by rw [chL_len]; exact hs))
          · exact List.mem_append_left _ (ihm (by omega))
      exact key _ hj
    obtain ⟨m1, m2, m3⟩ := hrc _ hm
    rw [g4 _ (by omega) (fun t t1 t2 => by have : rm.getD t 0 ≠ (chL A H gl (chI N D its j)).getD s 0 := fun e => (hrm t (by omega)).2 (by rw [e]; exact hm); unfold farR; omega)]
    exact d3 j hj hjd s hs x hx
  · rw [g2 q q1 q2]
    have e1 : o1 F4 q = o1 Zd q := by rw [hslot4 q q1 q2]; rfl
    unfold inX
    refine riX_ag (piX_ag (st_ag (st_ag ?_)) _) _
    exact st_ag (st_ag (st_ag (st_ag (st_ag e1))))
  · rw [g4 q q2 (fun t t1 t2 => q4 t (by omega)), d4 q q3, c2, if_neg (by omega), b5 q q1, a4 q (fun s hs => q4 s (by omega)), hz q q0]
