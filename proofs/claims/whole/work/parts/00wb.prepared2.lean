/-! Prepared: the mark stands, or nothing that is shown has changed. -/
theorem dU_app {N : Nat} {D : Nat → Int32} {fks : List Nat} {its : List It} {A H k B P g0 r to : Nat} {gl : Nat → Nat} {E : Nat → Int32} (h : pPl N D fks its A H k B P g0 r to gl) (hE : dU N D E) (p : Option Nat) : dU N D (ApL p (mvF A H gl (sYc D A H) k 2 ++ prR N D fks its A H k P g0 r gl) E) :=
  ApL_J dU_ok _ p E (fun w hw E' hE' => dU_free h.2.1.1 h.2.1.2.1 (by rcases h.2.2.1.1.2.1 with y | y | y <;> omega) (pr_free h w hw) hE') hE
theorem pr_half {N : Nat} {D : Nat → Int32} {fks : List Nat} {its : List It} {A H k B P g0 r to : Nat} {gl : Nat → Nat} {E : Nat → Int32} {w : Nat} (h : pPl N D fks its A H k B P g0 r to gl) (hE : dU N D E) (hw : w < (prL N D fks its A H k P r gl (rml A H (fxd A P r g0) (ent D) gl k) (sYc D A H) (sYs D)).length) : dU N D (ApL (some w) (prL N D fks its A H k P r gl (rml A H (fxd A P r g0) (ent D) gl k) (sYc D A H) (sYs D)) E) := by
  rw [prL_eq] at hw ⊢
  rw [List.length_append, List.length_singleton] at hw
  rw [ApL_app, show pR (some w) (mvF A H gl (sYc D A H) k 2 ++ prR N D fks its A H k P g0 r gl).length = some 0 from congrArg some (by omega), ApL_off]
  exact dU_app h hE _
theorem pr_done {N : Nat} {D : Nat → Int32} {fks : List Nat} {its : List It} {A H k B P g0 r to : Nat} {gl : Nat → Nat} {E F : Nat → Int32} {p : Option Nat} (h : pPl N D fks its A H k B P g0 r to gl) (hF : lyA N D fks its A H P g0 r gl (rml A H (fxd A P r g0) (ent D) gl k) F) (hE : dU N D E) (hp : ∀ w, p = some w → (prL N D fks its A H k P r gl (rml A H (fxd A P r g0) (ent D) gl k) (sYc D A H) (sYs D)).length ≤ w) : dM N D fks its A H k P g0 r gl (ApL p (prL N D fks its A H k P r gl (rml A H (fxd A P r g0) (ent D) gl k) (sYc D A H) (sYs D)) E) ∧ sec2 D (ApL p (prL N D fks its A H k P r gl (rml A H (fxd A P r g0) (ent D) gl k) (sYc D A H) (sYs D)) E) := by
  rw [prL_eq] at hp ⊢
  have ag := ApL_ag _ E p hp (pr_cons h hF)
  have hfr := pr_free h
  obtain ⟨⟨ho, ⟨hN1, hN⟩, hN2, -⟩, ⟨hA2, hH2, hk0, hB0⟩, hu, -, -, -, -⟩ := h
  have hA := hu.1.1
  have hAk := hu.1.2.2.2.2.2.2.2
  have hH : 1 ≤ H := by rcases hu.1.2.1 with y | y | y <;> omega
  obtain ⟨i1, i2, i3, i4, i5, i6⟩ := aimR_inv _ _ _ hu.2.2.1
  have out : ∀ q, q < 512 * N → shn N D q → ¬ (3584 ≤ q ∧ q < 4096) → o1 (ApL p ((mvF A H gl (sYc D A H) k 2 ++ prR N D fks its A H k P g0 r gl) ++ [(7, mrkX P r)]) E) q = o1 D q := fun q hq hs h7 => by
    rw [ApL_out _ _ _ q (fun w hw => ?_)]
    · exact hE q hq hs
    · rcases List.mem_append.mp hw with y | y
      · have := fun g1 g2 => fr_hid (N := N) hA2 hH2 hH (hfr w y) (p := q) g1 g2 hs
        by_cases g1 : 512 * w.1 ≤ q
        · by_cases g2 : q < 512 * w.1 + 512
          · exact absurd hs (fr_hid (N := N) hA2 hH2 hH (hfr w y) g1 g2)
          · omega
        · omega
      · rw [List.mem_singleton.mp y]
        show q < 512 * 7 ∨ 512 * 7 + 512 ≤ q
        omega
  have low : ∀ q, q < 1024 * A → shn N D q := fun q hq => Or.inl (by rw [hA2]; omega)
  have mem : ∀ w, (w ∈ mvF A H gl (sYc D A H) k 2 ∨ w ∈ prR N D fks its A H k P g0 r gl) ∨ w = (7, mrkX P r) → w ∈ (mvF A H gl (sYc D A H) k 2 ++ prR N D fks its A H k P g0 r gl) ++ [(7, mrkX P r)] := fun w hw => by
    rw [List.mem_append, List.mem_append, List.mem_singleton]
    exact hw
  refine ⟨⟨fun q hq => out q (by omega) (low q (by omega)) (by omega), fun q q1 q2 => ?_, fun c c1 c2 c3 j hj => ?_, fun w hw => ag w (mem w (Or.inl (Or.inr ?_))), fun w hw => ag w (mem w (Or.inl (Or.inr ?_))), fun w hw => ag w (mem w (Or.inl (Or.inr ?_)))⟩, fun q q1 q2 => out q (by omega) (low q (by omega)) (by omega)⟩
  · by_cases g : 3584 ≤ q ∧ q < 4096
    · rw [if_pos g]
      have := ag (7, mrkX P r) (mem _ (Or.inr rfl)) (q - 3584) (by omega)
      rw [show 512 * (7, mrkX P r).1 + (q - 3584) = q from (by show 512 * 7 + (q - 3584) = q; omega)] at this
      exact this
    · rw [if_neg g]
      exact out q (by omega) (low q q2) g
  · have hin : (c - 2) * H + H ≤ k * H := by
      rw [← Nat.succ_mul]
      exact Nat.mul_le_mul_right _ (by omega)
    unfold bOf stnd
    by_cases g : gl c = 0
    · rw [if_pos g]
      refine out _ (by omega) (Or.inr ?_) (by omega)
      rw [cl_sec (c := c) hA2 hH2 hH c1 (by omega) (by omega)]
      exact ⟨⟨c1, by omega⟩, c3⟩
    · rw [if_neg g]
      have := ag (sc A H (gl c) + j / 512, sYc D A H c (j / 512)) (mem _ (Or.inl (Or.inl ((mvF_mem _ _).mpr ⟨c, j / 512, c1, by omega, g, by omega, rfl⟩)))) (j % 512) (Nat.mod_lt _ (by decide))
      have e1 : 512 * (sc A H (gl c) + j / 512) + j % 512 = 1024 * (A + (gl c - 2) * H) + j := by
        show 512 * (2 * A + (gl c - 2) * (2 * H) + j / 512) + j % 512 = _
        rw [show (gl c - 2) * (2 * H) = 2 * ((gl c - 2) * H) from Nat.mul_left_comm _ _ _]
        omega
      have e2 : 512 * (sc A H c + j / 512) + j % 512 = 1024 * (A + (c - 2) * H) + j := by
        show 512 * (2 * A + (c - 2) * (2 * H) + j / 512) + j % 512 = _
        rw [show (c - 2) * (2 * H) = 2 * ((c - 2) * H) from Nat.mul_left_comm _ _ _]
        omega
      rw [← e1, ← e2]
      exact this
  · unfold prR; exact List.mem_append_left _ hw
  · unfold prR; exact List.mem_append_right _ (List.mem_append_left _ hw)
  · unfold prR; exact List.mem_append_right _ (List.mem_append_right _ hw)
theorem dM_ok {N : Nat} {D : Nat → Int32} {fks : List Nat} {its : List It} {A H k P g0 r : Nat} {gl : Nat → Nat} : jOk (dM N D fks its A H k P g0 r gl) := fun E E' h ⟨a1, a2, a3, a4, a5, a6⟩ =>
  ⟨fun q hq => by rw [h q]; exact a1 q hq, fun q q1 q2 => by rw [h q]; exact a2 q q1 q2, fun c c1 c2 c3 j hj => by rw [h _]; exact a3 c c1 c2 c3 j hj, fun w hw j hj => by rw [h _]; exact a4 w hw j hj, fun w hw j hj => by rw [h _]; exact a5 w hw j hj, fun w hw j hj => by rw [h _]; exact a6 w hw j hj⟩
/-- the class prepares -/
theorem cl_prepare {K N : Nat} {D : Nat → Int32} {mp : Nat → Nat} {fks : List Nat} {its : List It} {A H k B P g0 r to : Nat} {gl : Nat → Nat} {G : CG} {S : CS} (hK : 20000 ≤ K) (h : rnC N D mp fks its A H k B P g0 r to gl (ent D) G S) (hp : pPl N D fks its A H k B P g0 r to gl) {E B1 f : Nat → Int32} {p : Option Nat} {x : Int32} (hE : dU N D E) (hb : byt (tS S E p B1 f x)) (hpo : pOk p) : tuO S (f_Tu_prepare K G (tS S E p B1 f x)) p (prL N D fks its A H k P r gl (rml A H (fxd A P r g0) (ent D) gl k) (sYc D A H) (sYs D)) E := by
  have hfr := pr_free hp
  have hpp := hp
  obtain ⟨⟨ho, ⟨hN1, hN⟩, hN2, -⟩, ⟨hA2, hH2, hk0, hB0⟩, hu, -, -, -, -⟩ := hp
  have hA := hu.1.1
  have hAk := hu.1.2.2.2.2.2.2.2
  have hH : 1 ≤ H := by rcases hu.1.2.1 with y | y | y <;> omega
  obtain ⟨i1, i2, i3, i4, i5, i6⟩ := aimR_inv _ _ _ hu.2.2.1
  refine tu_prepare (J := dU N D) hK h dU_ok (fun c c1 c2 c3 E' hE' i hi j hj => ?_) (fun c c1 c2 c3 E' i hi hE' => ?_) (fun E' hE' s hs j hj => ?_) (fun E' hE' w hw => ?_) hE hb hpo
  · have hin : (c - 2) * H + H ≤ k * H := by
      rw [← Nat.succ_mul]
      exact Nat.mul_le_mul_right _ (by omega)
    have e1 : (c - 2) * (2 * H) = 2 * ((c - 2) * H) := Nat.mul_left_comm _ _ _
    show o1 E' (512 * (2 * A + (c - 2) * (2 * H) + i) + j) = o1 D (512 * (2 * A + (c - 2) * (2 * H) + i) + j)
    rw [e1]
    refine hE' _ (by omega) (Or.inr ?_)
    rw [cl_sec (c := c) hA2 hH2 hH c1 (by omega) (by omega)]
    exact ⟨⟨c1, by omega⟩, (i3 c c3).2.2.1.1⟩
  · exact dU_free hA2 hH2 hH (hfr (sc A H (gl c) + i, sYc D A H c i) (List.mem_append_left _ ((mvF_mem _ _).mpr ⟨c, i, c1, by omega, c3, hi, rfl⟩))) hE'
  · exact hE' _ (by omega) (Or.inl (by rw [hA2]; omega))
  · exact dU_free hA2 hH2 hH (hfr w (List.mem_append_right _ (by unfold prR; exact List.mem_append_left _ hw))) hE'
