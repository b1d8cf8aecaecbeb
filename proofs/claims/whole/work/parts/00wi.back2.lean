/-! What stands when it has gone back, and when the power went before. -/
theorem bkF_mem {A H : Nat} {gl : Nat → Nat} {Y : Nat → Nat → Nat → Int32} {w : Wr} : ∀ n c0, w ∈ bkF A H gl Y n c0 ↔ ∃ c i, c0 ≤ c ∧ c < c0 + n ∧ gl c ≠ 0 ∧ i < 2 * H ∧ w = (sc A H c + i, Y c i) := by
  have cp : ∀ d (Z : Nat → Nat → Int32) n i0, w ∈ cpF A H Z d n i0 ↔ ∃ i, i0 ≤ i ∧ i < i0 + n ∧ w = (sc A H d + i, Z i) := by
    intro d Z n
    induction n with
    | zero => exact fun i0 => ⟨fun h => (by cases h), fun ⟨i, h, h2, _⟩ => by omega⟩
    | succ n ih =>
      intro i0
      rw [cpF, List.mem_cons, ih]
      constructor
      · rintro (h | ⟨i, i1, i2, i3⟩)
        · exact ⟨i0, Nat.le_refl _, by omega, h⟩
        · exact ⟨i, by omega, by omega, i3⟩
      · rintro ⟨i, i1, i2, i3⟩
        by_cases e : i = i0
        · rw [e] at i3; exact Or.inl i3
        · exact Or.inr ⟨i, by omega, by omega, i3⟩
  intro n
  induction n with
  | zero => exact fun c0 => ⟨fun h => (by cases h), fun ⟨c, i, h, h2, _⟩ => by omega⟩
  | succ n ih =>
    intro c0
    rw [bkF, List.mem_append, ih]
    constructor
    · rintro (h | ⟨c, i, i1, i2, i3⟩)
      · by_cases g : gl c0 = 0
        · rw [if_pos g] at h; cases h
        · rw [if_neg g] at h
          obtain ⟨i, i1, i2, i3⟩ := (cp _ _ _ _).mp h
          exact ⟨c0, i, Nat.le_refl _, by omega, g, by omega, i3⟩
      · exact ⟨c, i, by omega, by omega, i3⟩
    · rintro ⟨c, i, i1, i2, i3, i4, i5⟩
      by_cases e : c = c0
      · rw [e] at i3 i5
        rw [if_neg i3]
        exact Or.inl ((cp _ _ _ _).mpr ⟨i, Nat.zero_le _, by omega, i5⟩)
      · exact Or.inr ⟨c, i, by omega, by omega, i3, i4, i5⟩
theorem bkS_mem {Y : Nat → Nat → Int32} {w : Wr} : w ∈ bkS Y ↔ ∃ s, (s = 3 ∨ s = 4 ∨ s = 5 ∨ s = 7) ∧ w = (s, Y s) := by
  unfold bkS
  simp only [List.mem_cons, List.not_mem_nil, or_false]
  constructor
  · rintro (y | y | y | y)
    · exact ⟨3, by omega, y⟩
    · exact ⟨4, by omega, y⟩
    · exact ⟨5, by omega, y⟩
    · exact ⟨7, by omega, y⟩
  · rintro ⟨s, y | y | y | y, z⟩ <;> rw [y] at z <;> simp [z]
theorem bkL_D {D : Nat → Int32} {A H k : Nat} {gl : Nat → Nat} : agW D (bkL D A H k gl) := by
  unfold bkL
  refine agW_app (fun w hw j hj => ?_) (agW_app (fun w hw j hj => ?_) (fun w hw j hj => ?_))
  · rw [List.mem_singleton.mp hw]; rfl
  · obtain ⟨c, i, -, -, -, -, e⟩ := (bkF_mem _ _).mp hw
    rw [e]; rfl
  · obtain ⟨s, -, e⟩ := bkS_mem.mp hw
    rw [e]; rfl
noncomputable def bkR (D : Nat → Int32) (A H k : Nat) (gl : Nat → Nat) : List Wr := bkF A H gl (sYc D A H) k 2 ++ [(3, sYs D 3), (4, sYs D 4), (5, sYs D 5)]
theorem bkL_eq {D : Nat → Int32} {A H k : Nat} {gl : Nat → Nat} : bkL D A H k gl = ((2, sYs D 2) :: bkR D A H k gl) ++ [(7, sYs D 7)] := by
  unfold bkL bkR bkS
  rw [List.cons_append, List.cons_append, List.append_assoc]
  rfl
theorem bkR_far {N : Nat} {D : Nat → Int32} {fks : List Nat} {its : List It} {A H k B P g0 r to : Nat} {gl : Nat → Nat} (h : pPl N D fks its A H k B P g0 r to gl) : ∀ w ∈ (2, sYs D 2) :: bkR D A H k gl, (∀ E, dM N D fks its A H k P g0 r gl E → dM N D fks its A H k P g0 r gl (wS E w.1 w.2 0)) ∧ (w ∈ bkR D A H k gl → w.1 ≠ 2) := by
  have hu := h.2.2.1
  have hA := hu.1.1
  have low : ∀ s Y, 2 ≤ s → s < 6 → ∀ E, dM N D fks its A H k P g0 r gl E → dM N D fks its A H k P g0 r gl (wS E s Y 0) := fun s Y s1 s2 E hE => dM_far h (by omega) (by omega) (fun c _ _ _ i _ e => by unfold bOf at e; omega) (fun t t1 e => by have := (room_f hu t t1).1; omega) hE
  have hR : ∀ w ∈ bkR D A H k gl, (∀ E, dM N D fks its A H k P g0 r gl E → dM N D fks its A H k P g0 r gl (wS E w.1 w.2 0)) ∧ w.1 ≠ 2 := fun w hw => by
    unfold bkR at hw
    rcases List.mem_append.mp hw with y | y
    · obtain ⟨c, i, c1, c2, c3, c4, c5⟩ := (bkF_mem _ _).mp y
      obtain ⟨m1, m2, m3⟩ := mv_sec h c3 c4
      rw [c5]
      exact ⟨fun E hE => m3 E _ hE, by show sc A H c + i ≠ 2; omega⟩
    · simp only [List.mem_cons, List.not_mem_nil, or_false] at y
      rcases y with y | y | y <;> rw [y]
      · exact ⟨low 3 _ (by omega) (by omega), show (3 : Nat) ≠ 2 by decide⟩
      · exact ⟨low 4 _ (by omega) (by omega), show (4 : Nat) ≠ 2 by decide⟩
      · exact ⟨low 5 _ (by omega) (by omega), show (5 : Nat) ≠ 2 by decide⟩
  intro w hw
  rcases List.mem_cons.mp hw with y | y
  · refine ⟨?_, fun hb => (hR w hb).2⟩
    rw [y]
    exact low 2 _ (by omega) (by omega)
  · exact ⟨(hR w y).1, fun _ => (hR w y).2⟩
theorem bk_half {N : Nat} {D : Nat → Int32} {fks : List Nat} {its : List It} {A H k B P g0 r to : Nat} {gl : Nat → Nat} {E : Nat → Int32} {w : Nat} (h : pPl N D fks its A H k B P g0 r to gl) (hE : dM N D fks its A H k P g0 r gl E) (h1 : 1 ≤ w) (hw : w < (bkL D A H k gl).length) : dM N D fks its A H k P g0 r gl (ApL (some w) (bkL D A H k gl) E) ∧ sec2 D (ApL (some w) (bkL D A H k gl) E) := by
  have hfar := bkR_far h
  rw [bkL_eq] at hw ⊢
  rw [List.length_append, List.length_singleton] at hw
  rw [ApL_app, show pR (some w) ((2, sYs D 2) :: bkR D A H k gl).length = some 0 from congrArg some (by omega), ApL_off]
  refine ⟨ApL_J dM_ok _ _ E (fun v hv E' hE' => (hfar v hv).1 E' hE') hE, fun q q1 q2 => ?_⟩
  rw [ApL, ApL_out _ _ _ q (fun v hv => by have := (hfar v (List.mem_cons_of_mem _ hv)).2 hv; omega)]
  unfold aW
  rw [cif_f (fun e => by cases e; omega), wS_o1, if_pos (by show 512 * 2 ≤ q ∧ q < 512 * 2 + 512; omega)]
  show o1 D (512 * 2 + (0 + (q - 512 * 2))) = o1 D q
  rw [show 512 * 2 + (0 + (q - 512 * 2)) = q by omega]
theorem bk_done {N : Nat} {D : Nat → Int32} {fks : List Nat} {its : List It} {A H k B P g0 r to : Nat} {gl : Nat → Nat} {E : Nat → Int32} {p : Option Nat} (h : pPl N D fks its A H k B P g0 r to gl) (hE : dM N D fks its A H k P g0 r gl E) (hp : ∀ w, p = some w → (bkL D A H k gl).length ≤ w) : dU N D (ApL p (bkL D A H k gl) E) := by
  have hD := bkL_D (D := D) (A := A) (H := H) (k := k) (gl := gl)
  have ag := ApL_ag _ E p hp (fun w hw v hv e j hj => by rw [← hD w hw j hj, ← hD v hv j hj, e])
  obtain ⟨⟨ho, ⟨hN1, hN⟩, hN2, -⟩, ⟨hA2, hH2, hk0, hB0⟩, hu, hr1, -, -, -⟩ := h
  have hA := hu.1.1
  have hH : 1 ≤ H := by rcases hu.1.2.1 with y | y | y <;> omega
  intro q hq hs
  by_cases g : ∃ w ∈ bkL D A H k gl, 512 * w.1 ≤ q ∧ q < 512 * w.1 + 512
  · obtain ⟨w, w1, w2, w3⟩ := g
    have a := ag w w1 (q - 512 * w.1) (by omega)
    have b := hD w w1 (q - 512 * w.1) (by omega)
    rw [show 512 * w.1 + (q - 512 * w.1) = q by omega] at a b
    rw [a, b]
  · rw [ApL_out _ _ _ q (fun w hw => by
      by_cases g1 : 512 * w.1 ≤ q
      · by_cases g2 : q < 512 * w.1 + 512
        · exact absurd ⟨w, hw, g1, g2⟩ g
        · omega
      · omega)]
    have ns : ∀ s, (s = 3 ∨ s = 4 ∨ s = 5 ∨ s = 7) → ¬ (512 * s ≤ q ∧ q < 512 * s + 512) := fun s s1 s2 => g ⟨(s, sYs D s), by unfold bkL; exact List.mem_append_right _ (List.mem_append_right _ (bkS_mem.mpr ⟨s, s1, rfl⟩)), s2⟩
    have n2 : ¬ (1024 ≤ q ∧ q < 1536) := fun s2 => g ⟨(2, sYs D 2), by unfold bkL; exact List.mem_append_left _ (List.mem_singleton.mpr rfl), by show 512 * 2 ≤ q ∧ q < 512 * 2 + 512; omega⟩
    have n3 := ns 3 (by omega)
    have n4 := ns 4 (by omega)
    have n5 := ns 5 (by omega)
    have n7 := ns 7 (by omega)
    by_cases ql : q < 1024 * A
    · by_cases q1 : q < 1024
      · exact hE.1 q q1
      · rw [hE.2.1 q (by omega) ql, if_neg (by omega)]
    · rcases hs with y | ⟨y1, y2⟩
      · rw [hA2] at y; omega
      · obtain ⟨c, hc0⟩ : ∃ c, clOf D q = c := ⟨_, rfl⟩
        rw [hc0] at y1 y2
        have c1 := y1.1
        have c2 := y1.2
        unfold clOf at hc0
        rw [hA2, hH2] at hc0
        have dm := Nat.div_add_mod (q / 512 - 2 * A) (2 * H)
        have hlt := Nat.mod_lt (q / 512 - 2 * A) (show 0 < 2 * H by omega)
        rw [show (q / 512 - 2 * A) / (2 * H) = c - 2 by omega, show 2 * H * (c - 2) = 2 * ((c - 2) * H) by rw [Nat.mul_assoc, Nat.mul_comm H]] at dm
        by_cases gc : gl c = 0
        · have := hE.2.2.1 c c1 (by omega) y2 (q - 1024 * (A + (c - 2) * H)) (by omega)
          unfold bOf stnd at this
          rw [if_pos gc, show 1024 * (A + (c - 2) * H) + (q - 1024 * (A + (c - 2) * H)) = q by omega] at this
          exact this
        · exfalso
          refine g ⟨(sc A H c + (q / 512 - 2 * A) % (2 * H), sYc D A H c ((q / 512 - 2 * A) % (2 * H))), ?_, ?_⟩
          · unfold bkL
            exact List.mem_append_right _ (List.mem_append_left _ ((bkF_mem _ _).mpr ⟨c, _, c1, by omega, gc, hlt, rfl⟩))
          · show 512 * (2 * A + (c - 2) * (2 * H) + (q / 512 - 2 * A) % (2 * H)) ≤ q ∧ q < 512 * (2 * A + (c - 2) * (2 * H) + (q / 512 - 2 * A) % (2 * H)) + 512
            rw [show (c - 2) * (2 * H) = 2 * ((c - 2) * H) from Nat.mul_left_comm _ _ _]
            omega
