/-! make: the new entry read. -/
def pdU (us : List Nat) (W i : Nat) : List Nat := (List.range (13 * i)).map (fun q => unV us (13 * (W - 1 - i) + q))
theorem pdU_next {us : List Nat} {W i : Nat} (h : i + 1 < W) : (List.range 13).map (ptV us W i) ++ pdU us W i = pdU us W (i + 1) := by
  unfold pdU
  rw [show 13 * (i + 1) = 13 + 13 * i by omega, List.range_add, List.map_append, List.map_map]
  congr 1
  · refine List.map_congr_left fun q _ => ?_
    show unV us (13 * (W - 1 - i) + q) = unV us (13 * (W - 1 - (i + 1)) + (13 + q))
    rw [show 13 * (W - 1 - i) + q = 13 * (W - 1 - (i + 1)) + (13 + q) by omega]
theorem pdU_all {us : List Nat} {W : Nat} (hW : us.length ≤ 13 * (W - 1)) : pdU us W (W - 1) = us ++ (List.range (13 * (W - 1) - us.length)).map (fun q => unV us (us.length + q)) := by
  unfold pdU
  rw [Nat.sub_self, Nat.mul_zero, show 13 * (W - 1) = us.length + (13 * (W - 1) - us.length) by omega, List.range_add, List.map_append, List.map_map, show us.length + (13 * (W - 1) - us.length) - us.length = 13 * (W - 1) - us.length by omega]
  congr 1
  · refine List.ext_getElem (by rw [List.length_map, List.length_range]) fun j h1 h2 => ?_
    rw [List.getElem_map, List.getElem_range, Nat.zero_add]
    unfold unV
    rw [if_pos h2, List.getD_eq_getElem?_getD, List.getElem?_eq_getElem h2]
    rfl
  · refine List.map_congr_left fun q _ => ?_
    show unV us (0 + (us.length + q)) = _
    rw [Nat.zero_add]
theorem pdU_tw {us : List Nat} {W : Nat} (hn : nmP us) (hW : us.length ≤ 13 * (W - 1)) (hW2 : 13 * (W - 1) < us.length + 13) : tw (pdU us W (W - 1)) = us ∧ sdP (pdU us W (W - 1)) := by
  have hnz : ∀ u ∈ us, u ≠ 0 := fun u hu => by
    obtain ⟨j, hj, e⟩ := List.getElem_of_mem hu
    have := hn.2.2.1 j hj
    rw [List.getD_eq_getElem?_getD, List.getElem?_eq_getElem hj] at this
    have this : unP us[j] := this
    rw [e] at this
    have := this.1
    omega
  have e : tw (pdU us W (W - 1)) = us := by
    rw [pdU_all hW]
    unfold tw
    rw [List.takeWhile_append_of_pos (fun u hu => by simpa using hnz u hu)]
    cases h : 13 * (W - 1) - us.length with
    | zero => simp
    | succ n =>
      rw [List.range_succ_eq_map, List.map_cons, List.takeWhile_cons, show unV us (us.length + 0) = 0 from by unfold unV; rw [if_neg (by omega), if_pos (by omega)]]
      simp
  refine ⟨e, ?_⟩
  unfold sdP
  rw [e]
  have hlen : (pdU us W (W - 1)).length = 13 * (W - 1) := by unfold pdU; rw [List.length_map, List.length_range]
  refine ⟨fun j h1 h2 => ?_, by rw [hlen]; omega, hn⟩
  rw [hlen] at h2
  unfold pdU
  rw [rng_get h2, Nat.sub_self, Nat.mul_zero, Nat.zero_add]
  unfold unV
  rw [if_neg (by omega), if_neg (by omega)]
def pdI (us : List Nat) (W m i : Nat) (x : Pend) : Pend := if i = 0 then x else ((i, W - 1 - i), m, pdU us W i)
/-- the slots as they are laid -/
abbrev laid (P : Nat → Nat) (W m : Nat) (nm : Nat → Nat) (a o : Nat) (us : List Nat) (F : Nat → Int32) : Prop := (∀ i, i + 1 < W → ∀ q, inS P i q → o1 F q = o1 (ptF Zd (P i) (ptA W i) m (ptV us W i)) q) ∧ (∀ q, inS P (W - 1) q → o1 F q = o1 (enA (nmW Zd (P (W - 1)) nm 11) (P (W - 1)) a o) q)
theorem ins_parts {N hh fk b W m a o d : Nat} {P : Nat → Nat} {nm : Nat → Nat} {us : List Nat} {F : Nat → Int32} {ch : List Nat} {its : List It} {lb : Option Nat} {tk : List Nat} {x : Pend} (hl : laid P W m nm a o us F) (hP : ∀ i, i < W → plS F ch (b + i) = P i) (hm : m < 256) (hu : ∀ u ∈ us, u < 65536) (hW2 : W ≤ 21) (hb2 : hh = 0 ∨ 2 ≤ b) (hx : pM x = 0) (hxU : pU x = []) : ∀ (r i : Nat), i + r + 1 = W → dirL N F hh fk ch (d + r) (b + i) ((its, lb), tk, pdI us W m i x) = dirL N F hh fk ch d (b + W - 1) ((its, lb), tk, pdI us W m (W - 1) x) := by
  intro r
  induction r with
  | zero =>
    intro i h
    obtain rfl : W = i + 1 := by omega
    rfl
  | succ r ih =>
    intro i h
    have haL : ptA W i < 256 := by unfold ptA; split <;> omega
    obtain ⟨r1, r2, r3, r4, r5, r6⟩ := part_read (a := ptA W i) (m := m) (v := ptV us W i) haL hm (fun q _ => unV_lt hu _) (fun q h1 h2 => hl.1 i (by omega) q ⟨h1, h2⟩)
    have ha1 : 1 ≤ ptA W i ∧ ptA W i ≤ 84 := by unfold ptA; split <;> omega
    rw [← Nat.add_assoc, dirL, hP i (by omega), cif_f (by rw [r1]; omega)]
    have sl : slS N F hh fk (b + i) (P i) ((its, lb), tk, pdI us W m i x) = .ok ((its, lb), tk, pdI us W m (i + 1) x) := by
      unfold slS
      rw [cif_f (by omega), cif_f (by rw [r1]; omega), cif_t (by rw [r2])]
      have eN : ptN F (P i) (pdI us W m i x) = pdI us W m (i + 1) x := by
        unfold ptN
        rw [r6, r1, r4]
        by_cases c : i = 0
        · have e0 : pdI us W m i x = x := if_pos c
          have e1 : pdI us W m (i + 1) x = ((i + 1, W - 1 - (i + 1)), m, pdU us W (i + 1)) := if_neg (by omega)
          rw [e0, e1, hx, if_pos rfl, if_pos rfl, hxU, ← pdU_next (show i + 1 < W by omega)]
          have : pdU us W i = [] := by unfold pdU; rw [c]; rfl
          rw [this, c]
          unfold ptA
          rw [if_pos rfl, show W - 1 - 0 + 64 - 64 - 1 = W - 1 - (0 + 1) by omega]
        · have e0 : pdI us W m i x = ((i, W - 1 - i), m, pdU us W i) := if_neg c
          have e1 : pdI us W m (i + 1) x = ((i + 1, W - 1 - (i + 1)), m, pdU us W (i + 1)) := if_neg (by omega)
          rw [e0, e1]
          show ((i + 1, (if i = 0 then ptA W i - 64 else W - 1 - i) - 1), (if i = 0 then m else m), (List.range 13).map (ptV us W i) ++ pdU us W i) = _
          rw [if_neg c, if_neg c, pdU_next (by omega), show W - 1 - i - 1 = W - 1 - (i + 1) by omega]
      have eP : ptP F (P i) (pdI us W m i x) := by
        unfold ptP
        rw [r1, r3, r4, r5]
        by_cases c : i = 0
        · have e0 : pdI us W m i x = x := if_pos c
          rw [e0]
          refine ⟨fun _ => ?_, fun y => absurd hx y, rfl, rfl⟩
          unfold ptA
          rw [if_pos c]
          omega
        · have e0 : pdI us W m i x = ((i, W - 1 - i), m, pdU us W i) := if_neg c
          rw [e0]
          refine ⟨fun y => absurd y c, fun _ => ⟨?_, ?_, rfl⟩, rfl, rfl⟩
          · unfold ptA
            rw [if_neg c]
          · show W - 1 - i ≠ 0
            omega
      show (cif (ptP F (P i) (pdI us W m i x)) (Except.ok ((its, lb), tk, ptN F (P i) (pdI us W m i x))) (Except.error 4) : Except Nat SS) = _
      rw [cif_t eP, eN]
    rw [sl, exb_o]
    exact ih (i + 1) (by omega)
theorem ins_entry {N hh fk b W m a o d : Nat} {P : Nat → Nat} {nm : Nat → Nat} {us : List Nat} {F : Nat → Int32} {ch : List Nat} {its : List It} {lb : Option Nat} {tk : List Nat} {x : Pend} (hl : laid P W m nm a o us F) (hP : ∀ i, i < W → plS F ch (b + i) = P i) (hW : 1 ≤ W) (hb2 : hh = 0 ∨ 2 ≤ b) (hx : pM x = 0) (ha : (a = 32 ∧ o = 0) ∨ a = 48) (ho : o < 65536) (hnm : ∀ q, q < 11 → nm q < 256) (hn0 : 33 ≤ nm 0 ∧ nm 0 ≤ 126) (hsh : shP F (P (W - 1)) ((0 : Nat) = 1)) (hms : m = smN nm 11) (hnP : W ≠ 1 → nmP us ∧ us.length ≤ 13 * (W - 1) ∧ 13 * (W - 1) < us.length + 13) (htw : ¬ enTw F its fk (P (W - 1)) (if W = 1 then svO F (P (W - 1)) 11 else us)) : dirL N F hh fk ch (d + 1) (b + W - 1) ((its, lb), tk, pdI us W m (W - 1) x) = dirL N F hh fk ch d (b + W) ((its ++ [((hh, P (W - 1)), (b + W - 1, W - 1), if W = 1 then svO F (P (W - 1)) 11 else us)], lb), tk, pe0) := by
  have ha2 : a < 256 := by omega
  obtain ⟨r0, r1, r2, r3, r4, r5, r6, r7, r8, r9⟩ := entry_read (a := a) (o := o) ha2 (by omega) hnm (fun q h1 h2 => hl.2 q ⟨h1, h2⟩)
  have r00 : o1 F (P (W - 1)) = nm 0 := r0 0 (by omega)
  have hpl := hP (W - 1) (by omega)
  rw [show b + (W - 1) = b + W - 1 by omega] at hpl
  have epM : pM (pdI us W m (W - 1) x) = W - 1 := by
    unfold pdI
    by_cases c : W - 1 = 0
    · rw [if_pos c, hx, c]
    · rw [if_neg c]
  have enm : nmN F (P (W - 1)) (pdI us W m (W - 1) x) = (if W = 1 then svO F (P (W - 1)) 11 else us) := by
    unfold nmN
    rw [epM]
    by_cases c : W = 1
    · rw [if_pos (by omega), if_pos c]
    · rw [if_neg (by omega), if_neg c]
      unfold pdI
      rw [if_neg (by omega)]
      exact (pdU_tw (hnP c).1 (hnP c).2.1 (hnP c).2.2).1
  have hbad : enBad F (P (W - 1)) (pdI us W m (W - 1) x) := by
    refine ⟨hsh, fun _ => r9, fun w => ?_⟩
    rw [epM] at w
    have c : W ≠ 1 := by omega
    have e0 : pdI us W m (W - 1) x = ((W - 1, W - 1 - (W - 1)), m, pdU us W (W - 1)) := if_neg (by omega)
    rw [e0]
    refine ⟨Nat.sub_self _, ?_, (pdU_tw (hnP c).1 (hnP c).2.1 (hnP c).2.2).2⟩
    show sm F (P (W - 1)) 11 = m
    rw [sm_N r0 11 (Nat.le_refl _), hms]
  have hF : entF N F (P (W - 1)) tk = some [] := by
    unfold entF
    rw [r1, r8, r9]
    rcases ha with ⟨h1, h2⟩ | h1
    · rw [h1, if_neg (by decide), if_pos rfl, if_pos h2]
    · rw [h1, if_pos (by decide)]
  rw [dirL, hpl, cif_f (by rw [r00]; omega)]
  have sl : slS N F hh fk (b + W - 1) (P (W - 1)) ((its, lb), tk, pdI us W m (W - 1) x) = .ok ((its ++ [((hh, P (W - 1)), (b + W - 1, W - 1), if W = 1 then svO F (P (W - 1)) 11 else us)], lb), tk, pe0) := by
    unfold slS
    rw [cif_f (by omega), cif_f (by rw [r00]; omega), cif_f (by rw [r1]; omega)]
    unfold entS
    rw [cif_t ⟨by rw [r1]; omega, entry_days r2 r3 r4 r5 r6 r7⟩, cif_f (by rw [r1]; omega)]
    show cif (enBad F (P (W - 1)) (pdI us W m (W - 1) x)) (cif (enTw F its fk (P (W - 1)) (nmN F (P (W - 1)) (pdI us W m (W - 1) x))) (.error 5) (entR N F hh (b + W - 1) (P (W - 1)) ((its, lb), tk, pdI us W m (W - 1) x))) (.error 4) = _
    rw [cif_t hbad, enm, cif_f htw, entR_s (z := ((its, lb), tk, pdI us W m (W - 1) x)) hF]
    show Except.ok ((its ++ [((hh, P (W - 1)), (b + W - 1, pM (pdI us W m (W - 1) x)), nmN F (P (W - 1)) (pdI us W m (W - 1) x))], lb), [] ++ tk, pe0) = _
    rw [epM, enm]
    rfl
  rw [sl, exb_o, show b + W - 1 + 1 = b + W by omega]
