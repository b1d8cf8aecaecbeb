/-! Days, signs of short names, sums. -/
theorem n1or {x : Option Int32} (h : x = some (nI 0) ∨ x = some (nI 1)) : x = some (if x = some (nI 1) then nI 1 else nI 0) := by
  rcases h with h | h
  · rw [if_neg (by rw [h]; decide)]; exact h
  · rw [if_pos h]; exact h
def dayP (d : Int32) : Prop := f_Mo_isDay 0 d = some (nI 1)
def timP (d : Int32) : Prop := f_Mo_isTime 0 d = some (nI 1)
def madP (a b c : Int32) : Prop := f_Mo_isMade 0 a b c = some (nI 1)
theorem ofP {x : Option Int32} {P : Prop} (h : x = some (nI 0) ∨ x = some (nI 1)) (hP : P ↔ x = some (nI 1)) : (P → x = some (nI 1)) ∧ (¬ P → x = some (nI 0)) := ⟨hP.mp, fun g => h.resolve_right (fun z => g (hP.mpr z))⟩
theorem qM_leap (K : Nat) (y : Int32) : f_Mo_isLeap K y = some (nI 0) ∨ f_Mo_isLeap K y = some (nI 1) := by
  unfold f_Mo_isLeap f_Mo_isLeap_21 f_Mo_isLeap_25
  split
  · split
    · split
      · exact Or.inr rfl
      · exact Or.inl rfl
    · exact Or.inr rfl
  · exact Or.inl rfl
theorem qM_days01 (K : Nat) (m y : Int32) : ∃ r, f_Mo_daysOf K m y = some r := by
  unfold f_Mo_daysOf f_Mo_daysOf_45
  split
  · rcases qM_leap K y with h | h <;> rw [h]
    · exact ⟨_, rfl⟩
    · exact ⟨_, rfl⟩
  · repeat' split
    all_goals exact ⟨_, rfl⟩
theorem qM_day01 (K : Nat) (d : Int32) : f_Mo_isDay K d = some (nI 0) ∨ f_Mo_isDay K d = some (nI 1) := by
  unfold f_Mo_isDay f_Mo_isDay_59
  rw [q_l]
  obtain ⟨r, hr⟩ := qM_days01 K ((d >>> ((5 : Int32) &&& 31)) &&& 15) (1980 + (d >>> ((9 : Int32) &&& 31)))
  rw [hr, q_b]
  repeat' split
  all_goals first | exact Or.inl rfl | exact Or.inr rfl
theorem qM_time01 (K : Nat) (d : Int32) : f_Mo_isTime K d = some (nI 0) ∨ f_Mo_isTime K d = some (nI 1) := by
  unfold f_Mo_isTime f_Mo_isTime_37
  repeat' split
  all_goals first | exact Or.inl rfl | exact Or.inr rfl
theorem qM_day (K : Nat) (d : Int32) : (dayP d → f_Mo_isDay K d = some (nI 1)) ∧ (¬ dayP d → f_Mo_isDay K d = some (nI 0)) := ofP (qM_day01 K d) Iff.rfl
theorem qM_time (K : Nat) (d : Int32) : (timP d → f_Mo_isTime K d = some (nI 1)) ∧ (¬ timP d → f_Mo_isTime K d = some (nI 0)) := ofP (qM_time01 K d) Iff.rfl
theorem qM_made01 (K : Nat) (a b c : Int32) : f_Mo_isMade K a b c = some (nI 0) ∨ f_Mo_isMade K a b c = some (nI 1) := by
  unfold f_Mo_isMade f_Mo_isMade_16 f_Mo_isMade_49
  rcases qM_day01 K a with h1 | h1 <;> rcases qM_time01 K b with h2 | h2 <;> rw [h1, h2, q_b, q_b]
  all_goals repeat' split
  all_goals first | exact Or.inl rfl | exact Or.inr rfl
theorem qM_made (K : Nat) (a b c : Int32) : (madP a b c → f_Mo_isMade K a b c = some (nI 1)) ∧ (¬ madP a b c → f_Mo_isMade K a b c = some (nI 0)) := ofP (qM_made01 K a b c) Iff.rfl
/-- the class's days are the reference's -/
theorem d_time (K : Nat) (d : Int32) : f_Da_isTime K d = f_Mo_isTime K d := rfl
theorem q_and15 (x : Int32) : ∃ m : Nat, m < 16 ∧ x &&& 15 = nI m := by
  refine ⟨x.toBitVec.toNat % 16, Nat.mod_lt _ (by decide), ?_⟩
  apply q_ext
  rw [Int32.toBitVec_and, q_bv]
  apply BitVec.eq_of_toNat_eq
  rw [BitVec.toNat_and, BitVec.toNat_ofNat]
  show x.toBitVec.toNat &&& 15 = x.toBitVec.toNat % 16 % 2 ^ 32
  rw [show 15 = 2 ^ 4 - 1 from rfl, Nat.and_two_pow_sub_one_eq_mod]
  omega
theorem d_day (K : Nat) (d : Int32) : f_Da_isDay K d = f_Mo_isDay K d := by
  obtain ⟨m, hm, e⟩ := q_and15 (d >>> ((5 : Int32) &&& 31))
  unfold f_Da_isDay f_Mo_isDay
  rw [q_l, q_l, e, q_l]
  generalize hy : (1980 + (d >>> ((9 : Int32) &&& 31)) : Int32) = y
  by_cases g1 : d < 0
  · rw [if_pos g1, if_pos g1]; rfl
  rw [if_neg g1, if_neg g1]
  have g2 : (65535 : Int32) < d ↔ (65536 : Int32) ≤ d := by
    rw [Int32.lt_iff_toInt_lt, Int32.le_iff_toInt_le, show (65535 : Int32).toInt = 65535 from rfl, show (65536 : Int32).toInt = 65536 from rfl]
    omega
  by_cases g3 : (65536 : Int32) ≤ d
  · rw [if_pos g3, if_pos (g2.mpr g3)]; rfl
  rw [if_neg g3, if_neg (fun z => g3 (g2.mp z))]
  have hl : ∀ z0 z1 : Int32, (if (y - y / 4 * 4) = 0 then (if (y - y / 100 * 100) = 0 then (if (y - y / 400 * 400) = 0 then (f_Da_isDay_60 K d (nI m)) else (f_Da_isDay_64 K d (nI m))) else (f_Da_isDay_60 K d (nI m))) else (f_Da_isDay_64 K d (nI m))) = if f_Mo_isLeap K y = some (nI 1) then f_Da_isDay_60 K d (nI m) else f_Da_isDay_64 K d (nI m) := by
    intro z0 z1
    unfold f_Mo_isLeap f_Mo_isLeap_21 f_Mo_isLeap_25
    repeat' split
    all_goals first | rfl | (exfalso; rename_i h; exact absurd h (by decide)) | (exfalso; rename_i h; exact h rfl)
  rw [hl 0 0]
  have hd : ∀ r : Int32, (if r < (d &&& 31) then (f_Mo_isDay_59 K) else (some (1))) = if r < (d &&& 31) then some (nI 0) else some (nI 1) := fun _ => rfl
  rcases qM_leap K y with hL | hL
  all_goals
    rw [hL]
    first | rw [if_neg (show ¬ (some (nI 0) : Option Int32) = some (nI 1) by decide)] | rw [if_pos rfl]
    rcases (show m = 0 ∨ m = 1 ∨ m = 2 ∨ m = 3 ∨ m = 4 ∨ m = 5 ∨ m = 6 ∨ m = 7 ∨ m = 8 ∨ m = 9 ∨ m = 10 ∨ m = 11 ∨ m = 12 ∨ m = 13 ∨ m = 14 ∨ m = 15 by omega) with q | q | q | q | q | q | q | q | q | q | q | q | q | q | q | q <;> subst q
    all_goals first | rfl | (unfold f_Mo_daysOf; rw [hL]; rfl)
theorem d_made (K : Nat) (a b c : Int32) : f_Da_madeFits K a b c = f_Mo_isMade K a b c := by
  unfold f_Da_madeFits f_Mo_isMade
  rw [d_day, d_time]
  rfl
