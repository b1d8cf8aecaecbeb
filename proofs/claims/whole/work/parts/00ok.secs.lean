/-! Days and times in seconds. -/
def lpN (y : Nat) : Nat := if y % 4 = 0 then (if y % 100 = 0 then (if y % 400 = 0 then 1 else 0) else 1) else 0
def mdN (m y : Nat) : Nat := if m = 2 then 28 + lpN y else if m = 4 ∨ m = 6 ∨ m = 9 ∨ m = 11 then 30 else 31
def yS : Nat → Nat → Nat
  | 0, _ => 0
  | d + 1, q => 365 + lpN q + yS d (q + 1)
def mS (y : Nat) : Nat → Nat → Nat
  | 0, _ => 0
  | d + 1, q => mdN q y + mS y d (q + 1)
/-- days from 1970 on, for a day as it stands in an entry -/
def dyN (d : Nat) : Nat := d % 32 - 1 + yS (d / 512 + 10) 1970 + mS (1980 + d / 512) (d / 32 % 16 - 1) 1
def scN (day time : Nat) : Nat := 86400 * dyN day + 3600 * (time / 2048) + 60 * (time / 32 % 64) + 2 * (time % 32)
theorem q_leap {K y : Nat} (h : y < 2 ^ 31) : f_Mo_isLeap K (nI y) = some (nI (lpN y)) := by
  unfold f_Mo_isLeap f_Mo_isLeap_21 f_Mo_isLeap_25 lpN
  have e4 : nI y - nI y / 4 * 4 = nI (y % 4) := pk_rem (d := 4) h (by decide) (by decide)
  have e100 : nI y - nI y / 100 * 100 = nI (y % 100) := pk_rem (d := 100) h (by decide) (by decide)
  have e400 : nI y - nI y / 400 * 400 = nI (y % 400) := pk_rem (d := 400) h (by decide) (by decide)
  rw [e4, e100, e400]
  by_cases w1 : y % 4 = 0
  · rw [w1, if_pos (show nI 0 = 0 from rfl), if_pos rfl]
    by_cases w2 : y % 100 = 0
    · rw [w2, if_pos (show nI 0 = 0 from rfl), if_pos rfl]
      by_cases w3 : y % 400 = 0
      · rw [w3, if_pos (show nI 0 = 0 from rfl), if_pos rfl]; rfl
      · rw [if_neg (nI_ne0 (by omega) (by omega)), if_neg w3]; rfl
    · rw [if_neg (nI_ne0 (by omega) (by omega)), if_neg w2]; rfl
  · rw [if_neg (nI_ne0 (by omega) (by omega)), if_neg w1]; rfl
theorem lpN_le (y : Nat) : lpN y ≤ 1 := by unfold lpN; split <;> (try split) <;> (try split) <;> omega
theorem q_days {K m y : Nat} (hm : m < 2 ^ 31) (hy : y < 2 ^ 31) : f_Mo_daysOf K (nI m) (nI y) = some (nI (mdN m y)) := by
  unfold f_Mo_daysOf f_Mo_daysOf_45 mdN
  have hl := lpN_le y
  have ne : ∀ c : Nat, c < 100 → (nI m = nI c ↔ m = c) := fun c hc => nI_eq hm (by omega)
  rw [show (2 : Int32) = nI 2 from rfl, show (4 : Int32) = nI 4 from rfl, show (6 : Int32) = nI 6 from rfl, show (9 : Int32) = nI 9 from rfl, show (11 : Int32) = nI 11 from rfl]
  simp only [ne 2 (by decide), ne 4 (by decide), ne 6 (by decide), ne 9 (by decide), ne 11 (by decide)]
  by_cases w2 : m = 2
  · rw [if_pos w2, if_pos w2, q_leap hy, q_b]
    by_cases z : lpN y = 0
    · rw [z, if_pos (show nI 0 = 0 from rfl)]; rfl
    · rw [show lpN y = 1 by omega, if_neg (show ¬ nI 1 = 0 by decide)]; rfl
  rw [if_neg w2, if_neg w2]
  by_cases w : m = 4 ∨ m = 6 ∨ m = 9 ∨ m = 11
  · rw [if_pos w]
    rcases w with w | w | w | w <;> subst w <;> rfl
  · rw [if_neg w, if_neg (fun y => w (Or.inl y)), if_neg (fun y => w (Or.inr (Or.inl y))), if_neg (fun y => w (Or.inr (Or.inr (Or.inl y)))), if_neg (fun y => w (Or.inr (Or.inr (Or.inr y))))]
    rfl
theorem mdN_le (m y : Nat) : mdN m y ≤ 31 := by
  unfold mdN
  have := lpN_le y
  split <;> (try split) <;> omega
theorem yS_le : ∀ (d q : Nat), yS d q ≤ 366 * d := by
  intro d
  induction d with
  | zero => intro q; exact Nat.zero_le _
  | succ d ih =>
    intro q
    rw [yS]
    have := ih (q + 1)
    have := lpN_le q
    omega
theorem mS_le (y : Nat) : ∀ (d q : Nat), mS y d q ≤ 31 * d := by
  intro d
  induction d with
  | zero => intro q; exact Nat.zero_le _
  | succ d ih =>
    intro q
    rw [mS]
    have := ih (q + 1)
    have := mdN_le q y
    omega
theorem q_and31 {d : Nat} (h : d < 65536) : nI d &&& 31 = nI (d % 32) := pk_andN (by omega) 5 rfl
theorem q_and63' {d : Nat} (h : d < 65536) : nI d &&& 63 = nI (d % 64) := pk_andN (by omega) 6 rfl
theorem q_and15' {d : Nat} (h : d < 65536) : nI d &&& 15 = nI (d % 16) := pk_andN (by omega) 4 rfl
theorem qM_seconds {K d t : Nat} (hK : 1000 ≤ K) (hd : d < 65536) (ht : t < 65536) (h1 : 1 ≤ d % 32) (h2 : 1 ≤ d / 32 % 16) : f_Mo_seconds K (nI d) (nI t) = some (lN (scN d t)) := by
  unfold f_Mo_seconds
  have e9 : nI d >>> ((9 : Int32) &&& 31) = nI (d / 2 ^ 9) := q_shr (k := 9) (by omega) (by decide)
  have e5 : nI d >>> ((5 : Int32) &&& 31) = nI (d / 2 ^ 5) := q_shr (k := 5) (by omega) (by decide)
  rw [e9, e5, q_and15' (by omega), q_and31 hd, show (1980 : Int32) = nI 1980 from rfl, nI_add, show (1 : Int32) = nI 1 from rfl, pk_sub h1, q_l, q_l, q_l, nI_l (by omega), show (1970 : Int32) = nI 1970 from rfl, show d / 2 ^ 9 = d / 512 from rfl, show d / 2 ^ 5 % 16 = d / 32 % 16 from rfl]
  have l67 : ∀ (n q k acc : Nat), q + n = d / 32 % 16 → n < k → 1 ≤ q → f_Mo_seconds_67 K k (nI t) (nI (1980 + d / 512)) (nI (d / 32 % 16)) (lN acc) (nI q) = some (lN (86400 * (acc + mS (1980 + d / 512) n q) + 3600 * (t / 2048) + 60 * (t / 32 % 64) + 2 * (t % 32))) := by
    intro n
    induction n with
    | zero =>
      intro q k acc g1 g2 g3
      obtain ⟨k, rfl⟩ : ∃ m, k = m + 1 := ⟨k - 1, by omega⟩
      have e11 : nI t >>> ((11 : Int32) &&& 31) = nI (t / 2 ^ 11) := q_shr (k := 11) (by omega) (by decide)
      have e5t : nI t >>> ((5 : Int32) &&& 31) = nI (t / 2 ^ 5) := q_shr (k := 5) (by omega) (by decide)
      rw [f_Mo_seconds_67, if_pos (nI_le (by omega) (by omega)), e11, e5t, q_and63' (by omega), q_and31 ht, nI_l (by omega), nI_l (by omega), nI_l (by omega), show (86400 : Int64) = lN 86400 from rfl, show (3600 : Int64) = lN 3600 from rfl, show (60 : Int64) = lN 60 from rfl, show (2 : Int64) = lN 2 from rfl, lN_mul, lN_mul, lN_mul, lN_mul, lN_add, lN_add, lN_add, mS, Nat.add_zero]
    | succ n ih =>
      intro q k acc g1 g2 g3
      obtain ⟨k, rfl⟩ : ∃ m, k = m + 1 := ⟨k - 1, by omega⟩
      have hm := mdN_le q (1980 + d / 512)
      rw [f_Mo_seconds_67, if_neg (nI_ge (by omega) (by omega)), q_days (by omega) (by omega), q_b, q_l, q_l, nI_l (by omega), lN_add, show (1 : Int32) = nI 1 from rfl, nI_add, ih (q + 1) k _ (by omega) (by omega) (by omega), mS, Nat.add_assoc acc]
  have l30 : ∀ (n q k acc : Nat), q + n = 1980 + d / 512 → n < k → acc + 366 * n < 2 ^ 30 → f_Mo_seconds_30 K k (nI t) (nI (1980 + d / 512)) (nI (d / 32 % 16)) (lN acc) (nI q) = some (lN (86400 * (acc + yS n q + mS (1980 + d / 512) (d / 32 % 16 - 1) 1) + 3600 * (t / 2048) + 60 * (t / 32 % 64) + 2 * (t % 32))) := by
    intro n
    induction n with
    | zero =>
      intro q k acc g1 g2 g4
      obtain ⟨k, rfl⟩ : ∃ m, k = m + 1 := ⟨k - 1, by omega⟩
      rw [f_Mo_seconds_30, if_pos (nI_le (by omega) (by omega)), show (1 : Int32) = nI 1 from rfl, l67 (d / 32 % 16 - 1) 1 K acc (by omega) (by omega) (by omega), yS, Nat.add_zero]
    | succ n ih =>
      intro q k acc g1 g2 g4
      obtain ⟨k, rfl⟩ : ∃ m, k = m + 1 := ⟨k - 1, by omega⟩
      have hl := lpN_le q
      rw [f_Mo_seconds_30, if_neg (nI_ge (by omega) (by omega)), q_leap (by omega), q_b]
      have go : ∀ c : Nat, c = 365 + lpN q → f_Mo_seconds_55 K (f_Mo_seconds_30 K k) (nI t) (nI (1980 + d / 512)) (nI (d / 32 % 16)) (nI q) (lN acc) (lN c) = some (lN (86400 * (acc + yS (n + 1) q + mS (1980 + d / 512) (d / 32 % 16 - 1) 1) + 3600 * (t / 2048) + 60 * (t / 32 % 64) + 2 * (t % 32))) := by
        intro c e
        unfold f_Mo_seconds_55
        rw [q_l, q_l, lN_add, show (1 : Int32) = nI 1 from rfl, nI_add, ih (q + 1) k _ (by omega) (by omega) (by omega), yS, e, Nat.add_assoc acc]
      by_cases z : lpN q = 0
      · rw [z, if_pos (show nI 0 = 0 from rfl)]
        exact go 365 (by omega)
      · rw [show lpN q = 1 by omega, if_neg (show ¬ nI 1 = 0 by decide)]
        exact go 366 (by omega)
  rw [l30 (d / 512 + 10) 1970 K (d % 32 - 1) (by omega) (by omega) (by omega)]
  rfl
/-- the class's count of days, by its formula, is the same -/
def bmN (k : Nat) : Nat := ([0, 31, 59, 90, 120, 151, 181, 212, 243, 273, 304, 334, 365] : List Nat).getD k 0
theorem bm_nI : ∀ k, k < 13 → bmF k = nI (bmN k) := by decide
theorem dy_form : ∀ y, y < 128 → ∀ mo, mo < 13 → 1 ≤ mo → yS (y + 10) 1970 + mS (1980 + y) (mo - 1) 1 + 477 = (y + 10) * 365 + bmN (mo - 1) + ((if mo ≤ 2 then 1979 + y else 1980 + y) / 4 + (if mo ≤ 2 then 1979 + y else 1980 + y) / 400 - (if mo ≤ 2 then 1979 + y else 1980 + y) / 100) := by decide +kernel
theorem dyN_le (d : Nat) : dyN d ≤ 30 + 366 * (d / 512 + 10) + 31 * 15 := by
  unfold dyN
  have h1 := yS_le (d / 512 + 10) 1970
  have h2 := mS_le (1980 + d / 512) (d / 32 % 16 - 1) 1
  omega
theorem qC_daysFrom {K d : Nat} (hd : d < 65536) (h1 : 1 ≤ d % 32) (h2 : 1 ≤ d / 32 % 16) (h3 : d / 32 % 16 ≤ 12) : f_Da_daysFrom1970 K (nI d) = some (nI (dyN d)) := by
  unfold f_Da_daysFrom1970
  have e9 : nI d >>> ((9 : Int32) &&& 31) = nI (d / 2 ^ 9) := q_shr (k := 9) (by omega) (by decide)
  have e5 : nI d >>> ((5 : Int32) &&& 31) = nI (d / 2 ^ 5) := q_shr (k := 5) (by omega) (by decide)
  rw [e9, e5, q_and15' (by omega), show (1980 : Int32) = nI 1980 from rfl, nI_add, q_l, q_l, show d / 2 ^ 9 = d / 512 from rfl, show d / 2 ^ 5 % 16 = d / 32 % 16 from rfl, if_neg (show ¬ nI (d / 32 % 16) < 1 from nI_nlt (b := 1) (by omega) (by omega)), if_pos (show nI (d / 32 % 16) ≤ 12 from nI_le (b := 12) (by omega) (by decide))]
  have hf := dy_form (d / 512) (by omega) (d / 32 % 16) (by omega) h2
  have hb : bmN (d / 32 % 16 - 1) ≤ 365 := by
    have : ∀ k, k < 13 → bmN k ≤ 365 := by decide
    exact this _ (by omega)
  have go : ∀ F : Nat, (if d / 32 % 16 ≤ 2 then 1979 + d / 512 else 1980 + d / 512) = F → f_Da_daysFrom1970_41 K (nI d) (nI (1980 + d / 512)) (nI (d / 32 % 16)) (nI F) = some (nI (dyN d)) := by
    intro F eF
    rw [eF] at hf
    have hF : F < 2200 := by split at eF <;> omega
    have hF1 : 1979 ≤ F := by split at eF <;> omega
    unfold f_Da_daysFrom1970_41
    have e4 : nI F / 4 = nI (F / 4) := pk_div (d := 4) (by omega) (by decide) (by decide)
    have e100 : nI F / 100 = nI (F / 100) := pk_div (d := 100) (by omega) (by decide) (by decide)
    have e400 : nI F / 400 = nI (F / 400) := pk_div (d := 400) (by omega) (by decide) (by decide)
    rw [e4, e100, e400, q_l, show (1 : Int32) = nI 1 from rfl, pk_sub h2, q_g (q_in (by omega) (by decide)), nI_clamp (by omega), bm_nI _ (by omega), show (1970 : Int32) = nI 1970 from rfl, pk_sub (a := 1980 + d / 512) (by omega), show (365 : Int32) = nI 365 from rfl, pk_mul, pk_sub (by omega), nI_add, show (477 : Int32) = nI 477 from rfl, pk_sub (by omega), nI_add, nI_add, q_and31 hd, nI_add, pk_sub (by omega)]
    apply congrArg (fun x => some (nI x))
    unfold dyN
    omega
  by_cases w : d / 32 % 16 ≤ 2
  · rw [if_pos (show nI (d / 32 % 16) ≤ 2 from nI_le (b := 2) (by omega) (by decide)), show (1 : Int32) = nI 1 from rfl, pk_sub (by omega)]
    exact go _ (by rw [if_pos w]; omega)
  · rw [if_neg (show ¬ nI (d / 32 % 16) ≤ 2 from nI_ge (a := 2) (by omega) (by omega))]
    exact go _ (if_neg w)
theorem qC_secs97 {K d t x : Nat} {G : CG} {S : CS} (hd : d < 65536) (ht : t < 65536) (hx : x < 2 ^ 31) (h1 : 1 ≤ d % 32) (h2 : 1 ≤ d / 32 % 16) (h3 : d / 32 % 16 ≤ 12) : f_Da_seconds_97 K G (nI d) (nI t) (nI x) S = some (lN (scN d t + x), S) := by
  unfold f_Da_seconds_97
  have e11 : nI t >>> ((11 : Int32) &&& 31) = nI (t / 2 ^ 11) := q_shr (k := 11) (by omega) (by decide)
  have e5t : nI t >>> ((5 : Int32) &&& 31) = nI (t / 2 ^ 5) := q_shr (k := 5) (by omega) (by decide)
  have hdy := dyN_le d
  rw [qC_daysFrom hd h1 h2 h3, q_b, e11, e5t, q_and63' (by omega), q_and31 ht, show (3600 : Int32) = nI 3600 from rfl, show (60 : Int32) = nI 60 from rfl, show (2 : Int32) = nI 2 from rfl, pk_mul, pk_mul, pk_mul, nI_l (by omega), nI_l (by omega), nI_l (by omega), nI_l (by omega), nI_l (by omega), show (86400 : Int64) = lN 86400 from rfl, lN_mul, lN_add, lN_add, lN_add, lN_add]
  apply congrArg (fun x => some (lN x, S))
  unfold scN
  omega
