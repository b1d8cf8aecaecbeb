/-! What is told of an item. -/
theorem dayP_f {d : Nat} (hd : d < 65536) (h : dayP (nI d)) : 1 ≤ d % 32 ∧ 1 ≤ d / 32 % 16 ∧ d / 32 % 16 ≤ 12 := by
  unfold dayP f_Mo_isDay f_Mo_isDay_59 at h
  have e5 : nI d >>> ((5 : Int32) &&& 31) = nI (d / 2 ^ 5) := q_shr (k := 5) (by omega) (by decide)
  rw [e5, q_and15' (by omega), q_and31 hd, q_l, if_neg (nI_pos (by omega)), show d / 2 ^ 5 % 16 = d / 32 % 16 from rfl] at h
  by_cases w0 : 65536 ≤ nI d
  · rw [if_pos w0] at h; cases h
  rw [if_neg w0] at h
  by_cases w1 : nI (d / 32 % 16) < 1
  · rw [if_pos w1] at h; cases h
  rw [if_neg w1] at h
  by_cases w2 : 12 < nI (d / 32 % 16)
  · rw [if_pos w2] at h; cases h
  rw [if_neg w2] at h
  by_cases w3 : nI (d % 32) < 1
  · rw [if_pos w3] at h; cases h
  refine ⟨?_, ?_, ?_⟩
  · exact Nat.le_of_not_lt fun y => w3 (nI_lt (b := 1) (by omega) (by decide))
  · exact Nat.le_of_not_lt fun y => w1 (nI_lt (b := 1) (by omega) (by decide))
  · exact Nat.le_of_not_lt fun y => w2 (nI_lt (a := 12) (by omega) (by omega))
theorem madP_f {d t c : Nat} (hd : d < 65536) (hd0 : d ≠ 0) (h : madP (nI d) (nI t) (nI c)) : dayP (nI d) := by
  unfold madP f_Mo_isMade f_Mo_isMade_16 f_Mo_isMade_49 at h
  rw [if_neg (nI_ne0 (by omega) (by omega))] at h
  rcases qM_day01 0 (nI d) with w | w
  · rw [w, q_b, if_pos (show nI 0 = 0 from rfl)] at h; cases h
  · exact w
/-- the seconds of an entry's time w = 2, 3, 4 -/
def tmN (D : Nat → Int32) (p w : Nat) : Nat := if w = 2 ∧ o2 D (p + 18) ≠ 0 then scN (o2 D (p + 18)) 0 else if w = 3 ∧ o2 D (p + 16) ≠ 0 then scN (o2 D (p + 16)) (o2 D (p + 14)) + o1 D (p + 13) / 100 else scN (o2 D (p + 24)) (o2 D (p + 22))
theorem tmN_slq {E D : Nat → Int32} {q p : Nat} (h : slq E q D p) (w : Nat) : tmN E q w = tmN D p w := by
  unfold tmN
  rw [slq_2 h (j := 16) (by decide), slq_2 h (j := 14) (by decide), h 13 (by decide), slq_2 h (j := 18) (by decide), slq_2 h (j := 24) (by decide), slq_2 h (j := 22) (by decide)]
theorem qM_timeOf {K N j p w : Nat} {D : Nat → Int32} {T : MS} (hK : 1000 ≤ K) (hN : N ≤ 1024) (hD : T.v_disk = D) (hj : j < 4200) (hat : T.v_at j = nI p) (hp : p + 32 ≤ 512 * N) (hd : daysP D p) (h2 : 2 ≤ w) (h4 : w ≤ 4) : f_Mo_timeOf K T (nI j) (nI (w - 2)) = some (lN (tmN D p w), T) := by
  obtain ⟨d1, d2, d3, d4⟩ := hd
  have r : ∀ k, k < 31 → f_Mo_two K T (nI (p + k)) = some (nI (o2 D (p + k)), T) := fun k hk => by rw [← hD]; exact qM_two T (by omega)
  have l2 : ∀ k, o2 D (p + k) < 65536 := fun k => o2_lt D _
  obtain ⟨g1, g2, g3⟩ := dayP_f (l2 24) d3
  have e84 : f_Mo_timeOf_84 K (nI p) T = some (lN (scN (o2 D (p + 24)) (o2 D (p + 22))), T) := by
    unfold f_Mo_timeOf_84
    rw [show (24 : Int32) = nI 24 from rfl, show (22 : Int32) = nI 22 from rfl, nI_add, nI_add, r 24 (by decide), q_c, r 22 (by decide), q_c, qM_seconds hK (l2 24) (l2 22) g1 g2, q_b]
  unfold f_Mo_timeOf f_Mo_timeOf_35 tmN
  rw [q_g (q_in (by omega) (by decide)), nI_clamp (by omega), hat, q_l, show (18 : Int32) = nI 18 from rfl, show (16 : Int32) = nI 16 from rfl, show (14 : Int32) = nI 14 from rfl, show (13 : Int32) = nI 13 from rfl, nI_add, nI_add, nI_add, nI_add]
  have r1 : f_Mo_one K T (nI (p + 13)) = some (nI (o1 D (p + 13)), T) := by rw [← hD]; exact qM_one T (by omega)
  have l1 := o1_lt D (p + 13)
  have e100 : nI (o1 D (p + 13)) / 100 = nI (o1 D (p + 13) / 100) := pk_div (d := 100) (by omega) (by decide) (by decide)
  have w2 : ∀ q : Prop, ¬ (2 = 3 ∧ q) := fun q y => absurd y.1 (by decide)
  have w3 : ∀ q : Prop, ¬ (3 = 2 ∧ q) := fun q y => absurd y.1 (by decide)
  have w4 : ∀ q : Prop, ¬ (4 = 2 ∧ q) := fun q y => absurd y.1 (by decide)
  have w5 : ∀ q : Prop, ¬ (4 = 3 ∧ q) := fun q y => absurd y.1 (by decide)
  rcases (show w = 2 ∨ w = 3 ∨ w = 4 by omega) with rfl | rfl | rfl
  · rw [if_neg (w2 (o2 D (p + 16) ≠ 0))]
    rw [if_pos (show nI (2 - 2) = 0 from rfl), r 18 (by decide), q_c]
    by_cases z : o2 D (p + 18) = 0
    · rw [z, if_neg (show ¬ (2 = 2 ∧ (0 : Nat) ≠ 0) from fun y => y.2 rfl), if_pos (show nI 0 = 0 from rfl), if_neg (show ¬ nI (2 - 2) = 1 by decide), e84]
    · obtain ⟨k1, k2, k3⟩ := dayP_f (l2 18) (d2.resolve_left z)
      rw [if_pos (show 2 = 2 ∧ o2 D (p + 18) ≠ 0 from ⟨rfl, z⟩), if_neg (nI_ne0 (Nat.one_le_iff_ne_zero.mpr z) (Nat.lt_trans (l2 18) (by decide))), r 18 (by decide), q_c, show (0 : Int32) = nI 0 from rfl, qM_seconds hK (l2 18) (by decide) k1 k2, q_b]
  · rw [if_neg (w3 (o2 D (p + 18) ≠ 0))]
    rw [if_neg (show ¬ nI (3 - 2) = 0 by decide), if_pos (show nI (3 - 2) = 1 from rfl), r 16 (by decide), q_c]
    by_cases z : o2 D (p + 16) = 0
    · rw [z, if_neg (show ¬ (3 = 3 ∧ (0 : Nat) ≠ 0) from fun y => y.2 rfl), if_pos (show nI 0 = 0 from rfl), e84]
    · obtain ⟨k1, k2, k3⟩ := dayP_f (l2 16) (madP_f (l2 16) z d1)
      rw [if_pos (show 3 = 3 ∧ o2 D (p + 16) ≠ 0 from ⟨rfl, z⟩), if_neg (nI_ne0 (Nat.one_le_iff_ne_zero.mpr z) (Nat.lt_trans (l2 16) (by decide))), r 16 (by decide), q_c, r 14 (by decide), q_c, qM_seconds hK (l2 16) (l2 14) k1 k2, q_b, r1, q_c, e100, nI_l (by omega), lN_add]
  · rw [if_neg (w4 (o2 D (p + 18) ≠ 0)), if_neg (w5 (o2 D (p + 16) ≠ 0)), if_neg (show ¬ nI (4 - 2) = 0 by decide), if_neg (show ¬ nI (4 - 2) = 1 by decide), e84]
theorem qC_secs {K N p w : Nat} {E : Nat → Int32} {G : CG} {S : CS} (hN : N ≤ 1024) (hG : G.n = N) (hD : S.w_Dk_bytes = E) (hp : p + 32 ≤ 512 * N) (hd : daysP E p) (h2 : 2 ≤ w) (h4 : w ≤ 4) : f_Da_seconds K G S (nI p) (nI w) = some (lN (tmN E p w), S) := by
  obtain ⟨d1, d2, d3, d4⟩ := hd
  have r : ∀ k, k < 31 → f_Dk_two K G S (nI (p + k)) = some (nI (o2 E (p + k)), S) := fun k hk => rV2 E hG hD hN (by omega)
  have r1 : f_Dk_one K G S (nI (p + 13)) = some (nI (o1 E (p + 13)), S) := rV1 E hG hD hN (by omega)
  have l2 : ∀ k, o2 E (p + k) < 65536 := fun k => o2_lt E _
  have l1 := o1_lt E (p + 13)
  have e100 : nI (o1 E (p + 13)) / 100 = nI (o1 E (p + 13) / 100) := pk_div (d := 100) (by omega) (by decide) (by decide)
  obtain ⟨g1, g2, g3⟩ := dayP_f (l2 24) d3
  have e75 : f_Da_seconds_75 K G (nI p) S = some (lN (scN (o2 E (p + 24)) (o2 E (p + 22))), S) := by
    unfold f_Da_seconds_75
    rw [show (24 : Int32) = nI 24 from rfl, show (22 : Int32) = nI 22 from rfl, nI_add, nI_add, r 24 (by decide), q_c, r 22 (by decide), q_c]
    exact qC_secs97 (x := 0) (l2 24) (l2 22) (by decide) g1 g2 g3
  unfold f_Da_seconds f_Da_seconds_24 f_Da_seconds_42 f_Da_seconds_64 tmN
  rw [show (18 : Int32) = nI 18 from rfl, show (16 : Int32) = nI 16 from rfl, show (14 : Int32) = nI 14 from rfl, show (13 : Int32) = nI 13 from rfl, nI_add, nI_add, nI_add, nI_add]
  have w2 : ∀ q : Prop, ¬ (2 = 3 ∧ q) := fun q y => absurd y.1 (by decide)
  have w3 : ∀ q : Prop, ¬ (3 = 2 ∧ q) := fun q y => absurd y.1 (by decide)
  have w4 : ∀ q : Prop, ¬ (4 = 2 ∧ q) := fun q y => absurd y.1 (by decide)
  have w5 : ∀ q : Prop, ¬ (4 = 3 ∧ q) := fun q y => absurd y.1 (by decide)
  rcases (show w = 2 ∨ w = 3 ∨ w = 4 by omega) with rfl | rfl | rfl
  · rw [if_neg (w2 (o2 E (p + 16) ≠ 0))]
    rw [if_pos (show nI 2 = 2 from rfl), r 18 (by decide), q_c, if_pos (show nI 2 = 2 from rfl), if_pos (show nI 2 = 2 from rfl), if_neg (show ¬ nI 2 = 4 by decide)]
    by_cases z : o2 E (p + 18) = 0
    · rw [z, if_neg (show ¬ (2 = 2 ∧ (0 : Nat) ≠ 0) from fun y => y.2 rfl), if_pos (show nI 0 = 0 from rfl), e75]
    · obtain ⟨k1, k2, k3⟩ := dayP_f (l2 18) (d2.resolve_left z)
      rw [if_pos (show 2 = 2 ∧ o2 E (p + 18) ≠ 0 from ⟨rfl, z⟩), if_neg (nI_ne0 (Nat.one_le_iff_ne_zero.mpr z) (Nat.lt_trans (l2 18) (by decide))), show (0 : Int32) = nI 0 from rfl, qC_secs97 (l2 18) (by decide) (by decide) k1 k2 k3, Nat.add_zero]
  · rw [if_neg (w3 (o2 E (p + 18) ≠ 0))]
    rw [if_neg (show ¬ nI 3 = 2 by decide), r 16 (by decide), q_c, if_neg (show ¬ nI 3 = 2 by decide), r 14 (by decide), q_c, if_neg (show ¬ nI 3 = 2 by decide), r1, q_c, e100, if_neg (show ¬ nI 3 = 4 by decide)]
    by_cases z : o2 E (p + 16) = 0
    · rw [z, if_neg (show ¬ (3 = 3 ∧ (0 : Nat) ≠ 0) from fun y => y.2 rfl), if_pos (show nI 0 = 0 from rfl), e75]
    · obtain ⟨k1, k2, k3⟩ := dayP_f (l2 16) (madP_f (l2 16) z d1)
      rw [if_pos (show 3 = 3 ∧ o2 E (p + 16) ≠ 0 from ⟨rfl, z⟩), if_neg (nI_ne0 (Nat.one_le_iff_ne_zero.mpr z) (Nat.lt_trans (l2 16) (by decide))), qC_secs97 (l2 16) (l2 14) (by omega) k1 k2 k3]
  · rw [if_neg (w4 (o2 E (p + 18) ≠ 0)), if_neg (w5 (o2 E (p + 16) ≠ 0)), if_neg (show ¬ nI 4 = 2 by decide), r 16 (by decide), q_c, if_neg (show ¬ nI 4 = 2 by decide), r 14 (by decide), q_c, if_neg (show ¬ nI 4 = 2 by decide), r1, q_c, if_pos (show nI 4 = 4 from rfl), e75]
theorem qC_readOnly {K N j : Nat} {G : CG} {D : Nat → Int32} {mp : Nat → Nat} {its : List It} {S : CS} (hG : gOk N G) (hS : rcI D mp its S) (hl : its.length ≤ G.l_parent) (hj : j < its.length) : f_Tr_isReadOnly K G S (nI j) = some (nI (btI D its j % 2), S) := by
  obtain ⟨g0, ⟨-, -, g1, -⟩, g2, g3, -⟩ := hG
  have hb := btI_lt (D := D) (its := its) (j := j)
  have e : nI (btI D its j) &&& 1 = nI (btI D its j % 2) := pk_andN (by omega) 1 rfl
  unfold f_Tr_isReadOnly f_Tr_isReadOnly_23
  rw [qC_has hS.1 (by omega) (by omega), q_c, b01_t hj, if_neg (by decide), q_g (q_in (by omega) (by omega)), nI_clamp (by omega), (hS.2.2.1 j hj).2.2.1, e]
  rcases (show btI D its j % 2 = 0 ∨ btI D its j % 2 = 1 by omega) with w | w
  · rw [w, if_pos (show nI 0 = 0 from rfl)]; rfl
  · rw [w, if_neg (show ¬ nI 1 = 0 by decide)]; rfl
