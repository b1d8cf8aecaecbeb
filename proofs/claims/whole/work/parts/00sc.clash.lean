/-! make: names and short names that are taken. -/
def shT (D : Nat → Int32) (its : List It) (fk n : Nat) (b : Nat → Nat) : Prop := ∃ j, fk ≤ j ∧ j < fk + n ∧ ∀ q, q < 11 → o1 D (isp (itr its j) + q) = b q
theorem qM_bt29 {K N i j : Nat} {its : List It} {D : Nat → Int32} {b : Nat → Nat} {T : MS} {rec_7 : Int32 → Int32 → MS → Option (Int32 × MS)} (hN : N ≤ 1024) (hT : rmI its T) (ho : itsOk N its) (hD : T.v_disk = D) (h1 : 1 ≤ j) (hj : j < its.length) (hb : ∀ q, q < 11 → T.v_brief q = nI (b q)) (hb2 : ∀ q, q < 11 → b q < 65536) : ∀ (d q k : Nat), q + d = 11 → d < k → ((∀ r, q ≤ r → r < 11 → o1 D (isp (itr its j) + r) = b r) → f_Mo_isBriefTaken_29 K rec_7 k (nI i) (nI j) 1 (nI q) T = some (1, T)) ∧ (¬ (∀ r, q ≤ r → r < 11 → o1 D (isp (itr its j) + r) = b r) → f_Mo_isBriefTaken_29 K rec_7 k (nI i) (nI j) 1 (nI q) T = rec_7 (nI i) (nI (j + 1)) T) ∧ f_Mo_isBriefTaken_29 K rec_7 k (nI i) (nI j) 0 (nI q) T = rec_7 (nI i) (nI (j + 1)) T := by
  have hl := ho.2.1
  have hp := (ho.2.2.2.2 j h1 hj).1
  intro d
  induction d with
  | zero =>
    intro q k hq hk
    obtain ⟨k, rfl⟩ : ∃ m, k = m + 1 := ⟨k - 1, by omega⟩
    obtain rfl : q = 11 := by omega
    refine ⟨fun _ => ?_, fun w => absurd (fun r a c => absurd c (by omega)) w, ?_⟩
    · rw [f_Mo_isBriefTaken_29, if_pos (show (11 : Int32) ≤ nI 11 by decide), if_neg (by decide)]
    · rw [f_Mo_isBriefTaken_29, if_pos (show (11 : Int32) ≤ nI 11 by decide), if_pos rfl, q_l, nI_1]
  | succ d ih =>
    intro q k hq hk
    obtain ⟨k, rfl⟩ : ∃ m, k = m + 1 := ⟨k - 1, by omega⟩
    have hq11 : q < 11 := by omega
    have c11 : ¬ (11 : Int32) ≤ nI q := nI_ge hq11 (by decide)
    obtain ⟨i1, i2, i3⟩ := ih (q + 1) k (by omega) (by omega)
    have z : f_Mo_isBriefTaken_29 K rec_7 (k + 1) (nI i) (nI j) 0 (nI q) T = rec_7 (nI i) (nI (j + 1)) T := by
      rw [f_Mo_isBriefTaken_29, if_neg c11, if_pos rfl]
      unfold f_Mo_isBriefTaken_67 f_Mo_isBriefTaken_68
      rw [q_l, nI_1]
      exact i3
    have st : f_Mo_isBriefTaken_29 K rec_7 (k + 1) (nI i) (nI j) 1 (nI q) T = if nI (o1 D (isp (itr its j) + q)) = nI (b q) then f_Mo_isBriefTaken_29 K rec_7 k (nI i) (nI j) 1 (nI (q + 1)) T else f_Mo_isBriefTaken_29 K rec_7 k (nI i) (nI j) 0 (nI (q + 1)) T := by
      rw [f_Mo_isBriefTaken_29, if_neg c11, if_neg (by decide), q_g (q_in (by omega) (by decide)), nI_clamp (by omega), (hT.2.2.1 j h1 hj).1, nI_add, qM_one T (by omega), q_c, q_g (q_in hq11 (by decide)), nI_clamp (by omega), hb q hq11, hD]
      unfold f_Mo_isBriefTaken_67 f_Mo_isBriefTaken_68
      rw [q_l, q_l, nI_1]
    have ob := o1_lt D (isp (itr its j) + q)
    have bb := hb2 q hq11
    refine ⟨fun w => ?_, fun w => ?_, z⟩
    · rw [st, if_pos (by rw [w q (Nat.le_refl _) hq11])]
      exact i1 fun r a c => w r (by omega) c
    · rw [st]
      by_cases c : o1 D (isp (itr its j) + q) = b q
      · rw [if_pos (by rw [c])]
        refine i2 fun y => w fun r a e => ?_
        by_cases er : r = q
        · rw [er]; exact c
        · exact y r (by omega) e
      · rw [if_neg (fun y => c ((nI_eq (by omega) (by omega)).mp y))]
        exact i3
theorem qM_briefTaken {K N i fk n : Nat} {its : List It} {D : Nat → Int32} {b : Nat → Nat} {T : MS} (hK : 10000 ≤ K) (hN : N ≤ 1024) (hT : rmI its T) (ho : itsOk N its) (hD : T.v_disk = D) (hi : i < 4200) (hf : T.v_firstKid i = nI fk) (hn : T.v_kids i = nI n) (h1 : 1 ≤ fk) (h2 : fk + n ≤ its.length) (hb : ∀ q, q < 11 → T.v_brief q = nI (b q)) (hb2 : ∀ q, q < 11 → b q < 65536) : f_Mo_isBriefTaken K T (nI i) = some (b01 (shT D its fk n b), T) := by
  have hl := ho.2.1
  have loop : ∀ (d j k : Nat), j + d = fk + n → fk ≤ j → d < k → f_Mo_isBriefTaken_7 K k (nI i) (nI j) T = some (b01 (∃ j', j ≤ j' ∧ j' < fk + n ∧ ∀ q, q < 11 → o1 D (isp (itr its j') + q) = b q), T) := by
    intro d
    induction d with
    | zero =>
      intro j k g1 g2 g3
      obtain ⟨k, rfl⟩ : ∃ m, k = m + 1 := ⟨k - 1, by omega⟩
      rw [f_Mo_isBriefTaken_7, q_g (q_in hi (by decide)), q_g (q_in hi (by decide)), nI_clamp (by omega), hf, hn, nI_add, if_pos (nI_le (by omega) (by omega)), b01_f (fun ⟨q, a, c, _⟩ => by omega)]
      rfl
    | succ d ih =>
      intro j k g1 g2 g3
      obtain ⟨k, rfl⟩ : ∃ m, k = m + 1 := ⟨k - 1, by omega⟩
      rw [f_Mo_isBriefTaken_7, q_g (q_in hi (by decide)), q_g (q_in hi (by decide)), nI_clamp (by omega), hf, hn, nI_add, if_neg (nI_ge (by omega) (by omega))]
      obtain ⟨i1, i2, -⟩ := qM_bt29 (K := K) (i := i) (rec_7 := f_Mo_isBriefTaken_7 K k) hN hT ho hD (show 1 ≤ j by omega) (by omega) hb hb2 11 0 K rfl (by omega)
      by_cases w : ∀ r, 0 ≤ r → r < 11 → o1 D (isp (itr its j) + r) = b r
      · rw [show (0 : Int32) = nI 0 from rfl, i1 w, b01_t ⟨j, Nat.le_refl _, by omega, fun q hq => w q (Nat.zero_le _) hq⟩]
        rfl
      · rw [show (0 : Int32) = nI 0 from rfl, i2 w, ih (j + 1) k (by omega) (by omega) (by omega)]
        congr 2
        refine b01_iff ⟨fun ⟨q, a, e, c⟩ => ⟨q, by omega, e, c⟩, fun ⟨q, a, e, c⟩ => ⟨q, ?_, e, c⟩⟩
        rcases Nat.lt_or_ge j q with y | y
        · exact y
        · obtain rfl : q = j := by omega
          exact absurd (fun r _ hr => c r hr) w
  unfold f_Mo_isBriefTaken
  rw [q_g (q_in hi (by decide)), nI_clamp (by omega), hf, q_l, loop n fk K rfl (Nat.le_refl _) (by omega)]
  rfl
/-! the class -/
theorem qC_hasShort {K N j : Nat} {G : CG} {D E : Nat → Int32} {mp : Nat → Nat} {its : List It} {b : Nat → Nat} {S : CS} (hK : 1000 ≤ K) (hG : gOk N G) (hN : N ≤ 1024) (hE : S.w_Dk_bytes = E) (hS : rcI D mp its S) (hl : its.length ≤ G.l_parent) (hm : mpOk N D E mp its) (h1 : 1 ≤ j) (hj : j < its.length) (hb : ∀ q, q < 11 → S.w_Ed_shortName q = nI (b q)) (hb2 : ∀ q, q < 11 → b q < 65536) : f_Ed_hasShortName K G S (nI j) = some (b01 (∀ q, q < 11 → o1 D (isp (itr its j) + q) = b q), S) := by
  obtain ⟨m1, m2⟩ := hm j h1 hj
  have es : spI mp its j = mp (isp (itr its j)) := if_neg (by omega)
  unfold f_Ed_hasShortName
  rw [qC_spot hG hS hl hj, q_c, es]
  have A := lpA (F := fun k q => f_Ed_hasShortName_11 K G k (nI (mp (isp (itr its j)))) (nI q) S) (P := fun q => o1 D (isp (itr its j) + q) = b q) (n := 11) (good := some (nI 1, S)) (bad := some (nI 0, S)) (fun q k hq w => ?_) (fun q k hq w => ?_) (fun k => ?_) (show 11 < K by omega)
  · exact b01_of A
  · show f_Ed_hasShortName_11 K G (k + 1) _ (nI q) S = _
    have w : o1 D (isp (itr its j) + q) = b q := w
    rw [f_Ed_hasShortName_11, if_neg (show ¬ (11 : Int32) ≤ nI q from nI_ge hq (by decide)), nI_add, qV_one S (by rw [hG.1]; omega) (by rw [hG.1]; exact hN), q_c, q_g (q_in hq (by decide)), nI_clamp (by omega), hb q hq, hE, m1 q (by omega), if_pos (by rw [w]), q_l, nI_1]
  · show f_Ed_hasShortName_11 K G (k + 1) _ (nI q) S = _
    have w : ¬ o1 D (isp (itr its j) + q) = b q := w
    have ob := o1_lt D (isp (itr its j) + q)
    have bb := hb2 q hq
    rw [f_Ed_hasShortName_11, if_neg (show ¬ (11 : Int32) ≤ nI q from nI_ge hq (by decide)), nI_add, qV_one S (by rw [hG.1]; omega) (by rw [hG.1]; exact hN), q_c, q_g (q_in hq (by decide)), nI_clamp (by omega), hb q hq, hE, m1 q (by omega), if_neg (fun y => w ((nI_eq (by omega) (by omega)).mp y))]
    rfl
  · show f_Ed_hasShortName_11 K G (k + 1) _ (nI 11) S = _
    rw [f_Ed_hasShortName_11, if_pos (by decide)]
    rfl
theorem qC_namedE {K N j : Nat} {G : CG} {D : Nat → Int32} {mp : Nat → Nat} {its : List It} {S : CS} {us : List Nat} (hK : 1000 ≤ K) (hG : gOk N G) (hS : rcI D mp its S) (hl : its.length ≤ G.l_parent) (hp : (uns its).length ≤ G.l_pool) (hu : ∀ u ∈ uns its, u < 65536) (hj : j < its.length) (hus : us.length ≤ 255) (hb : bufR S.w_Ed_units us) (hlt : ∀ u ∈ us, u < 65536) (hnl : (inm (itr its j)).length ≤ 260) : f_Tr_isNamed_Edunits K G S (nI j) (nI us.length) = some (b01 (alk (inm (itr its j)) us), S) := by
  obtain ⟨g0, ⟨-, -, -, -, -, -, -, -, ga, gl, -⟩, g2, g3, g4, g5⟩ := hG
  obtain ⟨c1, c2, c3, c4⟩ := hS
  obtain ⟨-, -, -, -, -, -, n1, n2, -⟩ := c3 j hj
  have n4 := uns_len hj
  unfold f_Tr_isNamed_Edunits f_Tr_isNamed_Edunits_24
  rw [qC_has c1 (by omega) (by omega), q_c, b01_t hj, if_neg (by decide), q_g (q_in (by omega) (by omega)), q_g (show lf_in (nI j) G.l_nameAt from q_in (by omega) (by omega)), nI_clamp (by omega), n2]
  by_cases e : (inm (itr its j)).length = us.length
  rotate_left
  · rw [if_neg (fun w => e ((nI_eq (by omega) (by omega)).mp w)), b01_f (fun w => e (alk_iff.mp w).1)]; rfl
  rw [if_pos (by rw [e]), if_pos (show nI us.length ≤ 255 from nI_le (b := 255) hus (by decide)), n1, q_l]
  have loop : ∀ (d i k : Nat), i + d = us.length → d < k → f_Tr_isNamed_Edunits_37 K G k (nI us.length) (nI (uns (its.take j)).length) (nI i) S = some (b01 (∀ q, i ≤ q → q < us.length → capN ((inm (itr its j)).getD q 0) = capN (us.getD q 0)), S) := by
    intro d
    induction d with
    | zero =>
      intro i k h1 h2
      obtain ⟨k, rfl⟩ : ∃ q, k = q + 1 := ⟨k - 1, by omega⟩
      rw [f_Tr_isNamed_Edunits_37, if_pos (nI_le (by omega) (by omega)), b01_t (fun q a b => by omega)]; rfl
    | succ d ih =>
      intro i k h1 h2
      obtain ⟨k, rfl⟩ : ∃ q, k = q + 1 := ⟨k - 1, by omega⟩
      have b1 : (inm (itr its j)).getD i 0 < 65536 := by rw [← uns_get hj (by omega)]; exact getD_lt hu (by decide)
      have b2 : us.getD i 0 < 65536 := getD_lt hlt (by decide)
      have i1 : lf_in (nI ((uns (its.take j)).length + i)) G.l_pool := q_in (by omega) (by omega)
      have i2 : lf_in (nI i) 255 := q_in (by omega) (by decide)
      rw [f_Tr_isNamed_Edunits_37, if_neg (nI_ge (by omega) (by omega)), nI_add]
      simp only [q_g i1, q_g i2]
      rw [nI_clamp (by omega), nI_clamp (by omega), c4 _ (by omega), uns_get hj (by omega), hb i (by omega)]
      unfold f_Tr_isNamed_Edunits_85
      have nx := ih (i + 1) k (by omega) (by omega)
      have go : capN ((inm (itr its j)).getD i 0) = capN (us.getD i 0) → some (b01 (∀ q, i + 1 ≤ q → q < us.length → capN ((inm (itr its j)).getD q 0) = capN (us.getD q 0)), S) = some (b01 (∀ q, i ≤ q → q < us.length → capN ((inm (itr its j)).getD q 0) = capN (us.getD q 0)), S) := by
        intro ec
        congr 2
        refine b01_iff ⟨fun h q a b => ?_, fun h q a b => h q (by omega) b⟩
        rcases Nat.lt_or_ge i q with z | z
        · exact h q z b
        · obtain rfl : q = i := by omega
          exact ec
      by_cases e1 : (inm (itr its j)).getD i 0 = us.getD i 0
      · rw [if_pos (by rw [e1]), q_l, nI_1, nx, go (by rw [e1])]
      · rw [if_neg (fun w => e1 ((nI_eq (by omega) (by omega)).mp w)), qV_capital K (by omega), q_b, qV_capital K (by omega), q_b]
        have c1 := capN_lt b1
        have c2 := capN_lt b2
        by_cases ec : capN ((inm (itr its j)).getD i 0) = capN (us.getD i 0)
        · rw [if_pos (by rw [ec]), q_l, nI_1, nx, go ec]
        · rw [if_neg (fun w => ec ((nI_eq (by omega) (by omega)).mp w)), b01_f (fun w => ec (w i (Nat.le_refl _) (by omega)))]; rfl
  rw [show (0 : Int32) = nI 0 from rfl, loop us.length 0 K (by omega) (by omega)]
  congr 2
  rw [b01_iff alk_iff]
  exact b01_iff ⟨fun h => ⟨e, fun q hq => h q (by omega) hq⟩, fun h q _ hq => h.2 q hq⟩
theorem qC_clashes {K N d fk n : Nat} {G : CG} {D E : Nat → Int32} {mp : Nat → Nat} {its : List It} {us : List Nat} {b : Nat → Nat} {P : Prop} {S : CS} (hK : 10000 ≤ K) (hG : gOk N G) (hN : N ≤ 1024) (hE : S.w_Dk_bytes = E) (hS : rcI D mp its S) (hl : its.length ≤ G.l_parent) (hp : (uns its).length ≤ G.l_pool) (ho : itsOk N its) (hm : mpOk N D E mp its) (h1 : 1 ≤ fk) (h2 : fk + n ≤ its.length) (hcnt : f_Tr_countIn K G S (nI d) = some (nI n, S)) (hkid : ∀ k, f_Tr_kid K G S (nI d) (nI k) = some (nI (fk + k), S)) (hs : S.v_Ed_unitCount = nI us.length) (hus : us.length ≤ 255) (hb : bufR S.w_Ed_units us) (hlt : ∀ u ∈ us, u < 65536) (hpl : S.v_Ed_plain = b01 P) (hsh : P → ∀ q, q < 11 → S.w_Ed_shortName q = nI (b q)) (hb2 : ∀ q, q < 11 → b q < 65536) : f_Ed_clashes K G S (nI d) = some (b01 ((∃ j, fk ≤ j ∧ j < fk + n ∧ alk (inm (itr its j)) us) ∨ (P ∧ shT D its fk n b)), S) := by
  have hlen := ho.2.1
  have loop : ∀ (e i k : Nat), i + e = n → e < k → f_Ed_clashes_2 K G k (nI d) (nI i) S = some (b01 (∃ j, fk + i ≤ j ∧ j < fk + n ∧ (alk (inm (itr its j)) us ∨ (P ∧ ∀ q, q < 11 → o1 D (isp (itr its j) + q) = b q))), S) := by
    intro e
    induction e with
    | zero =>
      intro i k g1 g2
      obtain ⟨k, rfl⟩ : ∃ q, k = q + 1 := ⟨k - 1, by omega⟩
      rw [f_Ed_clashes_2, hcnt, q_c, if_pos (nI_le (by omega) (by omega)), b01_f (fun ⟨q, a, c, _⟩ => by omega)]; rfl
    | succ e ih =>
      intro i k g1 g2
      obtain ⟨k, rfl⟩ : ∃ q, k = q + 1 := ⟨k - 1, by omega⟩
      have hj : fk + i < its.length := by omega
      have hj1 : 1 ≤ fk + i := by omega
      have hnl := (ho.2.2.2.2 (fk + i) hj1 hj).2.2.2.2.1
      have nx := ih (i + 1) k (by omega) (by omega)
      rw [f_Ed_clashes_2, hcnt, q_c, if_neg (nI_ge (by omega) (by omega)), hkid, q_c, hs, qC_namedE (by omega) hG hS hl hp ho.2.2.2.1 hj hus hb hlt (by omega), q_c]
      unfold f_Ed_clashes_58 f_Ed_clashes_60
      by_cases y : alk (inm (itr its (fk + i))) us
      · rw [b01_t y, if_neg (by decide), b01_t ⟨fk + i, Nat.le_refl _, by omega, Or.inl y⟩]; rfl
      · have more : ¬ (P ∧ ∀ q, q < 11 → o1 D (isp (itr its (fk + i)) + q) = b q) → b01 (∃ j, fk + (i + 1) ≤ j ∧ j < fk + n ∧ (alk (inm (itr its j)) us ∨ (P ∧ ∀ q, q < 11 → o1 D (isp (itr its j) + q) = b q))) = b01 (∃ j, fk + i ≤ j ∧ j < fk + n ∧ (alk (inm (itr its j)) us ∨ (P ∧ ∀ q, q < 11 → o1 D (isp (itr its j) + q) = b q))) := fun no => by
          refine b01_iff ⟨fun ⟨q, a, e, c⟩ => ⟨q, by omega, e, c⟩, fun ⟨q, a, e, c⟩ => ⟨q, ?_, e, c⟩⟩
          rcases Nat.lt_or_ge (fk + i) q with w | w
          · omega
          · obtain rfl : q = fk + i := by omega
            exact absurd c (fun c => c.elim y no)
        rw [b01_f y, if_pos (show nI 0 = 0 from rfl), hpl]
        by_cases w : P
        · rw [b01_t w, if_neg (show ¬ nI 1 = 0 by decide), qC_hasShort (by omega) hG hN hE hS hl hm hj1 hj (hsh w) hb2, q_c]
          by_cases x : ∀ q, q < 11 → o1 D (isp (itr its (fk + i)) + q) = b q
          · rw [b01_t x, if_neg (show ¬ nI 1 = 0 by decide), b01_t ⟨fk + i, Nat.le_refl _, by omega, Or.inr ⟨w, x⟩⟩]; rfl
          · rw [b01_f x, if_pos (show nI 0 = 0 from rfl), q_l, nI_1, nx, more fun z => x z.2]
        · rw [b01_f w, if_pos (show nI 0 = 0 from rfl), q_l, nI_1, nx, more fun z => w z.1]
  unfold f_Ed_clashes
  rw [show (0 : Int32) = nI 0 from rfl, loop n 0 K (by omega) (by omega)]
  congr 2
  refine b01_iff ⟨fun ⟨j, a, e, c⟩ => ?_, fun c => ?_⟩
  · rcases c with c | c
    · exact Or.inl ⟨j, a, e, c⟩
    · exact Or.inr ⟨c.1, j, a, e, c.2⟩
  · rcases c with ⟨j, a, e, c⟩ | ⟨w, j, a, e, c⟩
    · exact ⟨j, a, e, Or.inl c⟩
    · exact ⟨j, a, e, Or.inr ⟨w, c⟩⟩
theorem qC_shortTaken {K N d fk n : Nat} {G : CG} {D E : Nat → Int32} {mp : Nat → Nat} {its : List It} {b : Nat → Nat} {S : CS} (hK : 10000 ≤ K) (hG : gOk N G) (hN : N ≤ 1024) (hE : S.w_Dk_bytes = E) (hS : rcI D mp its S) (hl : its.length ≤ G.l_parent) (ho : itsOk N its) (hm : mpOk N D E mp its) (h1 : 1 ≤ fk) (h2 : fk + n ≤ its.length) (hcnt : f_Tr_countIn K G S (nI d) = some (nI n, S)) (hkid : ∀ k, f_Tr_kid K G S (nI d) (nI k) = some (nI (fk + k), S)) (hsh : ∀ q, q < 11 → S.w_Ed_shortName q = nI (b q)) (hb2 : ∀ q, q < 11 → b q < 65536) : f_Ed_isShortNameTaken K G S (nI d) = some (b01 (shT D its fk n b), S) := by
  have hlen := ho.2.1
  have loop : ∀ (e i k : Nat), i + e = n → e < k → f_Ed_isShortNameTaken_2 K G k (nI d) (nI i) S = some (b01 (∃ j, fk + i ≤ j ∧ j < fk + n ∧ ∀ q, q < 11 → o1 D (isp (itr its j) + q) = b q), S) := by
    intro e
    induction e with
    | zero =>
      intro i k g1 g2
      obtain ⟨k, rfl⟩ : ∃ q, k = q + 1 := ⟨k - 1, by omega⟩
      rw [f_Ed_isShortNameTaken_2, hcnt, q_c, if_pos (nI_le (by omega) (by omega)), b01_f (fun ⟨q, a, c, _⟩ => by omega)]; rfl
    | succ e ih =>
      intro i k g1 g2
      obtain ⟨k, rfl⟩ : ∃ q, k = q + 1 := ⟨k - 1, by omega⟩
      have hj : fk + i < its.length := by omega
      have hj1 : 1 ≤ fk + i := by omega
      have nx := ih (i + 1) k (by omega) (by omega)
      rw [f_Ed_isShortNameTaken_2, hcnt, q_c, if_neg (nI_ge (by omega) (by omega)), hkid, q_c, qC_hasShort (by omega) hG hN hE hS hl hm hj1 hj hsh hb2, q_c]
      by_cases x : ∀ q, q < 11 → o1 D (isp (itr its (fk + i)) + q) = b q
      · rw [b01_t x, if_neg (show ¬ nI 1 = 0 by decide), b01_t ⟨fk + i, Nat.le_refl _, by omega, x⟩]; rfl
      · rw [b01_f x, if_pos (show nI 0 = 0 from rfl), q_l, nI_1, nx]
        congr 2
        refine b01_iff ⟨fun ⟨q, a, e, c⟩ => ⟨q, by omega, e, c⟩, fun ⟨q, a, e, c⟩ => ⟨q, ?_, e, c⟩⟩
        rcases Nat.lt_or_ge (fk + i) q with w | w
        · omega
        · obtain rfl : q = fk + i := by omega
          exact absurd c x
  unfold f_Ed_isShortNameTaken
  rw [show (0 : Int32) = nI 0 from rfl, loop n 0 K (by omega) (by omega)]
  rfl
