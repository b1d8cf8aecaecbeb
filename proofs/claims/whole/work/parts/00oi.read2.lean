/-! letter, enter, up of a table volume. -/
/-- byte q of a name as bytes -/
def nbN (u q : Nat) : Nat := if widN u = 1 then u else if q = 0 then (if widN u = 2 then 192 ||| u / 2 ^ 6 else 224 ||| u / 2 ^ 12) else 128 ||| (u / 2 ^ (6 * (widN u - 1 - q))) &&& 63
def nbL : List Nat → Nat → Option Nat
  | [], _ => none
  | u :: l, q => if q < widN u then some (nbN u q) else nbL l (q - widN u)
def nbI (o : Option Nat) : Int32 := match o with
  | some x => nI x
  | none => -1
theorem qC_byteOf {K u q : Nat} (hu : u < 65536) (hq : q < widN u) : f_Wo_byteOf K (nI u) (nI q) = some (nI (nbN u q)) := by
  unfold f_Wo_byteOf
  have hw := widN_le u
  rw [qC_width (by omega), q_b, show (1 : Int32) = nI 1 from rfl, pk_sub (by omega), pk_sub (by omega), show (6 : Int32) = nI 6 from rfl, pk_mul, show (31 : Int32) = nI 31 from rfl]
  have hs : nI u >>> (nI (6 * (widN u - 1 - q)) &&& nI 31) = nI (u / 2 ^ (6 * (widN u - 1 - q))) := q_shr (by omega) (by omega)
  rw [hs, q_l]
  unfold nbN
  by_cases g : q = 0
  · rw [if_pos (show nI q ≤ 0 by rw [g]; decide)]
    by_cases w1 : widN u = 1
    · rw [if_pos (by rw [w1]), if_pos w1]
    · rw [if_neg (fun y => w1 ((nI_eq (by omega) (by omega)).mp y)), if_neg w1, if_pos g]
      by_cases w2 : widN u = 2
      · rw [if_pos (by rw [w2]; rfl), if_pos w2, show (192 : Int32) = nI 192 from rfl, q_or, w2, g]
      · rw [if_neg (fun y : nI (widN u) = 2 => w2 ((nI_eq (b := 2) (by omega) (by decide)).mp y)), if_neg w2, show (224 : Int32) = nI 224 from rfl, q_or, show widN u = 3 by omega, g]
  · rw [if_neg (show ¬ nI q ≤ 0 from nI_nle (by omega) (by omega)), if_neg (show ¬ widN u = 1 by omega), if_neg g, show (63 : Int32) = nI 63 from rfl, q_and, show (128 : Int32) = nI 128 from rfl, q_or]
theorem nbL_len : ∀ (l : List Nat) (q : Nat), tsz l ≤ q → nbL l q = none := by
  intro l
  induction l with
  | nil => intro q _; rfl
  | cons u l ih =>
    intro q h
    have e : tsz (u :: l) = widN u + tsz l := by unfold tsz; simp
    rw [e] at h
    rw [nbL, if_neg (by omega), ih _ (by omega)]
theorem drop_cons {l : List Nat} {j : Nat} (h : j < l.length) : l.drop j = l.getD j 0 :: l.drop (j + 1) := by
  rw [List.drop_eq_getElem_cons h, List.getD_eq_getElem?_getD, List.getElem?_eq_getElem h]
  rfl
theorem qC_nameByte {K N j : Nat} {G : CG} {D : Nat → Int32} {mp : Nat → Nat} {its : List It} {S : CS} (hK : 1000 ≤ K) (hG : gOk N G) (hS : rcI D mp its S) (ho : itsOk N its) (hl : its.length ≤ G.l_parent) (hp : (uns its).length ≤ G.l_pool) (h1 : 1 ≤ j) (hj : j < its.length) (q : Int32) : f_Tr_nameByte K G S (nI j) q = some (if q < 0 then -1 else nbI (nbL (inm (itr its j)) q.toNatClampNeg), S) := by
  obtain ⟨g0, ⟨-, -, -, -, -, -, -, -, ga, gl, gb, -⟩, g2, g3, g4, g5⟩ := hG
  obtain ⟨c1, c2, c3, c4⟩ := hS
  obtain ⟨-, -, -, -, -, -, n1, n2, n3, -⟩ := c3 j hj
  have n4 := uns_len hj
  have n5 := (ho.2.2.2.2 j h1 hj).2.2.2.2.1
  have hts := tsz_le (inm (itr its j))
  have hlt : ∀ u, (inm (itr its j)).getD u 0 < 65536 := fun u => by
    by_cases w : u < (inm (itr its j)).length
    · rw [← uns_get hj w]; exact getD_lt ho.2.2.2.1 (by decide)
    · rw [getD_out (by omega)]; decide
  unfold f_Tr_nameByte f_Tr_nameByte_22
  rw [qC_has c1 (by omega) (by omega), b01_t hj, q_c, if_neg (by decide)]
  by_cases w : q < 0
  · rw [if_pos w, if_pos w]
  obtain ⟨k, k1, rfl⟩ := nI_of w
  rw [if_neg w, if_neg w, q_g (q_in (by omega) (by omega)), nI_clamp (by omega), nI_clamp k1, n3]
  by_cases w2 : k < tsz (inm (itr its j))
  rotate_left
  · rw [if_neg (nI_nlt (by omega) k1), nbL_len _ _ (by omega)]; rfl
  rw [if_pos (nI_lt w2 (by omega))]
  have hclj : (nI j).toNatClampNeg = j := nI_clamp (by omega)
  have n2c : S.w_Tr_nameLength (nI j).toNatClampNeg = nI (inm (itr its j)).length := by rw [hclj]; exact n2
  have n1c : S.w_Tr_nameAt (nI j).toNatClampNeg = nI (uns (its.take j)).length := by rw [hclj]; exact n1
  have loop : ∀ (d i left kk : Nat), i + d = (inm (itr its j)).length → d < kk → left < 2 ^ 20 → f_Tr_nameByte_29 K G kk (nI j) (nI left) (nI i) S = some (nbI (nbL ((inm (itr its j)).drop i) left), S) := by
    intro d
    induction d with
    | zero =>
      intro i left kk g1 g2 g3
      obtain ⟨kk, rfl⟩ : ∃ q, kk = q + 1 := ⟨kk - 1, by omega⟩
      rw [f_Tr_nameByte_29, q_g (q_in (by omega) (by omega)), n2c, if_pos (nI_le (by omega) (by omega)), List.drop_eq_nil_of_le (by omega)]
      rfl
    | succ d ih =>
      intro i left kk g1 g2 g3'
      obtain ⟨kk, rfl⟩ : ∃ q, kk = q + 1 := ⟨kk - 1, by omega⟩
      have hu := hlt i
      have hw := widN_le ((inm (itr its j)).getD i 0)
      have i1 : lf_in (nI j) G.l_nameAt := q_in (by omega) (by omega)
      have i2 : lf_in (nI ((uns (its.take j)).length + i)) G.l_pool := q_in (by omega) (by omega)
      rw [f_Tr_nameByte_29, q_g (q_in (by omega) (by omega))]
      simp only [q_g i1]
      rw [n2c, if_neg (nI_ge (by omega) (by omega)), n1c, nI_add, q_g i2, q_l, nI_clamp (by omega), c4 _ (by omega), uns_get hj (by omega), qC_width (by omega), q_b, drop_cons (by omega), nbL]
      by_cases y : left < widN ((inm (itr its j)).getD i 0)
      · rw [if_neg (nI_ge y (by omega)), if_pos y, qC_byteOf hu y, q_b]
        rfl
      · rw [if_pos (nI_le (by omega) (by omega)), if_neg y, q_l, q_l, nI_1, pk_sub (by omega), ih (i + 1) (left - widN ((inm (itr its j)).getD i 0)) kk (by omega) (by omega) (by omega)]
  rw [show (0 : Int32) = nI 0 from rfl, loop (inm (itr its j)).length 0 k K (by omega) (by omega) (by omega)]
  rfl
theorem qM_bytesOf {K u : Nat} (h : u < 2 ^ 31) : f_Mo_bytesOf K (nI u) = some (nI (widN u)) := qC_width (K := K) h
theorem qM_text {K N j : Nat} {its : List It} {T : MS} (hK : 1000 ≤ K) (hT : rmI its T) (ho : itsOk N its) (h1 : 1 ≤ j) (hj : j < its.length) (q : Int32) : f_Mo_text K T (nI j) q = some (if q < 0 then -1 else nbI (nbL (inm (itr its j)) q.toNatClampNeg), T) := by
  obtain ⟨-, -, hI, hU⟩ := hT
  obtain ⟨-, -, -, -, n1, n2⟩ := hI j h1 hj
  have hlen := ho.2.1
  have hul := ho.2.2.1
  have n4 := uns_len hj
  have n5 := (ho.2.2.2.2 j h1 hj).2.2.2.2.1
  have hlt : ∀ u, (inm (itr its j)).getD u 0 < 65536 := fun u => by
    by_cases w : u < (inm (itr its j)).length
    · rw [← uns_get hj w]; exact getD_lt ho.2.2.2.1 (by decide)
    · rw [getD_out (by omega)]; decide
  have hne : ¬ nI j = -1 := fun w => by
    have w := congrArg Int32.toInt w
    rw [nI_toInt (by omega), show (-1 : Int32).toInt = -1 from by decide] at w
    omega
  have hin : lf_in (nI j) 4200 := q_in (by omega) (by decide)
  have hcl : (nI j).toNatClampNeg = j := nI_clamp (by omega)
  have n2c : T.v_nameSize (nI j).toNatClampNeg = nI (inm (itr its j)).length := by rw [hcl]; exact n2
  have n1c : T.v_nameAt (nI j).toNatClampNeg = nI (uns (its.take j)).length := by rw [hcl]; exact n1
  unfold f_Mo_text
  rw [if_neg hne]
  by_cases w : q < 0
  · obtain ⟨k, rfl⟩ : ∃ m, K = m + 1 := ⟨K - 1, by omega⟩
    unfold f_Mo_text_32 f_Mo_text_152
    rw [q_g hin, n2c, if_pos w, if_pos w]
    by_cases y : nI (inm (itr its j)).length ≤ 0
    · rw [if_pos y]
    · rw [if_neg y]
  obtain ⟨k, k1, rfl⟩ := nI_of w
  rw [if_neg w, nI_clamp k1]
  have loop : ∀ (d i left kk : Nat), i + d = (inm (itr its j)).length → d < kk → left < 2 ^ 31 → f_Mo_text_32 K kk (nI j) (nI k) (nI left) (nI i) T = some (nbI (nbL ((inm (itr its j)).drop i) left), T) := by
    intro d
    induction d with
    | zero =>
      intro i left kk g1 g2 g3
      obtain ⟨kk, rfl⟩ : ∃ q, kk = q + 1 := ⟨kk - 1, by omega⟩
      unfold f_Mo_text_32 f_Mo_text_152
      rw [q_g hin, n2c, if_pos (nI_le (by omega) (by omega)), List.drop_eq_nil_of_le (by omega)]
      rfl
    | succ d ih =>
      intro i left kk g1 g2 g3
      obtain ⟨kk, rfl⟩ : ∃ q, kk = q + 1 := ⟨kk - 1, by omega⟩
      have hu := hlt i
      have hw := widN_le ((inm (itr its j)).getD i 0)
      rw [f_Mo_text_32, q_g hin]
      simp only [q_g hin]
      rw [n2c, if_neg (nI_ge (by omega) (by omega)), if_neg w, n1c, nI_add, q_g (q_in (by omega) (by decide)), q_l, nI_clamp (by omega), hU _ (by omega), uns_get hj (by omega), qM_bytesOf (by omega), q_b, drop_cons (by omega), nbL]
      generalize (inm (itr its j)).getD i 0 = u at *
      by_cases y : left < widN u
      · rw [if_neg (nI_ge y (by omega)), if_pos y]
        unfold nbN
        by_cases w1 : widN u = 1
        · rw [if_pos (by rw [w1]; rfl), if_pos w1]; rfl
        · rw [if_neg (fun z : nI (widN u) = 1 => w1 ((nI_eq (b := 1) (by omega) (by decide)).mp z)), if_neg w1]
          by_cases w2 : left = 0
          · rw [if_pos (show nI left ≤ 0 by rw [w2]; decide), if_pos w2]
            by_cases w3 : widN u = 2
            · rw [if_pos (by rw [w3]; rfl), if_pos w3, show (192 : Int32) = nI 192 from rfl, show (6 : Int32) = nI 6 from rfl, q_shr (by omega) (by decide), q_or]; rfl
            · rw [if_neg (fun z : nI (widN u) = 2 => w3 ((nI_eq (b := 2) (by omega) (by decide)).mp z)), if_neg w3, show (224 : Int32) = nI 224 from rfl, show (12 : Int32) = nI 12 from rfl, q_shr (by omega) (by decide), q_or]; rfl
          · rw [if_neg (show ¬ nI left ≤ 0 from nI_nle (by omega) (by omega)), if_neg w2, show (1 : Int32) = nI 1 from rfl, pk_sub (by omega), pk_sub (by omega), show (6 : Int32) = nI 6 from rfl, pk_mul, q_shr (by omega) (by omega), show (63 : Int32) = nI 63 from rfl, q_and, show (128 : Int32) = nI 128 from rfl, q_or]; rfl
      · rw [if_pos (nI_le (by omega) (by omega)), if_neg y, q_l, q_l, nI_1, pk_sub (by omega), ih (i + 1) (left - widN u) kk (by omega) (by omega) (by omega)]
  rw [show (0 : Int32) = nI 0 from rfl, loop (inm (itr its j)).length 0 k K (by omega) (by omega) k1]
  rfl
