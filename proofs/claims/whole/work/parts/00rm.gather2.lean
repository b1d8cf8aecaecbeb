theorem nI_nm1 {i : Nat} (h : i < 2 ^ 31) : ¬ nI i = -1 := fun w => by
  have w := congrArg Int32.toInt w
  rw [nI_toInt h, show (-1 : Int32).toInt = -1 from by decide] at w
  omega
/-- what the class holds of a tree, and its chains -/
abbrev trC (N : Nat) (D : Nat → Int32) (mp : Nat → Nat) (fks : List Nat) (its : List It) (k : Nat) (e : Nat → Nat) (G : CG) (S : CS) : Prop := gOk N G ∧ rcI D mp its S ∧ its.length ≤ G.l_parent ∧ itsOk N its ∧ (∀ j, j < its.length → S.w_Tr_kidCount j = nI (kcI fks its.length j) ∧ (isDr D its j → S.w_Tr_kids j = nI (fkI fks j))) ∧ (kdS fks its ∧ fks.length = its.length) ∧ (∀ j, j < its.length → (chI N D its j).length ≤ k ∧ begI D its j < 2 ^ 28 ∧ lke k e (begI D its j) (chI N D its j)) ∧ (∀ j, j < its.length → ¬ isDr D its j → szI D its j < 2 ^ 22) ∧ sumN (fun i => (chI N D its i).length) its.length ≤ k
theorem qC_cnt {K N k j : Nat} {D : Nat → Int32} {mp : Nat → Nat} {fks : List Nat} {its : List It} {e : Nat → Nat} {G : CG} {S : CS} (h : trC N D mp fks its k e G S) (hj : j < its.length) : f_Tr_countIn K G S (nI j) = some (nI (kcI fks its.length j), S) := by
  obtain ⟨⟨g0, ⟨-, -, -, -, -, -, -, g1, -⟩, g2, g3, -⟩, hr, hl, hok, hk0, -, -, -, -⟩ := h
  have hlen := hok.2.1
  unfold f_Tr_countIn
  rw [qC_has hr.1 (by omega) (by omega), q_c, b01_t hj, if_neg (by decide), q_g (q_in (by omega) (by omega)), nI_clamp (by omega), (hk0 j hj).1]
theorem qC_kd {K N k j q : Nat} {D : Nat → Int32} {mp : Nat → Nat} {fks : List Nat} {its : List It} {e : Nat → Nat} {G : CG} {S : CS} (h : trC N D mp fks its k e G S) (hj : j < its.length) (hd : isDr D its j) : f_Tr_kid K G S (nI j) (nI q) = some (nI (fkI fks j + q), S) := by
  obtain ⟨⟨g0, ⟨-, -, -, -, -, -, g1, -⟩, g2, g3, -⟩, hr, hl, hok, hk0, -, -, -, -⟩ := h
  have hlen := hok.2.1
  unfold f_Tr_kid
  rw [qC_has hr.1 (by omega) (by omega), q_c, b01_t hj, if_neg (by decide), q_g (q_in (by omega) (by omega)), nI_clamp (by omega), (hk0 j hj).2 hd, nI_add]
theorem qC_entries {K N k i : Nat} {D : Nat → Int32} {mp : Nat → Nat} {fks : List Nat} {its : List It} {e : Nat → Nat} {G : CG} {S : CS} (h : trC N D mp fks its k e G S) (hi : i < its.length) (hd : isDr D its i) : f_Pl_entriesOf K G S (nI i) = some (nI (eNo fks its i), S) ∧ ∀ q, q < eNo fks its i → f_Pl_nameSize K G S (nI i) (nI q) = some (nI (eSz fks its i q), S) := by
  have hlen := h.2.2.2.1.2.1
  obtain ⟨d1, d2, d3, d4, d5⟩ := h.2.2.2.2.2.1.1 i (by rw [h.2.2.2.2.2.1.2]; exact hi)
  have hkc : fkI fks i + kcI fks its.length i = fks.getD (i + 1) its.length := by unfold kcI; unfold fkI at *; omega
  refine ⟨?_, fun q hq => ?_⟩
  · unfold f_Pl_entriesOf f_Pl_entriesOf_19 eNo
    rw [qC_cnt h hi, q_c, show (2 : Int32) = nI 2 from rfl, nI_add]
    by_cases w : i = 0
    · rw [if_pos (show nI i = 0 by rw [w]; rfl), if_pos w, nI_1]
    · rw [if_neg (nI_ne0 (by omega) (by omega)), if_neg w, Int32.add_zero, Nat.add_zero]
  · have hno : eNo fks its i ≤ 3 + kcI fks its.length i := by unfold eNo; split <;> omega
    unfold f_Pl_nameSize eSz
    by_cases w : q < 2
    · rw [if_neg (show ¬ 2 ≤ nI q from nI_ge (b := 2) w (by decide)), if_pos w, nI_1]
    · rw [if_pos (show 2 ≤ nI q from nI_le (a := 2) (by omega) (by omega)), if_neg w, qC_cnt h hi, q_c, show (2 : Int32) = nI 2 from rfl, pk_sub (by omega)]
      by_cases g : q - 2 < kcI fks its.length i
      · rw [if_neg (nI_ge g (by omega)), if_pos g, qC_kd h hi hd, q_c, qC_nameSize h.1 h.2.1 h.2.2.1 (by omega), q_c]
      · rw [if_pos (nI_le (by omega) (by omega)), if_neg g]; rfl
theorem qC_blocksBuilt {K N k i : Nat} {D : Nat → Int32} {mp : Nat → Nat} {fks : List Nat} {its : List It} {e : Nat → Nat} {G : CG} {S : CS} (hK : 20000 ≤ K) (h : trC N D mp fks its k e G S) (hi : i < its.length) (hd : isDr D its i) : f_Pl_blocksBuilt K G S (nI i) = some (nI (flB fks its i), S) := by
  have hlen := h.2.2.2.1.2.1
  obtain ⟨he1, he2⟩ := qC_entries (K := K) h hi hd
  have hes := eSz_le h.2.2.2.1 h.2.2.2.2.2.1.1 (show i < fks.length by rw [h.2.2.2.2.2.1.2]; exact hi)
  obtain ⟨d1, d2, d3, d4, d5⟩ := h.2.2.2.2.2.1.1 i (by rw [h.2.2.2.2.2.1.2]; exact hi)
  have hno : eNo fks its i ≤ 4300 := by
    unfold eNo kcI
    unfold fkI at *
    split <;> omega
  have loop : ∀ (d q kk : Nat), q + d = eNo fks its i → d < kk → f_Pl_blocksBuilt_7 K G kk (nI i) (nI (pkS (eSz fks its i) q).1) (nI (pkS (eSz fks its i) q).2) (nI q) S = some (nI (flB fks its i), S) := by
    intro d
    induction d with
    | zero =>
      intro q kk h1 h2
      obtain ⟨kk, rfl⟩ : ∃ m, kk = m + 1 := ⟨kk - 1, by omega⟩
      obtain rfl : q = eNo fks its i := by omega
      rw [f_Pl_blocksBuilt_7, he1, q_c, if_pos (Int32.le_refl _)]
      rfl
    | succ d ih =>
      intro q kk h1 h2
      obtain ⟨kk, rfl⟩ : ∃ m, kk = m + 1 := ⟨kk - 1, by omega⟩
      obtain ⟨p1, p2, p3⟩ := pkS_le hes q
      have hse := hes q
      have nx := ih (q + 1) kk (by omega) (by omega)
      have hel : f_Pl_entryLength K (nI (eSz fks its i q)) = some (nI (elN (eSz fks its i q))) := by
        unfold f_Pl_entryLength elN
        rw [show (8 : Int32) = nI 8 from rfl, nI_add, show (3 : Int32) = nI 3 from rfl, nI_add, show (4 : Int32) = nI 4 from rfl, pk_div (by omega) (by decide) (by decide), pk_mul]
        congr 2
        omega
      have helb : elN (eSz fks its i q) ≤ 1024 := by unfold elN; omega
      rw [f_Pl_blocksBuilt_7]
      unfold f_Pl_blocksBuilt_44
      rw [he1, q_c, if_neg (nI_ge (by omega) (by omega)), he2 q (by omega), q_c, hel, q_b, nI_add, nI_1, nI_1, q_l, q_l, q_l]
      rw [pkS] at nx
      by_cases w : (pkS (eSz fks its i) q).2 + elN (eSz fks its i q) ≤ 1024
      · rw [if_pos w] at nx
        rw [if_pos (show nI ((pkS (eSz fks its i) q).2 + elN (eSz fks its i q)) ≤ 1024 from nI_le (b := 1024) w (by decide))]
        exact nx
      · rw [if_neg w] at nx
        rw [if_neg (show ¬ nI ((pkS (eSz fks its i) q).2 + elN (eSz fks its i q)) ≤ 1024 from nI_ge (a := 1024) (by omega) (by omega)), Int32.zero_add, q_l]
        exact nx
  exact loop (eNo fks its i) 0 K (by omega) (by omega)
/-- rooms from a on -/
def rmF (rm : List Nat) : Nat → Nat → List Nat
  | _, 0 => []
  | a, d + 1 => rm.getD a 0 :: rmF rm (a + 1) d
theorem rmF_len (rm : List Nat) : ∀ d a, (rmF rm a d).length = d := by
  intro d
  induction d with
  | zero => intro a; rfl
  | succ d ih => intro a; rw [rmF, List.length_cons, ih]
abbrev rmC (B : Nat) (rm : List Nat) (S : CS) : Prop := S.v_Pl_roomCount = nI rm.length ∧ arr S.w_Pl_rooms rm ∧ rm.length ≤ B
theorem qC_room {K B N i : Nat} {rm : List Nat} {G : CG} {S : CS} (hG : G.n = N) (hBN : B = N / 2) (hB : B ≤ 512) (h : rmC B rm S) (hi : i < 2 ^ 31) : f_Pl_room K G S (nI i) = some (nI (rm.getD i 0), S) := by
  obtain ⟨h1, h2, h3⟩ := h
  unfold f_Pl_room f_Pl_room_21
  rw [if_neg (nI_pos hi), h1, hG, ← hBN]
  by_cases w : rm.length ≤ i
  · rw [if_pos (nI_le w hi), getD_out w]; rfl
  · rw [if_neg (nI_ge (by omega) (by omega)), q_g (q_in (by omega) (by omega)), nI_clamp hi, h2 i (by omega)]
theorem qC_g44 {K B N : Nat} {rm : List Nat} {G : CG} {S : CS} (hG : G.n = N) (hBN : B = N / 2) (hB : B ≤ 512) (h : rmC B rm S) (y : Int32) {own a : Nat} (ha0 : a + own < 2 ^ 30) : ∀ (d j q : Nat) (l : List Nat) (f : Nat → Int32), j + d = own → d < q → l.length + d ≤ B + 4 → arr f l → ∃ f', arr f' (l ++ rmF rm (a + j) d) ∧ f_Pl_gather_44 K G q y (nI own) (nI a) (nI j) (gSt S f (nI l.length)) = f_Pl_gather_71 K G K y 3 (gSt S f' (nI (l ++ rmF rm (a + j) d).length)) := by
  intro d
  induction d with
  | zero =>
    intro j q l f h1 h2 h3 hf
    obtain ⟨q, rfl⟩ : ∃ m, q = m + 1 := ⟨q - 1, by omega⟩
    obtain rfl : j = own := by omega
    refine ⟨f, by rw [rmF, List.append_nil]; exact hf, ?_⟩
    rw [f_Pl_gather_44, if_pos (Int32.le_refl _), rmF, List.append_nil]
  | succ d ih =>
    intro j q l f h1 h2 h3 hf
    obtain ⟨q, rfl⟩ : ∃ m, q = m + 1 := ⟨q - 1, by omega⟩
    have hr := qC_room (K := K) (S := gSt S f (nI l.length)) (i := a + j) hG hBN hB h (by omega)
    obtain ⟨f1, a1, a2⟩ := qC_add (K := K) (b := rm.getD (a + j) 0) (S := S) hG hBN hB (show l.length < B + 4 by omega) hf
    have hl1 : (l ++ [rm.getD (a + j) 0]).length = l.length + 1 := List.length_append
    obtain ⟨f', b1, b2⟩ := ih (j + 1) q (l ++ [rm.getD (a + j) 0]) f1 (by omega) (by omega) (by omega) a1
    have hcat : l ++ rmF rm (a + j) (d + 1) = (l ++ [rm.getD (a + j) 0]) ++ rmF rm (a + (j + 1)) d := by
      rw [rmF, app_snoc l (rm.getD (a + j) 0) (rmF rm (a + j + 1) d)]
      rfl
    refine ⟨f', by rw [hcat]; exact b1, ?_⟩
    rw [f_Pl_gather_44, if_neg (nI_ge (by omega) (by omega)), nI_add, hr, q_c, a2, q_b, nI_1, q_l, b2, hcat]
theorem qC_g71 {K A B N : Nat} {G : CG} {S : CS} (hG : G.n = N) (hBN : B = N / 2) (hB : B ≤ 512) (hA : A ≤ 64) (hS : S.v_Tb_start = nI (2 * A)) : ∀ (d b q : Nat) (l : List Nat) (f : Nat → Int32), b + d = A → d < q → l.length + d ≤ B + 4 → arr f l → ∃ f', arr f' (l ++ blk 0 d b) ∧ f_Pl_gather_71 K G q (-1) (nI b) (gSt S f (nI l.length)) = f_Pl_gather_102 K G (-1) (gSt S f' (nI (l ++ blk 0 d b).length)) := by
  intro d
  induction d with
  | zero =>
    intro b q l f h1 h2 h3 hf
    obtain ⟨q, rfl⟩ : ∃ m, q = m + 1 := ⟨q - 1, by omega⟩
    obtain rfl : b = A := by omega
    refine ⟨f, by rw [blk, List.append_nil]; exact hf, ?_⟩
    rw [f_Pl_gather_71, if_pos rfl, show (gSt S f (nI l.length)).v_Tb_start = nI (2 * b) from hS, half (by omega), if_pos (Int32.le_refl _), blk, List.append_nil]
  | succ d ih =>
    intro b q l f h1 h2 h3 hf
    obtain ⟨q, rfl⟩ : ∃ m, q = m + 1 := ⟨q - 1, by omega⟩
    obtain ⟨f1, a1, a2⟩ := qC_add (K := K) (b := b) (S := S) hG hBN hB (show l.length < B + 4 by omega) hf
    have hl1 : (l ++ [b]).length = l.length + 1 := List.length_append
    obtain ⟨f', b1, b2⟩ := ih (b + 1) q (l ++ [b]) f1 (by omega) (by omega) (by omega) a1
    have hcat : l ++ blk 0 (d + 1) b = (l ++ [b]) ++ blk 0 d (b + 1) := by
      rw [blk, Nat.zero_add, app_snoc l b (blk 0 d (b + 1))]
    refine ⟨f', by rw [hcat]; exact b1, ?_⟩
    rw [f_Pl_gather_71, if_pos rfl, show (gSt S f (nI l.length)).v_Tb_start = nI (2 * A) from hS, half (by omega), if_neg (nI_ge (by omega) (by omega)), a2, q_b, nI_1, q_l, b2, hcat]
/-- the chains of the directories before n -/
noncomputable def rcD (N : Nat) (D : Nat → Int32) (its : List It) (A H : Nat) (gl : Nat → Nat) : Nat → List Nat
  | 0 => []
  | n + 1 => rcD N D its A H gl n ++ cif (isDr D its n) (chL A H gl (chI N D its n)) []
theorem rcD_len {N : Nat} {D : Nat → Int32} {its : List It} {A H : Nat} {gl : Nat → Nat} : ∀ n, (rcD N D its A H gl n).length = sumN (cHn N D its H) n := by
  intro n
  induction n with
  | zero => rfl
  | succ n ih =>
    rw [rcD, List.length_append, ih, sumN]
    unfold cHn
    by_cases w : isDr D its n
    · rw [cif_t w, cif_t w, chL_len]
    · rw [cif_f w, cif_f w]; rfl
theorem cHn_tot {N : Nat} {D : Nat → Int32} {its : List It} {H : Nat} : ∀ n, sumN (cHn N D its H) n ≤ sumN (fun i => (chI N D its i).length) n * H := by
  intro n
  induction n with
  | zero => exact Nat.zero_le _
  | succ n ih =>
    rw [sumN, sumN, Nat.add_mul]
    have : cHn N D its H n ≤ (chI N D its n).length * H := by
      unfold cHn
      by_cases w : isDr D its n
      · rw [cif_t w]; exact Nat.le_refl _
      · rw [cif_f w]; exact Nat.zero_le _
    omega
theorem qC_g105 {K A H k B N : Nat} {D : Nat → Int32} {mp : Nat → Nat} {fks : List Nat} {its : List It} {e gl : Nat → Nat} {G : CG} {S : CS} (hK : 20000 ≤ K) (h : lsC A H k B N e gl G S) (ht : trC N D mp fks its k e G S) (hAk : A + k * H ≤ B) {l0 : List Nat} (hl0 : l0.length ≤ A) : ∀ (d i q : Nat) (f : Nat → Int32), i + d = its.length → d < q → arr f (l0 ++ rcD N D its A H gl i) → ∃ f', arr f' (l0 ++ rcD N D its A H gl its.length) ∧ f_Pl_gather_105 K G q (-1) (nI i) (gSt S f (nI (l0 ++ rcD N D its A H gl i).length)) = some (gSt S f' (nI (l0 ++ rcD N D its A H gl its.length).length)) := by
  have hlen := ht.2.2.2.1.2.1
  have hB := h.1.2.2.2
  have hBN := h.2.1.2.2.1
  have hmono : ∀ i, i ≤ its.length → (rcD N D its A H gl i).length ≤ k * H := fun i hi => by
    rw [rcD_len]
    have a1 := cHn_tot (N := N) (D := D) (its := its) (H := H) its.length
    have a2 := sumN_mono (f := cHn N D its H) (a := i) (its.length - i)
    rw [show i + (its.length - i) = its.length by omega] at a2
    have a3 := Nat.mul_le_mul_right H ht.2.2.2.2.2.2.2.2
    omega
  intro d
  induction d with
  | zero =>
    intro i q f h1 h2 hf
    obtain ⟨q, rfl⟩ : ∃ m, q = m + 1 := ⟨q - 1, by omega⟩
    obtain rfl : i = its.length := by omega
    refine ⟨f, hf, ?_⟩
    rw [f_Pl_gather_105]
    unfold f_Pl_gather_158
    rw [if_pos rfl, show (gSt S f (nI (l0 ++ rcD N D its A H gl its.length).length)).v_Tr_count = nI its.length from ht.2.1.1, if_pos (Int32.le_refl _), if_pos rfl]
  | succ d ih =>
    intro i q f h1 h2 hf
    obtain ⟨q, rfl⟩ : ∃ m, q = m + 1 := ⟨q - 1, by omega⟩
    have hi : i < its.length := by omega
    obtain ⟨c1, c2, c3⟩ := ht.2.2.2.2.2.2.1 i hi
    have hm := hmono (i + 1) (by omega)
    rw [f_Pl_gather_105]
    unfold f_Pl_gather_152
    rw [if_pos rfl, show (gSt S f (nI (l0 ++ rcD N D its A H gl i).length)).v_Tr_count = nI its.length from ht.2.1.1, if_neg (nI_ge hi (by omega)), qC_isDir (S := gSt S f (nI (l0 ++ rcD N D its A H gl i).length)) ht.1 ht.2.1 ht.2.2.1 hi, q_c]
    by_cases w : isDr D its i
    · have hs : l0 ++ rcD N D its A H gl (i + 1) = (l0 ++ rcD N D its A H gl i) ++ chL A H gl (chI N D its i) := by rw [rcD, cif_t w, List.append_assoc]
      have hlen2 : (l0 ++ rcD N D its A H gl (i + 1)).length ≤ A + k * H := by rw [List.length_append]; omega
      have hll : (l0 ++ rcD N D its A H gl i).length + (chI N D its i).length * H ≤ A + k * H := by
        rw [hs, List.length_append, chL_len] at hlen2
        exact hlen2
      obtain ⟨f1, a1, a2⟩ := qC_listChain (K := K) (left := B + 4) (by omega) h c1 c2 c3 (by omega) (by omega) hf
      rw [List.take_of_length_le (by rw [chL_len]; omega), ← hs] at a1 a2
      obtain ⟨f', b1, b2⟩ := ih (i + 1) q f1 (by omega) (by omega) a1
      refine ⟨f', b1, ?_⟩
      rw [b01_t w, if_neg (show ¬ nI 1 = 0 by decide), qC_first (S := gSt S f (nI (l0 ++ rcD N D its A H gl i).length)) ht.1 ht.2.1 ht.2.2.1 hi, q_c, h.2.1.1, ← hBN, a2, q_b, nI_1, q_l, b2]
    · have hs : rcD N D its A H gl (i + 1) = rcD N D its A H gl i := by rw [rcD, cif_f w, List.append_nil]
      obtain ⟨f', b1, b2⟩ := ih (i + 1) q f (by omega) (by omega) (by rw [hs]; exact hf)
      refine ⟨f', b1, ?_⟩
      rw [hs] at b2
      rw [b01_f w, if_pos (show nI 0 = 0 from rfl), nI_1, q_l, b2]
/-- the record's blocks -/
noncomputable def recL (N : Nat) (D : Nat → Int32) (its : List It) (A H : Nat) (gl : Nat → Nat) (rm : List Nat) : List Nat := (rmF rm 0 3 ++ blk 0 (A - 3) 3) ++ rcD N D its A H gl its.length
theorem recL_len {N : Nat} {D : Nat → Int32} {its : List It} {A H : Nat} {gl : Nat → Nat} {rm : List Nat} (hA : 3 ≤ A) : (recL N D its A H gl rm).length = rcB N D its A H := by
  unfold recL rcB
  rw [List.length_append, List.length_append, rmF_len, blk_len, rcD_len]
  omega
theorem qC_gatherR {K A H k B N : Nat} {D : Nat → Int32} {mp : Nat → Nat} {fks : List Nat} {its : List It} {e gl : Nat → Nat} {rm : List Nat} {G : CG} {S : CS} (hK : 20000 ≤ K) (h : lsC A H k B N e gl G S) (ht : trC N D mp fks its k e G S) (hAk : A + k * H ≤ B) (hrm : rmC B rm S) : ∃ f, arr f (recL N D its A H gl rm) ∧ f_Pl_gather K G S (-1) = some (gSt S f (nI (recL N D its A H gl rm).length)) := by
  have hA := h.1.1
  have hB := h.1.2.2.2
  have hBN := h.2.1.2.2.1
  obtain ⟨f1, a1, a2⟩ := qC_g44 (K := K) (S := S) h.2.1.1 hBN hB.2 hrm (-1) (own := 3) (a := 0) (by decide) 3 0 K [] S.w_Pl_list (by omega) (by omega) (by rw [List.length_nil]; omega) (fun i hi => absurd hi (Nat.not_lt_zero _))
  rw [List.nil_append, Nat.add_zero] at a1 a2
  obtain ⟨f2, b1, b2⟩ := qC_g71 (K := K) (A := A) (S := S) h.2.1.1 hBN hB.2 hA.2 h.2.2.1.1 (A - 3) 3 K (rmF rm 0 3) f1 (by omega) (by omega) (by rw [rmF_len]; omega) a1
  obtain ⟨f3, c1, c2⟩ := qC_g105 (K := K) (S := S) hK h ht hAk (l0 := rmF rm 0 3 ++ blk 0 (A - 3) 3) (by rw [List.length_append, rmF_len, blk_len]; omega) its.length 0 K f2 (by omega) (by have := ht.2.2.2.1.2.1; omega) (by rw [rcD, List.append_nil]; exact b1)
  rw [rcD, List.append_nil] at c2
  refine ⟨f3, c1, ?_⟩
  unfold f_Pl_gather f_Pl_gather_22 f_Pl_gather_40
  have a2 : f_Pl_gather_44 K G K (-1) 3 0 0 (S.u_v_Pl_listed 0) = _ := a2
  have b2 : f_Pl_gather_71 K G K (-1) 3 (gSt S f1 (nI (rmF rm 0 3).length)) = _ := b2
  rw [q_l, if_pos rfl, if_pos rfl, a2, b2]
  unfold f_Pl_gather_102
  exact c2
