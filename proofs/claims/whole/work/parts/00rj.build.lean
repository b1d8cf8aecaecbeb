/-! The plan: what is built. -/
def sumN (f : Nat → Nat) : Nat → Nat
  | 0 => 0
  | n + 1 => sumN f n + f n
theorem sumN_congr {f g : Nat → Nat} : ∀ n, (∀ i, i < n → f i = g i) → sumN f n = sumN g n := by
  intro n
  induction n with
  | zero => intro _; rfl
  | succ n ih => intro h; rw [sumN, sumN, ih (fun i hi => h i (by omega)), h n (by omega)]
theorem sumN_add {f g : Nat → Nat} : ∀ n, sumN (fun i => f i + g i) n = sumN f n + sumN g n := by
  intro n
  induction n with
  | zero => rfl
  | succ n ih => rw [sumN, sumN, sumN, ih]; omega
theorem sumN_le {f : Nat → Nat} {c : Nat} : ∀ n, (∀ i, i < n → f i ≤ c) → sumN f n ≤ n * c := by
  intro n
  induction n with
  | zero => intro _; exact Nat.zero_le _
  | succ n ih =>
    intro h
    have := ih (fun i hi => h i (by omega))
    have := h n (by omega)
    rw [sumN, Nat.add_mul, Nat.one_mul]
    omega
theorem sumN_mono {f : Nat → Nat} {a : Nat} : ∀ d, sumN f a ≤ sumN f (a + d) := by
  intro d
  induction d with
  | zero => exact Nat.le_refl _
  | succ d ih => rw [show a + (d + 1) = (a + d) + 1 from rfl, sumN]; omega
def indN (n : Nat) : Nat := if n ≤ 12 then 0 else if n ≤ 268 then 1 else 2 + (n - 268 + 255) / 256
theorem indN_le (n : Nat) : indN n ≤ n := by unfold indN; split <;> (try split) <;> omega
def elN (n : Nat) : Nat := 8 + (n + 3) / 4 * 4
/-- entries put one behind another: blocks, and where the last one is filled to -/
def pkS (s : Nat → Nat) : Nat → Nat × Nat
  | 0 => (1, 0)
  | e + 1 => if (pkS s e).2 + elN (s e) ≤ 1024 then ((pkS s e).1, (pkS s e).2 + elN (s e)) else ((pkS s e).1 + 1, elN (s e))
theorem pkS_le {s : Nat → Nat} (hs : ∀ e, s e ≤ 765) : ∀ e, 1 ≤ (pkS s e).1 ∧ (pkS s e).1 ≤ e + 1 ∧ (pkS s e).2 ≤ 1024 := by
  intro e
  induction e with
  | zero => exact ⟨Nat.le_refl _, Nat.le_refl _, Nat.zero_le _⟩
  | succ e ih =>
    have := hs e
    have hel : elN (s e) ≤ 1024 := by unfold elN; omega
    rw [pkS]
    split
    · rename_i h; exact ⟨ih.1, by show (pkS s e).1 ≤ _; omega, h⟩
    · exact ⟨by show 1 ≤ (pkS s e).1 + 1; omega, by show (pkS s e).1 + 1 ≤ _; omega, hel⟩
/-- the sizes of a directory's entries, and how many there are -/
def eSz (fks : List Nat) (its : List It) (i e : Nat) : Nat := if e < 2 then e + 1 else if e - 2 < kcI fks its.length i then tsz (inm (itr its (fkI fks i + (e - 2)))) else 7
def eNo (fks : List Nat) (its : List It) (i : Nat) : Nat := 2 + kcI fks its.length i + (if i = 0 then 1 else 0)
def flB (fks : List Nat) (its : List It) (i : Nat) : Nat := (pkS (eSz fks its i) (eNo fks its i)).1
theorem eSz_le {N i : Nat} {fks : List Nat} {its : List It} (ho : itsOk N its) (hkd : kdS fks its) (hi : i < fks.length) : ∀ e, eSz fks its i e ≤ 765 := by
  intro e
  unfold eSz
  by_cases w : e < 2
  · rw [if_pos w]; omega
  rw [if_neg w]
  by_cases g : e - 2 < kcI fks its.length i
  · rw [if_pos g]
    obtain ⟨d1, d2, d3, d4, d5⟩ := hkd i hi
    have hlt : fkI fks i + (e - 2) < its.length := by unfold kcI at g; unfold fkI at *; omega
    have := (ho.2.2.2.2 (fkI fks i + (e - 2)) (by omega) hlt).2.2.2.2.1
    have := tsz_le (inm (itr its (fkI fks i + (e - 2))))
    omega
  · rw [if_neg g]; decide
/-- the blocks of a file -/
noncomputable def fbN (D : Nat → Int32) (its : List It) (i : Nat) : Nat := (szI D its i + 1023) / 1024
noncomputable def cHn (N : Nat) (D : Nat → Int32) (its : List It) (H i : Nat) : Nat := cif (isDr D its i) ((chI N D its i).length * H) 0
noncomputable def rcB (N : Nat) (D : Nat → Int32) (its : List It) (A H : Nat) : Nat := A + sumN (cHn N D its H) its.length
noncomputable def bdI (fks : List Nat) (D : Nat → Int32) (its : List It) (i : Nat) : Nat := cif (isDr D its i) (flB fks its i + indN (flB fks its i)) (indN (fbN D its i))
noncomputable def kpI (N : Nat) (D : Nat → Int32) (its : List It) (H i : Nat) : Nat := cif (isDr D its i) ((chI N D its i).length * H) (fbN D its i)
noncomputable def bdN (N : Nat) (fks : List Nat) (D : Nat → Int32) (its : List It) (A H : Nat) : Nat := 3 + indN (rcB N D its A H) + sumN (bdI fks D its) its.length
noncomputable def kpN (N : Nat) (D : Nat → Int32) (its : List It) (A H : Nat) : Nat := A - 3 + sumN (kpI N D its H) its.length
theorem qM_indirect {K n : Nat} (hn : n < 2 ^ 30) : f_Mo_indirect K (nI n) = some (nI (indN n)) := by
  unfold f_Mo_indirect indN f_Mo_whole
  by_cases a : n ≤ 12
  · rw [if_pos a, if_neg (show ¬ 12 < nI n from nI_nlt (a := 12) a (by omega))]; rfl
  rw [if_neg a, if_pos (show 12 < nI n from nI_lt (a := 12) (by omega) (by omega))]
  by_cases b : n ≤ 268
  · rw [if_pos b, if_neg (show ¬ 268 < nI n from nI_nlt (a := 268) b (by omega))]; rfl
  rw [if_neg b, if_pos (show 268 < nI n from nI_lt (a := 268) (by omega) (by omega)), show (268 : Int32) = nI 268 from rfl, show (256 : Int32) = nI 256 from rfl, q_g (nI_ne0 (by decide) (by decide)), pk_sub (by omega), nI_add, show (1 : Int32) = nI 1 from rfl, pk_sub (by omega), pk_div (by omega) (by decide) (by decide), q_b, show (2 : Int32) = nI 2 from rfl, nI_add, show n - 268 + 256 - 1 = n - 268 + 255 by omega]
theorem qC_indirects {K n : Nat} (hn : n < 2 ^ 30) : f_Pl_indirects K (nI n) = some (nI (indN n)) := by
  unfold f_Pl_indirects indN
  by_cases a : n ≤ 12
  · rw [if_pos a, if_neg (show ¬ 12 < nI n from nI_nlt (a := 12) a (by omega))]; rfl
  rw [if_neg a, if_pos (show 12 < nI n from nI_lt (a := 12) (by omega) (by omega)), show (12 : Int32) = nI 12 from rfl, pk_sub (by omega), show (256 : Int32) = nI 256 from rfl]
  by_cases b : n ≤ 268
  · have hneg : ¬ 0 < nI (n - 12) - nI 256 := by
      by_cases e : n = 268
      · rw [e]; decide
      · have e1 : nI (n - 12) - nI 256 = -(nI (268 - n)) := by
          have : nI (n - 12) + nI (268 - n) = nI 256 := by rw [nI_add]; congr 1; omega
          rw [← this, Int32.sub_eq_add_neg, Int32.neg_add, Int32.sub_eq_add_neg, ← Int32.add_assoc, Int32.add_right_neg, Int32.zero_add]
        rw [e1]
        have hb : 268 - n < 2 ^ 31 := by omega
        have hp : 0 < 268 - n := by omega
        generalize 268 - n = u at *
        rw [Int32.lt_iff_toInt_lt, Int32.toInt_neg, nI_toInt hb, Int.bmod_eq_of_le (by omega) (by omega)]
        show ¬ (0 : Int32).toInt < -(u : Int)
        have : (0 : Int32).toInt = 0 := by decide
        omega
    rw [if_pos b, q_l, if_neg hneg]; rfl
  rw [if_neg b, pk_sub (by omega), q_l, if_pos (show 0 < nI (n - 12 - 256) from nI_lt (a := 0) (by omega) (by omega)), nI_add, show (1 : Int32) = nI 1 from rfl, pk_sub (by omega), pk_div (by omega) (by decide) (by decide), show (2 : Int32) = nI 2 from rfl, nI_add, show n - 12 - 256 + 256 - 1 = n - 268 + 255 by omega]
def lSt (T : MS) (f : Nat → Int32) (x : Int32) : MS := (T.u_v_chain f).u_v_links x
/-- what the reference holds of a tree, and its chains -/
abbrev trM (N : Nat) (D : Nat → Int32) (fks : List Nat) (its : List It) (T : MS) : Prop := (hdOk N D ∧ N ≤ 1024) ∧ mIs N D T ∧ rmI its T ∧ itsOk N its ∧ kdR fks its.length T ∧ kdS fks its ∧ fks.length = its.length ∧ (∀ j, j < its.length → (chI N D its j).length ≤ 514 ∧ begI D its j < 2 ^ 28 ∧ lnk N D (begI D its j) (chI N D its j)) ∧ (∀ j, j < its.length → ¬ isDr D its j → o4 D (isp (itr its j) + 28) < 2 ^ 22)
theorem qM_clustersOf {K N i : Nat} {D : Nat → Int32} {fks : List Nat} {its : List It} {T : MS} (hK : 1000 ≤ K) (h : trM N D fks its T) (hi : i < its.length) : ∃ f x, f_Mo_clustersOf K T (nI i) = some (nI (chI N D its i).length, lSt T f x) := by
  obtain ⟨⟨ho, hN⟩, hM, hT, hok, -, -, -, hch, -⟩ := h
  obtain ⟨c1, c2, c3⟩ := hch i hi
  obtain ⟨f, w1, w2⟩ := qM_walk (K := K) hK ho hN hM c1 c2 c3
  refine ⟨f, nI (chI N D its i).length, ?_⟩
  unfold f_Mo_clustersOf
  rw [qM_beginOf hM.1 hM.2.2.2.2.2.2.1 hN hT hok hi, q_c, w1, q_b]
  rfl
theorem qM_recordBlocks {K N A H : Nat} {D : Nat → Int32} {fks : List Nat} {its : List It} {T : MS} (hK : 20000 ≤ K) (h : trM N D fks its T) (hA : T.v_a = nI (2 * A)) (hH : T.v_c = nI (2 * H)) (hA6 : A ≤ 64) (hH4 : H ≤ 4) : ∃ f x, f_Mo_recordBlocks K T = some (nI (rcB N D its A H), lSt T f x) := by
  have hlen := h.2.2.2.1.2.1
  have loop : ∀ (d i q : Nat) (f : Nat → Int32) (x : Int32), i + d = its.length → d < q → ∃ f' x', f_Mo_recordBlocks_9 K q (nI (A + sumN (cHn N D its H) i)) (nI i) (lSt T f x) = some (nI (rcB N D its A H), lSt T f' x') := by
    intro d
    induction d with
    | zero =>
      intro i q f x h1 h2
      obtain ⟨q, rfl⟩ : ∃ m, q = m + 1 := ⟨q - 1, by omega⟩
      obtain rfl : i = its.length := by omega
      refine ⟨f, x, ?_⟩
      rw [f_Mo_recordBlocks_9, show (lSt T f x).v_items = nI its.length from h.2.2.1.1, if_pos (Int32.le_refl _)]
      rfl
    | succ d ih =>
      intro i q f x h1 h2
      obtain ⟨q, rfl⟩ : ∃ m, q = m + 1 := ⟨q - 1, by omega⟩
      have hi : i < its.length := by omega
      have hfo := qM_isFolder (K := K) (T := lSt T f x) h.2.1.1 h.1.2 h.2.2.1 h.2.2.2.1 hi
      obtain ⟨f1, x1, hc1⟩ := qM_clustersOf (K := K) (T := lSt T f x) (by omega) h hi
      rw [f_Mo_recordBlocks_9]
      unfold f_Mo_recordBlocks_42
      rw [show (lSt T f x).v_items = nI its.length from h.2.2.1.1, if_neg (nI_ge hi (by omega)), hfo, q_c, hc1, q_c, nI_1, q_l]
      by_cases w : isDr D its i
      · obtain ⟨f', x', e⟩ := ih (i + 1) q f1 x1 (by omega) (by omega)
        have hs : A + sumN (cHn N D its H) (i + 1) = A + sumN (cHn N D its H) i + (chI N D its i).length * H := by
          rw [sumN, show cHn N D its H i = (chI N D its i).length * H from cif_t w, Nat.add_assoc]
        refine ⟨f', x', ?_⟩
        rw [b01_t w, if_neg (show ¬ nI 1 = 0 by decide), show (lSt (lSt T f x) f1 x1).v_c = nI (2 * H) from hH, half (by omega), pk_mul, nI_add, q_l, ← hs]
        exact e
      · obtain ⟨f', x', e⟩ := ih (i + 1) q f x (by omega) (by omega)
        have hs : sumN (cHn N D its H) (i + 1) = sumN (cHn N D its H) i := by
          rw [sumN, show cHn N D its H i = 0 from cif_f w]
          rfl
        refine ⟨f', x', ?_⟩
        rw [b01_f w, if_pos (show nI 0 = 0 from rfl), Int32.add_zero, q_l]
        rw [hs] at e
        exact e
  obtain ⟨f, x, e⟩ := loop its.length 0 K T.v_chain T.v_links (by omega) (by omega)
  refine ⟨f, x, ?_⟩
  unfold f_Mo_recordBlocks
  rw [hA, half (by omega), q_l]
  exact e
theorem qM_whole {K n b : Nat} (hn : n < 2 ^ 30) (hb : 1 ≤ b) (hb2 : b < 2 ^ 20) : f_Mo_whole K (nI n) (nI b) = some (nI ((n + b - 1) / b)) := by
  unfold f_Mo_whole
  rw [q_g (nI_ne0 (by omega) (by omega)), nI_add, show (1 : Int32) = nI 1 from rfl, pk_sub (by omega), pk_div (by omega) (by omega) (by omega)]
theorem qM_fileBlocks {K N i : Nat} {D : Nat → Int32} {fks : List Nat} {its : List It} {T : MS} (h : trM N D fks its T) (hi : i < its.length) (hd : ¬ isDr D its i) : f_Mo_fileBlocks K T (nI i) = some (nI (fbN D its i), T) := by
  obtain ⟨⟨ho, hN⟩, hM, hT, hok, -, -, -, -, hsz⟩ := h
  have i1 : 1 ≤ i := Nat.one_le_iff_ne_zero.mpr fun e => hd (Or.inl e)
  have hdn : ¬ o1 D (isp (itr its i) + 11) / 16 % 2 = 1 := fun y => hd (Or.inr y)
  have hszE : szI D its i = o4 D (isp (itr its i) + 28) := (if_neg (show ¬ i = 0 by omega)).trans (if_neg hdn)
  have hs := hsz i hi hd
  have hlen := hok.2.1
  have hsp := (hok.2.2.2.2 i i1 hi).1
  unfold f_Mo_fileBlocks fbN
  rw [q_g (q_in (by omega) (by decide)), nI_clamp (by omega), (hT.2.2.1 i i1 hi).1, show (28 : Int32) = nI 28 from rfl, nI_add, rM4 D hM.1 (by omega), q_c, show (1024 : Int32) = nI 1024 from rfl, qM_whole (by omega) (by decide) (by decide), q_b, hszE, show o4 D (isp (itr its i) + 28) + 1024 - 1 = o4 D (isp (itr its i) + 28) + 1023 by omega]
theorem qM_folderBlocks {K N i : Nat} {D : Nat → Int32} {fks : List Nat} {its : List It} {T : MS} (hK : 20000 ≤ K) (h : trM N D fks its T) (hi : i < its.length) : f_Mo_folderBlocks K T (nI i) = some (nI (flB fks its i), T) := by
  obtain ⟨⟨ho, hN⟩, hM, hT, hok, hkR, hkd, hfl, -, -⟩ := h
  have hlen := hok.2.1
  obtain ⟨k1, k2⟩ := hkR i (by omega)
  obtain ⟨d1, d2, d3, d4, d5⟩ := hkd i (by omega)
  have hkc : fkI fks i + kcI fks its.length i = fks.getD (i + 1) its.length := by unfold kcI; unfold fkI at *; omega
  have hes := eSz_le hok hkd (show i < fks.length by omega)
  have hin : lf_in (nI i) 4200 := q_in (by omega) (by decide)
  have loop : ∀ (d e q : Nat), e + d = eNo fks its i → d < q → 2 ≤ e → f_Mo_folderBlocks_38 K q (nI i) (nI (pkS (eSz fks its i) e).1) (nI (pkS (eSz fks its i) e).2) (nI (fkI fks i + (eNo fks its i - 2))) (nI (fkI fks i + (e - 2))) T = some (nI (flB fks its i), T) := by
    intro d
    induction d with
    | zero =>
      intro e q h1 h2 h3
      obtain ⟨q, rfl⟩ : ∃ m, q = m + 1 := ⟨q - 1, by omega⟩
      obtain rfl : e = eNo fks its i := by omega
      rw [f_Mo_folderBlocks_38, if_pos (Int32.le_refl _)]
      rfl
    | succ d ih =>
      intro e q h1 h2 h3
      obtain ⟨q, rfl⟩ : ∃ m, q = m + 1 := ⟨q - 1, by omega⟩
      obtain ⟨p1, p2, p3⟩ := pkS_le hes e
      have hse := hes e
      have hno : eNo fks its i ≤ 3 + kcI fks its.length i := by unfold eNo; split <;> omega
      have nx := ih (e + 1) q (by omega) (by omega) (by omega)
      have step : f_Mo_folderBlocks_76 K (f_Mo_folderBlocks_38 K q) (nI i) (nI (pkS (eSz fks its i) e).1) (nI (pkS (eSz fks its i) e).2) (nI (fkI fks i + (eNo fks its i - 2))) (nI (fkI fks i + (e - 2))) 8 (nI (eSz fks its i e)) T = some (nI (flB fks its i), T) := by
        unfold f_Mo_folderBlocks_76 f_Mo_folderBlocks_100
        rw [show (4 : Int32) = nI 4 from rfl, qM_whole (by omega) (by decide) (by decide), q_b, pk_mul, show (8 : Int32) = nI 8 from rfl, nI_add, q_l, nI_add, nI_1, nI_1, q_l, q_l, q_l, show eSz fks its i e + 4 - 1 = eSz fks its i e + 3 by omega, show 8 + (eSz fks its i e + 3) / 4 * 4 = elN (eSz fks its i e) from rfl, show fkI fks i + (e - 2) + 1 = fkI fks i + (e + 1 - 2) by omega]
        have hel : elN (eSz fks its i e) ≤ 1024 := by unfold elN; omega
        rw [pkS] at nx
        by_cases w : (pkS (eSz fks its i) e).2 + elN (eSz fks its i e) ≤ 1024
        · rw [if_pos w] at nx
          rw [if_pos (show nI ((pkS (eSz fks its i) e).2 + elN (eSz fks its i e)) ≤ 1024 from nI_le (b := 1024) w (by decide))]
          exact nx
        · rw [if_neg w] at nx
          rw [if_neg (show ¬ nI ((pkS (eSz fks its i) e).2 + elN (eSz fks its i e)) ≤ 1024 from nI_ge (a := 1024) (by omega) (by omega)), q_l, Int32.zero_add]
          exact nx
      have hnx2 : (pkS (eSz fks its i) e).1 < 2 ^ 31 := by omega
      rw [f_Mo_folderBlocks_38, if_neg (nI_ge (by omega) (by omega)), q_g hin, q_g hin, nI_clamp (by omega), k1, k2, nI_add]
      by_cases w : e - 2 < kcI fks its.length i
      · have hlt : fkI fks i + (e - 2) < its.length := by omega
        rw [if_neg (nI_ge (by omega) (by omega)), qM_textSize (by omega) hT hok (by omega) hlt, q_c]
        have he : eSz fks its i e = tsz (inm (itr its (fkI fks i + (e - 2)))) := by
          unfold eSz
          rw [if_neg (by omega), if_pos w]
        rw [← he]
        exact step
      · rw [if_pos (nI_le (by omega) (by omega))]
        have he : eSz fks its i e = 7 := by
          unfold eSz
          rw [if_neg (by omega), if_neg w]
        rw [he] at step
        exact step
  have l2 := loop (eNo fks its i - 2) 2 K (by unfold eNo; omega) (by unfold eNo; split <;> omega) (Nat.le_refl _)
  have e2 : pkS (eSz fks its i) 2 = (1, 24) := by
    have h0 : eSz fks its i 0 = 1 := by unfold eSz; rw [if_pos (by decide)]
    have h1 : eSz fks its i 1 = 2 := by unfold eSz; rw [if_pos (by decide)]
    rw [pkS, pkS, pkS, h0, h1]
    decide
  rw [e2, Nat.sub_self, Nat.add_zero] at l2
  have l2 : f_Mo_folderBlocks_38 K K (nI i) 1 24 (nI (fkI fks i + (eNo fks its i - 2))) (nI (fkI fks i)) T = _ := l2
  unfold f_Mo_folderBlocks f_Mo_folderBlocks_27
  have k1c : T.v_firstKid (nI i).toNatClampNeg = nI (fkI fks i) := by rw [nI_clamp (by omega)]; exact k1
  have k2c : T.v_kids (nI i).toNatClampNeg = nI (kcI fks its.length i) := by rw [nI_clamp (by omega)]; exact k2
  rw [q_g hin, q_g hin, k1c, k2c, nI_add]
  unfold eNo at l2
  by_cases w : i = 0
  · rw [if_pos w] at l2
    rw [if_pos (show nI i = 0 by rw [w]; rfl), nI_1, q_l, q_g hin, q_l]
    rw [show fkI fks i + (2 + kcI fks its.length i + 1 - 2) = fkI fks i + kcI fks its.length i + 1 by omega] at l2
    exact l2
  · rw [if_neg w] at l2
    rw [if_neg (nI_ne0 (by omega) (by omega)), Int32.add_zero, q_l, q_g hin, q_l]
    rw [show fkI fks i + (2 + kcI fks its.length i + 0 - 2) = fkI fks i + kcI fks its.length i by omega] at l2
    exact l2
