theorem scN_lt {d t : Nat} (hd : d < 65536) (ht : t < 65536) : scN d t < 2 ^ 40 := by
  have h1 := yS_le (d / 512 + 10) 1970
  have h2 := mS_le (1980 + d / 512) (d / 32 % 16 - 1) 1
  unfold scN dyN
  generalize yS (d / 512 + 10) 1970 = a at *
  generalize mS (1980 + d / 512) (d / 32 % 16 - 1) 1 = b at *
  omega
theorem tmN_lt (D : Nat → Int32) (p w : Nat) : tmN D p w < 2 ^ 41 := by
  have a1 := scN_lt (o2_lt D (p + 18)) (show 0 < 65536 by decide)
  have a2 := scN_lt (o2_lt D (p + 16)) (o2_lt D (p + 14))
  have a3 := scN_lt (o2_lt D (p + 24)) (o2_lt D (p + 22))
  have a4 := o1_lt D (p + 13)
  unfold tmN
  split
  · omega
  · split <;> omega
abbrev tmOk (D : Nat → Int32) (its : List It) : Prop := ∀ i, 1 ≤ i → i < its.length → ∀ w, 2 ≤ w → w ≤ 4 → tmN D (isp (itr its i)) w ≤ 4294967295
theorem tm_cmp (D : Nat → Int32) (p w : Nat) : lg_cmp (lN (tmN D p w)) 4294967295 ≤ 0 ↔ tmN D p w ≤ 4294967295 := by
  have := tmN_lt D p w
  rw [lg_cmp_le]
  exact pk_lLE (b := 4294967295) (by omega) (by decide)
theorem qM_badTimes {K N : Nat} {D : Nat → Int32} {its : List It} {T : MS} (hK : 20000 ≤ K) (hN : N ≤ 1024) (hD : T.v_disk = D) (hT : rmI its T) (ho : itsOk N its) (hd : ∀ j, 1 ≤ j → j < its.length → daysP D (isp (itr its j))) : f_Mo_badTimes K T = some (b01 (¬ tmOk D its), T) := by
  have hlen := ho.2.1
  have hlen1 := ho.1
  have inner : ∀ (rec : Int32 → Int32 → MS → Option (Int32 × MS)) (i : Nat), 1 ≤ i → i < its.length → ∀ (d j q : Nat) (P : Prop), j + d = 3 → d < q → f_Mo_badTimes_14 K rec q (b01 P) (nI i) (nI j) T = rec (b01 (P ∨ ∃ w, j + 2 ≤ w ∧ w ≤ 4 ∧ ¬ tmN D (isp (itr its i)) w ≤ 4294967295)) (nI (i + 1)) T := by
    intro rec i i1 i2 d
    have hat := (hT.2.2.1 i i1 i2).1
    have hsp := (ho.2.2.2.2 i i1 i2).1
    induction d with
    | zero =>
      intro j q P h1 h2
      obtain ⟨q, rfl⟩ : ∃ m, q = m + 1 := ⟨q - 1, by omega⟩
      obtain rfl : j = 3 := by omega
      have : (P ∨ ∃ w, 3 + 2 ≤ w ∧ w ≤ 4 ∧ ¬ tmN D (isp (itr its i)) w ≤ 4294967295) = P := propext ⟨fun y => y.elim id (fun ⟨w, w1, w2, _⟩ => by omega), Or.inl⟩
      rw [f_Mo_badTimes_14, if_pos (show 3 ≤ nI 3 by decide), show (1 : Int32) = nI 1 from rfl, nI_add, q_l, this]
    | succ d ih =>
      intro j q P h1 h2
      obtain ⟨q, rfl⟩ : ∃ m, q = m + 1 := ⟨q - 1, by omega⟩
      have htm := qM_timeOf (K := K) (T := T) (w := j + 2) (by omega) hN hD (by omega) hat hsp (hd i i1 i2) (by omega) (by omega)
      rw [Nat.add_sub_cancel] at htm
      have split1 : ∀ Q : Prop, (Q ↔ (P ∨ ¬ tmN D (isp (itr its i)) (j + 2) ≤ 4294967295)) → (Q ∨ ∃ w, j + 1 + 2 ≤ w ∧ w ≤ 4 ∧ ¬ tmN D (isp (itr its i)) w ≤ 4294967295) = (P ∨ ∃ w, j + 2 ≤ w ∧ w ≤ 4 ∧ ¬ tmN D (isp (itr its i)) w ≤ 4294967295) := fun Q hQ => by
        refine propext ⟨fun y => ?_, fun y => ?_⟩
        · rcases y with y | ⟨w, w1, w2, w3⟩
          · rcases hQ.mp y with y | y
            · exact Or.inl y
            · exact Or.inr ⟨j + 2, Nat.le_refl _, by omega, y⟩
          · exact Or.inr ⟨w, by omega, w2, w3⟩
        · rcases y with y | ⟨w, w1, w2, w3⟩
          · exact Or.inl (hQ.mpr (Or.inl y))
          · by_cases e : w = j + 2
            · rw [e] at w3; exact Or.inl (hQ.mpr (Or.inr w3))
            · exact Or.inr ⟨w, by omega, w2, w3⟩
      rw [f_Mo_badTimes_14]
      unfold f_Mo_badTimes_36 f_Mo_badTimes_41
      rw [if_neg (show ¬ 3 ≤ nI j from nI_ge (b := 3) (by omega) (by decide)), htm, q_c, show (1 : Int32) = nI 1 from rfl, nI_add j 1, q_l, q_l]
      by_cases w : P
      · have a := ih (j + 1) q True (by omega) (by omega)
        rw [split1 True ⟨fun _ => Or.inl w, fun _ => trivial⟩, b01_t trivial] at a
        rw [b01_t w, if_neg (show ¬ nI 1 = 0 by decide)]
        exact a
      · rw [b01_f w, if_pos (show nI 0 = 0 from rfl)]
        by_cases g : tmN D (isp (itr its i)) (j + 2) ≤ 4294967295
        · have a := ih (j + 1) q False (by omega) (by omega)
          rw [split1 False ⟨fun y => y.elim, fun y => y.elim w (fun z => z g)⟩, b01_f (fun y => y)] at a
          rw [if_pos ((tm_cmp D _ _).mpr g)]
          exact a
        · have a := ih (j + 1) q True (by omega) (by omega)
          rw [split1 True ⟨fun _ => Or.inr g, fun _ => trivial⟩, b01_t trivial] at a
          rw [if_neg (fun y => g ((tm_cmp D _ _).mp y))]
          exact a
  have l4 : ∀ (d i q : Nat) (P : Prop), i + d = its.length → d < q → 1 ≤ i → f_Mo_badTimes_4 K q (b01 P) (nI i) T = some (b01 (P ∨ ∃ j, i ≤ j ∧ j < its.length ∧ ∃ w, 2 ≤ w ∧ w ≤ 4 ∧ ¬ tmN D (isp (itr its j)) w ≤ 4294967295), T) := by
    intro d
    induction d with
    | zero =>
      intro i q P h1 h2 h3
      obtain ⟨q, rfl⟩ : ∃ m, q = m + 1 := ⟨q - 1, by omega⟩
      obtain rfl : i = its.length := by omega
      have : (P ∨ ∃ j, its.length ≤ j ∧ j < its.length ∧ ∃ w, 2 ≤ w ∧ w ≤ 4 ∧ ¬ tmN D (isp (itr its j)) w ≤ 4294967295) = P := propext ⟨fun y => y.elim id (fun ⟨j, j1, j2, _⟩ => by omega), Or.inl⟩
      rw [f_Mo_badTimes_4, hT.1, if_pos (Int32.le_refl _), q_g (b01_or _), this]
    | succ d ih =>
      intro i q P h1 h2 h3
      obtain ⟨q, rfl⟩ : ∃ m, q = m + 1 := ⟨q - 1, by omega⟩
      have a := inner (f_Mo_badTimes_4 K q) i h3 (by omega) 3 0 K P (by omega) (by omega)
      have a : f_Mo_badTimes_14 K (f_Mo_badTimes_4 K q) K (b01 P) (nI i) 0 T = _ := a
      rw [f_Mo_badTimes_4, hT.1, if_neg (nI_ge (by omega) (by omega)), a, ih (i + 1) q _ (by omega) (by omega) (by omega)]
      congr 2
      refine b01_iff ⟨fun y => ?_, fun y => ?_⟩
      · rcases y with (y | ⟨w, w1, w2, w3⟩) | ⟨j, j1, j2, j3⟩
        · exact Or.inl y
        · exact Or.inr ⟨i, Nat.le_refl _, by omega, w, by omega, w2, w3⟩
        · exact Or.inr ⟨j, by omega, j2, j3⟩
      · rcases y with y | ⟨j, j1, j2, w, w1, w2, w3⟩
        · exact Or.inl (Or.inl y)
        · by_cases e : j = i
          · rw [e] at w3; exact Or.inl (Or.inr ⟨w, by omega, w2, w3⟩)
          · exact Or.inr ⟨j, by omega, j2, w, w1, w2, w3⟩
  have a := l4 (its.length - 1) 1 K False (by omega) (by omega) (Nat.le_refl _)
  rw [b01_f (fun y => y)] at a
  have a : f_Mo_badTimes K T = _ := a
  rw [a]
  congr 2
  refine b01_iff ⟨fun y z => ?_, fun y => Classical.byContradiction fun z => y fun i i1 i2 w w1 w2 => Classical.byContradiction fun g => z (Or.inr ⟨i, i1, i2, w, w1, w2, g⟩)⟩
  rcases y with y | ⟨j, j1, j2, w, w1, w2, w3⟩
  · exact y
  · exact w3 (z j j1 j2 w w1 w2)
theorem qC_timesFit {K N : Nat} {G : CG} {D E : Nat → Int32} {mp : Nat → Nat} {its : List It} {S : CS} (hK : 5000 ≤ K) (hN : N ≤ 1024) (hG : gOk N G) (hE : S.w_Dk_bytes = E) (hS : rcI D mp its S) (hl : its.length ≤ G.l_parent) (ho : itsOk N its) (hd : ∀ j, 1 ≤ j → j < its.length → daysP D (isp (itr its j))) (hsl : ∀ j, 1 ≤ j → j < its.length → slq E (mp (isp (itr its j))) D (isp (itr its j)) ∧ mp (isp (itr its j)) + 32 ≤ 512 * N) : f_Pl_timesFit K G S = some (b01 (tmOk D its), S) := by
  have hlen := ho.2.1
  have hlen1 := ho.1
  have inner : ∀ (rec : Int32 → CS → Option (Int32 × CS)) (i : Nat), 1 ≤ i → i < its.length → ∀ (d w q : Nat), w + d = 5 → d < q → 2 ≤ w → ((∀ u, w ≤ u → u ≤ 4 → tmN D (isp (itr its i)) u ≤ 4294967295) → f_Pl_timesFit_15 K G rec q (nI i) (nI w) S = rec (nI (i + 1)) S) ∧ (¬ (∀ u, w ≤ u → u ≤ 4 → tmN D (isp (itr its i)) u ≤ 4294967295) → f_Pl_timesFit_15 K G rec q (nI i) (nI w) S = some (0, S)) := by
    intro rec i i1 i2 d
    obtain ⟨m1, m2⟩ := hsl i i1 i2
    induction d with
    | zero =>
      intro w q h1 h2 h3
      obtain ⟨q, rfl⟩ : ∃ m, q = m + 1 := ⟨q - 1, by omega⟩
      obtain rfl : w = 5 := by omega
      refine ⟨fun _ => ?_, fun y => absurd (fun u a b => by omega) y⟩
      rw [f_Pl_timesFit_15, if_pos (show 4 < nI 5 by decide), show (1 : Int32) = nI 1 from rfl, nI_add, q_l]
    | succ d ih =>
      intro w q h1 h2 h3
      obtain ⟨q, rfl⟩ : ∃ m, q = m + 1 := ⟨q - 1, by omega⟩
      obtain ⟨n1, n2⟩ := ih (w + 1) q (by omega) (by omega) (by omega)
      have hsec := qC_secs (K := K) (w := w) hN hG.1 hE m2 ((slq_days m1).mpr (hd i i1 i2)) h3 (by omega)
      rw [f_Pl_timesFit_15, if_neg (show ¬ 4 < nI w from nI_nlt (a := 4) (by omega) (by omega)), qC_spot hG hS hl i2, q_c, show spI mp its i = mp (isp (itr its i)) from if_neg (by omega), hsec, q_c, tmN_slq m1, show (1 : Int32) = nI 1 from rfl, nI_add, q_l]
      by_cases g : tmN D (isp (itr its i)) w ≤ 4294967295
      · rw [if_pos ((tm_cmp D _ _).mpr g)]
        refine ⟨fun y => n1 (fun u a b => y u (by omega) b), fun y => n2 (fun z => y fun u a b => ?_)⟩
        by_cases e : u = w
        · rw [e]; exact g
        · exact z u (by omega) b
      · rw [if_neg (fun y => g ((tm_cmp D _ _).mp y))]
        exact ⟨fun y => absurd (y w (Nat.le_refl _) (by omega)) g, fun _ => rfl⟩
  have loop : ∀ (d i q : Nat), i + d = its.length → d < q → 1 ≤ i → f_Pl_timesFit_2 K G q (nI i) S = some (b01 (∀ j, i ≤ j → j < its.length → ∀ w, 2 ≤ w → w ≤ 4 → tmN D (isp (itr its j)) w ≤ 4294967295), S) := by
    intro d
    induction d with
    | zero =>
      intro i q h1 h2 h3
      obtain ⟨q, rfl⟩ : ∃ m, q = m + 1 := ⟨q - 1, by omega⟩
      obtain rfl : i = its.length := by omega
      rw [f_Pl_timesFit_2, hS.1, if_pos (Int32.le_refl _), b01_t (fun j a b => by omega)]
      rfl
    | succ d ih =>
      intro i q h1 h2 h3
      obtain ⟨q, rfl⟩ : ∃ m, q = m + 1 := ⟨q - 1, by omega⟩
      obtain ⟨n1, n2⟩ := inner (f_Pl_timesFit_2 K G q) i h3 (by omega) 3 2 K (by omega) (by omega) (by decide)
      have n1 : _ → f_Pl_timesFit_15 K G (f_Pl_timesFit_2 K G q) K (nI i) 2 S = _ := n1
      have n2 : _ → f_Pl_timesFit_15 K G (f_Pl_timesFit_2 K G q) K (nI i) 2 S = _ := n2
      rw [f_Pl_timesFit_2, hS.1, if_neg (nI_ge (by omega) (by omega))]
      by_cases g : ∀ u, 2 ≤ u → u ≤ 4 → tmN D (isp (itr its i)) u ≤ 4294967295
      · rw [n1 g, ih (i + 1) q (by omega) (by omega) (by omega)]
        congr 2
        refine b01_iff ⟨fun h j a b => ?_, fun h j a b => h j (by omega) b⟩
        by_cases e : j = i
        · rw [e]; exact g
        · exact h j (by omega) b
      · rw [n2 g, b01_f (fun y => g (y i (Nat.le_refl _) (by omega)))]
        rfl
  exact loop (its.length - 1) 1 K (by omega) (by omega) (Nat.le_refl _)
