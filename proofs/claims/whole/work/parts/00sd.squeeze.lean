/-! make: the signs that an invented short name is made of. -/
noncomputable def pnN (u : Nat) : Nat := if sgP (capN u) then capN u else 95
def skP (u : Nat) : Prop := u = 32 ∨ u = 46
theorem pnN_sg (u : Nat) : sgP (pnN u) := by
  unfold pnN
  split
  · assumption
  · unfold sgP; omega
theorem sg_lt {u : Nat} (h : sgP u) : 33 ≤ u ∧ u ≤ 126 := by unfold sgP at h; omega
theorem cap32 {u : Nat} : capN u = 32 ↔ u = 32 := by unfold capN; split <;> omega
theorem cap46 {u : Nat} : capN u = 46 ↔ u = 46 := by unfold capN; split <;> omega
noncomputable def sqL : List Nat → List Nat
  | [] => []
  | u :: l => if u = 32 ∨ u = 46 then sqL l else pnN u :: sqL l
theorem sqL_app (a b : List Nat) : sqL (a ++ b) = sqL a ++ sqL b := by
  induction a with
  | nil => rfl
  | cons u l ih =>
    show sqL (u :: (l ++ b)) = sqL (u :: l) ++ sqL b
    rw [sqL, sqL, ih]
    split
    · rfl
    · rfl
theorem sqL_len (a : List Nat) : (sqL a).length ≤ a.length := by
  induction a with
  | nil => exact Nat.le_refl _
  | cons u l ih =>
    rw [sqL]
    split
    · exact Nat.le_succ_of_le ih
    · exact Nat.succ_le_succ ih
theorem sqL_sg (a : List Nat) : ∀ u ∈ sqL a, sgP u := by
  induction a with
  | nil => intro u hu; cases hu
  | cons v l ih =>
    rw [sqL]
    split
    · exact ih
    · intro u hu
      rcases List.mem_cons.mp hu with e | e
      · rw [e]; exact pnN_sg v
      · exact ih u e
noncomputable def sqA (us : List Nat) (a i : Nat) : List Nat := sqL ((us.take i).drop a)
theorem sqA_0 {us : List Nat} {a : Nat} : sqA us a a = [] := by
  unfold sqA
  rw [List.drop_eq_nil_of_le (by rw [List.length_take]; omega)]
  rfl
theorem sqA_step {us : List Nat} {a i : Nat} (ha : a ≤ i) (hi : i < us.length) : sqA us a (i + 1) = sqA us a i ++ (if us.getD i 0 = 32 ∨ us.getD i 0 = 46 then [] else [pnN (us.getD i 0)]) := by
  unfold sqA
  rw [take_getD hi, List.drop_append_of_le_length (by rw [List.length_take]; omega), sqL_app]
  rfl
theorem sqA_mono {us : List Nat} {a i b : Nat} (ha : a ≤ i) (hb : i ≤ b) (hl : b ≤ us.length) : ∃ r, sqA us a b = sqA us a i ++ r := by
  obtain ⟨d, rfl⟩ : ∃ d, b = i + d := ⟨b - i, by omega⟩
  induction d with
  | zero => exact ⟨[], (List.append_nil _).symm⟩
  | succ d ih =>
    obtain ⟨r, e⟩ := ih (by omega) (by omega)
    exact ⟨_, by rw [show i + (d + 1) = i + d + 1 from rfl, sqA_step (by omega) (by omega), e, List.append_assoc]⟩
theorem sqA_len {us : List Nat} {a i : Nat} (hi : i ≤ us.length) : (sqA us a i).length ≤ us.length := by
  have := sqL_len ((us.take i).drop a)
  rw [List.length_drop, List.length_take] at this
  unfold sqA
  omega
theorem app_l {a b : List Nat} {i x : Nat} (h : i < a.length) : (a ++ b).getD i x = a.getD i x := by
  rw [List.getD_eq_getElem?_getD, List.getD_eq_getElem?_getD, List.getElem?_append_left h]
theorem app_e {a : List Nat} {u x : Nat} : (a ++ [u]).getD a.length x = u := by
  rw [List.getD_eq_getElem?_getD, List.getElem?_append_right (Nat.le_refl _), Nat.sub_self]
  rfl
/-- c signs of a list put from b on -/
def pn (g : Nat → Int32) (b c : Nat) (l : List Nat) : Nat → Int32 := fun q => if b ≤ q ∧ q < b + c then nI (l.getD (q - b) 0) else g q
theorem pn_0 {g : Nat → Int32} {b : Nat} {l : List Nat} : pn g b 0 l = g := funext fun q => if_neg (by omega)
theorem pn_add {g : Nat → Int32} {b u : Nat} {l : List Nat} : upd (pn g b l.length l) (b + l.length) (nI u) = pn g b (l.length + 1) (l ++ [u]) := by
  funext q
  unfold pn
  by_cases e : q = b + l.length
  · rw [e, upE, if_pos (by omega), show b + l.length - b = l.length by omega, app_e]
  · rw [upN e]
    by_cases c : b ≤ q ∧ q < b + l.length
    · rw [if_pos c, if_pos (by omega), app_l (by omega)]
    · rw [if_neg c, if_neg (by omega)]
theorem pn_app {g : Nat → Int32} {b c : Nat} {l r : List Nat} (h : c ≤ l.length) : pn g b c l = pn g b c (l ++ r) := by
  funext q
  unfold pn
  by_cases e : b ≤ q ∧ q < b + c
  · rw [if_pos e, if_pos e, app_l (by omega)]
  · rw [if_neg e, if_neg e]
/-! the class -/
theorem qC_squeeze {K a b B M : Nat} {G : CG} {S : CS} {us : List Nat} (hK : 20000 ≤ K) (hl : us.length ≤ 255) (hb : bufR S.w_Ed_units us) (hu : ∀ u ∈ us, u < 65536) (hab : a ≤ b) (hbl : b ≤ us.length) (hM : B + M ≤ 11) : f_Ed_squeeze K G S (nI a) (nI b) (nI B) (nI M) = some (nI (min M (sqA us a b).length), S.u_w_Ed_shortName (pn S.w_Ed_shortName B (min M (sqA us a b).length) (sqA us a b))) := by
  have hu2 : ∀ j, us.getD j 0 < 65536 := fun j => getD_lt hu (by decide)
  have loop : ∀ (d i k : Nat), i + d = b → a ≤ i → d < k → (sqA us a i).length ≤ M → f_Ed_squeeze_6 K G k (nI b) (nI B) (nI M) (nI (sqA us a i).length) (nI i) (S.u_w_Ed_shortName (pn S.w_Ed_shortName B (sqA us a i).length (sqA us a i))) = some (nI (min M (sqA us a b).length), S.u_w_Ed_shortName (pn S.w_Ed_shortName B (min M (sqA us a b).length) (sqA us a b))) := by
    intro d
    induction d with
    | zero =>
      intro i k g1 g2 g3 g4
      obtain ⟨k, rfl⟩ : ∃ q, k = q + 1 := ⟨k - 1, by omega⟩
      obtain rfl : i = b := by omega
      unfold f_Ed_squeeze_6 f_Ed_squeeze_78
      rw [if_pos (Int32.le_refl _), Nat.min_eq_right g4]
    | succ d ih =>
      intro i k g1 g2 g3 g4
      obtain ⟨k, rfl⟩ : ∃ q, k = q + 1 := ⟨k - 1, by omega⟩
      have hi : i < us.length := by omega
      have hx := hu2 i
      rw [f_Ed_squeeze_6, if_neg (nI_ge (show i < b by omega) (by omega))]
      by_cases c : M ≤ (sqA us a i).length
      · unfold f_Ed_squeeze_78
        obtain ⟨r, er⟩ := sqA_mono (us := us) g2 (show i ≤ b by omega) hbl
        have hlen : (sqA us a b).length = (sqA us a i).length + r.length := by rw [er, List.length_append]
        rw [if_pos (nI_le c (by omega)), show min M (sqA us a b).length = (sqA us a i).length by omega, pn_app (r := r) (Nat.le_refl _), ← er]
      · have nx := ih (i + 1) k (by omega) (by omega) (by omega)
        rw [if_neg (nI_ge (by omega) (by omega)), q_g (q_in (by omega) (by decide)), nI_clamp (by omega), show (S.u_w_Ed_shortName (pn S.w_Ed_shortName B (sqA us a i).length (sqA us a i))).w_Ed_units i = _ from hb i hi, qV_capital K (by omega), q_b]
        have hcl := capN_lt hx
        unfold f_Ed_squeeze_68 f_Ed_squeeze_72
        have st := sqA_step (us := us) g2 hi
        by_cases c32 : us.getD i 0 = 32
        · rw [if_pos (show nI (capN (us.getD i 0)) = 32 from by rw [cap32.mpr c32]; rfl), q_l, nI_1]
          rw [st, if_pos (Or.inl c32), List.append_nil] at nx
          exact nx g4
        rw [if_neg (show ¬ nI (capN (us.getD i 0)) = 32 from fun y => c32 (cap32.mp ((nI_eq (by omega) (by decide)).mp y)))]
        by_cases c46 : us.getD i 0 = 46
        · rw [if_pos (show nI (capN (us.getD i 0)) = 46 from by rw [cap46.mpr c46]; rfl), q_l, nI_1]
          rw [st, if_pos (Or.inr c46), List.append_nil] at nx
          exact nx g4
        rw [if_neg (show ¬ nI (capN (us.getD i 0)) = 46 from fun y => c46 (cap46.mp ((nI_eq (by omega) (by decide)).mp y)))]
        rw [st, if_neg (fun w => w.elim c32 c46), List.length_append, show [pnN (us.getD i 0)].length = 1 from rfl] at nx
        have nx := nx (by omega)
        rw [← pn_add] at nx
        have fin : ∀ w : Int32, w = nI (pnN (us.getD i 0)) → lf_g (lf_in (nI B + nI (sqA us a i).length) 11) (lf_l ((S.u_w_Ed_shortName (pn S.w_Ed_shortName B (sqA us a i).length (sqA us a i))).u_w_Ed_shortName (upd (S.u_w_Ed_shortName (pn S.w_Ed_shortName B (sqA us a i).length (sqA us a i))).w_Ed_shortName (nI B + nI (sqA us a i).length).toNatClampNeg w)) fun S_11 => lf_l (nI (sqA us a i).length + 1) fun x_12 => lf_l (nI i + 1) fun x_9 => f_Ed_squeeze_6 K G k (nI b) (nI B) (nI M) x_12 x_9 S_11) = some (nI (min M (sqA us a b).length), S.u_w_Ed_shortName (pn S.w_Ed_shortName B (min M (sqA us a b).length) (sqA us a b))) := fun w ew => by
          rw [nI_add, q_g (q_in (by omega) (by decide)), q_l, q_l, q_l, nI_1, nI_1, nI_clamp (by omega), ew]
          exact nx
        by_cases sg : sgP (capN (us.getD i 0))
        · rw [(qV_sign K hcl).1 sg, q_b, if_neg (show ¬ nI 1 = 0 by decide)]
          exact fin _ (by unfold pnN; rw [if_pos sg])
        · rw [(qV_sign K hcl).2 sg, q_b, if_pos (show nI 0 = 0 from rfl)]
          exact fin _ (by unfold pnN; rw [if_neg sg]; rfl)
  have := loop (b - a) a K (by omega) (Nat.le_refl _) (by omega) (by rw [sqA_0]; exact Nat.zero_le _)
  rw [sqA_0, show ([] : List Nat).length = 0 from rfl, pn_0] at this
  unfold f_Ed_squeeze
  exact this
