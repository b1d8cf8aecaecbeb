/-! make: stem and tail of an invented short name, the reference. -/
theorem lp_uniq {us : List Nat} {l l' : Nat} (h : lpR us l) (h' : lpR us l') : l = l' := by
  have key : ∀ {a b : Nat}, lpR us a → lpR us b → ¬ a < b := fun {a b} x y c => by
    obtain ⟨a1, a2, a3, a4⟩ := x
    obtain ⟨b1, b2, b3, b4⟩ := y
    by_cases e : b = us.length
    · exact b4 a a2 (by omega) (Or.inr e) (a3 (by omega))
    · exact a4 b b2 (by omega) (Or.inl c) (b3 (by omega))
  have := key h h'
  have := key h' h
  omega
theorem qM_plain (K : Nat) {u : Nat} (hu : u < 65536) : f_Mo_plain K (nI u) = some (nI (pnN u)) := by
  have hc := capN_lt hu
  unfold f_Mo_plain f_Mo_plain_23
  rw [qM_capital K (by omega), q_b]
  by_cases c : 128 ≤ u
  · have e : ¬ sgP (capN u) := fun w => by
      have := sg_lt w
      unfold capN at this
      split at this <;> omega
    rw [if_pos (show (128 : Int32) ≤ nI u from nI_le (a := 128) c (by omega))]
    unfold pnN
    rw [if_neg e]
    rfl
  · rw [if_neg (show ¬ (128 : Int32) ≤ nI u from nI_ge (Nat.lt_of_not_le c) (by decide))]
    unfold pnN
    by_cases e : sgP (capN u)
    · rw [(qM_sign K hc).1 e, q_b, if_neg (show ¬ nI 1 = 0 by decide), if_pos e]
    · rw [(qM_sign K hc).2 e, q_b, if_pos (show nI 0 = 0 from rfl), if_neg e]
      rfl
noncomputable def tlL (us : List Nat) (l : Nat) : List Nat := if l = us.length then [] else (sqA us (l + 1) us.length).take 3
theorem pn_take {g : Nat → Int32} {b M : Nat} {l : List Nat} : pn g b (min M l.length) l = pn g b (l.take M).length (l.take M) := by
  funext q
  unfold pn
  rw [List.length_take]
  by_cases c : b ≤ q ∧ q < b + min M l.length
  · rw [if_pos c, if_pos c, List.getD_eq_getElem?_getD, List.getD_eq_getElem?_getD, List.getElem?_take_of_lt (by omega)]
  · rw [if_neg c, if_neg c]
theorem qM_stem {K l : Nat} {p c0 : Int32} {T : MS} {us : List Nat} (hK : 20000 ≤ K) (hs : T.v_size = nI us.length) (hl : us.length ≤ 255) (hb : bufR T.v_name us) (hu : ∀ u ∈ us, u < 65536) (hlp : lpR us l) : f_Mo_shorten_28 K p (nI (if l = us.length then 0 else l)) T = f_Mo_shorten_110 K K p (nI (if l = us.length then 0 else l)) (nI (sqA us 0 l).length) 0 (nI ((if l = us.length then 0 else l) + 1)) (T.u_v_stem (pn T.v_stem 0 (sqA us 0 l).length (sqA us 0 l))) := by
  have hu2 : ∀ j, us.getD j 0 < 65536 := fun j => getD_lt hu (by decide)
  have hll := hlp.1
  have hl1 := hlp.2.1
  generalize hP : (if l = us.length then 0 else l) = P
  have hlim : ∀ (f : Int32 → Option MS), (if nI P ≤ 0 then f T.v_size else f (nI P)) = f (nI l) := fun f => by
    by_cases c : l = us.length
    · rw [← hP, if_pos c, if_pos (show nI 0 ≤ 0 by decide), hs, c]
    · rw [← hP, if_neg c, if_neg (nI_nle (by omega) (by omega))]
  have hPl : P ≤ 255 := by rw [← hP]; split <;> omega
  have loop : ∀ (d i k : Nat), i + d = l → d < k → f_Mo_shorten_36 K k p (nI P) (nI (sqA us 0 i).length) 0 (nI i) (T.u_v_stem (pn T.v_stem 0 (sqA us 0 i).length (sqA us 0 i))) = f_Mo_shorten_110 K K p (nI P) (nI (sqA us 0 l).length) 0 (nI (P + 1)) (T.u_v_stem (pn T.v_stem 0 (sqA us 0 l).length (sqA us 0 l))) := by
    intro d
    induction d with
    | zero =>
      intro i k g1 g2
      obtain ⟨k, rfl⟩ : ∃ q, k = q + 1 := ⟨k - 1, by omega⟩
      obtain rfl : i = l := by omega
      rw [f_Mo_shorten_36]
      refine (hlim fun x => f_Mo_shorten_50 K (f_Mo_shorten_36 K k) p (nI P) (nI (sqA us 0 i).length) 0 (nI i) (nI i) x (T.u_v_stem (pn T.v_stem 0 (sqA us 0 i).length (sqA us 0 i)))).trans ?_
      unfold f_Mo_shorten_50
      rw [if_pos (Int32.le_refl _), q_l, nI_1]
    | succ d ih =>
      intro i k g1 g2
      obtain ⟨k, rfl⟩ : ∃ q, k = q + 1 := ⟨k - 1, by omega⟩
      have hi : i < us.length := by omega
      have hx := hu2 i
      have nx := ih (i + 1) k (by omega) (by omega)
      have st := sqA_step (us := us) (Nat.zero_le i) hi
      have hsl := sqL_len ((us.take i).drop 0)
      rw [List.drop_zero, List.length_take] at hsl
      have hsl : (sqA us 0 i).length ≤ i := by unfold sqA; rw [List.drop_zero]; omega
      rw [f_Mo_shorten_36]
      refine (hlim fun x => f_Mo_shorten_50 K (f_Mo_shorten_36 K k) p (nI P) (nI (sqA us 0 i).length) 0 (nI i) (nI i) x (T.u_v_stem (pn T.v_stem 0 (sqA us 0 i).length (sqA us 0 i)))).trans ?_
      unfold f_Mo_shorten_50 f_Mo_shorten_99
      have hv : (T.u_v_stem (pn T.v_stem 0 (sqA us 0 i).length (sqA us 0 i))).v_name (nI i).toNatClampNeg = nI (us.getD i 0) := by
        rw [nI_clamp (by omega)]
        exact hb i hi
      rw [if_neg (nI_ge (show i < l by omega) (by omega)), q_g (q_in (by omega) (by decide))]
      simp only [hv]
      by_cases c32 : us.getD i 0 = 32
      · rw [if_pos (show nI (us.getD i 0) = 32 from by rw [c32]; rfl), q_l, nI_1]
        rw [st, if_pos (Or.inl c32), List.append_nil] at nx
        exact nx
      rw [if_neg (show ¬ nI (us.getD i 0) = 32 from fun y => c32 ((nI_eq (by omega) (by decide)).mp y)), q_g (q_in (by omega) (by decide))]
      by_cases c46 : us.getD i 0 = 46
      · rw [if_pos (show nI (us.getD i 0) = 46 from by rw [c46]; rfl), q_l, nI_1]
        rw [st, if_pos (Or.inr c46), List.append_nil] at nx
        exact nx
      rw [if_neg (show ¬ nI (us.getD i 0) = 46 from fun y => c46 ((nI_eq (by omega) (by decide)).mp y)), q_g (q_in (by omega) (by decide)), qM_plain K hx, q_b, q_g (q_in (by omega) (by decide)), q_l, q_l, q_l, nI_1, nI_1, nI_clamp (by omega)]
      rw [st, if_neg (fun w => w.elim c32 c46), List.length_append, show [pnN (us.getD i 0)].length = 1 from rfl, ← pn_add, Nat.zero_add] at nx
      exact nx
  have := loop l 0 K (by omega) (by omega)
  rw [sqA_0, show ([] : List Nat).length = 0 from rfl, pn_0] at this
  unfold f_Mo_shorten_28
  exact this
theorem qM_tail {K l : Nat} {p c : Int32} {T : MS} {us : List Nat} (hK : 20000 ≤ K) (hs : T.v_size = nI us.length) (hl : us.length ≤ 255) (hb : bufR T.v_name us) (hu : ∀ u ∈ us, u < 65536) (hlp : lpR us l) : f_Mo_shorten_110 K K p (nI (if l = us.length then 0 else l)) c 0 (nI ((if l = us.length then 0 else l) + 1)) T = f_Mo_shorten_170 K p c (nI (tlL us l).length) (T.u_v_tail (pn T.v_tail 0 (tlL us l).length (tlL us l))) := by
  have hu2 : ∀ j, us.getD j 0 < 65536 := fun j => getD_lt hu (by decide)
  obtain ⟨a1, a2, a3, a4⟩ := hlp
  obtain ⟨K', rfl⟩ : ∃ m, K = m + 1 := ⟨K - 1, by omega⟩
  by_cases cl : l = us.length
  · unfold tlL
    rw [if_pos cl, if_pos cl, f_Mo_shorten_110, if_pos (show nI 0 ≤ 0 by decide), show ([] : List Nat).length = 0 from rfl, pn_0]
    rfl
  rw [if_neg cl]
  generalize hK2 : K' + 1 = KK at *
  have hnle : ¬ nI l ≤ 0 := nI_nle (by omega) (by omega)
  have loop : ∀ (d i k : Nat), i + d = us.length → l + 1 ≤ i → d < k → (sqA us (l + 1) i).length ≤ 3 → f_Mo_shorten_110 KK k p (nI l) c (nI (sqA us (l + 1) i).length) (nI i) (T.u_v_tail (pn T.v_tail 0 (sqA us (l + 1) i).length (sqA us (l + 1) i))) = f_Mo_shorten_170 KK p c (nI (min 3 (sqA us (l + 1) us.length).length)) (T.u_v_tail (pn T.v_tail 0 (min 3 (sqA us (l + 1) us.length).length) (sqA us (l + 1) us.length))) := by
    intro d
    induction d with
    | zero =>
      intro i k g1 g2 g3 g4
      obtain ⟨k, rfl⟩ : ∃ q, k = q + 1 := ⟨k - 1, by omega⟩
      obtain rfl : i = us.length := by omega
      rw [f_Mo_shorten_110, if_neg hnle, if_pos (show (T.u_v_tail (pn T.v_tail 0 (sqA us (l + 1) us.length).length (sqA us (l + 1) us.length))).v_size ≤ nI us.length from by show T.v_size ≤ _; rw [hs]; exact Int32.le_refl _), Nat.min_eq_right g4]
    | succ d ih =>
      intro i k g1 g2 g3 g4
      obtain ⟨k, rfl⟩ : ∃ q, k = q + 1 := ⟨k - 1, by omega⟩
      have hi : i < us.length := by omega
      have hx := hu2 i
      rw [f_Mo_shorten_110, if_neg hnle, if_neg (show ¬ (T.u_v_tail (pn T.v_tail 0 (sqA us (l + 1) i).length (sqA us (l + 1) i))).v_size ≤ nI i from by show ¬ T.v_size ≤ _; rw [hs]; exact nI_ge hi (by omega))]
      by_cases cM : 3 ≤ (sqA us (l + 1) i).length
      · obtain ⟨r, er⟩ := sqA_mono (us := us) g2 (show i ≤ us.length by omega) (Nat.le_refl _)
        have hlen : (sqA us (l + 1) us.length).length = (sqA us (l + 1) i).length + r.length := by rw [er, List.length_append]
        rw [if_pos (show (3 : Int32) ≤ _ from nI_le (a := 3) cM (by omega)), show min 3 (sqA us (l + 1) us.length).length = (sqA us (l + 1) i).length by omega, pn_app (r := r) (Nat.le_refl _), ← er]
      · have nx := ih (i + 1) k (by omega) (by omega) (by omega)
        have st := sqA_step (us := us) g2 hi
        rw [if_neg (show ¬ (3 : Int32) ≤ _ from nI_ge (Nat.lt_of_not_le cM) (by decide)), q_g (q_in (by omega) (by decide))]
        have hv : (T.u_v_tail (pn T.v_tail 0 (sqA us (l + 1) i).length (sqA us (l + 1) i))).v_name (nI i).toNatClampNeg = nI (us.getD i 0) := by
          rw [nI_clamp (by omega)]
          exact hb i hi
        simp only [hv]
        unfold f_Mo_shorten_164
        by_cases c32 : us.getD i 0 = 32
        · rw [if_pos (show nI (us.getD i 0) = 32 from by rw [c32]; rfl), q_l, nI_1]
          rw [st, if_pos (Or.inl c32), List.append_nil] at nx
          exact nx g4
        have c46 : us.getD i 0 ≠ 46 := a4 i (by omega) hi (Or.inl (by omega))
        rw [if_neg (show ¬ nI (us.getD i 0) = 32 from fun y => c32 ((nI_eq (by omega) (by decide)).mp y)), q_g (q_in (by omega) (by decide)), qM_plain KK hx, q_b, q_g (q_in (by omega) (by decide)), q_l, q_l, q_l, nI_1, nI_1, nI_clamp (by omega)]
        rw [st, if_neg (fun w => w.elim c32 c46), List.length_append, show [pnN (us.getD i 0)].length = 1 from rfl, ← pn_add, Nat.zero_add] at nx
        exact nx (by omega)
  have := loop (us.length - (l + 1)) (l + 1) KK (by omega) (Nat.le_refl _) (by omega) (by rw [sqA_0]; exact Nat.zero_le _)
  rw [sqA_0, show ([] : List Nat).length = 0 from rfl, pn_0, pn_take, ← List.length_take] at this
  unfold tlL
  rw [if_neg cl]
  exact this
theorem qM_shorten {K l : Nat} {p : Int32} {T : MS} {us : List Nat} (hK : 20000 ≤ K) (hs : T.v_size = nI us.length) (h1 : 1 ≤ us.length) (hl : us.length ≤ 255) (hb : bufR T.v_name us) (hu : ∀ u ∈ us, u < 65536) (hlp : lpR us l) : f_Mo_shorten K T p = f_Mo_shorten_170 K p (nI (sqA us 0 l).length) (nI (tlL us l).length) ((T.u_v_stem (pn T.v_stem 0 (sqA us 0 l).length (sqA us 0 l))).u_v_tail (pn T.v_tail 0 (tlL us l).length (tlL us l))) := by
  have hu2 : ∀ j, us.getD j 0 < 65536 := fun j => getD_lt hu (by decide)
  have go : ∀ (i k : Nat), i < us.length → i < k → (∀ j, i < j → j < us.length → us.getD j 0 ≠ 46) → f_Mo_shorten_7 K k p (nI i) T = f_Mo_shorten_28 K p (nI (if l = us.length then 0 else l)) T := by
    intro i
    induction i with
    | zero =>
      intro k _ hk hno
      obtain ⟨k, rfl⟩ : ∃ m, k = m + 1 := ⟨k - 1, by omega⟩
      have e : l = us.length := Classical.byContradiction fun c => hno l (by have := hlp.2.1; omega) (by have := hlp.1; omega) (hlp.2.2.1 (by have := hlp.1; omega))
      rw [f_Mo_shorten_7, if_pos (show nI 0 ≤ 0 by decide), if_pos e]
    | succ i ih =>
      intro k hi hk hno
      obtain ⟨k, rfl⟩ : ∃ m, k = m + 1 := ⟨k - 1, by omega⟩
      rw [f_Mo_shorten_7, if_neg (nI_nle (by omega) (by omega)), q_g (q_in (by omega) (by decide)), nI_clamp (by omega), hb _ hi]
      by_cases c : us.getD (i + 1) 0 = 46
      · have e : l = i + 1 := lp_uniq hlp ⟨by omega, by omega, fun _ => c, fun j a b w => hno j (by omega) b⟩
        rw [c, if_pos (show nI 46 = 46 from rfl), e, if_neg (by omega)]
      · have hx := hu2 (i + 1)
        rw [if_neg (show ¬ nI (us.getD (i + 1) 0) = 46 from fun y => c ((nI_eq (by omega) (by decide)).mp y)), q_l, q_dec]
        refine ih k (by omega) (by omega) fun j a b => ?_
        by_cases e : j = i + 1
        · rw [e]; exact c
        · exact hno j (by omega) b
  unfold f_Mo_shorten
  rw [hs, show (1 : Int32) = nI 1 from rfl, pk_sub h1, q_l, go (us.length - 1) K (by omega) (by omega) (fun j a b => absurd a (by omega)), qM_stem (c0 := 0) hK hs hl hb hu hlp]
  exact qM_tail (T := T.u_v_stem (pn T.v_stem 0 (sqA us 0 l).length (sqA us 0 l))) hK hs hl hb hu hlp
