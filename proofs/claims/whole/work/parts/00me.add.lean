/-! An item more in the reference. -/
def unF (f : Nat → Int32) (b : Nat) (us : List Nat) (q : Nat) : Nat → Int32 := fun j => if b ≤ j ∧ j < b + q then nI (us.getD (j - b) 0) else f j
theorem unF_add {f : Nat → Int32} {b : Nat} {us : List Nat} {q : Nat} : upd (unF f b us q) (b + q) (nI (us.getD q 0)) = unF f b us (q + 1) := by
  funext j
  unfold unF
  by_cases g : j = b + q
  · rw [g, pk_us, if_pos (by omega), Nat.add_sub_cancel_left]
  · rw [pk_un g]
    by_cases e : b ≤ j ∧ j < b + q
    · rw [if_pos e, if_pos (by omega)]
    · rw [if_neg e, if_neg (by omega)]
theorem unF_0 {f : Nat → Int32} {b : Nat} {us : List Nat} : unF f b us 0 = f := funext (fun j => if_neg (by omega))
def adT1 (T : MS) (n p i s : Nat) : MS := (((((T.u_v_at (upd T.v_at n (nI p))).u_v_slot (upd T.v_slot n (nI s))).u_v_parts (upd T.v_parts n T.v_met)).u_v_parent (upd T.v_parent n (nI i))).u_v_nameAt (upd T.v_nameAt n T.v_units)).u_v_nameSize (upd T.v_nameSize n T.v_size)
def adT (T : MS) (n p i s b kn : Nat) (us : List Nat) : MS := (((((adT1 T n p i s).u_v_unit (unF T.v_unit b us us.length)).u_v_units (nI (b + us.length))).u_v_items (nI (n + 1))).u_v_kids (upd T.v_kids i (nI (kn + 1)))).u_v_met (nI 0)
def admEnd (K : Nat) (y_1 y_4 : Int32) (S_55 : MS) : Option (Int32 × MS) := if (y_4 &&& 16) = 0 then (lf_c (f_Mo_four K S_55 (y_1 + 28)) fun r_57 S_57 => if r_57 = 0 then (lf_c (f_Mo_firstOf K S_57 y_1) fun r_65 S_65 => if r_65 = 0 then (some (0, S_65)) else (some (3, S_65))) else (if r_57 ≤ 0 then (f_Mo_adm_527 K S_57) else (lf_c (f_Mo_firstOf K S_57 y_1) fun r_60 S_60 => lf_c (f_Mo_follows K S_60 r_60) fun r_61 S_61 => if r_61 = 0 then (f_Mo_adm_527 K S_61) else ((f_Mo_whole K r_57 (512 * S_61.v_c)).bind fun r_63 => if S_61.v_links = r_63 then (some (0, S_61)) else (f_Mo_adm_527 K S_61))))) else (some (0, S_55))
theorem qM_add {K N k p i s kn : Nat} {y4 : Int32} {its : List It} {us : List Nat} {T : MS} {Q : Int32 × MS → Prop} (hK : 1000 ≤ K) (hT : rmI its T) (hi : i < 4200) (hn : its.length < 4200) (hu : (uns its).length + us.length ≤ 90000) (hs : T.v_size = nI us.length) (hl : us.length ≤ 260) (hb : bufR T.v_name us) (hlt : ∀ u ∈ us, u < 65536) (hkn : T.v_kids i = nI kn) (hQ : wp (admEnd K (nI p) y4 (adT T its.length p i s (uns its).length kn us)) Q) : wp (f_Mo_adm_225 K (k + 1) (nI p) (nI i) (nI s) y4 (nI its.length) T) Q := by
  obtain ⟨t1, t2, -, -⟩ := hT
  have hin : lf_in T.v_items 4200 := by rw [t1]; exact q_in hn (by decide)
  have hii : lf_in (nI i) 4200 := q_in hi (by decide)
  have hcl : T.v_items.toNatClampNeg = its.length := by rw [t1]; exact nI_clamp (by omega)
  have hci : (nI i).toNatClampNeg = i := nI_clamp (by omega)
  rw [f_Mo_adm_225]
  refine wp_t (show T.v_items ≤ nI its.length by rw [t1]; exact Int32.le_refl _) ?_
  refine wp_g hin (wp_l (wp_g hin (wp_l (wp_g hin (wp_l (wp_g hin (wp_l (wp_g hin (wp_l (wp_g hin (wp_l ?_)))))))))))
  show wp (f_Mo_adm_375 K K (nI p) (nI i) y4 (nI 0) ((((((T.u_v_at (upd T.v_at T.v_items.toNatClampNeg (nI p))).u_v_slot (upd T.v_slot T.v_items.toNatClampNeg (nI s))).u_v_parts (upd T.v_parts T.v_items.toNatClampNeg T.v_met)).u_v_parent (upd T.v_parent T.v_items.toNatClampNeg (nI i))).u_v_nameAt (upd T.v_nameAt T.v_items.toNatClampNeg T.v_units)).u_v_nameSize (upd T.v_nameSize T.v_items.toNatClampNeg T.v_size))) Q
  rw [hcl]
  refine wp_loop (F := fun k q S => f_Mo_adm_375 K k (nI p) (nI i) y4 (nI q) S) (fun q S => S = (adT1 T its.length p i s).u_v_unit (unF T.v_unit (uns its).length us q)) us.length ?_ ?_ 0 K _ (by omega) (by omega) (by rw [unF_0]; rfl)
  · intro q S k hq hS hrec
    have e1 : S.v_size = nI us.length := by rw [hS]; exact hs
    have e2 : S.v_units = nI (uns its).length := by rw [hS]; exact t2
    have e3 : S.v_name = T.v_name := by rw [hS]; rfl
    have e4 : S.v_unit = unF T.v_unit (uns its).length us q := by rw [hS]; rfl
    show wp (f_Mo_adm_375 K (k + 1) (nI p) (nI i) y4 (nI q) S) Q
    rw [f_Mo_adm_375, e1, if_neg (nI_ge (by omega) (by omega)), q_g (q_in (by omega) (by decide)), e2, nI_add, q_g (q_in (by omega) (by decide)), q_l, q_l, nI_1, nI_clamp (by omega), nI_clamp (by omega), e3, hb q hq, q_nar (getD_lt hlt (by decide)), e4, unF_add]
    exact hrec _ (by rw [hS]; rfl)
  · intro S k hS
    have e1 : S.v_size = nI us.length := by rw [hS]; exact hs
    show wp (f_Mo_adm_375 K (k + 1) (nI p) (nI i) y4 (nI us.length) S) Q
    rw [f_Mo_adm_375, e1, if_pos (Int32.le_refl _)]
    refine wp_l (wp_l (wp_g hii (wp_g hii (wp_l (wp_l ?_)))))
    have e5 : ((((S.u_v_units (S.v_units + nI us.length)).u_v_items ((S.u_v_units (S.v_units + nI us.length)).v_items + 1)).u_v_kids (upd ((S.u_v_units (S.v_units + nI us.length)).u_v_items ((S.u_v_units (S.v_units + nI us.length)).v_items + 1)).v_kids (nI i).toNatClampNeg (((S.u_v_units (S.v_units + nI us.length)).u_v_items ((S.u_v_units (S.v_units + nI us.length)).v_items + 1)).v_kids (nI i).toNatClampNeg + 1))).u_v_met 0) = adT T its.length p i s (uns its).length kn us := by
      rw [hS, hci]
      show ((((((adT1 T its.length p i s).u_v_unit (unF T.v_unit (uns its).length us us.length)).u_v_units (T.v_units + nI us.length)).u_v_items (T.v_items + 1)).u_v_kids (upd T.v_kids i (T.v_kids i + 1))).u_v_met 0) = _
      rw [t2, nI_add, t1, nI_1, hkn, nI_1]
      rfl
    rw [e5]
    exact hQ
theorem itr_app {its : List It} {x : It} {j : Nat} (h : j < its.length) : itr (its ++ [x]) j = itr its j := by
  unfold itr
  rw [List.getD_eq_getElem?_getD, List.getD_eq_getElem?_getD, List.getElem?_append_left h]
theorem itr_last {its : List It} {x : It} : itr (its ++ [x]) its.length = x := by
  unfold itr
  rw [List.getD_eq_getElem?_getD, List.getElem?_append_right (Nat.le_refl _), Nat.sub_self]
  rfl
theorem adT_rm {n p i s b kn : Nat} {us : List Nat} {its : List It} {T : MS} {m : Nat} (hT : rmI its T) (hn : n = its.length) (hb : b = (uns its).length) (hs : T.v_size = nI us.length) (hm : T.v_met = nI m) : rmI (its ++ [((i, p), (s, m), us)]) (adT T n p i s b kn us) := by
  subst hn
  subst hb
  obtain ⟨t1, t2, t3, t4⟩ := hT
  have hU : uns (its ++ [((i, p), (s, m), us)]) = uns its ++ us := by rw [uns_app, uns_one]
  refine ⟨?_, ?_, fun j h1 h2 => ?_, fun u hu => ?_⟩
  · show nI (its.length + 1) = _
    rw [List.length_append]; rfl
  · show nI ((uns its).length + us.length) = _
    rw [hU, List.length_append]
  · show upd T.v_at its.length (nI p) j = _ ∧ upd T.v_slot its.length (nI s) j = _ ∧ upd T.v_parts its.length T.v_met j = _ ∧ upd T.v_parent its.length (nI i) j = _ ∧ upd T.v_nameAt its.length T.v_units j = _ ∧ upd T.v_nameSize its.length T.v_size j = _
    rw [List.length_append] at h2
    have h2 : j < its.length + 1 := h2
    by_cases g : j = its.length
    · subst g
      rw [itr_last, pk_us, pk_us, pk_us, pk_us, pk_us, pk_us, List.take_append_of_le_length (Nat.le_refl _), List.take_length]
      exact ⟨rfl, rfl, hm, rfl, t2, hs⟩
    · rw [pk_un g, pk_un g, pk_un g, pk_un g, pk_un g, pk_un g, itr_app (by omega), List.take_append_of_le_length (by omega)]
      exact t3 j h1 (by omega)
  · show unF T.v_unit (uns its).length us us.length u = _
    rw [hU, List.length_append] at hu
    rw [hU, List.getD_eq_getElem?_getD]
    unfold unF
    by_cases g : (uns its).length ≤ u
    · rw [if_pos (by omega), List.getElem?_append_right g, List.getD_eq_getElem?_getD]
    · rw [if_neg (by omega), List.getElem?_append_left (by omega), t4 u (by omega), List.getD_eq_getElem?_getD]
theorem qM_followsW {K N x : Nat} {D : Nat → Int32} {T : MS} {tk : List Nat} (hK : 1000 ≤ K) (hT : mIs N D T) (h : hdOk N D) (h2 : N ≤ 1024) (hk0 : tkR N T.v_chained tk) (hx : x < 2 ^ 32) : (∀ ch, fo N D x tk = some ch → f_Mo_follows K T (nI x) = some (nI 1, chT T ch)) ∧ (fo N D x tk = none → ∃ a b c, f_Mo_follows K T (nI x) = some (nI 0, ((T.u_v_chained a).u_v_chain b).u_v_links c)) := by
  by_cases g : x < 2 ^ 28
  · exact qM_follows hK hT h h2 hk0 g
  · have hf := hd_facts h h2
    have e : fo N D x tk = none := by
      unfold fo
      rw [fol, if_neg (fun z => by have := z.1; omega)]
    refine ⟨fun ch hc => (by rw [e] at hc; cases hc), fun _ => ⟨T.v_chained, T.v_chain, 0, ?_⟩⟩
    obtain ⟨k, rfl⟩ : ∃ m, K = m + 1 := ⟨K - 1, by omega⟩
    unfold f_Mo_follows
    rw [q_l, f_Mo_follows_7, qM_isCl' (k := hk N D) (T := T.u_v_links 0) hT.2.2.2.2.2.2.2.2 (by omega) hx, q_c, if_neg (show ¬ (2 ≤ x ∧ x ≤ hk N D + 1) by omega), if_pos (show nI 0 = 0 from rfl)]
    rfl
theorem tkR_app {N : Nat} {f : Nat → Int32} {ch tk : List Nat} (h : tkR N f tk) : tkR N (mk1 f ch) (ch ++ tk) := by
  intro x hx
  unfold mk1
  by_cases g : x ∈ ch
  · rw [if_pos g, if_pos (List.mem_append_left _ g)]
  · rw [if_neg g, h x hx]
    by_cases e : x ∈ tk
    · rw [if_pos e, if_pos (List.mem_append_right _ e)]
    · rw [if_neg e, if_neg (fun z => (List.mem_append.mp z).elim g e)]
theorem q_and16 {r : Nat} (h : r < 256) : r &&& 16 = 16 * (r / 16 % 2) := by
  have : ∀ r : Fin 256, r.val &&& 16 = 16 * (r.val / 16 % 2) := by decide +kernel
  exact this ⟨r, h⟩
theorem q_and8 {r : Nat} (h : r < 256) : r &&& 8 = 8 * (r / 8 % 2) := by
  have : ∀ r : Fin 256, r.val &&& 8 = 8 * (r.val / 8 % 2) := by decide +kernel
  exact this ⟨r, h⟩
theorem q_and63 {r : Nat} (h : r < 256) : r &&& 63 = r % 64 := by
  have : ∀ r : Fin 256, r.val &&& 63 = r.val % 64 := by decide +kernel
  exact this ⟨r, h⟩
theorem fol_spec {N : Nat} {D : Nat → Int32} : ∀ (f x : Nat) (tk ch : List Nat), fol N D f x tk = some ch → ch.length ≤ f ∧ 1 ≤ ch.length ∧ ch.getD 0 0 = x ∧ ch.Nodup ∧ (∀ y ∈ ch, isCl N D y ∧ y ∉ tk ∧ ent D y ≠ 0) ∧ (∀ j, j + 1 < ch.length → ent D (ch.getD j 0) = ch.getD (j + 1) 0) ∧ 268435448 ≤ ent D (ch.getD (ch.length - 1) 0) := by
  intro f
  induction f with
  | zero => intro x tk ch h; cases h
  | succ f ih =>
    intro x tk ch h
    rw [fol] at h
    by_cases g : isCl N D x ∧ x ∉ tk ∧ ent D x ≠ 0
    · rw [if_pos g] at h
      by_cases e : 268435448 ≤ ent D x
      · rw [if_pos e] at h
        cases h
        refine ⟨by simp, by simp, rfl, by simp, fun y hy => ?_, fun j hj => ?_, e⟩
        · rw [List.mem_singleton.mp hy]; exact g
        · simp at hj
      · rw [if_neg e] at h
        cases hf : fol N D f (ent D x) (x :: tk) with
        | none => rw [hf] at h; cases h
        | some l =>
          rw [hf] at h
          cases h
          obtain ⟨i1, i2, i3, i4, i5, i6, i7⟩ := ih _ _ _ hf
          refine ⟨by simp only [List.length_cons]; omega, by simp, rfl, ?_, fun y hy => ?_, fun j hj => ?_, ?_⟩
          · rw [List.nodup_cons]
            exact ⟨fun z => (i5 x z).2.1 List.mem_cons_self, i4⟩
          · rcases List.mem_cons.mp hy with z | z
            · rw [z]; exact g
            · exact ⟨(i5 y z).1, fun w => (i5 y z).2.1 (List.mem_cons_of_mem _ w), (i5 y z).2.2⟩
          · simp only [List.length_cons] at hj
            cases j with
            | zero => exact i3.symm
            | succ j => exact i6 j (by omega)
          · have e2 : (x :: l).getD ((x :: l).length - 1) 0 = l.getD (l.length - 1) 0 := by
              simp only [List.length_cons, Nat.add_sub_cancel]
              obtain ⟨m, hm⟩ : ∃ m, l.length = m + 1 := ⟨l.length - 1, by omega⟩
              rw [hm]
              rfl
            rw [e2]
            exact i7
    · rw [if_neg g] at h
      cases h
theorem q_divneg {x d n : Nat} (h1 : 2 ^ 31 ≤ x) (h2 : x < 2 ^ 32) (h3 : 0 < d) (h4 : d < 2 ^ 30) (h5 : 0 < n) (h6 : n < 2 ^ 30) : ¬ nI x / nI d = nI n := by
  intro h
  have h := congrArg Int32.toInt h
  have ex : (nI x).toInt = (x : Int) - 2 ^ 32 := by
    show (nI x).toBitVec.toInt = _
    rw [q_bv, BitVec.toInt_eq_toNat_cond, BitVec.toNat_ofNat, Nat.mod_eq_of_lt h2, if_neg (by omega)]
    omega
  rw [Int32.toInt_div, ex, nI_toInt (by omega), nI_toInt (by omega)] at h
  have hneg : ((x : Int) - 2 ^ 32).tdiv d = - (((2 ^ 32 - x : Nat) : Int).tdiv d) := by
    have e : ((x : Int) - 2 ^ 32) = -((2 ^ 32 - x : Nat) : Int) := by omega
    rw [e, Int.neg_tdiv]
  have hb : 0 ≤ ((2 ^ 32 - x : Nat) : Int).tdiv d := Int.tdiv_nonneg (by omega) (by omega)
  have hb2 : ((2 ^ 32 - x : Nat) : Int).tdiv d ≤ 2 ^ 31 := by
    refine Int.le_trans (Int.tdiv_le_self _ (by omega)) (by omega)
  rw [hneg, Int.bmod_def] at h
  generalize ((2 ^ 32 - x : Nat) : Int).tdiv d = t at *
  split at h <;> omega
theorem fo_len {N x : Nat} {D : Nat → Int32} {tk ch : List Nat} (h : fo N D x tk = some ch) (h2 : N ≤ 1024) : 1 ≤ ch.length ∧ ch.length ≤ 514 := by
  have := fol_spec _ _ _ _ h
  omega
theorem qM_admEnd {K N p : Nat} {D : Nat → Int32} {T : MS} {tk : List Nat} (hK : 1000 ≤ K) (hT : mIs N D T) (h : hdOk N D) (h2 : N ≤ 1024) (hk0 : tkR N T.v_chained tk) (hp : p + 31 < 524288) : (∀ ch, entF N D p tk = some ch → ∃ b c, admEnd K (nI p) (nI (o1 D (p + 11))) T = some (nI 0, ((T.u_v_chained (mk1 T.v_chained ch)).u_v_chain b).u_v_links c)) ∧ (entF N D p tk = none → ∃ a b c, admEnd K (nI p) (nI (o1 D (p + 11))) T = some (nI 3, ((T.u_v_chained a).u_v_chain b).u_v_links c)) := by
  have hD := hT.1
  have same : ((T.u_v_chained (mk1 T.v_chained [])).u_v_chain T.v_chain).u_v_links T.v_links = T := by rw [mk1_nil]; rfl
  have same2 : ((T.u_v_chained T.v_chained).u_v_chain T.v_chain).u_v_links T.v_links = T := rfl
  have b11 := o1_lt D (p + 11)
  have b28 := o4_lt D (p + 28)
  have bf := fc_lt D p
  have hf := hd_facts h h2
  unfold admEnd f_Mo_adm_527
  rw [show (16 : Int32) = nI 16 from rfl, q_and, q_and16 b11]
  by_cases g1 : o1 D (p + 11) / 16 % 2 = 1
  · have e : entF N D p tk = some [] := by unfold entF; rw [if_pos g1]
    rw [e, g1, if_neg (by decide)]
    exact ⟨fun ch hc => ⟨T.v_chain, T.v_links, by cases hc; rw [same]; rfl⟩, fun z => by cases z⟩
  · rw [show o1 D (p + 11) / 16 % 2 = 0 by omega, if_pos (by decide), show (28 : Int32) = nI 28 from rfl, nI_add, rM4 D hD (by omega), q_c]
    by_cases g2 : o4 D (p + 28) = 0
    · rw [if_pos (by rw [g2]; rfl), qM_firstOf hD hp, q_c]
      by_cases g3 : fc D p = 0
      · have e : entF N D p tk = some [] := by unfold entF; rw [if_neg g1, if_pos g2, if_pos g3]
        rw [e, if_pos (by rw [g3]; rfl)]
        exact ⟨fun ch hc => ⟨T.v_chain, T.v_links, by cases hc; rw [same]; rfl⟩, fun z => by cases z⟩
      · have e : entF N D p tk = none := by unfold entF; rw [if_neg g1, if_pos g2, if_neg g3]
        rw [e, if_neg (fun z : nI (fc D p) = 0 => g3 ((q_eqW (b := 0) bf (by decide)).mp z))]
        exact ⟨fun ch hc => by (cases hc), fun _ => ⟨T.v_chained, T.v_chain, T.v_links, rfl⟩⟩
    · rw [if_neg (fun z : nI (o4 D (p + 28)) = 0 => g2 ((q_eqW (b := 0) b28 (by decide)).mp z))]
      by_cases g3 : o4 D (p + 28) < 2 ^ 31
      · rw [if_neg (show ¬ nI (o4 D (p + 28)) ≤ 0 from nI_nle (by omega) g3), qM_firstOf hD hp, q_c]
        obtain ⟨f1, f2⟩ := qM_followsW (K := K) (x := fc D p) hK hT h h2 hk0 bf
        cases hfo : fo N D (fc D p) tk with
        | none =>
          have e : entF N D p tk = none := by unfold entF; rw [if_neg g1, if_neg g2, if_pos g3, hfo]
          obtain ⟨a, b, c, f3⟩ := f2 hfo
          rw [e, f3, q_c, if_pos (by decide)]
          exact ⟨fun ch hc => by (cases hc), fun _ => ⟨a, b, c, rfl⟩⟩
        | some ch =>
          have hc2 : (chT T ch).v_c = nI (hc D) := hT.2.2.1
          have hw : f_Mo_whole K (nI (o4 D (p + 28))) (512 * (chT T ch).v_c) = some (nI (o4 D (p + 28) + 512 * hc D - 1) / nI (512 * hc D)) := by
            rw [hc2, show (512 : Int32) = nI 512 from rfl, pk_mul]
            unfold f_Mo_whole
            rw [q_g (nI_ne0 (by omega) (by omega)), nI_add, show (1 : Int32) = nI 1 from rfl, pk_sub (by omega)]
          rw [f1 ch hfo, q_c, if_neg (by decide), hw, q_b]
          have hll : ch.length < 2 ^ 20 := by
            have := fo_len hfo h2
            omega
          have hdv : (nI (o4 D (p + 28) + 512 * hc D - 1) / nI (512 * hc D) = nI ch.length) ↔ ch.length = (o4 D (p + 28) + 512 * hc D - 1) / (512 * hc D) := by
            by_cases z : o4 D (p + 28) + 512 * hc D - 1 < 2 ^ 31
            · rw [pk_div z (by omega) (by omega), nI_eq (Nat.lt_of_le_of_lt (Nat.div_le_self _ _) z) (by omega)]
              exact ⟨fun y => y.symm, fun y => y.symm⟩
            · have hlen := fo_len hfo h2
              refine ⟨fun y => absurd y (q_divneg (by omega) (by omega) (by omega) (by omega) (by omega) (by omega)), fun y => ?_⟩
              have : 2 ^ 31 / (512 * hc D) ≤ (o4 D (p + 28) + 512 * hc D - 1) / (512 * hc D) := Nat.div_le_div_right (by omega)
              have h3 : 524288 ≤ 2 ^ 31 / (512 * hc D) := by rcases hf.1 with z | z | z <;> rw [z] <;> decide
              omega
          have hlk : (chT T ch).v_links = nI ch.length := rfl
          rw [hlk]
          by_cases g4 : ch.length = (o4 D (p + 28) + 512 * hc D - 1) / (512 * hc D)
          · have e : entF N D p tk = some ch := by
              unfold entF
              rw [if_neg g1, if_neg g2, if_pos g3, hfo]
              exact if_pos g4
            rw [e, if_pos (hdv.mpr g4).symm]
            exact ⟨fun c hc => ⟨mkL T.v_chain ch, nI ch.length, by cases hc; rfl⟩, fun z => by cases z⟩
          · have e : entF N D p tk = none := by
              unfold entF
              rw [if_neg g1, if_neg g2, if_pos g3, hfo]
              exact if_neg g4
            rw [e, if_neg (fun z => g4 (hdv.mp z.symm))]
            exact ⟨fun c hc => by (cases hc), fun _ => ⟨mk1 T.v_chained ch, mkL T.v_chain ch, nI ch.length, rfl⟩⟩
      · rw [if_pos (show nI (o4 D (p + 28)) ≤ 0 from (q_leV (b := 0) b28 (by decide)).mpr (by omega))]
        have e : entF N D p tk = none := by unfold entF; rw [if_neg g1, if_neg g2, if_neg g3]
        rw [e]
        exact ⟨fun ch hc => by (cases hc), fun _ => ⟨T.v_chained, T.v_chain, T.v_links, rfl⟩⟩
