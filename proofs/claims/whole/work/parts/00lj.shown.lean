/-! A short name as shown; the parts of a long one. -/
theorem q_nar {u : Nat} (h : u < 65536) : vp_nar .char (nI u) = nI u := by
  rw [vp_nar_char]
  apply q_ext
  apply BitVec.eq_of_toNat_eq
  show ((nI u).toUInt32.toUInt16.toUInt32).toNat = (nI u).toBitVec.toNat
  rw [UInt16.toNat_toUInt32, UInt32.toNat_toUInt16]
  show (nI u).toBitVec.toNat % 2 ^ 16 = _
  rw [q_bv, BitVec.toNat_ofNat]
  omega
def svA (D : Nat → Int32) (p i : Nat) : List Nat := if i = 8 ∧ o1 D (p + 8) ≠ 32 then [46] else []
def svB (D : Nat → Int32) (p i : Nat) : List Nat := if o1 D (p + i) ≠ 32 then [o1 D (p + i)] else []
theorem svA_y {D : Nat → Int32} {p i : Nat} (h : i = 8 ∧ o1 D (p + 8) ≠ 32) : svA D p i = [46] := if_pos h
theorem svA_n {D : Nat → Int32} {p i : Nat} (h : ¬ (i = 8 ∧ o1 D (p + 8) ≠ 32)) : svA D p i = [] := if_neg h
theorem svB_y {D : Nat → Int32} {p i : Nat} (h : ¬ o1 D (p + i) = 32) : svB D p i = [o1 D (p + i)] := if_pos h
theorem svB_n {D : Nat → Int32} {p i : Nat} (h : o1 D (p + i) = 32) : svB D p i = [] := if_neg (fun z => z h)
def svO (D : Nat → Int32) (p : Nat) : Nat → List Nat
  | 0 => []
  | i + 1 => (svO D p i ++ svA D p i) ++ svB D p i
theorem svO_len (D : Nat → Int32) (p i : Nat) : (svO D p i).length ≤ 2 * i := by
  induction i with
  | zero => exact Nat.le_refl _
  | succ i ih =>
    rw [svO, List.length_append, List.length_append]
    have a : (svA D p i).length ≤ 1 := by unfold svA; split <;> simp
    have b : (svB D p i).length ≤ 1 := by unfold svB; split <;> simp
    omega
theorem svO_lt (D : Nat → Int32) (p i : Nat) : ∀ u ∈ svO D p i, u < 256 := by
  induction i with
  | zero => intro u hu; cases hu
  | succ i ih =>
    intro u hu
    rw [svO] at hu
    rcases List.mem_append.mp hu with h | h
    · rcases List.mem_append.mp h with h | h
      · exact ih u h
      · unfold svA at h
        split at h
        · rw [List.mem_singleton.mp h]; decide
        · cases h
    · unfold svB at h
      split at h
      · rw [List.mem_singleton.mp h]; exact o1_lt _ _
      · cases h
def nmT (T : MS) (us : List Nat) : MS := (T.u_v_size (nI us.length)).u_v_name (mkL T.v_name us)
theorem nmT_add {T : MS} {us : List Nat} {u : Nat} (hl : us.length < 300) (hu : u < 65536) : ((nmT T us).u_v_name (upd (nmT T us).v_name (nmT T us).v_size.toNatClampNeg (vp_nar .char (nI u)))).u_v_size ((nmT T us).v_size + nI 1) = nmT T (us ++ [u]) := by
  show (T.u_v_size (nI us.length + nI 1)).u_v_name (upd (mkL T.v_name us) (nI us.length).toNatClampNeg (vp_nar .char (nI u))) = _
  rw [nI_clamp (by omega), q_nar hu, mkL_add, nI_add]
  unfold nmT
  rw [List.length_append]
  rfl
theorem qM_shown {K p : Nat} {D : Nat → Int32} {T : MS} (hK : 1000 ≤ K) (hD : T.v_disk = D) (hp : p + 31 < 524288) : f_Mo_shown K T (nI p) = some (nmT T (svO D p 11)) := by
  have e0 : f_Mo_shown K T (nI p) = f_Mo_shown_7 K K (nI p) (nI 0) (nmT T []) := by
    unfold nmT
    rw [mkL_nil]
    rfl
  rw [e0]
  refine lp (F := fun k i s => f_Mo_shown_7 K k (nI p) (nI i) s) (Inv := fun i s => s = nmT T (svO D p i)) (Post := fun r => r = some (nmT T (svO D p 11))) (n := 11) ?_ ?_ 11 0 K _ rfl (by omega) rfl
  · intro i s k hi hI
    subst hI
    have L := svO_len D p i
    have L2 : (svO D p i).length ≤ 20 := by omega
    refine Or.inl ⟨nmT T (svO D p (i + 1)), rfl, ?_⟩
    have lb := o1_lt D (p + i)
    have lb8 := o1_lt D (p + 8)
    have e53 : ∀ us : List Nat, us.length ≤ 21 → f_Mo_shown_53 K (f_Mo_shown_7 K k) (nI p) (nI i) (nmT T us) = f_Mo_shown_7 K k (nI p) (nI (i + 1)) (nmT T (us ++ svB D p i)) := by
      intro us hus
      unfold f_Mo_shown_53 f_Mo_shown_95
      simp only [ql]
      rw [nI_add, rM1 D (T := nmT T us) hD (by omega), q_c]
      by_cases c : o1 D (p + i) = 32
      · rw [if_pos (by rw [c]), q_l, nI_add, svB_n c, List.append_nil]
      · rw [if_neg (nlit0 c (by omega) (by decide)), rM1 D (T := nmT T us) hD (by omega), q_c, q_ch (by omega), q_l, q_l, q_l, nI_add, svB_y c]
        have hin : lf_in (nmT T us).v_size 300 := q_in (j := us.length) (by omega) (by decide)
        rw [q_g hin]
        have := nmT_add (T := T) (us := us) (u := o1 D (p + i)) (by omega) (by omega)
        rw [← this]
        rfl
    rw [f_Mo_shown_7]
    simp only [ql]
    rw [if_neg (nI_ge hi (by decide))]
    by_cases c8 : i = 8
    · rw [if_pos (by rw [c8]), nI_add, rM1 D (T := nmT T (svO D p i)) hD (by omega), q_c]
      by_cases c : o1 D (p + 8) = 32
      · rw [if_pos (by rw [c]), e53 _ (by omega), svO, svA_n (fun z => z.2 c), List.append_nil]
      · rw [if_neg (nlit0 c (by omega) (by decide)), q_l, q_l]
        have hin : lf_in (nmT T (svO D p i)).v_size 300 := q_in (j := (svO D p i).length) (by omega) (by decide)
        rw [q_g hin]
        have := nmT_add (T := T) (us := svO D p i) (u := 46) (by omega) (by omega)
        rw [show (((nmT T (svO D p i)).u_v_name (upd (nmT T (svO D p i)).v_name (nmT T (svO D p i)).v_size.toNatClampNeg (vp_nar .char (nI 46)))).u_v_size (((nmT T (svO D p i)).u_v_name (upd (nmT T (svO D p i)).v_name (nmT T (svO D p i)).v_size.toNatClampNeg (vp_nar .char (nI 46)))).v_size + nI 1)) = nmT T (svO D p i ++ [46]) from this, e53 _ (by rw [List.length_append]; show _ + 1 ≤ _; omega), svO, svA_y ⟨c8, c⟩]
    · rw [if_neg (nlit0 c8 (by omega) (by decide)), e53 _ (by omega), svO, svA_n (fun z => c8 z.1), List.append_nil]
  · intro s k hI
    subst hI
    rw [f_Mo_shown_7]
    simp only [ql]
    rw [if_pos (Int32.le_refl _)]
theorem qV_shown {K N p : Nat} {G : CG} {D : Nat → Int32} {S : CS} (hK : 1000 ≤ K) (hG : G.n = N) (hD : S.w_Dk_bytes = D) (h2 : N ≤ 1024) (hp : p + 31 < 512 * N) : f_Rd_showShortName K G S (nI p) = some (nI (svO D p 11).length, S.u_w_Rd_units (mkL S.w_Rd_units (svO D p 11))) := by
  have e0 : f_Rd_showShortName K G S (nI p) = f_Rd_showShortName_4 K G K (nI p) (nI ([] : List Nat).length) (nI 0) (S.u_w_Rd_units (mkL S.w_Rd_units [])) := by
    rw [mkL_nil]
    rfl
  rw [e0]
  refine lp (F := fun k i (s : Int32 × CS) => f_Rd_showShortName_4 K G k (nI p) s.1 (nI i) s.2) (Inv := fun i s => s = (nI (svO D p i).length, S.u_w_Rd_units (mkL S.w_Rd_units (svO D p i)))) (Post := fun r => r = some (nI (svO D p 11).length, S.u_w_Rd_units (mkL S.w_Rd_units (svO D p 11)))) (n := 11) ?_ ?_ 11 0 K (nI ([] : List Nat).length, S.u_w_Rd_units (mkL S.w_Rd_units [])) rfl (by omega) rfl
  · intro i s k hi hI
    subst hI
    have L := svO_len D p i
    have L2 : (svO D p i).length ≤ 20 := by omega
    refine Or.inl ⟨(nI (svO D p (i + 1)).length, S.u_w_Rd_units (mkL S.w_Rd_units (svO D p (i + 1)))), rfl, ?_⟩
    have lb := o1_lt D (p + i)
    have lb8 := o1_lt D (p + 8)
    have e46 : ∀ us : List Nat, us.length ≤ 21 → f_Rd_showShortName_46 K G (f_Rd_showShortName_4 K G k) (nI p) (nI us.length) (nI i) (nI (o1 D (p + i))) (S.u_w_Rd_units (mkL S.w_Rd_units us)) = f_Rd_showShortName_4 K G k (nI p) (nI (us ++ svB D p i).length) (nI (i + 1)) (S.u_w_Rd_units (mkL S.w_Rd_units (us ++ svB D p i))) := by
      intro us hus
      unfold f_Rd_showShortName_46 f_Rd_showShortName_64
      simp only [ql]
      by_cases c : o1 D (p + i) = 32
      · rw [if_pos (by rw [c]), q_l, nI_add, svB_n c, List.append_nil]
      · rw [if_neg (nlit0 c (by omega) (by decide)), q_g (q_in (by omega) (by decide)), q_l, q_l, q_l, nI_add, nI_add, nI_clamp (by omega), svB_y c]
        show f_Rd_showShortName_4 K G k (nI p) (nI (us.length + 1)) (nI (i + 1)) (S.u_w_Rd_units (upd (mkL S.w_Rd_units us) us.length (nI (o1 D (p + i))))) = _
        rw [mkL_add, List.length_append]
        rfl
    show f_Rd_showShortName_4 K G (k + 1) (nI p) (nI (svO D p i).length) (nI i) (S.u_w_Rd_units (mkL S.w_Rd_units (svO D p i))) = f_Rd_showShortName_4 K G k (nI p) (nI (svO D p (i + 1)).length) (nI (i + 1)) (S.u_w_Rd_units (mkL S.w_Rd_units (svO D p (i + 1))))
    rw [f_Rd_showShortName_4]
    simp only [ql]
    rw [if_neg (nI_ge hi (by decide)), nI_add, rV1 D (S := S.u_w_Rd_units (mkL S.w_Rd_units (svO D p i))) hG hD h2 (by omega), q_c]
    by_cases c8 : i = 8
    · rw [if_pos (by rw [c8])]
      by_cases c : o1 D (p + i) = 32
      · rw [if_pos (by rw [c]), e46 _ (by omega), svO, svA_n (fun z => z.2 (by rw [← c8]; exact c)), List.append_nil]
      · rw [if_neg (nlit0 c (by omega) (by decide)), q_g (q_in (by omega) (by decide)), q_l, q_l, nI_clamp (by omega), nI_add]
        have e9 : (S.u_w_Rd_units (mkL S.w_Rd_units (svO D p i))).u_w_Rd_units (upd (S.u_w_Rd_units (mkL S.w_Rd_units (svO D p i))).w_Rd_units (svO D p i).length (nI 46)) = S.u_w_Rd_units (mkL S.w_Rd_units (svO D p i ++ [46])) := by
          show S.u_w_Rd_units (upd (mkL S.w_Rd_units (svO D p i)) (svO D p i).length (nI 46)) = _
          rw [mkL_add]
        rw [e9, show (svO D p i).length + 1 = (svO D p i ++ [46]).length by rw [List.length_append]; rfl, e46 _ (by rw [List.length_append]; show _ + 1 ≤ _; omega), svO, svA_y ⟨c8, by rw [← c8]; exact c⟩]
    · rw [if_neg (nlit0 c8 (by omega) (by decide)), e46 _ (by omega), svO, svA_n (fun z => c8 z.1), List.append_nil]
  · intro s k hI
    subst hI
    show f_Rd_showShortName_4 K G (k + 1) (nI p) (nI (svO D p 11).length) (nI 11) (S.u_w_Rd_units (mkL S.w_Rd_units (svO D p 11))) = _
    rw [f_Rd_showShortName_4]
    simp only [ql]
    rw [if_pos (Int32.le_refl _)]
