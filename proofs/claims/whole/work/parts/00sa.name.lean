/-! make: the name on the tape. -/
theorem upE {f : Nat → Int32} {k : Nat} {x : Int32} : upd f k x k = x := if_pos rfl
theorem upN {f : Nat → Int32} {k j : Nat} {x : Int32} (h : ¬ j = k) : upd f k x j = f j := if_neg h
def tuN (f : Nat → Int32) (i : Nat) : Nat := ub (f (2 * i)) * 256 + ub (f (2 * i + 1))
def tus (f : Nat → Int32) (k : Nat) : List Nat := if k % 2 = 0 ∧ k ≤ 510 then (List.range (k / 2)).map (tuN f) else []
theorem tuN_lt (f : Nat → Int32) (i : Nat) : tuN f i < 65536 := by
  have := ub_lt (f (2 * i))
  have := ub_lt (f (2 * i + 1))
  unfold tuN
  omega
theorem tus_lt {f : Nat → Int32} {k : Nat} : ∀ u ∈ tus f k, u < 65536 := by
  intro u hu
  unfold tus at hu
  split at hu
  · obtain ⟨i, _, rfl⟩ := List.mem_map.mp hu
    exact tuN_lt f i
  · cases hu
theorem tus_len {f : Nat → Int32} {k : Nat} : (tus f k).length ≤ 255 := by
  unfold tus
  split
  · rw [List.length_map, List.length_range]
    omega
  · exact Nat.zero_le _
theorem rng_get {f : Nat → Nat} {n j : Nat} (h : j < n) : ((List.range n).map f).getD j 0 = f j := by
  rw [List.getD_eq_getElem?_getD, List.getElem?_map, List.getElem?_range h]
  rfl
theorem q_un {a b : Nat} (hb : b < 256) : (nI a <<< ((8 : Int32) &&& 31)) ||| nI b = nI (a * 256 + b) := by
  rw [show (8 : Int32) = nI 8 from rfl, q_shl _ _ (by decide), q_or, Nat.or_comm, q_orN (show b < 2 ^ 8 from hb), Nat.add_comm]
theorem qM_tk {K i : Nat} {T : MS} (hi : i < 4096) : f_Mo_taken K T (nI i) = some (nI (ub (T.v_tape i)), T) := by
  rw [f_Mo_taken, q_g (q_in hi (by decide)), nI_clamp (by omega), ub_and]
theorem qC_tk {K i : Nat} {G : CG} {S : CS} (hi : i < 4096) : f_Tp_one K G S (nI i) = some (nI (ub (S.w_Tp_bytes i)), S) := by
  rw [f_Tp_one, if_neg (nI_pos (by omega)), if_neg (show ¬ (4096 : Int32) ≤ nI i from nI_ge hi (by decide)), q_g (q_in hi (by decide)), nI_clamp (by omega), ub_and]
theorem q_even {k : Nat} (hk : k ≤ 4096) : (nI k - nI k / 2 * 2 = 0) ↔ k % 2 = 0 := by
  rw [show (2 : Int32) = nI 2 from rfl, pk_div (by omega) (by omega) (by omega), pk_mul, pk_sub (by omega), show (0 : Int32) = nI 0 from rfl, nI_eq (by omega) (by omega)]
  omega
theorem qM_named30 {K n : Nat} {T : MS} (hK : 20000 ≤ K) (hn : n ≤ 255) : wp (f_Mo_named_30 K (nI n) T) (fun r => r.1 = b01 (nmP ((List.range n).map (tuN T.v_tape))) ∧ ∃ f, bufR f ((List.range n).map (tuN T.v_tape)) ∧ r.2 = ((T.u_v_size (nI n)).u_v_name f).u_v_taped 0) := by
  have hlen : ((List.range n).map (tuN T.v_tape)).length = n := by rw [List.length_map, List.length_range]
  unfold f_Mo_named_30
  refine wp_l ?_
  refine wp_loop (F := fun k i s => f_Mo_named_35 K k (nI i) s) (fun i s => ∃ f, (∀ j, j < i → f j = nI (tuN T.v_tape j)) ∧ s = (T.u_v_size (nI n)).u_v_name f) n ?_ ?_ 0 K _ (by omega) (by omega) ⟨T.v_name, fun j hj => absurd hj (by omega), rfl⟩
  · rintro i _ k hi ⟨f, hf, rfl⟩ ih
    show wp (f_Mo_named_35 K (k + 1) (nI i) _) _
    rw [f_Mo_named_35]
    refine wp_f (nI_ge hi (by omega)) ?_
    rw [show (2 : Int32) = nI 2 from rfl, pk_mul, nI_1, qM_tk (by omega), q_c, qM_tk (by omega), q_c, q_un (ub_lt _)]
    refine wp_g (q_in (by omega) (by decide)) (wp_l (wp_l ?_))
    rw [nI_1, nI_clamp (by omega)]
    refine ih _ ⟨_, fun j hj => ?_, rfl⟩
    by_cases e : j = i
    · rw [e, upE]
      show vp_nar .char (((nI (tuN T.v_tape i)).toUInt32 % 65536).toInt32) = _
      rw [q_ch (tuN_lt _ _), q_nar (tuN_lt _ _)]
    · rw [upN e]
      exact hf j (by omega)
  · rintro _ k ⟨f, hf, rfl⟩
    show wp (f_Mo_named_35 K (k + 1) (nI n) _) _
    rw [f_Mo_named_35]
    refine wp_t (Int32.le_refl _) (wp_l ?_)
    have hb : bufR f ((List.range n).map (tuN T.v_tape)) := fun j hj => by
      rw [hlen] at hj
      rw [rng_get hj, hf j hj]
    have := b01_of (qM_isName (K := K) (T := ((T.u_v_size (nI n)).u_v_name f).u_v_taped 0) (us := (List.range n).map (tuN T.v_tape)) (by omega) (by rw [hlen]; rfl) (by omega) hb (fun u hu => by
      obtain ⟨i, _, rfl⟩ := List.mem_map.mp hu
      exact tuN_lt _ _))
    rw [this, q_c]
    exact wp_g (b01_or _) (wp_i ⟨rfl, f, hb, rfl⟩)
theorem qM_named {K k : Nat} {T : MS} (hK : 20000 ≤ K) (hk : k ≤ 4096) (ht : T.v_taped = nI k) : wp (f_Mo_named K T) (fun r => r.1 = b01 (nmP (tus T.v_tape k)) ∧ ∃ f, bufR f (tus T.v_tape k) ∧ r.2 = ((T.u_v_size (nI (tus T.v_tape k).length)).u_v_name f).u_v_taped 0) := by
  have z : ¬ (k % 2 = 0 ∧ k ≤ 510) → wp (f_Mo_named_29 K T) (fun r => r.1 = b01 (nmP (tus T.v_tape k)) ∧ ∃ f, bufR f (tus T.v_tape k) ∧ r.2 = ((T.u_v_size (nI (tus T.v_tape k).length)).u_v_name f).u_v_taped 0) := fun w => by
    unfold tus
    rw [if_neg w]
    exact qM_named30 (n := 0) hK (by omega)
  unfold f_Mo_named
  rw [ht]
  refine wp_if (q_even hk) (fun c => ?_) (fun c => z (fun w => c w.1))
  refine wp_if (show (510 : Int32) < nI k ↔ 510 < k from nI_ltI (by decide) (by omega)) (fun d => z (fun w => by omega)) (fun d => ?_)
  have h1 := qM_named30 (n := k / 2) (T := T) hK (by omega)
  unfold tus
  rw [if_pos ⟨c, by omega⟩, List.length_map, List.length_range, show (2 : Int32) = nI 2 from rfl, pk_div (by omega) (by omega) (by omega)]
  exact h1
/-! the class's side -/
theorem qC_units {K n : Nat} {G : CG} {S : CS} {Q : Int32 × CS → Prop} (hK : 20000 ≤ K) (hn : n ≤ 255) (h : ∀ f, bufR f ((List.range n).map (tuN S.w_Tp_bytes)) → wp (f_Ed_readName_71 K G ((S.u_v_Ed_unitCount (nI n)).u_w_Ed_units f)) Q) : wp (f_Ed_readName_24 K G K 0 (S.u_v_Ed_unitCount (nI n))) Q := by
  have hlen : ((List.range n).map (tuN S.w_Tp_bytes)).length = n := by rw [List.length_map, List.length_range]
  have fin : ∀ f, (∀ j, j < n → f j = nI (tuN S.w_Tp_bytes j)) → wp (f_Ed_readName_71 K G ((S.u_v_Ed_unitCount (nI n)).u_w_Ed_units f)) Q := fun f hf => h f fun j hj => by
    rw [hlen] at hj
    rw [rng_get hj, hf j hj]
  refine wp_loop (F := fun k i s => f_Ed_readName_24 K G k (nI i) s) (fun i s => ∃ f, (∀ j, j < i → f j = nI (tuN S.w_Tp_bytes j)) ∧ s = (S.u_v_Ed_unitCount (nI n)).u_w_Ed_units f) n ?_ ?_ 0 K _ (by omega) (by omega) ⟨S.w_Ed_units, fun j hj => absurd hj (by omega), rfl⟩
  · rintro i _ k hi ⟨f, hf, rfl⟩ ih
    show wp (f_Ed_readName_24 K G (k + 1) (nI i) _) _
    rw [f_Ed_readName_24]
    refine wp_f (nI_ge hi (by omega)) (wp_f (show ¬ (255 : Int32) ≤ nI i from nI_ge (Nat.lt_of_lt_of_le hi hn) (by decide)) ?_)
    rw [show (2 : Int32) = nI 2 from rfl, pk_mul, nI_1, qC_tk (by omega), q_c, qC_tk (by omega), q_c, q_un (ub_lt _)]
    refine wp_g (q_in (by omega) (by decide)) (wp_l (wp_l ?_))
    rw [nI_1, nI_clamp (by omega)]
    refine ih _ ⟨_, fun j hj => ?_, rfl⟩
    by_cases e : j = i
    · rw [e, upE]
      rfl
    · rw [upN e]
      exact hf j (by omega)
  · rintro _ k ⟨f, hf, rfl⟩
    show wp (f_Ed_readName_24 K G (k + 1) (nI n) _) _
    rw [f_Ed_readName_24]
    exact wp_t (Int32.le_refl _) (fin f hf)
