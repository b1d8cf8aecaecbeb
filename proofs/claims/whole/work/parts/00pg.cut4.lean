theorem qM_cut44 {K N j p x : Nat} {D : Nat → Int32} {T : MS} {ch : List Nat} {a : Int32} (hK : 1000 ≤ K) (hN : N ≤ 1024) (ho : hdOk N D) (hM : mIs N D T) (hx0 : T.v_thrown = 0) (hit : f_Mo_item K T a = some (nI j, T)) (hj : j < 4200) (hat : T.v_at j = nI p) (hp : p + 32 ≤ 512 * N) (hb28 : fc D p < 2 ^ 28) (hcl : ∀ y ∈ ch, isCl N D y) (hlk : lnk N D (fc D p) ch) (hlen : ch.length ≤ 514) (hx : x < 2 ^ 24) (hc0 : (x + 512 * hc D - 1) / (512 * hc D) ≤ ch.length) : ∃ T', f_Mo_cut_44 K a (nI x) 0 T = some (nI (ch.length - (x + 512 * hc D - 1) / (512 * hc D)), T') ∧ T'.v_disk = st (cutE D (lks D D (frL (ch.drop ((x + 512 * hc D - 1) / (512 * hc D))))) p ((x + 512 * hc D - 1) / (512 * hc D)) ch) (p + 28) x 4 ∧ coN T' = coN T ∧ T'.v_looked = 0 ∧ T'.v_thrown = 0 := by
  have hf := hd_facts ho hN
  have hC := hf.1
  have f0 := qM_fails (K := K) T False 3 hx0 (by decide)
  rw [b01_f (fun y => y), cif_f (fun y => y)] at f0
  have f0 : f_Mo_fails K T 0 3 = some (0, T) := f0
  obtain ⟨f, r1, r2⟩ := qM_walk (K := K) hK ho hN hM hlen hb28 hlk
  unfold f_Mo_cut_44 f_Mo_whole
  have e512 : 512 * T.v_c = nI (512 * hc D) := by rw [hM.2.2.1, show (512 : Int32) = nI 512 from rfl, pk_mul]
  rw [f0, q_c, if_pos rfl, hit, q_c, q_g (q_in (by omega) (by decide)), nI_clamp (by omega), hat, q_l, e512, q_g (nI_ne0 (by omega) (by omega)), nI_add, show (1 : Int32) = nI 1 from rfl, pk_sub (by omega), pk_div (by omega) (by omega) (by omega), q_b, qM_firstOf hM.1 (by omega), q_c, r1, q_b]
  obtain ⟨T2, eT2⟩ : ∃ T2, (T.u_v_chain f).u_v_links (nI ch.length) = T2 := ⟨_, rfl⟩
  have q1 : T2.v_links = nI ch.length := by rw [← eT2]; rfl
  have q2 : ∀ q, q < ch.length → T2.v_chain q = nI (ch.getD q 0) := by rw [← eT2]; exact r2
  have q3 : T2.v_v = nI (hv D) := by rw [← eT2]; exact hM.2.2.2.1
  have q4 : T2.v_y = nI (hy D) := by rw [← eT2]; exact hM.2.2.2.2.1
  have q5 : T2.v_z = nI (hz D) := by rw [← eT2]; exact hM.2.2.2.2.2.1
  have q6 : T2.v_disk = D := by rw [← eT2]; exact hM.1
  have q7 : coN T2 = coN T := by rw [← eT2]; rfl
  have q8 : T2.v_thrown = 0 := by rw [← eT2]; exact hx0
  rw [eT2]
  clear eT2 r1
  generalize (x + 512 * hc D - 1) / (512 * hc D) = c at *
  rw [qM_cutL hK ho hN hcl hlen (nI x) (nI p) (nI c) (ch.length - c) c K T2 (by omega) (by omega) q1 q2 q3 q4 q5, q6]
  have fin : ∀ T3 : MS, T3.v_links = nI ch.length → coN T3 = coN T → T3.v_thrown = 0 → ∃ T', f_Mo_cut_170 K (nI x) (nI p) (nI c) T3 = some (nI (ch.length - c), T') ∧ T'.v_disk = st T3.v_disk (p + 28) x 4 ∧ coN T' = coN T ∧ T'.v_looked = 0 ∧ T'.v_thrown = 0 := by
    intro T3 w1 w2 w3
    unfold f_Mo_cut_170 f_Mo_changed
    rw [show (28 : Int32) = nI 28 from rfl, nI_add, qM_setW (by omega) (by omega) (by omega), q_b, q_l, q_b]
    refine ⟨(T3.u_v_disk (st T3.v_disk (p + 28) x 4)).u_v_looked 0, ?_, rfl, w2, rfl, w3⟩
    have e9 : T3.v_links - nI c = nI (ch.length - c) := by rw [w1, pk_sub hc0]
    rw [← e9]
    rfl
  unfold cutF cutE
  by_cases g0 : c = 0
  · rw [if_pos (show nI c ≤ 0 by rw [g0]; decide), if_pos g0, show (20 : Int32) = nI 20 from rfl, show (26 : Int32) = nI 26 from rfl, nI_add, nI_add, show (2 : Int32) = nI 2 from rfl, show (0 : Int64) = lN 0 from rfl, qM_set (by omega) (by omega) (by decide) (by decide), q_b, qM_set (by omega) (by omega) (by decide) (by decide), q_b]
    exact fin (((T2.u_v_disk (lks D D (frL (ch.drop c)))).u_v_disk (st (lks D D (frL (ch.drop c))) (p + 20) 0 2)).u_v_disk (st (st (lks D D (frL (ch.drop c))) (p + 20) 0 2) (p + 26) 0 2)) q1 q7 q8
  rw [if_neg (show ¬ nI c ≤ 0 from nI_nle (by omega) (by omega)), if_neg g0, show (T2.u_v_disk (lks D D (frL (ch.drop c)))).v_links = nI ch.length from q1]
  by_cases g : ch.length ≤ c
  · rw [if_pos (nI_le g (by omega)), if_neg (by omega)]
    exact fin (T2.u_v_disk (lks D D (frL (ch.drop c)))) q1 q7 q8
  have hi : c - 1 < ch.length := by omega
  have hmem : ch.getD (c - 1) 0 ∈ ch := by
    rw [List.getD_eq_getElem?_getD, List.getElem?_eq_getElem hi]
    exact List.getElem_mem hi
  rw [if_neg (nI_ge (by omega) (by omega)), if_pos (by omega), show (1 : Int32) = nI 1 from rfl, pk_sub (by omega), q_g (q_in (by omega) (by decide)), nI_clamp (by omega), show (T2.u_v_disk (lks D D (frL (ch.drop c)))).v_chain (c - 1) = nI (ch.getD (c - 1) 0) from q2 _ hi, show (268435455 : Int32) = nI 268435455 from rfl, qM_lk (T := T2.u_v_disk (lks D D (frL (ch.drop c)))) hK ho hN (by have := (hcl _ hmem).2; omega) (by decide) q3 q4 q5, q_b]
  exact fin ((T2.u_v_disk (lks D D (frL (ch.drop c)))).u_v_disk (lk D (lks D D (frL (ch.drop c))) (ch.getD (c - 1) 0) 268435455)) q1 q7 q8
/-- the entries and the bytes that a cut puts -/
def cutP (c : Nat) (ch : List Nat) : List (Nat × Nat) := if c = 0 then frL (ch.drop c) else if c < ch.length then frL (ch.drop c) ++ [(ch.getD (c - 1) 0, 268435455)] else frL (ch.drop c)
def cutD (p c x : Nat) (X : Nat → Int32) : Nat → Int32 := if c = 0 then st (st (st X (p + 20) 0 2) (p + 26) 0 2) (p + 28) x 4 else st X (p + 28) x 4
theorem getD_nd {ch : List Nat} {c : Nat} (hn : ch.Nodup) (h1 : 1 ≤ c) (h2 : c ≤ ch.length) : ch.getD (c - 1) 0 ∉ ch.drop c := by
  have hi : c - 1 < ch.length := by omega
  have := List.Nodup.sublist (List.drop_sublist (c - 1) ch) hn
  rw [drop_get hi, show c - 1 + 1 = c by omega] at this
  exact (List.nodup_cons.mp this).1
theorem cutP_mem {c : Nat} {ch : List Nat} {a : Nat × Nat} (h : a ∈ cutP c ch) : a.1 ∈ ch ∧ (a.2 = 0 ∨ a.2 = 268435455) := by
  have hf : a ∈ frL (ch.drop c) → a.1 ∈ ch ∧ (a.2 = 0 ∨ a.2 = 268435455) := fun h => by
    obtain ⟨y, y1, rfl⟩ := List.mem_map.mp h
    exact ⟨List.mem_of_mem_drop y1, Or.inl rfl⟩
  unfold cutP at h
  by_cases g0 : c = 0
  · rw [if_pos g0] at h; exact hf h
  rw [if_neg g0] at h
  by_cases g : c < ch.length
  · rw [if_pos g] at h
    rcases List.mem_append.mp h with h | h
    · exact hf h
    · rw [List.mem_singleton.mp h]
      have hi : c - 1 < ch.length := by omega
      refine ⟨?_, Or.inr rfl⟩
      show ch.getD (c - 1) 0 ∈ ch
      rw [List.getD_eq_getElem?_getD, List.getElem?_eq_getElem hi]
      exact List.getElem_mem hi
  · rw [if_neg g] at h; exact hf h
theorem cutD_ag {p c x : Nat} : ∀ X Y q, o1 X q = o1 Y q → o1 (cutD p c x X) q = o1 (cutD p c x Y) q := by
  intro X Y q h
  unfold cutD
  split
  · exact st_ag (st_ag (st_ag h))
  · exact st_ag h
theorem cutD_out {p c x : Nat} : ∀ X q, q < p + 11 ∨ p + 32 ≤ q → o1 (cutD p c x X) q = o1 X q := by
  intro X q h
  unfold cutD
  split
  · rw [st_out (by omega), st_out (by omega), st_out (by omega)]
  · rw [st_out (by omega)]
