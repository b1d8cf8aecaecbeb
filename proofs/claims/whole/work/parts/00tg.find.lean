/-! make: the search of slots, the reference, put together. -/
def ldT (T : MS) (n : Nat) (f g : Nat → Int32) : MS := (((T.u_v_chain g).u_v_links (nI n)).u_v_folder f).u_v_folders (nI n)
theorem ldT_tv {N m hh : Nat} {D E : Nat → Int32} {fks : List Nat} {z : SS} {G : CG} {S : CS} {T : MS} (v : tv N m D E fks z hh G S T) (n : Nat) (f g : Nat → Int32) : tv N m D E fks z hh G S (ldT T n f g) := v
theorem qM_find {K N m hh W dr e s : Nat} {D E : Nat → Int32} {fks : List Nat} {z : SS} {G : CG} {S : CS} {T : MS} (hK : 20000 ≤ K) (hN : N ≤ 1024) (v : tv N m D E fks z hh G S T) (h0 : T.v_thrown = 0) (hW : 1 ≤ W) (hW2 : W ≤ 21) (hdr : dr = 0 ∨ dr = 1) (he : enE (fun s => o1 D (plS D (chI N D (sIt z) hh) s)) ((chI N D (sIt z) hh).length * 16 * hc D) e) (hs : stE (fun s => o1 D (plS D (chI N D (sIt z) hh) s)) ((chI N D (sIt z) hh).length * 16 * hc D) e W s) {b X L : Nat} (hb : b = rnF (fun s => o1 D (plS D (chI N D (sIt z) hh) s)) e s) (hL : L = (chI N D (sIt z) hh).length * 16 * hc D) (hX : X = exX b W L (16 * hc D)) : ∃ f g, (∀ q, q < (chI N D (sIt z) hh).length → f q = nI ((chI N D (sIt z) hh).getD q 0)) ∧ (cntF (ent D) (hk N D) 2 < X + dr → f_Mo_make_116 K (nI dr) (nI hh) (nI W) T = some (0, (ldT T (chI N D (sIt z) hh).length f g).u_v_thrown 3)) ∧ (¬ cntF (ent D) (hk N D) 2 < X + dr → f_Mo_make_116 K (nI dr) (nI hh) (nI W) T = if dr = 0 then f_Mo_make_305 K (nI dr) (nI W) (nI L) (nI e) (nI b) (nI X) 0 (ldT T (chI N D (sIt z) hh).length f g) else lf_c (f_Mo_take K (ldT T (chI N D (sIt z) hh).length f g)) fun r_44 S_44 => f_Mo_make_305 K (nI dr) (nI W) (nI L) (nI e) (nI b) (nI X) r_44 S_44) := by
  obtain ⟨g1, g2, g3, g4, g5, g6, g7, g8⟩ := here_geo hN v
  obtain ⟨f, g, l0, l2⟩ := here_load hK hN v
  have ho := v.2.2.2.1
  have hff := hd_facts ho hN
  have hMi := v.1.1.1
  refine ⟨f, g, l2, ?_⟩
  have l1 : f_Mo_loadFolder K T (nI hh) = some (ldT T (chI N D (sIt z) hh).length f g) := l0
  clear l0
  generalize hTL : ldT T (chI N D (sIt z) hh).length f g = TL at *
  have vL : mIs N D TL := by rw [← hTL]; exact hMi
  have hth : TL.v_thrown = 0 := by rw [← hTL]; exact h0
  have hfo : TL.v_folders = nI (chI N D (sIt z) hh).length := by rw [← hTL]; rfl
  have hfl : ∀ q, q < (chI N D (sIt z) hh).length → TL.v_folder q = nI ((chI N D (sIt z) hh).getD q 0) := fun q hq => by rw [← hTL]; exact l2 q hq
  clear v hTL
  generalize chI N D (sIt z) hh = ch at *
  have hpl : ∀ s, s < L → plS D ch s + 32 ≤ 524288 := fun s hs => by
    have := (plS_lt ho hN g3 (by rw [← hL]; exact hs)).1
    omega
  have hLK : L < 19000 := by omega
  have hsL : s ≤ L := by rw [hL]; exact hs.1
  have hbs : b ≤ s := by rw [hb]; exact rnF_le _ _ _
  have q1 := qM_end (K := K) (p := nI dr) (w := nI W) hK ho hN vL.2.2.1 vL.2.2.2.2.2.2.2.1 vL.1 g3 g8 hfl hL hLK hpl (by rw [hL]; exact he)
  have q2 := qM_run (K := K) (W := W) (p := nI dr) hK ho hN vL.2.2.1 vL.2.2.2.2.2.2.2.1 vL.1 g3 g8 hfl hL hLK hpl hW (by omega) (by rw [hL]; exact he.1) (by rw [hL]; exact hs)
  rw [← hb] at q2
  have hXl : X ≤ 300 := by
    rw [hX]
    unfold exX
    split
    · omega
    · exact Nat.le_trans (Nat.div_le_self _ _) (by omega)
  have q3 : f_Mo_make_225 K (nI dr) (nI W) (nI L) (nI e) (nI b) TL = f_Mo_make_257 K (nI dr) (nI W) (nI L) (nI e) (nI b) (nI X) TL := by
    unfold f_Mo_make_225
    rw [nI_add, vL.2.2.1]
    by_cases c : b + W ≤ L
    · rw [if_pos (nI_le c (by omega)), hX]
      unfold exX
      rw [if_pos c]
      rfl
    · rw [if_neg (nI_ge (by omega) (by omega)), pk_sub (by omega), show (16 : Int32) = nI 16 from rfl, pk_mul]
      unfold f_Mo_whole
      rw [q_g (nI_ne0 (by omega) (by omega)), nI_add, show nI (b + W - L + 16 * hc D) - 1 = nI (b + W - L + 16 * hc D - 1) from pk_sub (b := 1) (by omega), pk_div (by omega) (by omega) (by omega), q_b, hX]
      unfold exX
      rw [if_neg c]
  have fr := qM_free (K := K) (T := TL) (by omega) ho hN vL
  have hcf := cntF_le (ent D) (hk N D) 2
  have q4 : f_Mo_make_257 K (nI dr) (nI W) (nI L) (nI e) (nI b) (nI X) TL = if cntF (ent D) (hk N D) 2 < X + dr then f_Mo_make_284 K (nI dr) (nI W) (nI L) (nI e) (nI b) (nI X) 1 TL else f_Mo_make_284 K (nI dr) (nI W) (nI L) (nI e) (nI b) (nI X) 0 TL := by
    have h271 : ∀ x : Nat, x ≤ 1 → f_Mo_make_271 K (nI dr) (nI W) (nI L) (nI e) (nI b) (nI X) (nI X) (nI x) TL = if cntF (ent D) (hk N D) 2 < X + x then f_Mo_make_284 K (nI dr) (nI W) (nI L) (nI e) (nI b) (nI X) 1 TL else f_Mo_make_284 K (nI dr) (nI W) (nI L) (nI e) (nI b) (nI X) 0 TL := fun x hx => by
      unfold f_Mo_make_271
      rw [fr, q_c, nI_add]
      by_cases c : cntF (ent D) (hk N D) 2 < X + x
      · rw [if_pos c, if_neg (nI_ge c (by omega))]
      · rw [if_neg c, if_pos (nI_le (by omega) (by omega))]
    unfold f_Mo_make_257
    rcases hdr with rfl | rfl
    · rw [if_pos (show nI 0 = 0 from rfl)]
      exact h271 0 (by omega)
    · rw [if_neg (show ¬ nI 1 = 0 by decide)]
      exact h271 1 (by omega)
  have all : f_Mo_make_116 K (nI dr) (nI hh) (nI W) T = if cntF (ent D) (hk N D) 2 < X + dr then f_Mo_make_284 K (nI dr) (nI W) (nI L) (nI e) (nI b) (nI X) 1 TL else f_Mo_make_284 K (nI dr) (nI W) (nI L) (nI e) (nI b) (nI X) 0 TL := by
    unfold f_Mo_make_116
    rw [l1, q_b, hfo, vL.2.2.1, show (16 : Int32) = nI 16 from rfl, pk_mul, pk_mul, ← hL, q_l, q1, q2, q3, q4]
  refine ⟨fun c => ?_, fun c => ?_⟩
  · have f3 : f_Mo_fails K TL 1 3 = some (1, TL.u_v_thrown 3) := by
      have := qM_fails (K := K) TL True 3 hth (by decide)
      rw [b01_t trivial, cif_t trivial] at this
      exact this
    rw [all, if_pos c]
    unfold f_Mo_make_284
    rw [f3, q_c, if_neg (by decide)]
  · have f3 : f_Mo_fails K TL 0 3 = some (0, TL) := by
      have := qM_fails (K := K) TL False 3 hth (by decide)
      rw [b01_f (fun y => y), cif_f (fun y => y)] at this
      exact this
    rw [all, if_neg c]
    unfold f_Mo_make_284
    rw [f3, q_c, if_pos rfl]
    rcases hdr with rfl | rfl
    · rw [if_pos (show nI 0 = 0 from rfl), if_pos rfl]
    · rw [if_neg (show ¬ nI 1 = 0 by decide), if_neg (show ¬ 1 = 0 by omega)]
