/-! An inode filled. -/
noncomputable def moN (D : Nat → Int32) (its : List It) (i : Nat) : Nat := cif (isDr D its i) 16877 33188 - (if btI D its i % 2 = 1 then 128 else 0)
theorem moN_lt (D : Nat → Int32) (its : List It) (i : Nat) : moN D its i < 2 ^ 16 := by
  unfold moN
  by_cases w : isDr D its i
  · rw [cif_t w]; split <;> omega
  · rw [cif_f w]; split <;> omega
theorem tu_mode {K N k i : Nat} {D : Nat → Int32} {mp : Nat → Nat} {fks : List Nat} {its : List It} {e : Nat → Nat} {G : CG} {S : CS} (ht : trC N D mp fks its k e G S) (hi : i < its.length) : f_Tu_modeOf K G S (nI i) = some (nI (moN D its i), S) := by
  have hlen := ht.2.2.2.1.2.1
  unfold f_Tu_modeOf f_Tu_modeOf_29 moN
  rw [if_neg (nI_nm1 (by omega)), qC_isDir ht.1 ht.2.1 ht.2.2.1 hi, q_c, qC_ro ht.1 ht.2.1 ht.2.2.1 hi, q_c, q_c]
  by_cases w : isDr D its i
  · rw [b01_t w, if_neg (show ¬ nI 1 = 0 by decide), cif_t w]
    by_cases g : btI D its i % 2 = 1
    · rw [b01_t g, if_neg (show ¬ nI 1 = 0 by decide), if_pos g]; rfl
    · rw [b01_f g, if_pos (show nI 0 = 0 from rfl), if_neg g]; rfl
  · rw [b01_f w, if_pos (show nI 0 = 0 from rfl), cif_f w]
    by_cases g : btI D its i % 2 = 1
    · rw [b01_t g, if_neg (show ¬ nI 1 = 0 by decide), if_pos g]; rfl
    · rw [b01_f g, if_pos (show nI 0 = 0 from rfl), if_neg g]; rfl
theorem tu_in142 {K N B0 fi a lk : Nat} {rm l : List Nat} {G : CG} {S : CS} {E f Z : Nat → Int32} {p : Option Nat} {own : Int32} (hK : 100 ≤ K) (hc : tuC N G S) (hBN : B0 = N / 2) (hrm : rmC B0 rm S) (hrb : ∀ b ∈ rm, 2 * b + 1 < N) (hin : fi + indN l.length ≤ rm.length) (ha0 : a + 128 ≤ 1024) (hl : l.length ≤ N / 2 + 4) (hlb : ∀ b ∈ l, b < 2 ^ 31) (hf : arr f l) (hlk : f_Tu_linksOf K G (tS S E p Z f (nI l.length)) own = some (nI lk, tS S E p Z f (nI l.length))) (hlk2 : lk < 2 ^ 16) : f_Tu_fillInode_142 K G (nI a) own (nI (indN l.length)) (nI fi) (tS S E p Z f (nI l.length)) = some (tS S E p (riX (piX (st (st Z (a + 26) lk 2) (a + 28) (2 * (l.length + indN l.length)) 4) (a + 40) l 12) (a + 88) rm fi (indN l.length) 2) f (nI l.length)) := by
  have hN := hc.2.2.1
  have hil := indN_le l.length
  unfold f_Tu_fillInode_142
  rw [hlk, q_c, show (26 : Int32) = nI 26 from rfl, nI_add, tu_p2 (by omega) (by omega), q_b]
  show Option.bind (f_Tu_putFour K G (tS S E p (st Z (a + 26) lk 2) f (nI l.length)) (nI a + 28) (2 * (nI l.length + nI (indN l.length)))) _ = _
  rw [nI_add, show (2 : Int32) = nI 2 from rfl, pk_mul, show (28 : Int32) = nI 28 from rfl, nI_add, tu_p4 (by omega) (by omega), q_b]
  exact tu_in178 (Z := st (st Z (a + 26) lk 2) (a + 28) (2 * (l.length + indN l.length)) 4) hK hc hBN hrm hrb hin (by omega) ha0 hl hlb hf 12 0 K (by omega) (by omega)
/-- what is read of the disk when an inode is filled -/
abbrev dyE (N : Nat) (D E : Nat → Int32) (mp : Nat → Nat) (its : List It) : Prop := ∀ j, 1 ≤ j → j < its.length → (slq E (mp (isp (itr its j))) D (isp (itr its j)) ∧ mp (isp (itr its j)) + 32 ≤ 512 * N) ∧ daysP D (isp (itr its j)) ∧ ∀ w, 2 ≤ w → w ≤ 4 → tmN D (isp (itr its j)) w ≤ 4294967295
theorem tu_in102 {K N k i a : Nat} {D : Nat → Int32} {mp : Nat → Nat} {fks : List Nat} {its : List It} {e : Nat → Nat} {G : CG} {S : CS} {E f Z : Nat → Int32} {p : Option Nat} {x c fi : Int32} (hK : 100 ≤ K) (hc : tuC N G S) (ht : trC N D mp fks its k e G S) (h1 : 1 ≤ i) (hi : i < its.length) (hd : dyE N D E mp its) (ha0 : a + 128 ≤ 1024) : f_Tu_fillInode_102 K G K (nI a) (nI i) c fi 2 (tS S E p Z f x) = f_Tu_fillInode_142 K G (nI a) (nI i) c fi (tS S E p (tmX Z a true (tmN D (isp (itr its i)))) f x) := by
  have hN := hc.2.2.1
  have hlen := ht.2.2.2.1.2.1
  obtain ⟨⟨m1, m2⟩, m3, m4⟩ := hd i h1 hi
  have hsec : ∀ Z w, 2 ≤ w → w ≤ 4 → f_Da_seconds K G (tS S E p Z f x) (nI (mp (isp (itr its i)))) (nI w) = some (lN (tmN D (isp (itr its i)) w), tS S E p Z f x) := fun Z w w1 w2 => by
    rw [qC_secs (S := tS S E p Z f x) (E := E) hN hc.1 rfl m2 ((slq_days m1).mpr m3) w1 w2, tmN_slq m1]
  have hsp : ∀ Z, f_Tr_spotOf K G (tS S E p Z f x) (nI i) = some (nI (mp (isp (itr its i))), tS S E p Z f x) := fun Z => by
    rw [qC_spot (S := tS S E p Z f x) ht.1 ht.2.1 ht.2.2.1 hi, show spI mp its i = mp (isp (itr its i)) from if_neg (by omega)]
  obtain ⟨K', eK⟩ : ∃ m, K = m + 1 + 1 + 1 + 1 := ⟨K - 4, by omega⟩
  have step : ∀ (q w : Nat) (Z : Nat → Int32), 2 ≤ w → w ≤ 4 → f_Tu_fillInode_102 K G (q + 1) (nI a) (nI i) c fi (nI w) (tS S E p Z f x) = f_Tu_fillInode_102 K G q (nI a) (nI i) c fi (nI (w + 1)) (tS S E p (st Z (a + 4 * w) (tmN D (isp (itr its i)) w) 4) f x) := fun q w Z w1 w2 => by
    have := m4 w w1 w2
    rw [f_Tu_fillInode_102, if_neg (show ¬ (4 : Int32) < nI w from nI_nlt (a := 4) (by omega) (by omega)), hsp, q_c, hsec Z w w1 w2, q_c, lN_i, show (4 : Int32) = nI 4 from rfl, pk_mul, nI_add, tu_p4 (by omega) (by omega), q_b, nI_1, q_l]
  have h2 : f_Tu_fillInode_102 K G K (nI a) (nI i) c fi 2 (tS S E p Z f x) = f_Tu_fillInode_102 K G (K' + 1 + 1 + 1 + 1) (nI a) (nI i) c fi (nI 2) (tS S E p Z f x) := by rw [← eK]; rfl
  rw [h2, step _ 2 _ (by decide) (by decide), step _ 3 _ (by decide) (by decide), step _ 4 _ (by decide) (by decide), f_Tu_fillInode_102, if_pos (show (4 : Int32) < nI (4 + 1) by decide)]
  rfl
noncomputable def szN (N : Nat) (D : Nat → Int32) (its : List It) (l : List Nat) (i : Nat) : Nat := cif (isDr D its i) (l.length * 1024) (szI D its i)
theorem tu_item {K N i a : Nat} {D : Nat → Int32} {mp : Nat → Nat} {fks : List Nat} {its : List It} {A H k B P g0 r to : Nat} {gl e : Nat → Nat} {us : Nat → Prop} {fr : Nat} {G : CG} {S : CS} {E B1 f : Nat → Int32} {p : Option Nat} {x : Int32} (hK : 20000 ≤ K) (h : fxC N D mp fks its A H k B P g0 r to gl e us fr G S) (hi : i < its.length) (hd : dyE N D E mp its) (ha0 : a + 128 ≤ 1024) : ∃ f' x', f_Tu_fillInode K G (tS S E p B1 f x) (nI a) (nI i) = some (tS S E p (inX B1 a (moN D its i) (szN N D its (ownL N D fks its A H (3 + indN (rcB N D its A H)) gl (rml A H (fxd A P r g0) e gl k) i) i) (decide (1 ≤ i)) (tmN D (isp (itr its i))) (lkN D fks its i) (ownL N D fks its A H (3 + indN (rcB N D its A H)) gl (rml A H (fxd A P r g0) e gl k) i) (rml A H (fxd A P r g0) e gl k) (fiN fks D its (3 + indN (rcB N D its A H)) i)) f' x') := by
  have hR := h.1
  obtain ⟨s1, s2, s3, s4, s5, s6, s7, s8, s9⟩ := rn_st hR
  obtain ⟨f', a1, a2, a3⟩ := rn_own (K := K) (E := E) (B1 := B1) (f := f) (p := p) (x := x) hK hR hi
  obtain ⟨⟨⟨hL, ht, hU, hP, hrm, hfx, hw⟩, hdc, hc, hino⟩, hus, hfr, hfr2, hil⟩ := h
  obtain ⟨-, z2, z3, z4⟩ := s7 i hi
  have hN := hc.2.2.1
  have hlen := ht.2.2.2.1.2.1
  generalize ownL N D fks its A H (3 + indN (rcB N D its A H)) gl (rml A H (fxd A P r g0) e gl k) i = l at *
  generalize fiN fks D its (3 + indN (rcB N D its A H)) i = fi at *
  generalize rml A H (fxd A P r g0) e gl k = rm at *
  refine ⟨f', nI l.length, ?_⟩
  have hlb : ∀ b ∈ l, b < 2 ^ 31 := fun b hb => by have := z4 b hb; omega
  have hszl : szI D its i < 2 ^ 32 := by
    unfold szI
    split
    · decide
    · split
      · decide
      · exact o4_lt _ _
  have h92 : ∀ sz, sz < 2 ^ 32 → ∀ Z, f_Tu_fillInode_92 K G (nI a) (nI i) (nI (indN l.length)) (nI fi) (nI (a + 4)) (nI sz) (tS S E p Z f' (nI l.length)) = some (tS S E p (riX (piX (st (st (tmX (st Z (a + 4) sz 4) a (decide (1 ≤ i)) (tmN D (isp (itr its i)))) (a + 26) (lkN D fks its i) 2) (a + 28) (2 * (l.length + indN l.length)) 4) (a + 40) l 12) (a + 88) rm fi (indN l.length) 2) f' (nI l.length)) := fun sz hsz Z => by
    unfold f_Tu_fillInode_92
    rw [tu_p4 (by omega) hsz, q_b]
    have fin := fun Z => tu_in142 (K := K) (E := E) (p := p) (Z := Z) (own := nI i) (by omega) hc s1 hrm s3 z2 ha0 (by omega) hlb a1 (tu_links (S := tS S E p Z f' (nI l.length)) (by omega) ht hi).1 (tu_links (S := S) (K := K) (by omega) ht hi).2
    by_cases g : 1 ≤ i
    · rw [if_neg (show ¬ nI i ≤ 0 from nI_nle (by omega) (by omega)), tu_in102 (by omega) hc ht g hi hd ha0, decide_eq_true g]
      exact fin _
    · rw [if_pos (show nI i ≤ 0 from nI_le (b := 0) (by omega) (by omega)), decide_eq_false g]
      exact fin _
  have h29 : ∀ z0 : Int32, ((z0 = 0 ∧ isDr D its i) ∨ (z0 = 1 ∧ ¬ isDr D its i)) → f_Tu_fillInode_29 K G (nI a) (nI i) z0 (tS S E p B1 f' (nI l.length)) = some (tS S E p (inX B1 a (moN D its i) (szN N D its l i) (decide (1 ≤ i)) (tmN D (isp (itr its i))) (lkN D fks its i) l rm fi) f' (nI l.length)) := fun z0 hz => by
    unfold f_Tu_fillInode_29
    show Option.bind (f_Pl_indirects K (nI l.length)) _ = _
    have := moN_lt D its i
    rw [qC_indirects (by omega), q_b, a3, q_c, tu_mode (S := tS S E p B1 f' (nI l.length)) ht hi, q_c, tu_p2 (by omega) (by omega), q_b]
    unfold inX szN
    rcases hz with ⟨q1, q2⟩ | ⟨q1, q2⟩
    · rw [if_pos q1, cif_t q2]
      show f_Tu_fillInode_92 K G (nI a) (nI i) (nI (indN l.length)) (nI fi) (nI a + 4) (nI l.length * 1024) _ = _
      rw [show (4 : Int32) = nI 4 from rfl, nI_add, show (1024 : Int32) = nI 1024 from rfl, pk_mul]
      exact h92 _ (by omega) _
    · rw [if_neg (by rw [q1]; decide), cif_f q2, qC_size (S := tS S E p (st B1 a (moN D its i) 2) f' (nI l.length)) ht.1 ht.2.1 ht.2.2.1 hi, q_c, show (4 : Int32) = nI 4 from rfl, nI_add]
      exact h92 _ hszl _
  unfold f_Tu_fillInode f_Tu_fillInode_28
  rw [a2, q_b, if_neg (nI_nm1 (by omega)), qC_isDir (S := tS S E p B1 f' (nI l.length)) ht.1 ht.2.1 ht.2.2.1 hi, q_c]
  by_cases w : isDr D its i
  · rw [b01_t w, if_neg (show ¬ nI 1 = 0 by decide)]
    exact h29 0 (Or.inl ⟨rfl, w⟩)
  · rw [b01_f w, if_pos (show nI 0 = 0 from rfl)]
    exact h29 1 (Or.inr ⟨rfl, w⟩)
theorem tu_recI {K N a : Nat} {D : Nat → Int32} {mp : Nat → Nat} {fks : List Nat} {its : List It} {A H k B P g0 r to : Nat} {gl e : Nat → Nat} {us : Nat → Prop} {fr : Nat} {G : CG} {S : CS} {E B1 f : Nat → Int32} {p : Option Nat} {x : Int32} (hK : 20000 ≤ K) (h : fxC N D mp fks its A H k B P g0 r to gl e us fr G S) (ha0 : a + 128 ≤ 1024) : ∃ f' x', f_Tu_fillInode K G (tS S E p B1 f x) (nI a) (-1) = some (tS S E p (inX B1 a 33024 ((recL N D its A H gl (rml A H (fxd A P r g0) e gl k)).length * 1024) false (fun _ => 0) 1 (recL N D its A H gl (rml A H (fxd A P r g0) e gl k)) (rml A H (fxd A P r g0) e gl k) 3) f' x') := by
  have hR := h.1
  obtain ⟨s1, s2, s3, s4, s5, s6, s7, s8, s9⟩ := rn_st hR
  obtain ⟨⟨⟨hL, ht, hU, hP, hrm, hfx, hw⟩, hdc, hc, hino⟩, hus, hfr, hfr2, hil⟩ := h
  have hN := hc.2.2.1
  have hAk := hU.1.2.2.2.2.2.2.2
  obtain ⟨f', a1, a2⟩ := qC_gatherR (K := K) (S := tS S E p B1 f x) hK hL ht hAk hrm
  have a2 : f_Pl_gather K G (tS S E p B1 f x) (-1) = some (tS S E p B1 f' (nI (recL N D its A H gl (rml A H (fxd A P r g0) e gl k)).length)) := a2
  have hrl : (recL N D its A H gl (rml A H (fxd A P r g0) e gl k)).length = rcB N D its A H := recL_len (by have := hL.1.1; omega)
  rw [← hrl] at s6
  generalize recL N D its A H gl (rml A H (fxd A P r g0) e gl k) = l at *
  generalize rml A H (fxd A P r g0) e gl k = rm at *
  refine ⟨f', nI l.length, ?_⟩
  have hlb : ∀ b ∈ l, b < 2 ^ 31 := fun b hb => by have := s9 b hb; omega
  have hlk : ∀ Z, f_Tu_linksOf K G (tS S E p Z f' (nI l.length)) (-1) = some (nI 1, tS S E p Z f' (nI l.length)) := fun Z => by
    unfold f_Tu_linksOf
    rw [qC_isDirR, q_c, if_pos rfl]
    rfl
  have fin := fun Z => tu_in142 (K := K) (E := E) (p := p) (Z := Z) (own := -1) (fi := 3) (lk := 1) (by omega) hc s1 hrm s3 s6 ha0 (by omega) hlb a1 (hlk Z) (by decide)
  unfold f_Tu_fillInode f_Tu_fillInode_28 f_Tu_fillInode_29 f_Tu_fillInode_92 inX tmX
  rw [a2, q_b, if_pos rfl]
  show Option.bind (f_Pl_indirects K (nI l.length)) _ = _
  rw [qC_indirects (by omega), q_b, show f_Pl_firstIndirect K G (tS S E p B1 f' (nI l.length)) (-1) = some (3, tS S E p B1 f' (nI l.length)) by unfold f_Pl_firstIndirect; rw [if_pos rfl], q_c, show f_Tu_modeOf K G (tS S E p B1 f' (nI l.length)) (-1) = some (nI 33024, tS S E p B1 f' (nI l.length)) by unfold f_Tu_modeOf; rw [if_pos rfl]; rfl, q_c, tu_p2 (by omega) (by omega), q_b, if_pos rfl]
  show Option.bind (f_Tu_putFour K G (tS S E p (st B1 a 33024 2) f' (nI l.length)) (nI a + 4) (nI l.length * 1024)) _ = _
  rw [show (4 : Int32) = nI 4 from rfl, nI_add, show (1024 : Int32) = nI 1024 from rfl, pk_mul, tu_p4 (by omega) (by omega), q_b, if_pos (show (-1 : Int32) ≤ 0 by decide)]
  exact fin _
