/-! A directory's blocks, written. -/
noncomputable def dwG (D : Nat → Int32) (fks : List Nat) (its : List It) (i : Nat) (rm : List Nat) : Nat → Nat → (Nat → Int32) → Nat → Nat → Nat → List Wr
  | 0, _, Z, _, la, r => blW (rm.getD r 0) (st Z (la + 4) (1024 - la) 2)
  | n + 1, e, Z, a, la, r => if a + elN (eSz fks its i e) ≤ 1024 then dwG D fks its i rm n (e + 1) (enD D fks its i e Z a) (a + elN (eSz fks its i e)) a r else blW (rm.getD r 0) (st Z (la + 4) (1024 - la) 2) ++ dwG D fks its i rm n (e + 1) (enD D fks its i e Zd 0) (elN (eSz fks its i e)) 0 (r + 1)
theorem pkS_mono {s : Nat → Nat} {e : Nat} : ∀ d, (pkS s e).1 ≤ (pkS s (e + d)).1 := by
  intro d
  induction d with
  | zero => exact Nat.le_refl _
  | succ d ih =>
    rw [← Nat.add_assoc, pkS]
    split
    · exact ih
    · exact Nat.le_succ_of_le ih
theorem tu_dir21 {K N k0 i B0 b0 : Nat} {D : Nat → Int32} {mp : Nat → Nat} {fks : List Nat} {its : List It} {en : Nat → Nat} {rm : List Nat} {G : CG} {S : CS} (hK : 20000 ≤ K) (hc : tuC N G S) (h : drC N D mp fks its k0 en G S) (hi : i < its.length) (hd : isDr D its i) (hBN : B0 = N / 2) (hrm : rmC B0 rm S) (hrb : ∀ b ∈ rm, 2 * b + 1 < N) (hin : b0 + flB fks its i ≤ rm.length) : ∀ (n e q : Nat) (E B f Z : Nat → Int32) (p : Option Nat) (x : Int32) (a la r : Nat), e + n = eNo fks its i → n < q → (∀ j, j < 1024 → o1 B j = o1 Z j) → a = (pkS (eSz fks its i) e).2 → r + 1 = b0 + (pkS (eSz fks its i) e).1 → la + 8 ≤ 1024 → byt (tS S E p B f x) → pOk p → tuO S (f_Tu_buildDirectory_21 K G q (nI i) (nI r) (nI a) (nI la) (nI e) (tS S E p B f x)) p (dwG D fks its i rm n e Z a la r) E := by
  have ht := h.1
  have hN := hc.2.2.1
  have hkd := ht.2.2.2.2.2.1.1
  have hfl := ht.2.2.2.2.2.1.2
  have hlen := ht.2.2.2.1.2.1
  have hes := eSz_le (i := i) ht.2.2.2.1 hkd (by rw [hfl]; exact hi)
  have hk1 := hkd i (by rw [hfl]; exact hi)
  have hkc : kcI fks its.length i ≤ 4200 := by unfold kcI; omega
  have heN : eNo fks its i ≤ 4203 := by
    unfold eNo
    split <;> omega
  have hrl := hrm.2.2
  intro n
  induction n with
  | zero =>
    intro e q E B f Z p x a la r e1 e2 hB ha0 hr hla hb hp
    obtain ⟨q, rfl⟩ : ∃ m, q = m + 1 := ⟨q - 1, by omega⟩
    have hrr : r < rm.length := by
      have : (pkS (eSz fks its i) e).1 = flB fks its i := by unfold flB; rw [← e1]; rfl
      have := (pkS_le hes e).1
      omega
    have e3 : (1024 : Int32) - nI la = nI (1024 - la) := pk_sub (a := 1024) (by omega)
    rw [f_Tu_buildDirectory_21, (qC_entries (S := tS S E p B f x) ht hi hd).1, q_c, if_pos (nI_le (by omega) (by omega)), show (4 : Int32) = nI 4 from rfl, nI_add, e3]
    have ep := tu_p2 (K := K) (G := G) (S := S) (E := E) (B := B) (f := f) (p := p) (x := x) (q := la + 4) (a := 1024 - la) (by omega) (by omega)
    have hby := b_Tu_putTwo (K := K) (G := G) hb _ ep
    rw [ep, q_b, tu_room hc hBN hrm (by omega), q_c]
    have := tu_seq (L := blW (rm.getD r 0) (st Z (la + 4) (1024 - la) 2)) (M := []) (g := fun S_7 => some S_7) (tu_blk (K := K) hc (hrb _ (getD_mem hrr)) hby hp (fun j hj => st_ag (hB j hj))) (fun E' B' f' x' _ a2 => tu_nil a2)
    rw [List.append_nil] at this
    exact this
  | succ n ih =>
    intro e q E B f Z p x a la r e1 e2 hB ha0 hr hla hb hp
    obtain ⟨q, rfl⟩ : ∃ m, q = m + 1 := ⟨q - 1, by omega⟩
    have hse := hes e
    have hel : f_Pl_entryLength K (nI (eSz fks its i e)) = some (nI (elN (eSz fks its i e))) := by
      unfold f_Pl_entryLength elN
      rw [show (8 : Int32) = nI 8 from rfl, nI_add, show (3 : Int32) = nI 3 from rfl, nI_add, show (4 : Int32) = nI 4 from rfl, pk_div (by omega) (by decide) (by decide), pk_mul]
      congr 2
      omega
    have hl8 : 8 + eSz fks its i e ≤ elN (eSz fks its i e) ∧ elN (eSz fks its i e) ≤ 1024 ∧ 8 ≤ elN (eSz fks its i e) := by unfold elN; omega
    have hpk := pkS_le hes e
    have h94 : ∀ (E B f Z : Nat → Int32) (p : Option Nat) (x : Int32) (a r : Nat), (∀ j, j < 1024 → o1 B j = o1 Z j) → a + elN (eSz fks its i e) ≤ 1024 → a + elN (eSz fks its i e) = (pkS (eSz fks its i) (e + 1)).2 → r + 1 = b0 + (pkS (eSz fks its i) (e + 1)).1 → byt (tS S E p B f x) → pOk p → tuO S (f_Tu_buildDirectory_94 K G (f_Tu_buildDirectory_21 K G q) (nI i) (nI r) (nI a) (nI e) (nI (elN (eSz fks its i e))) (tS S E p B f x)) p (dwG D fks its i rm n (e + 1) (enD D fks its i e Z a) (a + elN (eSz fks its i e)) a r) E := fun E B f Z p x a r hB g1 g2 g3 hb hp => by
      have ep := tu_entry (K := K) (E := E) (f := f) (B := B) (p := p) (x := x) (by omega) h hi hd (e := e) (by omega) (at0 := a) (by omega)
      have hby := b_Tu_putEntry (K := K) (G := G) hb _ ep
      have ep2 := tu_p2 (K := K) (G := G) (S := S) (E := E) (B := enY B a (eNu fks its i e) (eSz fks its i e) (eKd D fks its i e) (eNb fks its i e)) (f := f) (p := p) (x := x) (q := a + 4) (a := elN (eSz fks its i e)) (by omega) (by omega)
      have hby2 := b_Tu_putTwo (K := K) (G := G) hby _ ep2
      unfold f_Tu_buildDirectory_94
      rw [ep, q_b, show (4 : Int32) = nI 4 from rfl, nI_add, ep2, q_b, nI_add, q_l, show (1 : Int32) = nI 1 from rfl, nI_add, q_l]
      exact ih (e + 1) q E _ f _ p x _ a r (by omega) (by omega) (fun j hj => enX_ag (hB j hj)) g2 g3 (by omega) hby2 hp
    rw [f_Tu_buildDirectory_21, (qC_entries (S := tS S E p B f x) ht hi hd).1, q_c, if_neg (nI_ge (by omega) (by omega)), (qC_entries (S := tS S E p B f x) ht hi hd).2 e (by omega), q_c, hel, q_b, nI_add, dwG]
    by_cases g : a + elN (eSz fks its i e) ≤ 1024
    · rw [if_pos (show nI (a + elN (eSz fks its i e)) ≤ 1024 from nI_le (b := 1024) g (by omega)), if_pos g]
      refine h94 E B f Z p x a r hB g ?_ ?_ hb hp
      · rw [pkS, if_pos (by rw [← ha0]; exact g), ← ha0]
      · rw [pkS, if_pos (by rw [← ha0]; exact g)]; exact hr
    · rw [if_neg (show ¬ nI (a + elN (eSz fks its i e)) ≤ 1024 from nI_ge (a := 1024) (by omega) (by omega)), if_neg g]
      have hrr : r < rm.length := by
        have m1 := pkS_mono (s := eSz fks its i) (e := e) (eNo fks its i - e)
        rw [show e + (eNo fks its i - e) = eNo fks its i by omega] at m1
        have : (pkS (eSz fks its i) (eNo fks its i)).1 = flB fks its i := rfl
        omega
      have e3 : (1024 : Int32) - nI la = nI (1024 - la) := pk_sub (a := 1024) (by omega)
      have ep := tu_p2 (K := K) (G := G) (S := S) (E := E) (B := B) (f := f) (p := p) (x := x) (q := la + 4) (a := 1024 - la) (by omega) (by omega)
      have hby := b_Tu_putTwo (K := K) (G := G) hb _ ep
      rw [show (4 : Int32) = nI 4 from rfl, nI_add, e3, ep, q_b, tu_room hc hBN hrm (by omega), q_c]
      refine tu_seq (tu_blk hc (hrb _ (getD_mem hrr)) hby hp (fun j hj => st_ag (hB j hj))) (fun E' B' f' x' _ a2 => ?_)
      have hby3 := b_Tu_empty (K := K) (G := G) a2 _ tu_em
      rw [tu_em, q_b, show (1 : Int32) = nI 1 from rfl, nI_add, q_l]
      have := h94 E' (zB B') f' Zd _ x' 0 (r + 1) (fun j hj => zB_Zd hj) (by omega) (by rw [pkS, if_neg (by rw [← ha0]; exact g)]; exact Nat.zero_add _) (by rw [pkS, if_neg (by rw [← ha0]; exact g)]; show r + 1 + 1 = b0 + ((pkS (eSz fks its i) e).1 + 1); omega) hby3 (pR_ok hp _)
      rw [Nat.zero_add] at this
      exact this
theorem tu_built {K N k0 i b0 : Nat} {D : Nat → Int32} {mp : Nat → Nat} {fks : List Nat} {its : List It} {en : Nat → Nat} {G : CG} {S : CS} (ht : trC N D mp fks its k0 en G S) (hi : i < its.length) (hw : S.w_Tr_built i = nI b0) : f_Tr_builtOf K G S (nI i) = some (nI b0, S) := by
  have hlen := ht.2.2.2.1.2.1
  obtain ⟨g0', ⟨-, -, -, -, -, -, -, -, -, -, -, g1, g2⟩, g3, g4, -⟩ := ht.1
  unfold f_Tr_builtOf
  rw [qC_has ht.2.1.1 (by omega) (by omega), q_c, b01_t hi, if_neg (by decide), q_g (q_in (by have := ht.2.2.1; omega) (by omega)), nI_clamp (by omega), hw]
theorem tu_dir {K N k0 i B0 b0 : Nat} {D : Nat → Int32} {mp : Nat → Nat} {fks : List Nat} {its : List It} {en : Nat → Nat} {rm : List Nat} {G : CG} {S : CS} {E B f : Nat → Int32} {p : Option Nat} {x : Int32} (hK : 20000 ≤ K) (hc : tuC N G S) (h : drC N D mp fks its k0 en G S) (hi : i < its.length) (hd : isDr D its i) (hBN : B0 = N / 2) (hrm : rmC B0 rm S) (hrb : ∀ b ∈ rm, 2 * b + 1 < N) (hin : b0 + flB fks its i ≤ rm.length) (hw : S.w_Tr_built i = nI b0) (hb : byt (tS S E p B f x)) (hp : pOk p) : tuO S (f_Tu_buildDirectory K G (tS S E p B f x) (nI i)) p (dwG D fks its i rm (eNo fks its i) 0 Zd 0 0 b0) E := by
  unfold f_Tu_buildDirectory
  have hkd := h.1.2.2.2.2.2.1.1
  have hk1 := hkd i (by rw [h.1.2.2.2.2.2.1.2]; exact hi)
  have hlen := h.1.2.2.2.1.2.1
  have hkc : kcI fks its.length i ≤ 4200 := by unfold kcI; omega
  have heN : eNo fks its i ≤ 4203 := by
    unfold eNo
    split <;> omega
  rw [tu_built (S := tS S E p B f x) h.1 hi hw, q_c, tu_em, q_b]
  exact tu_dir21 hK hc h hi hd hBN hrm hrb hin (eNo fks its i) 0 K E (zB B) f Zd p x 0 0 b0 (Nat.zero_add _) (by omega) (fun j hj => zB_Zd hj) rfl rfl (by decide) (b_Tu_empty (K := K) (G := G) hb _ tu_em) hp
