/-! make: the class's search of a short name. -/
theorem qC_128 {K c d n : Nat} {G : CG} {S : CS} {st tl : List Nat} {p y2 y3 y5 : Int32} {rc : Int32 → Int32 → Int32 → Int32 → Int32 → Int32 → CS → Option CS} (hn : n < 10000) (hc : c + d ≤ 7) : ∀ (i k : Nat) (g : Nat → Int32), i ≤ d → i < k → (∀ r, r < 11 → g r = nI (if c + i < r ∧ r ≤ c + d then 48 + n / 10 ^ (c + d - r) % 10 else bsN st tl c r)) → ∃ g', (∀ r, r < 11 → g' r = nI (cdP st tl c d n d r)) ∧ f_Ed_inventShortName_128 K G rc k p y2 y3 (nI d) y5 (nI n) (nI c) (nI (n / 10 ^ (d - i))) (nI (c + i)) (S.u_w_Ed_shortName g) = f_Ed_inventShortName_170 K G rc p y2 y3 (nI d) y5 (nI n) (S.u_w_Ed_shortName g') := by
  intro i
  induction i with
  | zero =>
    intro k g h1 h2 h3
    obtain ⟨k, rfl⟩ : ∃ m, k = m + 1 := ⟨k - 1, by omega⟩
    exact ⟨g, h3, by rw [f_Ed_inventShortName_128, Nat.add_zero, if_pos (Int32.le_refl _)]⟩
  | succ i ih =>
    intro k g h1 h2 h3
    obtain ⟨k, rfl⟩ : ∃ m, k = m + 1 := ⟨k - 1, by omega⟩
    have hle : n / 10 ^ (d - (i + 1)) ≤ n := Nat.div_le_self _ _
    have hdx : nI (n / 10 ^ (d - (i + 1))) / 10 = nI (n / 10 ^ (d - i)) := by
      rw [show (10 : Int32) = nI 10 from rfl, pk_div (by omega) (by decide) (by decide), Nat.div_div_eq_div_mul, ← Nat.pow_succ, show (d - (i + 1)).succ = d - i by omega]
    rw [f_Ed_inventShortName_128, if_neg (nI_ge (show c < c + (i + 1) by omega) (by omega)), if_neg (show ¬ (8 : Int32) ≤ nI (c + (i + 1)) from nI_ge (b := 8) (show c + (i + 1) < 8 by omega) (by decide)), q_g (q_in (by omega) (by decide)), q_l, q_l, q_l, q_m10 (by omega), hdx, nI_clamp (by omega), show c + (i + 1) = c + i + 1 from rfl, q_dec, show (48 : Int32) = nI 48 from rfl, nI_add]
    refine ih k (upd g (c + i + 1) (nI (48 + n / 10 ^ (d - (i + 1)) % 10))) (by omega) (by omega) fun r hr => ?_
    by_cases er : r = c + i + 1
    · rw [er, upE, if_pos (by omega), show c + d - (c + i + 1) = d - (i + 1) by omega]
    · rw [upN er, h3 r hr]
      by_cases x : c + (i + 1) < r ∧ r ≤ c + d
      · rw [if_pos x, if_pos (by omega)]
      · rw [if_neg x, if_neg (by omega)]
theorem qC_cand {K l n : Nat} {G : CG} {S : CS} {us : List Nat} {p y3 y5 : Int32} {rc : Int32 → Int32 → Int32 → Int32 → Int32 → Int32 → CS → Option CS} (hK : 20000 ≤ K) (hs : S.v_Ed_unitCount = nI us.length) (hl : us.length ≤ 255) (hb : bufR S.w_Ed_units us) (hu : ∀ u ∈ us, u < 65536) (hlp : lpR us l) (h2 : n < 10000) : ∃ g, (∀ r, r < 11 → g r = nI (cdN (sqA us 0 l) (tlL us l) n r)) ∧ f_Ed_inventShortName_49 K G rc p (lpI us l) y3 (nI (dg n)) y5 (nI n) S = f_Ed_inventShortName_170 K G rc p (lpI us l) y3 (nI (dg n)) y5 (nI n) (S.u_w_Ed_shortName g) := by
  have hd := dg_le n
  have hll := hlp.1
  have hc : ctN (sqA us 0 l).length n + dg n ≤ 7 := by unfold ctN; omega
  have hcs : ctN (sqA us 0 l).length n ≤ (sqA us 0 l).length := by unfold ctN; omega
  have htl3 : (tlL us l).length ≤ 3 := by
    unfold tlL
    split
    · exact Nat.zero_le _
    · rw [List.length_take]; omega
  have hsl : (sqA us 0 l).length ≤ 255 := Nat.le_trans (sqA_len hll) hl
  have sq1 : ∀ g, f_Ed_squeeze K G (S.u_w_Ed_shortName g) 0 (nI l) 0 (if ((7 : Int32) - nI (dg n)) < (0 : Int32) then (0 : Int32) else (7 - nI (dg n))) = some (nI (ctN (sqA us 0 l).length n), S.u_w_Ed_shortName (pn g 0 (ctN (sqA us 0 l).length n) (sqA us 0 l))) := fun g => by
    rw [show (7 : Int32) = nI 7 from rfl, pk_sub (by omega), if_neg (nI_pos (by omega))]
    exact qC_squeeze (S := S.u_w_Ed_shortName g) (a := 0) (B := 0) hK hl hb hu (Nat.zero_le _) hll (by omega)
  have end8 : ∀ g, (∀ r, r < 11 → upd g (ctN (sqA us 0 l).length n) 126 r = nI (bsN (sqA us 0 l) (tlL us l) (ctN (sqA us 0 l).length n) r)) → ∃ g', (∀ r, r < 11 → g' r = nI (cdN (sqA us 0 l) (tlL us l) n r)) ∧ f_Ed_inventShortName_108 K G rc p (lpI us l) y3 (nI (dg n)) y5 (nI n) (nI (ctN (sqA us 0 l).length n)) (S.u_w_Ed_shortName g) = f_Ed_inventShortName_170 K G rc p (lpI us l) y3 (nI (dg n)) y5 (nI n) (S.u_w_Ed_shortName g') := fun g hg => by
    unfold f_Ed_inventShortName_108
    rw [q_g (q_in (by omega) (by decide)), q_l, q_l, nI_add, nI_clamp (by omega)]
    obtain ⟨g', e1, e2⟩ := qC_128 (K := K) (G := G) (S := S) (st := sqA us 0 l) (tl := tlL us l) (p := p) (y2 := lpI us l) (y3 := y3) (y5 := y5) (rc := rc) h2 hc (dg n) K (upd g (ctN (sqA us 0 l).length n) 126) (Nat.le_refl _) (by omega) (fun r hr => by rw [if_neg (by omega)]; exact hg r hr)
    rw [Nat.sub_self, Nat.pow_zero, Nat.div_one] at e2
    exact ⟨g', e1, e2⟩
  have g0 : ∀ r, r < 11 → ar_fill S.w_Ed_shortName 0 11 32 r = nI 32 := fun r hr => by
    unfold ar_fill
    exact if_pos ⟨by omega, by omega⟩
  have both : ∀ r, r < 11 → upd (pn (pn (ar_fill S.w_Ed_shortName 0 11 32) 0 (ctN (sqA us 0 l).length n) (sqA us 0 l)) 8 (tlL us l).length (tlL us l)) (ctN (sqA us 0 l).length n) 126 r = nI (bsN (sqA us 0 l) (tlL us l) (ctN (sqA us 0 l).length n) r) := fun r hr => by
    unfold bsN
    by_cases e : r = ctN (sqA us 0 l).length n
    · rw [e, upE, if_neg (Nat.lt_irrefl _), if_pos rfl]
      rfl
    rw [upN e]
    unfold pn
    by_cases e1 : r < ctN (sqA us 0 l).length n
    · rw [if_neg (by omega), if_pos (by omega), if_pos e1, Nat.sub_zero]
    rw [if_neg e1, if_neg e]
    by_cases e2 : r ≤ 7
    · rw [if_pos e2, if_neg (by omega), if_neg (by omega), g0 r hr]
    rw [if_neg e2]
    by_cases e3 : r - 8 < (tlL us l).length
    · rw [if_pos (by omega), List.getD_eq_getElem?_getD, List.getD_eq_getElem?_getD, List.getElem?_eq_getElem e3]
      rfl
    · rw [if_neg (by omega), if_neg (by omega), g0 r hr, List.getD_eq_getElem?_getD, List.getElem?_eq_none (by omega)]
      rfl
  unfold f_Ed_inventShortName_49 f_Ed_inventShortName_73
  rw [q_l]
  by_cases cl : l = us.length
  · have eI : lpI us l = (-1) := if_pos cl
    have et : tlL us l = [] := if_pos cl
    rw [et, show ([] : List Nat).length = 0 from rfl, pn_0, ← et] at both
    have E := end8 _ both
    rw [eI] at E ⊢
    rw [if_pos rfl, show (S.u_w_Ed_shortName (ar_fill S.w_Ed_shortName 0 11 32)).v_Ed_unitCount = nI l from by rw [cl]; exact hs, sq1, q_c, if_pos rfl]
    exact E
  · have eI := lpI_no hl (show l < us.length by omega)
    have eV : lpI us l = nI l := if_neg cl
    have et : tlL us l = (sqA us (l + 1) us.length).take 3 := if_neg cl
    have sq2 := qC_squeeze (K := K) (G := G) (S := S.u_w_Ed_shortName (pn (ar_fill S.w_Ed_shortName 0 11 32) 0 (ctN (sqA us 0 l).length n) (sqA us 0 l))) (us := us) (a := l + 1) (b := us.length) (B := 8) (M := 3) hK hl hb hu (by omega) (Nat.le_refl _) (by omega)
    have E := end8 _ both
    rw [if_neg eI]
    rw [eV] at E eI ⊢
    rw [sq1, q_c, if_neg eI, nI_1, show (S.u_w_Ed_shortName (pn (ar_fill S.w_Ed_shortName 0 11 32) 0 (ctN (sqA us 0 l).length n) (sqA us 0 l))).v_Ed_unitCount = nI us.length from hs]
    show ∃ g, _ ∧ lf_c (f_Ed_squeeze K G _ (nI (l + 1)) (nI us.length) (nI 8) (nI 3)) _ = _
    rw [sq2, q_c, pn_take, ← et]
    exact E
theorem qC_search {K N l d fk n m : Nat} {G : CG} {D E : Nat → Int32} {mp : Nat → Nat} {its : List It} {us : List Nat} {S : CS} (hK : 20000 ≤ K) (hG : gOk N G) (hN : N ≤ 1024) (hE : S.w_Dk_bytes = E) (hS : rcI D mp its S) (hgl : its.length ≤ G.l_parent) (ho : itsOk N its) (hm : mpOk N D E mp its) (h1 : 1 ≤ fk) (h2 : fk + n ≤ its.length) (hcnt : ∀ g, f_Tr_countIn K G (S.u_w_Ed_shortName g) (nI d) = some (nI n, S.u_w_Ed_shortName g)) (hkid : ∀ g k, f_Tr_kid K G (S.u_w_Ed_shortName g) (nI d) (nI k) = some (nI (fk + k), S.u_w_Ed_shortName g)) (hs : S.v_Ed_unitCount = nI us.length) (hl : us.length ≤ 255) (hb : bufR S.w_Ed_units us) (hu : ∀ u ∈ us, u < 65536) (hlp : lpR us l) (hmn : m ≤ n + 1) (hno : ¬ shT D its fk n (cdN (sqA us 0 l) (tlL us l) m)) : ∀ (e q k w : Nat) (g0 : Nat → Int32), q + e = m → 1 ≤ q → e < k → ((q = 10 ^ w ∧ dg q = w + 1) ∨ (q ≠ 10 ^ w ∧ dg q = w)) → w ≤ 4 → (∀ r, q ≤ r → r < m → shT D its fk n (cdN (sqA us 0 l) (tlL us l) r)) → ∃ g, (∀ r, r < 11 → g r = nI (cdN (sqA us 0 l) (tlL us l) m r)) ∧ f_Ed_inventShortName_26 K G k (nI d) (lpI us l) (nI (n + 1)) (nI w) (nI (10 ^ w)) (nI q) (S.u_w_Ed_shortName g0) = some (S.u_w_Ed_shortName g) := by
  have hlen := ho.2.1
  have hsg : ∀ u ∈ sqA us 0 l, sgP u := sqL_sg _
  have htg : ∀ u ∈ tlL us l, sgP u := by
    unfold tlL
    split
    · intro u hu; cases hu
    · intro u hu; exact sqL_sg _ u (List.mem_of_mem_take hu)
  have tk : ∀ g q, (∀ r, r < 11 → g r = nI (cdN (sqA us 0 l) (tlL us l) q r)) → f_Ed_isShortNameTaken K G (S.u_w_Ed_shortName g) (nI d) = some (b01 (shT D its fk n (cdN (sqA us 0 l) (tlL us l) q)), S.u_w_Ed_shortName g) := fun g q hg =>
    qC_shortTaken (S := S.u_w_Ed_shortName g) (by omega) hG hN hE hS hgl ho hm h1 h2 (hcnt g) (hkid g) hg (fun r _ => Nat.lt_trans (cd_lt hsg htg q r) (by decide))
  intro e
  induction e with
  | zero =>
    intro q k w g0 a1 a2 a3 a4 a5 a6
    obtain ⟨k, rfl⟩ : ∃ x, k = x + 1 := ⟨k - 1, by omega⟩
    obtain rfl : q = m := by omega
    have hp : 10 ^ w ≤ 10000 := Nat.pow_le_pow_right (n := 10) (by decide) a5
    rw [f_Ed_inventShortName_26, if_neg (nI_nlt (by omega) (by omega))]
    rcases a4 with ⟨b1, b2⟩ | ⟨b1, b2⟩
    · obtain ⟨g, c1, c2⟩ := qC_cand (K := K) (G := G) (S := S.u_w_Ed_shortName g0) (us := us) (p := nI d) (y3 := nI (n + 1)) (y5 := nI (10 ^ w) * 10) (rc := f_Ed_inventShortName_26 K G k) (n := q) hK hs hl hb hu hlp (by omega)
      refine ⟨g, c1, ?_⟩
      rw [if_pos (by rw [b1]), q_l, q_l, nI_1, ← b2, c2]
      unfold f_Ed_inventShortName_170
      show lf_c (f_Ed_isShortNameTaken K G (S.u_w_Ed_shortName g) (nI d)) _ = _
      rw [tk g q c1, q_c, b01_f hno, if_pos (show nI 0 = 0 from rfl)]
    · obtain ⟨g, c1, c2⟩ := qC_cand (K := K) (G := G) (S := S.u_w_Ed_shortName g0) (us := us) (p := nI d) (y3 := nI (n + 1)) (y5 := nI (10 ^ w)) (rc := f_Ed_inventShortName_26 K G k) (n := q) hK hs hl hb hu hlp (by omega)
      refine ⟨g, c1, ?_⟩
      rw [if_neg (fun y => b1 ((nI_eq (by omega) (by omega)).mp y))]
      rw [b2] at c2
      rw [c2]
      unfold f_Ed_inventShortName_170
      show lf_c (f_Ed_isShortNameTaken K G (S.u_w_Ed_shortName g) (nI d)) _ = _
      rw [tk g q c1, q_c, b01_f hno, if_pos (show nI 0 = 0 from rfl)]
  | succ e ih =>
    intro q k w g0 a1 a2 a3 a4 a5 a6
    obtain ⟨k, rfl⟩ : ∃ x, k = x + 1 := ⟨k - 1, by omega⟩
    have hp : 10 ^ w ≤ 10000 := Nat.pow_le_pow_right (n := 10) (by decide) a5
    have hdl := dg_le q
    rw [f_Ed_inventShortName_26, if_neg (nI_nlt (by omega) (by omega))]
    have nx := fun g => ih (q + 1) k (dg q) g (by omega) (by omega) (by omega) (dg_next (by omega)) hdl.2 (fun r x y => a6 r (by omega) y)
    rcases a4 with ⟨b1, b2⟩ | ⟨b1, b2⟩
    · obtain ⟨g, c1, c2⟩ := qC_cand (K := K) (G := G) (S := S.u_w_Ed_shortName g0) (us := us) (p := nI d) (y3 := nI (n + 1)) (y5 := nI (10 ^ dg q)) (rc := f_Ed_inventShortName_26 K G k) (n := q) hK hs hl hb hu hlp (by omega)
      obtain ⟨g', e1, e2⟩ := nx g
      refine ⟨g', e1, ?_⟩
      rw [if_pos (by rw [b1]), q_l, q_l, nI_1, ← b2, show nI (10 ^ w) * 10 = nI (10 ^ dg q) from by rw [b2, Nat.pow_succ]; exact pk_mul _ _, c2]
      unfold f_Ed_inventShortName_170
      show lf_c (f_Ed_isShortNameTaken K G (S.u_w_Ed_shortName g) (nI d)) _ = _
      rw [tk g q c1, q_c, b01_t (a6 q (Nat.le_refl _) (by omega)), if_neg (show ¬ nI 1 = 0 by decide), q_l, nI_1]
      exact e2
    · obtain ⟨g, c1, c2⟩ := qC_cand (K := K) (G := G) (S := S.u_w_Ed_shortName g0) (us := us) (p := nI d) (y3 := nI (n + 1)) (y5 := nI (10 ^ w)) (rc := f_Ed_inventShortName_26 K G k) (n := q) hK hs hl hb hu hlp (by omega)
      obtain ⟨g', e1, e2⟩ := nx g
      refine ⟨g', e1, ?_⟩
      rw [if_neg (fun y => b1 ((nI_eq (by omega) (by omega)).mp y))]
      rw [b2] at c2 e2
      rw [c2]
      unfold f_Ed_inventShortName_170
      show lf_c (f_Ed_isShortNameTaken K G (S.u_w_Ed_shortName g) (nI d)) _ = _
      rw [tk g q c1, q_c, b01_t (a6 q (Nat.le_refl _) (by omega)), if_neg (show ¬ nI 1 = 0 by decide), q_l, nI_1]
      exact e2
