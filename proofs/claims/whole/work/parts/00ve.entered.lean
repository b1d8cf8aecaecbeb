/-! An entry of a directory laid by the reference. -/
theorem nbX_o1 {Z : Nat → Int32} {p q : Nat} {nb : Nat → Nat} : ∀ n, o1 (nbX Z p nb n) q = if p ≤ q ∧ q < p + n then nb (q - p) % 256 else o1 Z q := by
  intro n
  induction n with
  | zero => rw [nbX, if_neg (by omega)]
  | succ n ih =>
    rw [nbX, st_o1, ih]
    by_cases g : p + n ≤ q ∧ q < p + n + 1
    · rw [if_pos g, if_pos (by omega), show q - (p + n) = 0 by omega, Nat.pow_zero, Nat.div_one, show q - p = n by omega]
    · rw [if_neg g]
      by_cases g2 : p ≤ q ∧ q < p + n
      · rw [if_pos g2, if_pos (by omega)]
      · rw [if_neg g2, if_neg (by omega)]
def enR (Z : Nat → Int32) (p no n kd : Nat) (nb : Nat → Nat) (len : Nat) : Nat → Int32 := nbX (st (st (st (st Z p no 4) (p + 4) len 2) (p + 6) n 1) (p + 7) kd 1) (p + 8) nb n
theorem enR_X {Z : Nat → Int32} {p no n kd len q : Nat} {nb : Nat → Nat} : o1 (enR Z p no n kd nb len) q = o1 (enX Z p no n kd nb len) q := by
  unfold enR enX enY
  rw [nbX_o1 (Z := st (st (st (st Z p no 4) (p + 4) len 2) (p + 6) n 1) (p + 7) kd 1) n, st_o1 (p := p + 4) 2, nbX_o1 (Z := st (st (st Z p no 4) (p + 6) n 1) (p + 7) kd 1) n]
  by_cases g : p + 8 ≤ q ∧ q < p + 8 + n
  · rw [if_pos g, if_neg (by omega), if_pos g]
  · rw [if_neg g]
    by_cases g2 : p + 4 ≤ q ∧ q < p + 4 + 2
    · rw [if_pos g2, st_out (by omega), st_out (by omega), st_o1, if_pos g2]
    · rw [if_neg g2, if_neg g]
      exact st_ag (st_ag (st_out (by omega)))
theorem sh_nb {X Y : Nat → Int32} {a b p j : Nat} {nb : Nat → Nat} (h : o1 X (a + j) = o1 Y (b + j)) : ∀ i, o1 (nbX X (a + p) nb i) (a + j) = o1 (nbX Y (b + p) nb i) (b + j) := by
  intro i
  induction i with
  | zero => exact h
  | succ i ih => rw [nbX, nbX, Nat.add_assoc, Nat.add_assoc]; exact sh_st ih
theorem bk_en {F Z : Nat → Int32} {b p no n kd len : Nat} {nb : Nat → Nat} (h : bkA F b Z) : bkA (enR F (1024 * b + p) no n kd nb len) b (enX Z p no n kd nb len) := by
  intro j hj
  rw [← enR_X]
  unfold enR
  have h0 := h j hj
  have e := sh_nb (X := st (st (st (st F (1024 * b + p) no 4) (1024 * b + p + 4) len 2) (1024 * b + p + 6) n 1) (1024 * b + p + 7) kd 1) (Y := st (st (st (st Z p no 4) (p + 4) len 2) (p + 6) n 1) (p + 7) kd 1) (a := 1024 * b) (b := 0) (p := p + 8) (j := j) (nb := nb) (by
    rw [Nat.zero_add]
    have s1 : o1 (st F (1024 * b + p) no 4) (1024 * b + j) = o1 (st Z p no 4) j := bk_st h j hj
    have s2 : o1 (st (st F (1024 * b + p) no 4) (1024 * b + p + 4) len 2) (1024 * b + j) = o1 (st (st Z p no 4) (p + 4) len 2) j := bk_st (q := p + 4) (bk_st h) j hj
    have s3 : o1 (st (st (st F (1024 * b + p) no 4) (1024 * b + p + 4) len 2) (1024 * b + p + 6) n 1) (1024 * b + j) = o1 (st (st (st Z p no 4) (p + 4) len 2) (p + 6) n 1) j := bk_st (q := p + 6) (bk_st (q := p + 4) (bk_st h)) j hj
    exact bk_st (q := p + 7) (bk_st (q := p + 6) (bk_st (q := p + 4) (bk_st h))) j hj) n
  rw [Nat.zero_add, Nat.zero_add] at e
  exact e
theorem enR_out {Z : Nat → Int32} {p no n kd len q : Nat} {nb : Nat → Nat} (h : q < p ∨ p + 8 + n ≤ q) : o1 (enR Z p no n kd nb len) q = o1 Z q := by
  unfold enR
  rw [nbX_o1, if_neg (by omega), st_out (by omega), st_out (by omega), st_out (by omega), st_out (by omega)]
/-- what text says of a name, byte by byte -/
abbrev txR (K : Nat) (T : MS) (tx : Int32) (sz : Nat) (nb : Nat → Nat) : Prop := (tx = -2 ∧ ∀ q, q < sz → nb q = 46) ∨ ((-1 : Int32) ≤ tx ∧ ∀ q, q < sz → ∀ (F U : Nat → Int32) (n : Nat) (R : Rg), f_Mo_text K (qS T F U n R) tx (nI q) = some (nI (nb q), qS T F U n R))
theorem ql_en137 {K p sz len many : Nat} {T : MS} {U : Nat → Int32} {n : Nat} {R : Rg} {tx : Int32} {nb : Nat → Nat} (htx : txR K T tx sz nb) (hp : p + 8 + sz ≤ 524288) {Z : Nat → Int32} {a : Nat} (hfi : R.2.2.2.1 = nI a) : ∀ (d q k : Nat), q + d = sz → d < k → f_Mo_entered_137 K k tx (nI sz) (nI len) (nI many) (nI p) (nI q) (qS T (nbX Z (p + 8) nb q) U n R) = some (nI many, qS T (nbX Z (p + 8) nb sz) U n (R.1, R.2.1, R.2.2.1, nI (a + len), nI a, R.2.2.2.2.2)) := by
  intro d
  induction d with
  | zero =>
    intro q k e1 e2
    obtain ⟨k, rfl⟩ : ∃ m, k = m + 1 := ⟨k - 1, by omega⟩
    obtain rfl : q = sz := by omega
    rw [f_Mo_entered_137, if_pos (nI_le (by omega) (by omega)), q_l, q_l]
    show some (nI many, qS T (nbX Z (p + 8) nb q) U n (R.1, R.2.1, R.2.2.1, R.2.2.2.1 + nI len, R.2.2.2.1, R.2.2.2.2.2)) = _
    rw [hfi, nI_add]
  | succ d ih =>
    intro q k e1 e2
    obtain ⟨k, rfl⟩ : ∃ m, k = m + 1 := ⟨k - 1, by omega⟩
    have h173 : ∀ v, v = nb q → f_Mo_entered_173 K (f_Mo_entered_137 K k) tx (nI sz) (nI len) (nI many) (nI p) (nI q) ((nI p + 8) + nI q) (nI v) (qS T (nbX Z (p + 8) nb q) U n R) = some (nI many, qS T (nbX Z (p + 8) nb sz) U n (R.1, R.2.1, R.2.2.1, nI (a + len), nI a, R.2.2.2.2.2)) := fun v hv => by
      unfold f_Mo_entered_173
      rw [show (8 : Int32) = nI 8 from rfl, nI_add, nI_add, q_g (q_in (by omega) (by decide)), q_l, nI_clamp (by omega), nI_1, q_l, hv]
      have nx := ih (q + 1) k (by omega) (by omega)
      rw [nbX] at nx
      have e5 : st (nbX Z (p + 8) nb q) (p + 8 + q) (nb q) 1 = upd (nbX Z (p + 8) nb q) (p + 8 + q) (wb (nI (nb q))) := by
        show upd (nbX Z (p + 8) nb q) (p + 8 + q + 0) (wb (nI (nb q / 256 ^ 0))) = _
        rw [Nat.pow_zero, Nat.div_one]
        rfl
      rw [e5] at nx
      exact nx
    rw [f_Mo_entered_137, if_neg (nI_ge (by omega) (by omega))]
    rcases htx with ⟨t1, t2⟩ | ⟨t1, t2⟩
    · rw [t1, if_neg (by decide), ← t1]
      exact h173 46 (t2 q (by omega)).symm
    · rw [if_pos t1, t2 q (by omega), q_c]
      exact h173 _ rfl
theorem ql_en76 {K no sz kd len many b a : Nat} {T : MS} {F U : Nat → Int32} {n : Nat} {R : Rg} {tx : Int32} {nb : Nat → Nat} (hK : 2000 ≤ K) (htx : txR K T tx sz nb) (hb : b < 512) (hsp : R.2.2.1 = nI (1024 * b)) (hfi : R.2.2.2.1 = nI a) (hl : a + 8 + sz ≤ 1024) (hno : no < 2 ^ 31) (hkd : kd < 2 ^ 31) (hlen : len < 2 ^ 31) : f_Mo_entered_76 K (nI no) tx (nI kd) (nI sz) (nI len) (nI many) (qS T F U n R) = some (nI many, qS T (enR F (1024 * b + a) no sz kd nb len) U n (R.1, R.2.1, R.2.2.1, nI (a + len), nI a, R.2.2.2.2.2)) := by
  unfold f_Mo_entered_76 enR
  show lf_l (R.2.2.1 + R.2.2.2.1) _ = _
  rw [show R.2.2.1 + R.2.2.2.1 = nI (1024 * b + a) by rw [hsp, hfi, nI_add], q_l, ql_4 (by omega) (by omega) (by omega), q_b, show (4 : Int32) = nI 4 from rfl, nI_add, ql_2 (by omega) (by omega) hlen, q_b, show (6 : Int32) = nI 6 from rfl, nI_add, ql_1 (by omega) (by omega) (by omega), q_b, show (7 : Int32) = nI 7 from rfl, nI_add, ql_1 (by omega) (by omega) hkd, q_b]
  exact ql_en137 (p := 1024 * b + a) (U := U) (n := n) (R := R) (len := len) (many := many) (a := a) (Z := st (st (st (st F (1024 * b + a) no 4) (1024 * b + a + 4) len 2) (1024 * b + a + 6) sz 1) (1024 * b + a + 7) kd 1) htx (by omega) hfi sz 0 K (by omega) (by omega)
/-- where the reference stands in the blocks of a directory: room t, filled a, the last entry at la -/
abbrev rdS (R : Rg) (rm : List Nat) (b0 t a la : Nat) : Prop := R.2.2.1 = nI (1024 * rm.getD t 0) ∧ R.2.2.2.1 = nI a ∧ (0 < a → R.2.2.2.2.1 = nI la) ∧ b0 ≤ t ∧ ∀ s, s ≤ t - b0 → R.2.1 s = nI (rm.getD (b0 + s) 0)
theorem ql_begins {K t : Nat} {T : MS} {F U : Nat → Int32} {R : Rg} {rm : List Nat} (hbd : bdA T rm) (ht : t < rm.length) : f_Mo_begins K (qS T F U t R) = some (qS T F (upd U (rm.getD t 0) (vp_nar .boolean 1)) (t + 1) (R.1, R.2.1, nI (1024 * rm.getD t 0), nI 0, R.2.2.2.2)) := by
  unfold f_Mo_begins
  rw [ql_build hbd ht, q_c, show (1024 : Int32) = nI 1024 from rfl, pk_mul, q_l, q_l]
  rfl
theorem ql_entered {K no sz kd b0 t a la : Nat} {T : MS} {F U Z : Nat → Int32} {R : Rg} {rm : List Nat} {tx : Int32} {nb : Nat → Nat} (hK : 2000 ≤ K) (hbd : bdA T rm) (htx : txR K T tx sz nb) (hR : rdS R rm b0 t a la) (ht : t < rm.length) (ht2 : 1024 < a + elN sz → t + 1 < rm.length) (ha0 : a ≤ 1024) (hla : la + 8 ≤ 1024) (hsz : sz ≤ 765) (hno : no < 2 ^ 31) (hkd : kd < 2 ^ 31) (hF : bkA F (rm.getD t 0) Z) (hz : 1024 < a + elN sz → bkA F (rm.getD (t + 1) 0) Zd) : ∃ F' U' R', f_Mo_entered K (qS T F U (t + 1) R) (nI (t + 1 - b0)) (nI no) tx (nI kd) (nI sz) = some (nI ((if a + elN sz ≤ 1024 then t else t + 1) + 1 - b0), qS T F' U' ((if a + elN sz ≤ 1024 then t else t + 1) + 1) R') ∧ (a + elN sz ≤ 1024 → rdS R' rm b0 t (a + elN sz) a ∧ bkA F' (rm.getD t 0) (enX Z a no sz kd nb (elN sz))) ∧ (1024 < a + elN sz → rdS R' rm b0 (t + 1) (elN sz) 0 ∧ bkA F' (rm.getD t 0) (st Z (la + 4) (1024 - la) 2) ∧ bkA F' (rm.getD (t + 1) 0) (enX Zd 0 no sz kd nb (elN sz))) ∧ (∀ q, farR rm t q → (1024 < a + elN sz → farR rm (t + 1) q) → o1 F' q = o1 F q) ∧ (∀ p, uM U p → uM U' (fun c => p c ∨ (1024 < a + elN sz ∧ c = rm.getD (t + 1) 0))) ∧ R'.1 = R.1 ∧ R'.2.2.2.2.2 = R.2.2.2.2.2 := by
  obtain ⟨r1, r2, r3, r4, r5⟩ := hR
  have hrl := hbd.2.1
  have hb := hbd.2.2.1 _ (getD_mem ht)
  have hel : 8 + sz ≤ elN sz ∧ elN sz ≤ 1024 := by unfold elN; omega
  unfold f_Mo_entered
  have hw : f_Mo_whole K (nI sz) 4 = some (nI ((sz + 4 - 1) / 4)) := qM_whole (b := 4) (by omega) (by decide) (by decide)
  have e1 : (8 : Int32) + nI ((sz + 4 - 1) / 4) * 4 = nI (elN sz) := by
    rw [show (4 : Int32) = nI 4 from rfl, pk_mul, show (8 : Int32) = nI 8 from rfl, nI_add]
    rfl
  rw [hw, q_b, e1, q_l]
  have e2 : (qS T F U (t + 1) R).v_filled + nI (elN sz) = nI (a + elN sz) := by rw [show (qS T F U (t + 1) R).v_filled = nI a from r2, nI_add]
  rw [e2]
  by_cases g : a + elN sz ≤ 1024
  · rw [if_pos (show nI (a + elN sz) ≤ 1024 from nI_le (b := 1024) g (by omega)), if_pos g]
    refine ⟨_, _, _, ql_en76 hK htx hb r1 r2 (by omega) hno hkd (by omega), fun _ => ⟨⟨r1, rfl, fun _ => rfl, r4, r5⟩, bk_en hF⟩, fun y => absurd g (by omega), fun q q1 _ => ?_, fun p hp c hc0 => ?_, rfl, rfl⟩
    · exact enR_out (by unfold farR at q1; omega)
    · rw [hp c hc0]
      exact b01_iff ⟨Or.inl, fun y => y.resolve_right (fun z => by omega)⟩
  · have g' : 1024 < a + elN sz := by omega
    have ht3 := ht2 g'
    have r3 := r3 (by omega)
    have hb2 := hbd.2.2.1 _ (getD_mem (l := rm) (j := t + 1) ht3)
    have hne : rm.getD t 0 ≠ rm.getD (t + 1) 0 := fun e => by have := nd_getD hbd.2.2.2 ht ht3 e; omega
    rw [if_neg (show ¬ nI (a + elN sz) ≤ 1024 from nI_ge (a := 1024) (by omega) (by omega)), if_neg g]
    have e3 : ((qS T F U (t + 1) R).v_spot + (qS T F U (t + 1) R).v_latest) + 4 = nI (1024 * rm.getD t 0 + (la + 4)) := by
      rw [show (qS T F U (t + 1) R).v_spot = nI (1024 * rm.getD t 0) from r1, show (qS T F U (t + 1) R).v_latest = nI la from r3, nI_add, show (4 : Int32) = nI 4 from rfl, nI_add, Nat.add_assoc]
    have e4 : (1024 : Int32) - (qS T F U (t + 1) R).v_latest = nI (1024 - la) := by rw [show (qS T F U (t + 1) R).v_latest = nI la from r3]; exact pk_sub (a := 1024) (by omega)
    rw [e3, e4, ql_2 (by omega) (by omega) (by omega), q_b, ql_begins hbd ht3, q_b, q_g (q_in (by omega) (by decide)), nI_clamp (by omega)]
    have e5 : (qS T (st F (1024 * rm.getD t 0 + (la + 4)) (1024 - la) 2) (upd U (rm.getD (t + 1) 0) (vp_nar .boolean 1)) (t + 1 + 1) (R.1, R.2.1, nI (1024 * rm.getD (t + 1) 0), nI 0, R.2.2.2.2)).v_spot / 1024 = nI (rm.getD (t + 1) 0) := by
      show nI (1024 * rm.getD (t + 1) 0) / 1024 = _
      rw [show (1024 : Int32) = nI 1024 from rfl, pk_div (by omega) (by decide) (by decide), Nat.mul_div_cancel_left _ (by decide)]
    rw [e5, q_l, nI_1, q_l, show t + 1 - b0 + 1 = t + 1 + 1 - b0 by omega]
    have e6 := ql_en76 (K := K) (no := no) (sz := sz) (kd := kd) (len := elN sz) (many := t + 1 + 1 - b0) (b := rm.getD (t + 1) 0) (a := 0) (T := T) (F := st F (1024 * rm.getD t 0 + (la + 4)) (1024 - la) 2) (U := upd U (rm.getD (t + 1) 0) (vp_nar .boolean 1)) (n := t + 1 + 1) (R := (R.1, upd R.2.1 (t + 1 - b0) (nI (rm.getD (t + 1) 0)), nI (1024 * rm.getD (t + 1) 0), nI 0, R.2.2.2.2)) hK htx hb2 rfl rfl (by omega) hno hkd (by omega)
    rw [Nat.zero_add] at e6
    refine ⟨_, _, _, e6, fun y => absurd y g, fun _ => ⟨⟨rfl, rfl, fun _ => rfl, by omega, fun s hs => ?_⟩, fun j hj => ?_, bk_en (fun j hj => ?_)⟩, fun q q1 q2 => ?_, fun p hp c hc0 => ?_, rfl, rfl⟩
    · show upd R.2.1 (t + 1 - b0) (nI (rm.getD (t + 1) 0)) s = _
      by_cases c : s = t + 1 - b0
      · rw [c, pk_us, show b0 + (t + 1 - b0) = t + 1 by omega]
      · rw [pk_un c]
        exact r5 s (by omega)
    · rw [enR_out (by omega)]
      exact bk_st hF j hj
    · rw [st_out (by omega)]
      exact hz g' j hj
    · have := q2 g'
      unfold farR at q1 this
      rw [enR_out (by omega), st_out (by omega)]
    · rw [uM_upd hp c hc0]
      exact b01_iff ⟨fun y => y.imp id (fun z => ⟨g', z⟩), fun y => y.imp id (fun z => z.2)⟩
