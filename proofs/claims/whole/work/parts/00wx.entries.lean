/-! A directory's entries, read back. -/
def eOf (s : Nat → Nat) (e : Nat) : Nat := (pkS s (e + 1)).2 - elN (s e)
def eBl (s : Nat → Nat) (e : Nat) : Nat := (pkS s (e + 1)).1 - 1
theorem pk_fit {s : Nat → Nat} {e : Nat} (h : (pkS s e).2 + elN (s e) ≤ 1024) : pkS s (e + 1) = ((pkS s e).1, (pkS s e).2 + elN (s e)) := by rw [pkS, if_pos h]
theorem pk_new {s : Nat → Nat} {e : Nat} (h : ¬ (pkS s e).2 + elN (s e) ≤ 1024) : pkS s (e + 1) = ((pkS s e).1 + 1, elN (s e)) := by rw [pkS, if_neg h]
theorem elN_ge (n : Nat) : 8 + n ≤ elN n := by unfold elN; omega
theorem elN_ge2 {n : Nat} (h : 1 ≤ n) : 12 ≤ elN n := by unfold elN; omega
theorem elN_lt {n : Nat} (h : n ≤ 765) : elN n ≤ 776 := by unfold elN; omega
theorem eOf_fit {s : Nat → Nat} {e : Nat} (h : (pkS s e).2 + elN (s e) ≤ 1024) : eOf s e = (pkS s e).2 ∧ eBl s e = (pkS s e).1 - 1 := by
  unfold eOf eBl
  rw [pk_fit h]
  exact ⟨Nat.add_sub_cancel _ _, rfl⟩
theorem eOf_new {s : Nat → Nat} {e : Nat} (h : ¬ (pkS s e).2 + elN (s e) ≤ 1024) : eOf s e = 0 ∧ eBl s e = (pkS s e).1 := by
  unfold eOf eBl
  rw [pk_new h]
  exact ⟨Nat.sub_self _, Nat.add_sub_cancel _ _⟩
theorem eOf_sum {s : Nat → Nat} (e : Nat) : eOf s e + elN (s e) = (pkS s (e + 1)).2 := by
  by_cases h : (pkS s e).2 + elN (s e) ≤ 1024
  · rw [(eOf_fit h).1, pk_fit h]
  · rw [(eOf_new h).1, pk_new h, Nat.zero_add]
theorem eBl_sum {s : Nat → Nat} (hs : ∀ e, s e ≤ 765) (e : Nat) : eBl s e + 1 = (pkS s (e + 1)).1 := by
  have := (pkS_le hs (e + 1)).1
  unfold eBl
  omega
abbrev enAt (no sz kd : Nat) (nb : Nat → Nat) (X : Nat → Int32) (p len : Nat) : Prop := o4 X p = no ∧ o2 X (p + 4) = len ∧ o1 X (p + 6) = sz ∧ o1 X (p + 7) = kd ∧ ∀ q, q < sz → o1 X (p + 8 + q) = nb q
theorem enAt_sh {no sz kd p q len : Nat} {nb : Nat → Nat} {X Y : Nat → Int32} (h : ∀ x, x < 8 + sz → o1 X (p + x) = o1 Y (q + x)) (y : enAt no sz kd nb Y q len) : enAt no sz kd nb X p len := by
  obtain ⟨a, b, c, d, e⟩ := y
  refine ⟨?_, ?_, ?_, ?_, fun k hk0 => ?_⟩
  · rw [← a]; exact o4_sh fun k hk0 => h k (by omega)
  · rw [← b]; exact o2_sh fun k hk0 => by rw [Nat.add_assoc, Nat.add_assoc]; exact h (4 + k) (by omega)
  · rw [h 6 (by omega)]; exact c
  · rw [h 7 (by omega)]; exact d
  · rw [← e k hk0, Nat.add_assoc, Nat.add_assoc]; exact h (8 + k) (by omega)
theorem en_put {no sz kd a len : Nat} {nb : Nat → Nat} {Z : Nat → Int32} (h1 : no < 2 ^ 32) (h2 : sz < 256) (h3 : kd < 256) (h4 : ∀ q, q < sz → nb q < 256) (h5 : len < 65536) : enAt no sz kd nb (enX Z a no sz kd nb len) a len := by
  unfold enX enY
  refine ⟨o4_of h1 fun k hk0 => ?_, o2_of h5 fun k hk0 => ?_, ?_, ?_, fun q hq => ?_⟩
  · rw [st_out (by omega), nbX_o1, if_neg (by omega), st_out (by omega), st_out (by omega), st_o1, if_pos (by omega), Nat.add_sub_cancel_left]
  · rw [st_o1, if_pos (by omega), Nat.add_sub_cancel_left]
  · rw [st_out (by omega), nbX_o1, if_neg (by omega), st_out (by omega), st_o1, if_pos (by omega), Nat.sub_self, Nat.pow_zero, Nat.div_one, Nat.mod_eq_of_lt h2]
  · rw [st_out (by omega), nbX_o1, if_neg (by omega), st_o1, if_pos (by omega), Nat.sub_self, Nat.pow_zero, Nat.div_one, Nat.mod_eq_of_lt h3]
  · rw [st_out (by omega), nbX_o1, if_pos (by omega), Nat.add_sub_cancel_left, Nat.mod_eq_of_lt (h4 q hq)]
theorem en_low {no sz kd a len q : Nat} {nb : Nat → Nat} {Z : Nat → Int32} (h : q < a) : o1 (enX Z a no sz kd nb len) q = o1 Z q := by
  unfold enX enY
  rw [st_out (by omega), nbX_o1, if_neg (by omega), st_out (by omega), st_out (by omega), st_out (by omega)]
abbrev eAt (D : Nat → Int32) (fks : List Nat) (its : List It) (i e : Nat) (X : Nat → Int32) (p len : Nat) : Prop := enAt (eNu fks its i e) (eSz fks its i e) (eKd D fks its i e) (eNb fks its i e) X p len
theorem dw_close {D : Nat → Int32} {fks : List Nat} {its : List It} {i b la e f : Nat} {X Z : Nat → Int32} (hb : bkA X b (st Z (la + 4) (1024 - la) 2)) (hI : ∀ e', f ≤ e' → e' < e → eOf (eSz fks its i) e' + elN (eSz fks its i e') ≤ 1024 ∧ eAt D fks its i e' Z (eOf (eSz fks its i) e') (elN (eSz fks its i e')) ∧ (e' + 1 < e → eOf (eSz fks its i) e' + elN (eSz fks its i e') ≤ la)) (hl : f < e → la = eOf (eSz fks its i) (e - 1)) : ∀ e', f ≤ e' → e' < e → eAt D fks its i e' X (1024 * b + eOf (eSz fks its i) e') (if e' + 1 < e then elN (eSz fks its i e') else 1024 - eOf (eSz fks its i) e') := by
  intro e' h1 h2
  obtain ⟨i1, i2, i3⟩ := hI e' h1 h2
  have hge := elN_ge (eSz fks its i e')
  have hx : ∀ x, x < 8 + eSz fks its i e' → o1 X (1024 * b + eOf (eSz fks its i) e' + x) = o1 (st Z (la + 4) (1024 - la) 2) (eOf (eSz fks its i) e' + x) := fun x hx => by
    rw [Nat.add_assoc]
    exact hb _ (by omega)
  by_cases c : e' + 1 < e
  · rw [if_pos c]
    have := i3 c
    exact enAt_sh hx (enAt_sh (fun x hx => st_out (by omega)) i2)
  · rw [if_neg c]
    have e1 : la = eOf (eSz fks its i) e' := by rw [hl (by omega)]; congr 1; omega
    refine enAt_sh hx ?_
    obtain ⟨a, -, c3, d, e5⟩ := i2
    rw [e1]
    refine ⟨?_, o2_of (by omega) (fun k hk0 => by rw [st_o1, if_pos (by omega), Nat.add_sub_cancel_left]), by rw [st_out (by omega)]; exact c3, by rw [st_out (by omega)]; exact d, fun q hq => by rw [st_out (by omega)]; exact e5 q hq⟩
    rw [← a]
    exact o4_sh fun k hk0 => st_out (by omega)
theorem dw_rd {D : Nat → Int32} {fks : List Nat} {its : List It} {i b0 M : Nat} {rm : List Nat} {X : Nat → Int32} (hs : ∀ e, eSz fks its i e ≤ 765) (hen : ∀ e Z a, e < M → eAt D fks its i e (enD D fks its i e Z a) a (elN (eSz fks its i e))) : ∀ (n e : Nat) (Z : Nat → Int32) (a la t f : Nat), e + n = M → a = (pkS (eSz fks its i) e).2 → t + 1 = b0 + (pkS (eSz fks its i) e).1 → f ≤ e → (∀ e', f ≤ e' → e' < e → eBl (eSz fks its i) e' + 1 = (pkS (eSz fks its i) e).1 ∧ eOf (eSz fks its i) e' + elN (eSz fks its i e') ≤ a ∧ eAt D fks its i e' Z (eOf (eSz fks its i) e') (elN (eSz fks its i e')) ∧ (e' + 1 < e → eOf (eSz fks its i) e' + elN (eSz fks its i e') ≤ la)) → (f < e → la = eOf (eSz fks its i) (e - 1)) → agW X (dwG D fks its i rm n e Z a la t) → ∀ e', f ≤ e' → e' < M → eAt D fks its i e' X (1024 * rm.getD (b0 + eBl (eSz fks its i) e') 0 + eOf (eSz fks its i) e') (if e' + 1 < M ∧ eBl (eSz fks its i) (e' + 1) = eBl (eSz fks its i) e' then elN (eSz fks its i e') else 1024 - eOf (eSz fks its i) e') := by
  intro n
  induction n with
  | zero =>
    intro e Z a la t f e1 e2 e3 e4 hI hl hag e' h1 h2
    rw [dwG] at hag
    have hpk := pkS_le hs e
    have := dw_close (D := D) (agW_bl hag (fun w hw => hw)) (fun e' h1 h2 => ⟨by have := (hI e' h1 h2).2.1; omega, (hI e' h1 h2).2.2⟩) hl e' h1 (by omega)
    have hb := (hI e' h1 (by omega)).1
    rw [show b0 + eBl (eSz fks its i) e' = t by omega]
    by_cases c : e' + 1 < e
    · have hb2 := (hI (e' + 1) (by omega) c).1
      rw [if_pos ⟨by omega, by omega⟩]
      rw [if_pos c] at this
      exact this
    · rw [if_neg (by omega)]
      rw [if_neg c] at this
      exact this
  | succ n ih =>
    intro e Z a la t f e1 e2 e3 e4 hI hl hag e' h1 h2
    have hpk := pkS_le hs e
    rw [dwG] at hag
    by_cases g : a + elN (eSz fks its i e) ≤ 1024
    · rw [if_pos g] at hag
      rw [e2] at g
      obtain ⟨w1, w2⟩ := eOf_fit g
      have hpf := pk_fit g
      refine ih (e + 1) (enD D fks its i e Z a) (a + elN (eSz fks its i e)) a t f (by omega) (by rw [hpf, e2]) (by rw [hpf]; exact e3) (by omega) (fun e'' k1 k2 => ?_) (fun _ => by rw [Nat.add_sub_cancel, w1]; exact e2) hag e' h1 h2
      by_cases c : e'' = e
      · rw [c]
        refine ⟨by rw [hpf, w2]; show _ = (pkS (eSz fks its i) e).1; omega, by rw [w1]; omega, ?_, fun y => by omega⟩
        rw [w1, ← e2]
        exact hen e Z a (by omega)
      · obtain ⟨j1, j2, j3, j4⟩ := hI e'' k1 (by omega)
        have hge := elN_ge (eSz fks its i e'')
        refine ⟨by rw [hpf]; exact j1, by omega, enAt_sh (fun x hx => en_low (by omega)) j3, fun _ => j2⟩
    · rw [if_neg g] at hag
      rw [e2] at g
      obtain ⟨w1, w2⟩ := eOf_new g
      have hpf := pk_new g
      by_cases c : e ≤ e'
      · refine ih (e + 1) (enD D fks its i e Zd 0) (elN (eSz fks its i e)) 0 (t + 1) e (by omega) (by rw [hpf]) (by rw [hpf]; show _ = b0 + ((pkS (eSz fks its i) e).1 + 1); omega) (by omega) (fun e'' k1 k2 => ?_) (fun _ => by rw [Nat.add_sub_cancel, w1]) (fun w hw => hag w (List.mem_append_right _ hw)) e' c h2
        have c2 : e'' = e := by omega
        rw [c2]
        refine ⟨by rw [hpf, w2], by rw [w1]; omega, ?_, fun y => by omega⟩
        rw [w1]
        exact hen e Zd 0 (by omega)
      · have := dw_close (D := D) (agW_bl (fun w hw => hag w (List.mem_append_left _ hw)) (fun w hw => hw)) (fun e' h1 h2 => ⟨by have := (hI e' h1 h2).2.1; omega, (hI e' h1 h2).2.2⟩) hl e' h1 (by omega)
        have hb := (hI e' h1 (by omega)).1
        rw [show b0 + eBl (eSz fks its i) e' = t by omega]
        by_cases c3 : e' + 1 < e
        · have hb2 := (hI (e' + 1) (by omega) c3).1
          rw [if_pos ⟨by omega, by omega⟩]
          rw [if_pos c3] at this
          exact this
        · have e5 : e' + 1 = e := by omega
          rw [if_neg (by rw [e5, w2]; omega)]
          rw [if_neg c3] at this
          exact this
/-! The class walks over them. -/
theorem fe_walk {K N M pos bl : Nat} {s bk : Nat → Nat} {X : Nat → Int32} {G : CG} {S : CS} (hK : 100000 ≤ K) (hG : G.n = N) (hS : S.w_Dk_bytes = X) (hN : N ≤ 1024) (hs : ∀ e, s e ≤ 765 ∧ 1 ≤ s e) (hM : 1 ≤ M ∧ M ≤ 50000) (hbl : bl = (pkS s M).1) (hblk : ∀ (j : Nat) (w : Int32), j < bl → f_In_blockOf K G (S.u_v_In_seen w) (nI pos) (nI j) = some (nI (bk j), S.u_v_In_seen w)) (hbk : ∀ j, j < bl → 1024 * bk j + 1024 ≤ 512 * N) (hln : ∀ e, e < M → o2 X (1024 * bk (eBl s e) + eOf s e + 4) = if e + 1 < M ∧ eBl s (e + 1) = eBl s e then elN (s e) else 1024 - eOf s e) {y rv : Int32} {m : Nat} : ∀ (d e w1 w2 : Nat), e + d = M → 1 ≤ d → d < w1 + 1 → d < w2 → ((∃ k, e ≤ k ∧ k < M ∧ y = nI k ∧ rv = nI (1024 * bk (eBl s k) + eOf s k) ∧ m = k) ∨ ((∀ e', e' < M → ¬ nI e' = y) ∧ rv = -1 ∧ m = M)) → f_In_findEntry_56 K G (f_In_findEntry_33 K G w1) w2 y (nI pos) (nI bl) (nI (eBl s e)) (nI (1024 * bk (eBl s e))) (nI (eOf s e)) (S.u_v_In_seen (nI e)) = some (rv, S.u_v_In_seen (nI m)) := by
  intro d
  have hs1 : ∀ e, s e ≤ 765 := fun e => (hs e).1
  induction d with
  | zero => intro e w1 w2 e1 e2; omega
  | succ d ih =>
    intro e w1 w2 e1 _ e3 e4 hy
    obtain ⟨w2, rfl⟩ : ∃ m, w2 = m + 1 := ⟨w2 - 1, by omega⟩
    have hpk := pkS_le hs1 (e + 1)
    have hsum := eOf_sum (s := s) e
    have hblS := eBl_sum hs1 e
    have hlen := elN_ge2 (hs e).2
    have hmono : (pkS s (e + 1)).1 ≤ (pkS s M).1 := by
      have := pkS_mono (s := s) (e := e + 1) d
      rw [show e + 1 + d = M by omega] at this
      exact this
    have hin := hbk (eBl s e) (by omega)
    have hle := pkS_le hs1 M
    rw [f_In_findEntry_56, show (1024 : Int32) = nI 1024 from rfl, if_neg (nI_ge (by omega) (by omega)), show (S.u_v_In_seen (nI e)).v_In_seen = nI e from rfl]
    by_cases c : nI e = y
    · rw [if_pos c, nI_add]
      rcases hy with ⟨k, k1, k2, k3, k4, k5⟩ | ⟨k1, -, -⟩
      · have : e = k := (nI_eq (a := e) (b := k) (by omega) (by omega)).mp (c.trans k3)
        rw [k4, k5, ← this]
      · exact absurd c (k1 e (by omega))
    · rw [if_neg c, nI_1, q_l, show (4 : Int32) = nI 4 from rfl, nI_add, nI_add, rV2 X (S := (S.u_v_In_seen (nI e)).u_v_In_seen (nI (e + 1))) hG hS hN (by omega), q_c, hln e (by omega)]
      have hst : (S.u_v_In_seen (nI e)).u_v_In_seen (nI (e + 1)) = S.u_v_In_seen (nI (e + 1)) := rfl
      rw [hst]
      have hy2 : (∃ k, e + 1 ≤ k ∧ k < M ∧ y = nI k ∧ rv = nI (1024 * bk (eBl s k) + eOf s k) ∧ m = k) ∨ ((∀ e', e' < M → ¬ nI e' = y) ∧ rv = -1 ∧ m = M) := by
        rcases hy with ⟨k, k1, k2, k3, k4⟩ | k
        · refine Or.inl ⟨k, ?_, k2, k3, k4⟩
          have : e ≠ k := fun y => c (by rw [y]; exact k3.symm)
          omega
        · exact Or.inr k
      by_cases c2 : e + 1 < M ∧ eBl s (e + 1) = eBl s e
      · have hfit : (pkS s (e + 1)).2 + elN (s (e + 1)) ≤ 1024 := by
          apply Classical.byContradiction
          intro g
          have := (eOf_new g).2
          omega
        have ho := (eOf_fit hfit).1
        rw [if_pos c2, if_neg (show ¬ nI (elN (s e)) < 12 from nI_nlt (b := 12) (by omega) (by have := elN_lt (hs e).1; omega)), nI_add, q_l, hsum, ← ho, ← c2.2]
        exact ih (e + 1) w1 w2 (by omega) (by omega) (by omega) (by omega) hy2
      · rw [if_neg c2, if_neg (show ¬ nI (1024 - eOf s e) < 12 from nI_nlt (b := 12) (by omega) (by omega)), nI_add, q_l, show eOf s e + (1024 - eOf s e) = 1024 by omega]
        obtain ⟨w2, rfl⟩ : ∃ m, w2 = m + 1 := ⟨w2 - 1, by omega⟩
        obtain ⟨w1, rfl⟩ : ∃ m, w1 = m + 1 := ⟨w1 - 1, by omega⟩
        rw [f_In_findEntry_56, show (1024 : Int32) = nI 1024 from rfl, if_pos (nI_le (Nat.le_refl _) (by omega)), nI_1, q_l, f_In_findEntry_33]
        by_cases c3 : e + 1 < M
        · have hnf : ¬ (pkS s (e + 1)).2 + elN (s (e + 1)) ≤ 1024 := fun g => c2 ⟨c3, by have := (eOf_fit g).2; omega⟩
          obtain ⟨z1, z2⟩ := eOf_new hnf
          have hbl2 : eBl s (e + 1) < bl := by
            have h1 := eBl_sum hs1 (e + 1)
            have := pkS_mono (s := s) (e := e + 1 + 1) (M - (e + 2))
            rw [show e + 1 + 1 + (M - (e + 2)) = M by omega] at this
            omega
          rw [if_neg (nI_ge (by omega) (by omega)), show eBl s e + 1 = eBl s (e + 1) by omega, hblk _ _ hbl2, q_c, show (1024 : Int32) = nI 1024 from rfl, pk_mul, q_l, Nat.mul_comm]
          have := ih (e + 1) w1 K (by omega) (by omega) (by omega) (by omega) hy2
          rw [z1] at this
          exact this
        · have he : M = e + 1 := by omega
          rw [if_pos (nI_le (by rw [hbl, he]; omega) (by omega))]
          rcases hy2 with ⟨k, k1, k2, -⟩ | ⟨-, k2, k3⟩
          · omega
          · rw [k2, k3, he]
