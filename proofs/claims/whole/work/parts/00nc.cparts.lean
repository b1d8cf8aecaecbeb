/-! Twins, dots, parts in the class. -/
abbrev mpOk (N : Nat) (D E : Nat → Int32) (mp : Nat → Nat) (its : List It) : Prop := ∀ j, 1 ≤ j → j < its.length → slq E (mp (isp (itr its j))) D (isp (itr its j)) ∧ mp (isp (itr its j)) + 32 ≤ 512 * N
theorem ss_iff {D E : Nat → Int32} {a a' b b' : Nat} (h1 : slq E a' D a) (h2 : slq E b' D b) : (∀ q, q < 11 → o1 E (a' + q) = o1 E (b' + q)) ↔ ssP D a b := by
  unfold ssP
  refine ⟨fun h q hq => ?_, fun h q hq => ?_⟩
  · rw [← h1 q (by omega), ← h2 q (by omega)]; exact h q hq
  · rw [h1 q (by omega), h2 q (by omega)]; exact h q hq
theorem qC_twin {K N d fk p p' : Nat} {G : CG} {D E : Nat → Int32} {mp : Nat → Nat} {its : List It} {S : CS} {us : List Nat} (hK : 10000 ≤ K) (hG : gOk N G) (hN : N ≤ 1024) (hE : S.w_Dk_bytes = E) (hS : rcI D mp its S) (hl : its.length ≤ G.l_parent) (hp : (uns its).length ≤ G.l_pool) (ho : itsOk N its) (hm : mpOk N D E mp its) (hd : d < its.length) (hk : S.w_Tr_kids d = nI fk) (h1 : 1 ≤ fk) (h2 : fk ≤ its.length) (hq : slq E p' D p) (hp' : p' + 32 ≤ 512 * N) (hus : us.length ≤ 260) (hb : bufR S.w_Rd_units us) (hlt : ∀ u ∈ us, u < 65536) : f_Rd_hasTwin K G S (nI d) (nI p') (nI us.length) = some (b01 (enTw D its fk p us), S) := by
  have hlen := ho.2.1
  have loop : ∀ (e j k : Nat), j + e = its.length → 1 ≤ j → e < k → f_Rd_hasTwin_11 K G k (nI p') (nI us.length) (nI j) S = some (b01 (enTw D its j p us), S) := by
    intro e
    induction e with
    | zero =>
      intro j k g1 g2 g3
      obtain ⟨k, rfl⟩ : ∃ q, k = q + 1 := ⟨k - 1, by omega⟩
      rw [f_Rd_hasTwin_11, hS.1, if_pos (nI_le (by omega) (by omega)), b01_f (fun ⟨q, a, b, _⟩ => by omega)]; rfl
    | succ e ih =>
      intro j k g1 g2 g3
      obtain ⟨k, rfl⟩ : ∃ q, k = q + 1 := ⟨k - 1, by omega⟩
      obtain ⟨m1, m2⟩ := hm j g2 (by omega)
      have es : spI mp its j = mp (isp (itr its j)) := if_neg (by omega)
      have hnl := (ho.2.2.2.2 j g2 (by omega)).2.2.2.2.1
      rw [f_Rd_hasTwin_11, hS.1, if_neg (nI_ge (by omega) (by omega)), qC_spot hG hS hl (by omega), q_c, es, qC_same (by omega) hG.1 hE hN (by omega) (by omega), q_c, b01_iff (ss_iff m1 hq)]
      unfold f_Rd_hasTwin_57
      by_cases w : ssP D (isp (itr its j)) p
      · rw [b01_t w, if_neg (by decide), b01_t ⟨j, Nat.le_refl _, by omega, Or.inr w⟩]; rfl
      · rw [b01_f w, if_pos (by decide), qC_named (by omega) hG hS hl hp ho.2.2.2.1 (by omega) hus hb hlt (by omega), q_c]
        by_cases y : alk (inm (itr its j)) us
        · rw [b01_t y, if_neg (by decide), b01_t ⟨j, Nat.le_refl _, by omega, Or.inl y⟩]; rfl
        · rw [b01_f y, if_pos (by decide), q_l, nI_1, ih (j + 1) k (by omega) (by omega) (by omega)]
          congr 2
          refine b01_iff ⟨fun ⟨q, a, b, c⟩ => ⟨q, by omega, b, c⟩, fun ⟨q, a, b, c⟩ => ⟨q, ?_, b, c⟩⟩
          rcases Nat.lt_or_ge j q with v | v
          · exact v
          · obtain rfl : q = j := by omega
            exact absurd c (fun c => c.elim y w)
  unfold f_Rd_hasTwin f_Tr_kid
  rw [qC_has hS.1 (by omega) (by omega), b01_t hd, q_c, if_neg (by decide), q_g (q_in (by have := hG.2.1; omega) (by have := hG.2.1; omega)), nI_clamp (by omega), hk, q_c, show (0 : Int32) = nI 0 from rfl, nI_add, Nat.add_zero, loop (its.length - fk) fk K (by omega) h1 (by omega)]
theorem qC_dots {K N d p p' s : Nat} {G : CG} {D E : Nat → Int32} {mp : Nat → Nat} {its : List It} {S : CS} (hK : 1000 ≤ K) (hG : gOk N G) (hN : N ≤ 1024) (hE : S.w_Dk_bytes = E) (hS : rcI D mp its S) (hl : its.length ≤ G.l_parent) (ho : itsOk N its) (h1 : 1 ≤ d) (hd : d < its.length) (hs : s < 2) (hq : slq E p' D p) (hp' : p' + 32 ≤ 512 * N) : f_Rd_isDots K G S (nI d) (nI (s + 1)) (nI p') = some (b01 (dtP D its p d s), S) := by
  have hlen := ho.2.1
  have hpar := (ho.2.2.2.2 d h1 hd).2.2.2.1
  have last : ∀ z, z < 2 ^ 32 → f_Rd_isDots_89 K G (nI p') (nI z) S = some (b01 (o1 D (p + 11) = 16 ∧ fc D p = z), S) := by
    intro z hz
    have h11 := o1_lt D (p + 11)
    have hf := fc_lt D p
    unfold f_Rd_isDots_89 f_Rd_isDots_121
    rw [show (11 : Int32) = nI 11 from rfl, nI_add, rV1 E hG.1 hE hN (by omega), q_c, hq 11 (by decide)]
    by_cases g : o1 D (p + 11) = 16
    · rw [if_pos (by rw [g]; rfl), qV_first hG.1 hE hN (by omega), q_c, slq_fc hq]
      by_cases e : fc D p = z
      · rw [if_pos (by rw [e]), b01_t ⟨g, e⟩]; rfl
      · rw [if_neg (fun y => e ((q_eqW hf hz).mp y)), b01_f (fun y => e y.2)]; rfl
    · rw [if_neg (fun z : nI (o1 D (p + 11)) = 16 => g ((nI_eq (b := 16) (by omega) (by omega)).mp z)), b01_f (fun z => g z.1)]; rfl
  have loop : ∀ (e i k : Nat), i + e = 11 → e < k → f_Rd_isDots_3 K G k (nI d) (nI (s + 1)) (nI p') (nI i) S = some (b01 ((∀ q, i ≤ q → q < 11 → o1 D (p + q) = (if q ≤ s then 46 else 32)) ∧ o1 D (p + 11) = 16 ∧ fc D p = (if s = 0 then begI D its d else if ipa (itr its d) = 0 then 0 else begI D its (ipa (itr its d)))), S) := by
    intro e
    induction e with
    | zero =>
      intro i k g1 g2
      obtain ⟨k, rfl⟩ : ∃ q, k = q + 1 := ⟨k - 1, by omega⟩
      obtain rfl : i = 11 := by omega
      rw [f_Rd_isDots_3, if_pos (by decide), qC_parent hG hS hl hd, q_c]
      have fin : ∀ z, some (b01 (o1 D (p + 11) = 16 ∧ fc D p = z), S) = some (b01 ((∀ q, 11 ≤ q → q < 11 → o1 D (p + q) = (if q ≤ s then 46 else 32)) ∧ o1 D (p + 11) = 16 ∧ fc D p = z), S) := fun z => by
        congr 2
        exact b01_iff ⟨fun w => ⟨fun q a b => by omega, w⟩, fun w => w.2⟩
      by_cases g : s = 0
      · rw [if_pos (by rw [g]; rfl), qC_first hG hS hl hd, q_c, last _ (begI_lt D its d), if_pos g, fin]
      · rw [if_neg (fun w : nI (s + 1) = 1 => g (by have := (nI_eq (b := 1) (by omega) (by omega)).mp w; omega)), if_neg g]
        by_cases y : ipa (itr its d) = 0
        · rw [if_pos (by rw [y]; rfl), if_pos y, show (0 : Int32) = nI 0 from rfl, last 0 (by decide), fin]
        · rw [if_neg (nI_ne0 (by omega) (by omega)), if_neg y, qC_first hG hS hl (by omega), q_c, last _ (begI_lt D its _), fin]
    | succ e ih =>
      intro i k g1 g2
      obtain ⟨k, rfl⟩ : ∃ q, k = q + 1 := ⟨k - 1, by omega⟩
      have h0 := o1_lt D (p + i)
      rw [f_Rd_isDots_3, if_neg (show ¬ 11 ≤ nI i from nI_ge (b := 11) (by omega) (by decide)), nI_add, rV1 E hG.1 hE hN (by omega), q_c, hq i (by omega)]
      unfold f_Rd_isDots_34
      have c : nI (s + 1) ≤ nI i ↔ s + 1 ≤ i := nI_leI (by omega) (by omega)
      have fin : ∀ v : Nat, v = (if i ≤ s then 46 else 32) → v < 256 → (if nI (o1 D (p + i)) = nI v then (lf_l (nI i + 1) fun x_14 => f_Rd_isDots_3 K G k (nI d) (nI (s + 1)) (nI p') x_14 S) else some (0, S)) = some (b01 ((∀ q, i ≤ q → q < 11 → o1 D (p + q) = (if q ≤ s then 46 else 32)) ∧ o1 D (p + 11) = 16 ∧ fc D p = (if s = 0 then begI D its d else if ipa (itr its d) = 0 then 0 else begI D its (ipa (itr its d)))), S) := by
        intro v hv hv2
        by_cases w : o1 D (p + i) = v
        · rw [if_pos (by rw [w]), q_l, nI_1, ih (i + 1) k (by omega) (by omega)]
          congr 2
          refine b01_iff ⟨fun z => ⟨fun j a b => ?_, z.2⟩, fun z => ⟨fun j a b => z.1 j (by omega) b, z.2⟩⟩
          rcases Nat.lt_or_ge i j with y | y
          · exact z.1 j y b
          · obtain rfl : j = i := by omega
            rw [w, hv]
        · rw [if_neg (fun y => w ((nI_eq (by omega) (by omega)).mp y)), b01_f (fun z => w ((z.1 i (Nat.le_refl _) (by omega)).trans hv.symm))]; rfl
      by_cases g : i ≤ s
      · rw [if_neg (fun z => by have := c.mp z; omega)]
        exact fin 46 (by rw [if_pos g]) (by decide)
      · rw [if_pos (c.mpr (by omega))]
        exact fin 32 (by rw [if_neg g]) (by decide)
  unfold f_Rd_isDots
  rw [show (0 : Int32) = nI 0 from rfl, loop 11 0 K rfl (by omega)]
  congr 2
  exact b01_iff ⟨fun z => ⟨fun q hq => z.1 q (Nat.zero_le _) hq, z.2⟩, fun z => ⟨fun q _ hq => z.1 q hq, z.2⟩⟩
/-- how the class holds the parts that wait -/
abbrev rcP (x : Pend) (S : CS) : Prop := S.v_Rd_parts = nI (if pM x = 0 then 0 else pM x + pL x) ∧ (pM x ≠ 0 → S.v_Rd_toCome = nI (pL x) ∧ S.v_Rd_sum = nI (pS x) ∧ ∀ q, q < 13 * pM x → S.w_Rd_units (13 * pL x + q) = nI ((pU x).getD q 0))
def ncF (S : CS) (a b c : Int32) (d : Nat → Int32) : CS := (((S.u_v_Rd_parts a).u_v_Rd_toCome b).u_v_Rd_sum c).u_w_Rd_units d
theorem qC_unitPlace {K q : Nat} (h : q < 13) : f_Rd_unitPlace K (nI q) = some (nI (uAt q)) := by
  unfold f_Rd_unitPlace uAt
  have c5 : 5 ≤ nI q ↔ 5 ≤ q := nI_leI (a := 5) (by decide) (by omega)
  have c11 : 11 ≤ nI q ↔ 11 ≤ q := nI_leI (a := 11) (by decide) (by omega)
  rw [show (6 : Int32) = nI 6 from rfl, show (2 : Int32) = nI 2 from rfl, show (4 : Int32) = nI 4 from rfl, pk_mul, nI_add, nI_add, show (1 : Int32) = nI 1 from rfl, nI_add]
  by_cases g5 : 5 ≤ q
  · rw [if_pos (c5.mpr g5), if_neg (show ¬ q < 5 by omega)]
    by_cases g11 : 11 ≤ q
    · rw [if_pos (c11.mpr g11), if_neg (show ¬ q < 11 by omega)]
    · rw [if_neg (fun z => g11 (c11.mp z)), if_pos (show q < 11 by omega)]
  · rw [if_neg (fun z => g5 (c5.mp z)), if_pos (show q < 5 by omega)]
theorem qC_part125 {K N p p' l : Nat} {G : CG} {D E : Nat → Int32} {S : CS} (hK : 1000 ≤ K) (hG : G.n = N) (hN : N ≤ 1024) (hE : S.w_Dk_bytes = E) (hq : slq E p' D p) (hp' : p' + 32 ≤ 512 * N) (hl : l < 20) (hL : S.v_Rd_toCome = nI l) : f_Rd_readPart_125 K G K (nI p') 0 S = some (nI 1, S.u_w_Rd_units (fun j => if 13 * l ≤ j ∧ j < 13 * l + 13 then nI ((chunk D p).getD (j - 13 * l) 0) else S.w_Rd_units j)) := by
  have key := lp (F := fun k i T => f_Rd_readPart_125 K G k (nI p') (nI i) T) (Inv := fun i s => s = S.u_w_Rd_units (fun j => if 13 * l ≤ j ∧ j < 13 * l + i then nI ((chunk D p).getD (j - 13 * l) 0) else S.w_Rd_units j)) (Post := fun r => r = some (nI 1, S.u_w_Rd_units (fun j => if 13 * l ≤ j ∧ j < 13 * l + 13 then nI ((chunk D p).getD (j - 13 * l) 0) else S.w_Rd_units j))) (n := 13) ?_ ?_ 13 0 K S (by omega) (by omega) ?_
  · exact key
  · intro i s k hi hI
    left
    refine ⟨_, rfl, ?_⟩
    have hsE : s.w_Dk_bytes = E := by rw [hI]; exact hE
    have hsL : s.v_Rd_toCome = nI l := by rw [hI]; exact hL
    have hsu : s.w_Rd_units = (fun j => if 13 * l ≤ j ∧ j < 13 * l + i then nI ((chunk D p).getD (j - 13 * l) 0) else S.w_Rd_units j) := by rw [hI]; rfl
    have hu := uAt_lt hi
    have e0 : s.v_Rd_toCome * 13 + nI i = nI (13 * l + i) := by rw [hsL, show (13 : Int32) = nI 13 from rfl, pk_mul, nI_add, Nat.mul_comm]
    rw [f_Rd_readPart_125, if_neg (show ¬ 13 ≤ nI i from nI_ge (b := 13) hi (by decide)), qC_unitPlace hi, q_b, nI_add, rV2 E hG hsE hN (by omega), q_c, e0, q_g (q_in (by omega) (by decide)), q_l, q_l, nI_1, nI_clamp (by omega), slq_2 hq (by omega)]
    congr 1
    rw [hsu, hI]
    show S.u_w_Rd_units _ = S.u_w_Rd_units _
    congr 1
    funext j
    by_cases g : j = 13 * l + i
    · rw [g, pk_us, if_pos (by omega), show 13 * l + i - 13 * l = i by omega, chunk_get D p hi]
    · rw [pk_un g]
      by_cases g2 : 13 * l ≤ j ∧ j < 13 * l + i
      · rw [if_pos g2, if_pos (by omega)]
      · rw [if_neg g2, if_neg (by omega)]
  · intro s k hI
    rw [f_Rd_readPart_125, if_pos (by decide), hI]
    rfl
  · show S = S.u_w_Rd_units _
    rw [show (fun j => if 13 * l ≤ j ∧ j < 13 * l + 0 then nI ((chunk D p).getD (j - 13 * l) 0) else S.w_Rd_units j) = S.w_Rd_units from funext (fun j => if_neg (by omega))]
    rfl
theorem qC_part {K N p p' : Nat} {G : CG} {D E : Nat → Int32} {S : CS} {x : Pend} (hK : 1000 ≤ K) (hG : G.n = N) (hN : N ≤ 1024) (hE : S.w_Dk_bytes = E) (hq : slq E p' D p) (hp' : p' + 32 ≤ 512 * N) (hnz : o1 D p ≠ 0) (hx : peOk x) (hS : rcP x S) : ∃ a b c d, f_Rd_readPart K G S (nI p') = some (b01 (ptP D p x), ncF S a b c d) ∧ (ptP D p x → rcP (ptN D p x) (ncF S a b c d)) := by
  obtain ⟨t1, t2⟩ := hS
  obtain ⟨x1, x2, x3, x4⟩ := hx
  have r0 := o1_lt D p
  have r12 := o1_lt D (p + 12)
  have r13 := o1_lt D (p + 13)
  have r26 := o2_lt D (p + 26)
  have back : ∀ (n l s : Nat) (S1 : CS), (∃ a b c, S1 = ncF S a b c S.w_Rd_units) → n < 256 → 1 ≤ n → l ≤ 20 → s < 256 → S1.v_Rd_toCome = nI l → S1.v_Rd_sum = nI s → ∃ a b c d, f_Rd_readPart_57 K G (nI p') (nI n) S1 = some (b01 (n = l ∧ o1 D (p + 12) = 0 ∧ o2 D (p + 26) = 0 ∧ o1 D (p + 13) = s), ncF S a b c d) ∧ ((n = l ∧ o1 D (p + 12) = 0 ∧ o2 D (p + 26) = 0 ∧ o1 D (p + 13) = s) → a = S1.v_Rd_parts ∧ b = nI (l - 1) ∧ c = nI s ∧ d = (fun j => if 13 * (l - 1) ≤ j ∧ j < 13 * (l - 1) + 13 then nI ((chunk D p).getD (j - 13 * (l - 1)) 0) else S.w_Rd_units j)) := by
    intro n l s S1 hS1 hn hn1 hl hs hL hsum
    obtain ⟨a, b, c, hS1⟩ := hS1
    have hE1 : S1.w_Dk_bytes = E := by rw [hS1]; exact hE
    have same : ncF S S1.v_Rd_parts S1.v_Rd_toCome S1.v_Rd_sum S1.w_Rd_units = S1 := by rw [hS1]; rfl
    unfold f_Rd_readPart_57 f_Rd_readPart_111
    rw [hL]
    by_cases g0 : n = l
    rotate_left
    · rw [if_neg (fun z => g0 ((nI_eq (by omega) (by omega)).mp z))]
      exact ⟨S1.v_Rd_parts, S1.v_Rd_toCome, S1.v_Rd_sum, S1.w_Rd_units, by rw [same, b01_f (fun z => g0 z.1)]; rfl, fun z => absurd z.1 g0⟩
    rw [if_pos (by rw [g0]), show (12 : Int32) = nI 12 from rfl, nI_add, rV1 E hG hE1 hN (by omega), q_c, hq 12 (by decide)]
    by_cases g1 : o1 D (p + 12) = 0
    rotate_left
    · rw [if_neg (fun z : nI (o1 D (p + 12)) = 0 => g1 ((nI_eq (b := 0) (by omega) (by omega)).mp z))]
      exact ⟨S1.v_Rd_parts, S1.v_Rd_toCome, S1.v_Rd_sum, S1.w_Rd_units, by rw [same, b01_f (fun z => g1 z.2.1)]; rfl, fun z => absurd z.2.1 g1⟩
    rw [if_pos (by rw [g1]; rfl), show (26 : Int32) = nI 26 from rfl, nI_add, rV2 E hG hE1 hN (by omega), q_c, slq_2 hq (by decide)]
    by_cases g2 : o2 D (p + 26) = 0
    rotate_left
    · rw [if_neg (fun z : nI (o2 D (p + 26)) = 0 => g2 ((nI_eq (b := 0) (by omega) (by omega)).mp z))]
      exact ⟨S1.v_Rd_parts, S1.v_Rd_toCome, S1.v_Rd_sum, S1.w_Rd_units, by rw [same, b01_f (fun z => g2 z.2.2.1)]; rfl, fun z => absurd z.2.2.1 g2⟩
    rw [if_pos (by rw [g2]; rfl), show (13 : Int32) = nI 13 from rfl, nI_add, rV1 E hG hE1 hN (by omega), q_c, hq 13 (by decide), hsum]
    by_cases g3 : o1 D (p + 13) = s
    rotate_left
    · rw [if_neg (fun z => g3 ((nI_eq (by omega) (by omega)).mp z))]
      exact ⟨S1.v_Rd_parts, S1.v_Rd_toCome, S1.v_Rd_sum, S1.w_Rd_units, by rw [same, b01_f (fun z => g3 z.2.2.2)]; rfl, fun z => absurd z.2.2.2 g3⟩
    have hl1 : S1.v_Rd_toCome - 1 = nI (l - 1) := by rw [hL, show (1 : Int32) = nI 1 from rfl, pk_sub (by omega)]
    rw [if_pos (by rw [g3]), q_l, hl1, qC_part125 (S := S1.u_v_Rd_toCome (nI (l - 1))) (l := l - 1) hK hG hN hE1 hq hp' (by omega) rfl]
    have e1 : c = nI s := by rw [hS1] at hsum; exact hsum
    refine ⟨_, _, _, _, ?_, fun _ => ⟨rfl, rfl, rfl, rfl⟩⟩
    rw [b01_t ⟨g0, g1, g2, g3⟩, hS1, ← e1]
    rfl
  have fin : ∀ (l s : Nat) (a b c : Int32) (d : Nat → Int32), 1 ≤ l → (pM x = 0 → l = o1 D p - 64 ∧ s = o1 D (p + 13)) → (pM x ≠ 0 → l = pL x ∧ s = pS x) → a = nI (pM x + l) → b = nI (l - 1) → c = nI s → d = (fun j => if 13 * (l - 1) ≤ j ∧ j < 13 * (l - 1) + 13 then nI ((chunk D p).getD (j - 13 * (l - 1)) 0) else S.w_Rd_units j) → rcP (ptN D p x) (ncF S a b c d) := by
    intro l s a b c d hl h0 h1 ha hb hc he
    have el : (if pM x = 0 then o1 D p - 64 else pL x) = l := by
      by_cases z : pM x = 0
      · rw [if_pos z]; exact (h0 z).1.symm
      · rw [if_neg z]; exact (h1 z).1.symm
    have es : (if pM x = 0 then o1 D (p + 13) else pS x) = s := by
      by_cases z : pM x = 0
      · rw [if_pos z]; exact (h0 z).2.symm
      · rw [if_neg z]; exact (h1 z).2.symm
    refine ⟨?_, fun _ => ⟨?_, ?_, fun q hq => ?_⟩⟩
    · show a = nI (if pM x + 1 = 0 then 0 else pM x + 1 + ((if pM x = 0 then o1 D p - 64 else pL x) - 1))
      rw [el, ha, if_neg (by omega)]
      congr 1
      omega
    · show b = nI ((if pM x = 0 then o1 D p - 64 else pL x) - 1)
      rw [el, hb]
    · show c = nI (if pM x = 0 then o1 D (p + 13) else pS x)
      rw [es, hc]
    · show d (13 * ((if pM x = 0 then o1 D p - 64 else pL x) - 1) + q) = nI ((chunk D p ++ pU x).getD q 0)
      have hq : q < 13 * (pM x + 1) := hq
      clear es
      rw [el, he]
      dsimp only
      rw [List.getD_eq_getElem?_getD (l := chunk D p ++ pU x)]
      by_cases z : q < 13
      · rw [if_pos (by omega), List.getElem?_append_left (by rw [chunk_len]; exact z), show 13 * (l - 1) + q - 13 * (l - 1) = q by omega, List.getD_eq_getElem?_getD]
      · have zm : pM x ≠ 0 := by omega
        rw [if_neg (by omega), List.getElem?_append_right (by rw [chunk_len]; omega), chunk_len]
        have := (t2 zm).2.2 (q - 13) (by omega)
        rw [show 13 * (l - 1) + q = 13 * pL x + (q - 13) by rw [← (h1 zm).1]; omega, this, List.getD_eq_getElem?_getD]
  unfold f_Rd_readPart f_Rd_readPart_30
  rw [rV1 E hG hE hN (by omega), q_c, slq_0 hq, t1]
  have sameS : ncF S S.v_Rd_parts S.v_Rd_toCome S.v_Rd_sum S.w_Rd_units = S := rfl
  by_cases g0 : pM x = 0
  · rw [if_pos g0, if_pos (show nI 0 = 0 from rfl), q_l]
    by_cases g1 : o1 D p < 65
    · have hlt : nI (o1 D p) + (-64) < 1 := by
        have : ∀ r : Fin 65, nI r.val + (-64) < 1 := by decide +kernel
        exact this ⟨o1 D p, g1⟩
      rw [if_pos hlt]
      exact ⟨_, _, _, _, by rw [sameS, b01_f (fun z => by have := z.1 g0; omega)]; rfl, fun z => by have := z.1 g0; omega⟩
    · have hsb : nI (o1 D p) + (-64) = nI (o1 D p - 64) := by
        rw [show (-64 : Int32) = - nI 64 from rfl, ← Int32.sub_eq_add_neg, pk_sub (by omega)]
      rw [hsb, if_neg (show ¬ nI (o1 D p - 64) < 1 from nI_nlt (b := 1) (by omega) (by omega))]
      by_cases g2 : o1 D p ≤ 84
      · rw [if_pos (show nI (o1 D p - 64) ≤ 20 from nI_le (b := 20) (by omega) (by decide)), q_l, q_l]
        have hE1 : ((S.u_v_Rd_parts (nI (o1 D p - 64))).u_v_Rd_toCome (nI (o1 D p - 64))).w_Dk_bytes = E := hE
        rw [show (13 : Int32) = nI 13 from rfl, nI_add, rV1 E hG hE1 hN (by omega), q_c, q_l, hq 13 (by decide)]
        obtain ⟨a, b, c, d, f1, f2⟩ := back (o1 D p - 64) (o1 D p - 64) (o1 D (p + 13)) _ ⟨nI (o1 D p - 64), nI (o1 D p - 64), nI (o1 D (p + 13)), rfl⟩ (by omega) (by omega) (by omega) r13 rfl rfl
        refine ⟨a, b, c, d, ?_, fun z => ?_⟩
        · refine Eq.trans f1 ?_
          rw [b01_iff (show (o1 D p - 64 = o1 D p - 64 ∧ o1 D (p + 12) = 0 ∧ o2 D (p + 26) = 0 ∧ o1 D (p + 13) = o1 D (p + 13)) ↔ ptP D p x from ⟨fun z => ⟨fun _ => by omega, fun y => absurd g0 y, z.2.1, z.2.2.1⟩, fun z => ⟨rfl, z.2.2.1, z.2.2.2, rfl⟩⟩)]
        · obtain ⟨a1, a2, a3, a4⟩ := f2 ⟨rfl, z.2.2.1, z.2.2.2, rfl⟩
          refine fin (o1 D p - 64) (o1 D (p + 13)) a b c d (by omega) (fun _ => ⟨rfl, rfl⟩) (fun y => absurd g0 y) ?_ a2 a3 a4
          rw [a1, g0, Nat.zero_add]
          rfl
      · rw [if_neg (show ¬ nI (o1 D p - 64) ≤ 20 from nI_ge (a := 20) (by omega) (by omega))]
        exact ⟨_, _, _, _, by rw [sameS, b01_f (fun z => by have := z.1 g0; omega)]; rfl, fun z => by have := z.1 g0; omega⟩
  · rw [if_neg g0, if_neg (nI_ne0 (by omega) (by omega))]
    obtain ⟨u1, u2, u4⟩ := t2 g0
    obtain ⟨a, b, c, d, f1, f2⟩ := back (o1 D p) (pL x) (pS x) S ⟨S.v_Rd_parts, S.v_Rd_toCome, S.v_Rd_sum, rfl⟩ r0 (by omega) (by omega) x3 u1 u2
    refine ⟨a, b, c, d, ?_, fun z => ?_⟩
    · refine Eq.trans f1 ?_
      rw [b01_iff (show (o1 D p = pL x ∧ o1 D (p + 12) = 0 ∧ o2 D (p + 26) = 0 ∧ o1 D (p + 13) = pS x) ↔ ptP D p x from ⟨fun z => ⟨fun y => absurd y g0, fun y => ⟨z.1, by omega, z.2.2.2⟩, z.2.1, z.2.2.1⟩, fun z => ⟨(z.2.1 g0).1, z.2.2.1, z.2.2.2, (z.2.1 g0).2.2⟩⟩)]
    · obtain ⟨a1, a2, a3, a4⟩ := f2 ⟨(z.2.1 g0).1, z.2.2.1, z.2.2.2, (z.2.1 g0).2.2⟩
      refine fin (pL x) (pS x) a b c d (by have := (z.2.1 g0).2.1; omega) (fun y => absurd y g0) (fun _ => ⟨rfl, rfl⟩) ?_ a2 a3 a4
      rw [a1, t1, if_neg g0]
