/-! The plan: the blocks of an owner. -/
def blk (b : Nat) : Nat → Nat → List Nat
  | 0, _ => []
  | d + 1, j => (b + j) :: blk b d (j + 1)
theorem blk_len (b : Nat) : ∀ d j, (blk b d j).length = d := by
  intro d
  induction d with
  | zero => intro j; rfl
  | succ d ih => intro j; rw [blk, List.length_cons, ih]
theorem blk_mem {b x : Nat} : ∀ d j, x ∈ blk b d j ↔ b + j ≤ x ∧ x < b + j + d := by
  intro d
  induction d with
  | zero => intro j; exact ⟨fun h => (by cases h), fun h => by omega⟩
  | succ d ih =>
    intro j
    rw [blk, List.mem_cons, ih]
    constructor
    · rintro (h | h)
      · omega
      · omega
    · intro h
      by_cases e : x = b + j
      · exact Or.inl e
      · exact Or.inr (by omega)
def stnd (gl : Nat → Nat) (c : Nat) : Nat := if gl c = 0 then c else gl c
def bOf (A H : Nat) (gl : Nat → Nat) (c : Nat) : Nat := A + (stnd gl c - 2) * H
def chL (A H : Nat) (gl : Nat → Nat) : List Nat → List Nat
  | [] => []
  | c :: l => blk (bOf A H gl c) H 0 ++ chL A H gl l
theorem chL_len {A H : Nat} {gl : Nat → Nat} : ∀ l, (chL A H gl l).length = l.length * H := by
  intro l
  induction l with
  | nil => exact (Nat.zero_mul _).symm
  | cons c l ih => rw [chL, List.length_append, blk_len, ih, List.length_cons, Nat.add_mul, Nat.one_mul, Nat.add_comm]
/-- a chain by its entries -/
def lke (k : Nat) (e : Nat → Nat) : Nat → List Nat → Prop
  | x, [] => x = 0 ∨ 268435448 ≤ x
  | x, y :: l => x = y ∧ (2 ≤ y ∧ y < k + 2) ∧ e y ≠ 0 ∧ lke k e (e y) l
theorem lke_of {N : Nat} {D : Nat → Int32} : ∀ (l : List Nat) (x : Nat), lnk N D x l → (∀ y ∈ l, ent D y ≠ 0) → lke (hk N D) (ent D) x l := by
  intro l
  induction l with
  | nil => intro x h _; exact h
  | cons y l ih =>
    intro x h hne
    obtain ⟨rfl, h2, h3⟩ := h
    exact ⟨rfl, ⟨h2.1, by have := h2.2; omega⟩, hne _ List.mem_cons_self, ih _ h3 (fun y hy0 => hne y (List.mem_cons_of_mem _ hy0))⟩
def gSt (S : CS) (f : Nat → Int32) (x : Int32) : CS := (S.u_w_Pl_list f).u_v_Pl_listed x
/-- what listing asks for -/
abbrev lsC (A H k B N : Nat) (e gl : Nat → Nat) (G : CG) (S : CS) : Prop := ((5 ≤ A ∧ A ≤ 64) ∧ (H = 1 ∨ H = 2 ∨ H = 4) ∧ k < 512 ∧ (128 ≤ B ∧ B ≤ 512)) ∧ (G.n = N ∧ N ≤ 1024 ∧ B = N / 2 ∧ k + 2 < N / 2 + 2) ∧ (S.v_Tb_start = nI (2 * A) ∧ S.v_Tb_cluster = nI (2 * H) ∧ S.v_Tb_clusters = nI k) ∧ (∀ x, x < k + 2 → S.w_Tb_next x = nI (e x)) ∧ (∀ x, e x < 2 ^ 28) ∧ (∀ c, 2 ≤ c → c < k + 2 → S.w_Tb_goal c = nI (gl c)) ∧ (∀ c, gl c < k + 2 ∧ (gl c ≠ 0 → 2 ≤ gl c))
theorem qC_add {K B N b : Nat} {G : CG} {S : CS} {f : Nat → Int32} {l : List Nat} (hG : G.n = N) (hBN : B = N / 2) (hB : B ≤ 512) (hl : l.length < B + 4) (hf : arr f l) : ∃ f', arr f' (l ++ [b]) ∧ f_Pl_addToList K G (gSt S f (nI l.length)) (nI b) = some (gSt S f' (nI (l ++ [b]).length)) := by
  refine ⟨upd f l.length (nI b), arr_snoc hf, ?_⟩
  unfold f_Pl_addToList
  rw [show (gSt S f (nI l.length)).v_Pl_listed = nI l.length from rfl, hG, ← hBN, if_neg (nI_ge hl (by omega)), q_g (q_in hl (by omega)), q_l, nI_clamp (by omega), show ((gSt S f (nI l.length)).u_w_Pl_list (upd (gSt S f (nI l.length)).w_Pl_list l.length (nI b))).v_Pl_listed = nI l.length from rfl, nI_1, q_l, List.length_append]
  rfl
theorem qC_nextOf {K A H k B N x : Nat} {e gl : Nat → Nat} {G : CG} {S : CS} (h : lsC A H k B N e gl G S) (hx : x < 2 ^ 28) : f_Tb_nextOf K G S (nI x) = some (nI (if 2 ≤ x ∧ x < k + 2 then e x else 0), S) := by
  obtain ⟨-, ⟨hG, hN, hBN, hkN⟩, ⟨t1, t2, t3⟩, hn, he, -, -⟩ := h
  unfold f_Tb_nextOf f_Tb_nextOf_33
  rw [t3, show (2 : Int32) = nI 2 from rfl, nI_add, hG]
  by_cases a : x < 2
  · rw [if_pos (nI_lt a (by decide)), if_neg (by omega)]; rfl
  rw [if_neg (nI_nlt (by omega) (by omega))]
  by_cases b : k + 2 ≤ x
  · rw [if_pos (nI_le b (by omega)), if_neg (by omega)]; rfl
  rw [if_neg (nI_ge (by omega) (by omega)), if_neg (nI_ge (by omega) (by omega)), q_g (q_in (by omega) (by omega)), nI_clamp (by omega), hn x (by omega), if_pos (by omega)]
theorem qC_goalOf {K A H k B N x : Nat} {e gl : Nat → Nat} {G : CG} {S : CS} (h : lsC A H k B N e gl G S) (h2 : 2 ≤ x) (hx : x < k + 2) : f_Tb_goalOf K G S (nI x) = some (nI (gl x), S) := by
  obtain ⟨-, ⟨hG, hN, hBN, hkN⟩, -, -, -, hg, -⟩ := h
  unfold f_Tb_goalOf f_Tb_goalOf_22
  rw [if_neg (nI_pos (by omega)), hG, if_neg (nI_ge (by omega) (by omega)), q_g (q_in (by omega) (by omega)), nI_clamp (by omega), hg x h2 hx]
theorem qC_lc85 {K A H k B N : Nat} {e gl : Nat → Nat} {G : CG} {S : CS} (h : lsC A H k B N e gl G S) (rec : Int32 → Int32 → Int32 → Int32 → Int32 → CS → Option CS) {y st n : Nat} (hy1 : 2 ≤ y) (hy2 : y < k + 2) (hst : 2 ≤ st) : ∀ (d j q left : Nat) (l : List Nat) (f : Nat → Int32), j + d = H → d < q → left < 2 ^ 20 → l.length + min d left ≤ B + 4 → arr f l → ∃ f', arr f' (l ++ (blk (A + (st - 2) * H) d j).take left) ∧ f_Pl_listChain_85 K G rec q (nI H) (nI A) (nI left) (nI y) (nI n) (nI st) (nI j) (gSt S f (nI l.length)) = rec (nI H) (nI A) (nI (left - d)) (nI (e y)) (nI (n + 1)) (gSt S f' (nI (l ++ (blk (A + (st - 2) * H) d j).take left).length)) := by
  have hH := h.1.2.1
  have hB := h.1.2.2.2
  have hBN := h.2.1.2.2.1
  have tail : ∀ (l : List Nat) (f : Nat → Int32) (left : Nat), f_Pl_listChain_121 K G rec (nI H) (nI A) (nI left) (nI y) (nI n) (gSt S f (nI l.length)) = rec (nI H) (nI A) (nI left) (nI (e y)) (nI (n + 1)) (gSt S f (nI l.length)) := fun l f left => by
    unfold f_Pl_listChain_121
    rw [qC_nextOf (S := gSt S f (nI l.length)) h (by have := h.1.2.2.1; omega), q_c, if_pos ⟨hy1, hy2⟩, nI_1, q_l]
  intro d
  induction d with
  | zero =>
    intro j q left l f h1 h2 h3 h4 hf
    obtain ⟨q, rfl⟩ : ∃ m, q = m + 1 := ⟨q - 1, by omega⟩
    obtain rfl : j = H := by omega
    refine ⟨f, by rw [blk, List.take_nil, List.append_nil]; exact hf, ?_⟩
    rw [f_Pl_listChain_85, if_pos (Int32.le_refl _), tail, blk, List.take_nil, List.append_nil]
    rfl
  | succ d ih =>
    intro j q left l f h1 h2 h3 h4 hf
    obtain ⟨q, rfl⟩ : ∃ m, q = m + 1 := ⟨q - 1, by omega⟩
    rw [f_Pl_listChain_85, if_neg (nI_ge (by omega) (by omega))]
    cases left with
    | zero =>
      refine ⟨f, by rw [List.take_zero, List.append_nil]; exact hf, ?_⟩
      rw [if_pos (by decide), tail, List.take_zero, List.append_nil, Nat.zero_sub]
    | succ left =>
      have hll : l.length < B + 4 := by omega
      obtain ⟨f1, a1, a2⟩ := qC_add (K := K) (b := A + (st - 2) * H + j) (S := S) h.2.1.1 hBN hB.2 hll hf
      have hpos : nI A + (nI st - 2) * nI H + nI j = nI (A + (st - 2) * H + j) := by
        rw [show (2 : Int32) = nI 2 from rfl, pk_sub hst, pk_mul, nI_add, nI_add]
      have hdec : nI (left + 1) + (-1) = nI left := by
        rw [← nI_1, Int32.add_assoc]
        exact Int32.add_zero _
      rw [if_neg (show ¬ nI (left + 1) ≤ 0 from nI_nle (by omega) (by omega)), hpos, a2, q_b, hdec, q_l, nI_1, q_l]
      have hl1 : (l ++ [A + (st - 2) * H + j]).length = l.length + 1 := List.length_append
      obtain ⟨f', b1, b2⟩ := ih (j + 1) q left (l ++ [A + (st - 2) * H + j]) f1 (by omega) (by omega) (by omega) (by omega) a1
      refine ⟨f', ?_, ?_⟩
      · rw [blk, List.take_succ_cons, List.append_cons]
        exact b1
      · rw [b2, blk, List.take_succ_cons, app_snoc l (A + (st - 2) * H + j) (List.take left (blk (A + (st - 2) * H) d (j + 1))), Nat.succ_sub_succ]
theorem qC_lc30 {K A H k B N : Nat} {e gl : Nat → Nat} {G : CG} {S : CS} (hK : 100 ≤ K) (h : lsC A H k B N e gl G S) : ∀ (ch : List Nat) (n q x left : Nat) (l : List Nat) (f : Nat → Int32), n + ch.length ≤ k → ch.length < q → x < 2 ^ 28 → lke k e x ch → left < 2 ^ 20 → l.length + min (ch.length * H) left ≤ B + 4 → arr f l → ∃ f', arr f' (l ++ (chL A H gl ch).take left) ∧ f_Pl_listChain_30 K G q (nI H) (nI A) (nI left) (nI x) (nI n) (gSt S f (nI l.length)) = some (gSt S f' (nI (l ++ (chL A H gl ch).take left).length)) := by
  have hH := h.1.2.1
  have hk5 := h.1.2.2.1
  intro ch
  induction ch with
  | nil =>
    intro n q x left l f h1 h2 h3 h4 h5 h6 hf
    obtain ⟨q, rfl⟩ : ∃ m, q = m + 1 := ⟨q - 1, by omega⟩
    rw [List.length_nil, Nat.add_zero] at h1
    refine ⟨f, by rw [chL, List.take_nil, List.append_nil]; exact hf, ?_⟩
    rw [f_Pl_listChain_30, chL, List.take_nil, List.append_nil, show (gSt S f (nI l.length)).v_Tb_clusters = nI k from h.2.2.1.2.2]
    by_cases w : k ≤ n
    · rw [if_pos (nI_le w (by omega))]
    · have hx : ¬ (2 ≤ x ∧ x < k + 2) := by rcases h4 with h4 | h4 <;> omega
      rw [if_neg (nI_ge (by omega) (by omega)), qC_nextOf (S := gSt S f (nI l.length)) h h3, q_c, if_neg hx, if_pos (show nI 0 = 0 from rfl)]
  | cons y ch ih =>
    intro n q x left l f h1 h2 h3 h4 h5 h6 hf
    obtain ⟨q, rfl⟩ : ∃ m, q = m + 1 := ⟨q - 1, by rw [List.length_cons] at h2; omega⟩
    rw [List.length_cons] at h1 h2 h6
    obtain ⟨rfl, ⟨y1, y2⟩, y3, y4⟩ := h4
    have hey := h.2.2.2.2.1 x
    have hgl := h.2.2.2.2.2.2 x
    have hmul : (ch.length + 1) * H = ch.length * H + H := by rw [Nat.add_mul, Nat.one_mul]
    rw [hmul] at h6
    have hst : 2 ≤ stnd gl x ∧ stnd gl x < 2 ^ 20 := by
      unfold stnd
      by_cases w : gl x = 0
      · rw [if_pos w]; exact ⟨y1, by omega⟩
      · rw [if_neg w]; exact ⟨hgl.2 w, by omega⟩
    obtain ⟨f1, a1, a2⟩ := qC_lc85 (K := K) h (f_Pl_listChain_30 K G q) (n := n) y1 y2 hst.1 H 0 K left l f (by omega) (by omega) h5 (by omega) hf
    have a2 : f_Pl_listChain_85 K G (f_Pl_listChain_30 K G q) K (nI H) (nI A) (nI left) (nI x) (nI n) (nI (stnd gl x)) 0 (gSt S f (nI l.length)) = _ := a2
    have hlt : ((blk (bOf A H gl x) H 0).take left).length = min left H := by rw [List.length_take, blk_len]
    obtain ⟨f', b1, b2⟩ := ih (n + 1) q (e x) (left - H) (l ++ (blk (bOf A H gl x) H 0).take left) f1 (by omega) (by omega) hey y4 (by omega) (by rw [List.length_append, hlt]; omega) a1
    have hcat : l ++ (chL A H gl (x :: ch)).take left = (l ++ (blk (bOf A H gl x) H 0).take left) ++ (chL A H gl ch).take (left - H) := by
      rw [chL, List.take_append, blk_len, List.append_assoc]
    refine ⟨f', by rw [hcat]; exact b1, ?_⟩
    rw [f_Pl_listChain_30, show (gSt S f (nI l.length)).v_Tb_clusters = nI k from h.2.2.1.2.2, if_neg (nI_ge (by omega) (by omega)), qC_nextOf (S := gSt S f (nI l.length)) h h3, q_c, if_pos (show 2 ≤ x ∧ x < k + 2 from ⟨y1, y2⟩), if_neg (nI_ne0 (by omega) (by omega)), qC_goalOf (S := gSt S f (nI l.length)) h y1 y2, q_c]
    unfold f_Pl_listChain_80
    rw [hcat]
    by_cases w : gl x = 0
    · have hs : stnd gl x = x := if_pos w
      rw [hs] at a2
      rw [if_pos (show nI (gl x) = 0 by rw [w]; rfl), a2]
      unfold bOf at b2
      rw [hs] at b2
      unfold bOf
      rw [hs]
      exact b2
    · have hs : stnd gl x = gl x := if_neg w
      rw [hs] at a2
      rw [if_neg (nI_ne0 (by omega) (by omega)), qC_goalOf (S := gSt S f (nI l.length)) h y1 y2, q_c, a2]
      unfold bOf at b2
      rw [hs] at b2
      unfold bOf
      rw [hs]
      exact b2
theorem qC_listChain {K A H k B N x left : Nat} {e gl : Nat → Nat} {G : CG} {S : CS} {ch l : List Nat} {f : Nat → Int32} (hK : 2000 ≤ K) (h : lsC A H k B N e gl G S) (h1 : ch.length ≤ k) (h3 : x < 2 ^ 28) (h4 : lke k e x ch) (h5 : left < 2 ^ 20) (h6 : l.length + min (ch.length * H) left ≤ B + 4) (hf : arr f l) : ∃ f', arr f' (l ++ (chL A H gl ch).take left) ∧ f_Pl_listChain K G (gSt S f (nI l.length)) (nI x) (nI left) = some (gSt S f' (nI (l ++ (chL A H gl ch).take left).length)) := by
  have hk5 := h.1.2.2.1
  have hA := h.1.1
  have hH := h.1.2.1
  obtain ⟨f', a, b⟩ := qC_lc30 (K := K) (by omega) h ch 0 K x left l f (by omega) (by omega) h3 h4 h5 h6 hf
  refine ⟨f', a, ?_⟩
  unfold f_Pl_listChain
  rw [show (gSt S f (nI l.length)).v_Tb_cluster = nI (2 * H) from h.2.2.1.2.1, show (gSt S f (nI l.length)).v_Tb_start = nI (2 * A) from h.2.2.1.1, half (by omega), half (by omega), q_l, q_l]
  exact b
