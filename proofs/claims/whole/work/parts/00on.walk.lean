/-! Walking a chain. -/
def lnk (N : Nat) (D : Nat → Int32) : Nat → List Nat → Prop
  | x, [] => x = 0 ∨ 268435448 ≤ x
  | x, y :: l => x = y ∧ isCl N D y ∧ lnk N D (ent D y) l
theorem fol_lnk {N : Nat} {D : Nat → Int32} : ∀ (f x : Nat) (tk ch : List Nat), fol N D f x tk = some ch → lnk N D x ch := by
  intro f
  induction f with
  | zero => intro x tk ch h; cases h
  | succ f ih =>
    intro x tk ch h
    rw [fol] at h
    by_cases c : isCl N D x ∧ x ∉ tk ∧ ent D x ≠ 0
    · rw [if_pos c] at h
      by_cases e : 268435448 ≤ ent D x
      · rw [if_pos e] at h
        cases h
        exact ⟨rfl, c.1, Or.inr e⟩
      · rw [if_neg e] at h
        cases g : fol N D f (ent D x) (x :: tk) with
        | none => rw [g] at h; cases h
        | some l =>
          rw [g] at h
          cases h
          exact ⟨rfl, c.1, ih _ _ _ g⟩
    · rw [if_neg c] at h; cases h
theorem qM_walk7 {K N : Nat} {D : Nat → Int32} (h : hdOk N D) (hN : N ≤ 1024) : ∀ (l : List Nat) (i k x : Nat) (T : MS), mIs N D T → T.v_links = nI i → i + l.length ≤ 514 → l.length < k → x < 2 ^ 28 → lnk N D x l → ∃ f, f_Mo_walk_7 K k (nI x) T = some ((T.u_v_chain f).u_v_links (nI (i + l.length))) ∧ (∀ q, q < i → f q = T.v_chain q) ∧ ∀ q, q < l.length → f (i + q) = nI (l.getD q 0) := by
  have hf := hd_facts h hN
  intro l
  induction l with
  | nil =>
    intro i k x T hT hli h1 h2 h3 h4
    obtain ⟨k, rfl⟩ : ∃ m, k = m + 1 := ⟨k - 1, by omega⟩
    refine ⟨T.v_chain, ?_, fun q _ => rfl, fun q hq => absurd hq (Nat.not_lt_zero _)⟩
    rw [f_Mo_walk_7, List.length_nil, Nat.add_zero, ← hli]
    rcases h4 with h4 | h4
    · rw [h4, if_pos (show nI 0 = 0 from rfl)]; rfl
    · rw [if_neg (nI_ne0 (by omega) (by omega)), if_pos (show 268435448 ≤ nI x from nI_le (a := 268435448) h4 (by omega))]; rfl
  | cons y l ih =>
    intro i k x T hT hli h1 h2 h3 h4
    obtain ⟨rfl, hc1, h4⟩ := h4
    obtain ⟨k, rfl⟩ : ∃ m, k = m + 1 := ⟨k - 1, by rw [List.length_cons] at h2; omega⟩
    rw [List.length_cons] at h1 h2
    rw [f_Mo_walk_7, if_neg (nI_ne0 (by omega) (by omega)), if_neg (show ¬ 268435448 ≤ nI x from nI_ge (b := 268435448) (by omega) (by omega)), hli, q_g (q_in (by omega) (by decide)), nI_clamp (by omega), q_l, show (T.u_v_chain (upd T.v_chain i (nI x))).v_links + 1 = nI (i + 1) from by
      rw [show (T.u_v_chain (upd T.v_chain i (nI x))).v_links = T.v_links from rfl, hli, show (1 : Int32) = nI 1 from rfl, nI_add], q_l, qM_entry (N := N) (D := D) (x := x) (T := (T.u_v_chain (upd T.v_chain i (nI x))).u_v_links (nI (i + 1))) hT h hN (by omega), q_c]
    obtain ⟨f, e1, e2, e3⟩ := ih (i + 1) k (ent D x) ((T.u_v_chain (upd T.v_chain i (nI x))).u_v_links (nI (i + 1))) hT rfl (by omega) (by omega) (ent_lt D x) h4
    refine ⟨f, ?_, fun q hq => ?_, fun q hq => ?_⟩
    · rw [e1, List.length_cons, show i + 1 + l.length = i + (l.length + 1) by omega]
      rfl
    · rw [e2 q (by omega)]
      exact if_neg (by omega)
    · rw [List.length_cons] at hq
      cases q with
      | zero =>
        rw [Nat.add_zero, e2 i (by omega)]
        exact if_pos rfl
      | succ q =>
        rw [show i + (q + 1) = i + 1 + q by omega, e3 q (by omega)]
        rfl
theorem qM_walk {K N x : Nat} {D : Nat → Int32} {T : MS} {l : List Nat} (hK : 1000 ≤ K) (h : hdOk N D) (hN : N ≤ 1024) (hT : mIs N D T) (hl : l.length ≤ 514) (hx : x < 2 ^ 28) (hk0 : lnk N D x l) : ∃ f, f_Mo_walk K T (nI x) = some ((T.u_v_chain f).u_v_links (nI l.length)) ∧ ∀ q, q < l.length → f q = nI (l.getD q 0) := by
  obtain ⟨f, e1, e2, e3⟩ := qM_walk7 (K := K) h hN l 0 K x (T.u_v_links 0) hT rfl (by omega) (by omega) hx hk0
  refine ⟨f, ?_, fun q hq => ?_⟩
  · unfold f_Mo_walk
    rw [q_l, e1, Nat.zero_add]
    rfl
  · have := e3 q hq
    rw [Nat.zero_add] at this
    exact this
theorem qC_road5 {K N : Nat} {D E : Nat → Int32} {G : CG} (h : hdOk N D) (hN : N ≤ 1024) (hH : agH D E) : ∀ (l : List Nat) (i k x : Nat) (S : CS), cIs N E G S → i + l.length < N / 2 + 2 → l.length < k → x < 2 ^ 28 → lnk N D x l → ∃ f, f_Tb_road_Edroad_5 K G k (nI x) (nI i) S = some (nI (i + l.length), S.u_w_Ed_road f) ∧ (∀ q, q < i → f q = S.w_Ed_road q) ∧ ∀ q, q < l.length → f (i + q) = nI (l.getD q 0) := by
  have hf := hd_facts h hN
  obtain ⟨ec, ev, ey, ez, er, ea, ek⟩ := agH_n hH
  have has : ∀ (S : CS), cIs N E G S → ∀ x, x < 2 ^ 28 → f_Tb_hasCluster K G S (nI x) = some (b01 (isCl N D x), S) := by
    intro S hS x hx
    unfold f_Tb_hasCluster f_Tb_hasCluster_28
    rw [hS.2.2.2.2.2.2.2.2.2.1, ek, hS.1, show (2 : Int32) = nI 2 from rfl, nI_add]
    by_cases w1 : x < 2
    · rw [if_pos (nI_lt w1 (by decide)), b01_f (fun y => by have := y.1; omega)]; rfl
    rw [if_neg (nI_nlt (by omega) (by omega))]
    by_cases w2 : hk N D + 2 ≤ x
    · rw [if_pos (nI_le w2 (by omega)), b01_f (fun y => by have := y.2; omega)]; rfl
    rw [if_neg (nI_ge (by omega) (by omega)), if_neg (nI_ge (by omega) (by omega)), b01_t ⟨by omega, by omega⟩]; rfl
  intro l
  induction l with
  | nil =>
    intro i k x S hS h1 h2 h3 h4
    obtain ⟨k, rfl⟩ : ∃ m, k = m + 1 := ⟨k - 1, by omega⟩
    refine ⟨S.w_Ed_road, ?_, fun q _ => rfl, fun q hq => absurd hq (Nat.not_lt_zero _)⟩
    rw [List.length_nil, Nat.add_zero] at h1
    rw [f_Tb_road_Edroad_5, List.length_nil, Nat.add_zero, hS.1, if_neg (nI_ge h1 (by omega)), has S hS x h3, q_c, b01_f (fun y => by have := y.1; have := y.2; rcases h4 with h4 | h4 <;> omega), if_pos (show nI 0 = 0 from rfl)]
    rfl
  | cons y l ih =>
    intro i k x S hS h1 h2 h3 h4
    obtain ⟨rfl, hc1, h4⟩ := h4
    obtain ⟨k, rfl⟩ : ∃ m, k = m + 1 := ⟨k - 1, by rw [List.length_cons] at h2; omega⟩
    rw [List.length_cons] at h1 h2
    have hn : S.w_Tb_next x = nI (ent D x) := by
      rw [hS.2.2.2.2.2.2.2.2.2.2 x (by omega), ek, if_pos (by omega), agH_ent hH h hN (by omega)]
    rw [f_Tb_road_Edroad_5, hS.1, if_neg (nI_ge (by omega) (by omega)), has S hS x h3, q_c, b01_t hc1, if_neg (show ¬ nI 1 = 0 by decide), q_g (q_in (by omega) (by omega)), nI_clamp (by omega), q_l, show (1 : Int32) = nI 1 from rfl, nI_add, q_l, q_g (q_in (by omega) (by omega)), nI_clamp (by omega), show (S.u_w_Ed_road (upd S.w_Ed_road i (nI x))).w_Tb_next x = nI (ent D x) from hn, q_l]
    obtain ⟨f, e1, e2, e3⟩ := ih (i + 1) k (ent D x) (S.u_w_Ed_road (upd S.w_Ed_road i (nI x))) hS (by omega) (by omega) (ent_lt D x) h4
    refine ⟨f, ?_, fun q hq => ?_, fun q hq => ?_⟩
    · rw [e1, List.length_cons, show i + 1 + l.length = i + (l.length + 1) by omega]
      rfl
    · rw [e2 q (by omega)]
      exact if_neg (by omega)
    · rw [List.length_cons] at hq
      cases q with
      | zero =>
        rw [Nat.add_zero, e2 i (by omega)]
        exact if_pos rfl
      | succ q =>
        rw [show i + (q + 1) = i + 1 + q by omega, e3 q (by omega)]
        rfl
theorem qC_road {K N x : Nat} {D E : Nat → Int32} {G : CG} {S : CS} {l : List Nat} (hK : 1000 ≤ K) (h : hdOk N D) (hN : N ≤ 1024) (hH : agH D E) (hS : cIs N E G S) (hl : l.length < N / 2 + 2) (hx : x < 2 ^ 28) (hk0 : lnk N D x l) : ∃ f, f_Tb_road_Edroad K G S (nI x) = some (nI l.length, S.u_w_Ed_road f) ∧ ∀ q, q < l.length → f q = nI (l.getD q 0) := by
  obtain ⟨f, e1, e2, e3⟩ := qC_road5 (K := K) h hN hH l 0 K x S hS (by omega) (by omega) hx hk0
  refine ⟨f, ?_, fun q hq => ?_⟩
  · unfold f_Tb_road_Edroad
    rw [show (0 : Int32) = nI 0 from rfl, e1, Nat.zero_add]
  · have := e3 q hq
    rw [Nat.zero_add] at this
    exact this
