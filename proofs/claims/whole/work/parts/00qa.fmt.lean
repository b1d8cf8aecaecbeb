/-! format: what it takes. -/
abbrev fmP (p0 p1 p2 : Int32) : Prop := (p0 = 2 ∨ p0 = 4 ∨ p0 = 8) ∧ (¬ p1 < 8 ∧ ¬ 64 < p1) ∧ (p2 = 1 ∨ p2 = 2)
theorem qC_fit {K z : Nat} {p0 p1 p2 : Int32} (z1 : 1 ≤ z) (z2 : z ≤ 32) : (fmP p0 p1 p2 → f_Tb_numbersFit K p0 p1 p2 (nI z) = some 1) ∧ (¬ fmP p0 p1 p2 → f_Tb_numbersFit K p0 p1 p2 (nI z) = some 0) := by
  have e38 : f_Tb_numbersFit_38 K (nI z) = some 1 := by
    unfold f_Tb_numbersFit_38 f_Tb_numbersFit_53
    rw [if_neg (show ¬ nI z < 1 from nI_nlt (b := 1) (by omega) (by omega)), if_neg (show ¬ 32 < nI z from nI_nlt (a := 32) (by omega) (by omega))]
  have e16 : (¬ p1 < 8 ∧ ¬ 64 < p1) ∧ (p2 = 1 ∨ p2 = 2) → f_Tb_numbersFit_16 K p1 p2 (nI z) = some 1 := by
    rintro ⟨⟨a, b⟩, c⟩
    unfold f_Tb_numbersFit_16 f_Tb_numbersFit_53
    rw [if_neg a, if_neg b, e38]
    rcases c with c | c
    · rw [if_pos c]
    · by_cases d : p2 = 1
      · rw [if_pos d]
      · rw [if_neg d, if_pos c]
  have n16 : ¬ ((¬ p1 < 8 ∧ ¬ 64 < p1) ∧ (p2 = 1 ∨ p2 = 2)) → f_Tb_numbersFit_16 K p1 p2 (nI z) = some 0 := by
    intro w
    unfold f_Tb_numbersFit_16 f_Tb_numbersFit_53
    by_cases a : p1 < 8
    · rw [if_pos a]
    rw [if_neg a]
    by_cases b : 64 < p1
    · rw [if_pos b]
    rw [if_neg b, if_neg (fun c => w ⟨⟨a, b⟩, Or.inl c⟩), if_neg (fun c => w ⟨⟨a, b⟩, Or.inr c⟩)]
  refine ⟨fun ⟨a, b⟩ => ?_, fun w => ?_⟩
  · unfold f_Tb_numbersFit f_Tb_numbersFit_53
    rw [e16 b]
    by_cases c : p0 = 2
    · rw [if_pos c]
    rw [if_neg c]
    by_cases d : p0 = 4
    · rw [if_pos d]
    rw [if_neg d, if_pos (a.resolve_left c |>.resolve_left d)]
  · unfold f_Tb_numbersFit f_Tb_numbersFit_53
    by_cases a : p0 = 2 ∨ p0 = 4 ∨ p0 = 8
    · rw [n16 (fun b => w ⟨a, b⟩)]
      by_cases c : p0 = 2
      · rw [if_pos c]
      rw [if_neg c]
      by_cases d : p0 = 4
      · rw [if_pos d]
      rw [if_neg d, if_pos (a.resolve_left c |>.resolve_left d)]
    · rw [if_neg (fun c => a (Or.inl c)), if_neg (fun c => a (Or.inr (Or.inl c))), if_neg (fun c => a (Or.inr (Or.inr c)))]
theorem qM_f0 {K : Nat} {T : MS} (p0 p1 p2 p3 : Int32) : f_Mo_format K T p0 p1 p2 p3 = f_Mo_format_66 K p0 p1 p2 p3 T.v_taped (b01 (fmP p0 p1 p2 ∧ ¬ 11 < T.v_taped)) ((T.u_v_thrown 0).u_v_taped 0) := by
  have e54 : ∀ S, f_Mo_format_54 K p0 p1 p2 p3 T.v_taped S = f_Mo_format_66 K p0 p1 p2 p3 T.v_taped (b01 (¬ 11 < T.v_taped)) S := fun S => by
    unfold f_Mo_format_54 f_Mo_format_65
    by_cases a : 11 < T.v_taped
    · rw [if_pos a, b01_f (fun y => y a)]; rfl
    · rw [if_neg a, b01_t a]; rfl
  have e65 : ∀ (S : MS) (P : Prop), ¬ P → f_Mo_format_65 K p0 p1 p2 p3 T.v_taped S = f_Mo_format_66 K p0 p1 p2 p3 T.v_taped (b01 P) S := fun S P w => by
    unfold f_Mo_format_65
    rw [b01_f w]; rfl
  have e32 : ∀ S, f_Mo_format_32 K p0 p1 p2 p3 T.v_taped S = f_Mo_format_66 K p0 p1 p2 p3 T.v_taped (b01 (((¬ p1 < 8 ∧ ¬ 64 < p1) ∧ (p2 = 1 ∨ p2 = 2)) ∧ ¬ 11 < T.v_taped)) S := fun S => by
    unfold f_Mo_format_32
    by_cases a : p1 < 8
    · rw [if_pos a]; exact e65 _ _ (fun y => y.1.1.1 a)
    rw [if_neg a]
    by_cases b : 64 < p1
    · rw [if_pos b]; exact e65 _ _ (fun y => y.1.1.2 b)
    rw [if_neg b, e54]
    by_cases c : p2 = 1 ∨ p2 = 2
    · have : b01 (¬ 11 < T.v_taped) = b01 (((¬ p1 < 8 ∧ ¬ 64 < p1) ∧ (p2 = 1 ∨ p2 = 2)) ∧ ¬ 11 < T.v_taped) := congrArg b01 (propext ⟨fun y => ⟨⟨⟨a, b⟩, c⟩, y⟩, fun y => y.2⟩)
      rw [this]
      by_cases d : p2 = 1
      · rw [if_pos d]
      · rw [if_neg d, if_pos (c.resolve_left d)]
    · rw [if_neg (fun d => c (Or.inl d)), if_neg (fun d => c (Or.inr d))]
      exact e65 _ _ (fun y => c y.1.2)
  unfold f_Mo_format
  rw [q_l, q_l, q_l]
  show (if p0 = 2 then f_Mo_format_32 K p0 p1 p2 p3 T.v_taped ((T.u_v_thrown 0).u_v_taped 0) else if p0 = 4 then f_Mo_format_32 K p0 p1 p2 p3 T.v_taped ((T.u_v_thrown 0).u_v_taped 0) else if p0 = 8 then f_Mo_format_32 K p0 p1 p2 p3 T.v_taped ((T.u_v_thrown 0).u_v_taped 0) else f_Mo_format_65 K p0 p1 p2 p3 T.v_taped ((T.u_v_thrown 0).u_v_taped 0)) = _
  rw [e32]
  by_cases a : p0 = 2 ∨ p0 = 4 ∨ p0 = 8
  · have : b01 (((¬ p1 < 8 ∧ ¬ 64 < p1) ∧ (p2 = 1 ∨ p2 = 2)) ∧ ¬ 11 < T.v_taped) = b01 (fmP p0 p1 p2 ∧ ¬ 11 < T.v_taped) := congrArg b01 (propext ⟨fun y => ⟨⟨a, y.1⟩, y.2⟩, fun y => ⟨y.1.2, y.2⟩⟩)
    rw [this]
    by_cases c : p0 = 2
    · rw [if_pos c]
    rw [if_neg c]
    by_cases d : p0 = 4
    · rw [if_pos d]
    rw [if_neg d, if_pos (a.resolve_left c |>.resolve_left d)]
  · rw [if_neg (fun c => a (Or.inl c)), if_neg (fun c => a (Or.inr (Or.inl c))), if_neg (fun c => a (Or.inr (Or.inr c)))]
    exact e65 _ _ (fun y => a y.1.1)
/-- a sign of a label -/
def lbB (tp : Nat → Int32) (i : Nat) : Prop := (ub (tp i) = 32 ∧ 0 < i) ∨ sgP (ub (tp i))
theorem qM_f71z {K k : Nat} {T : MS} (p0 p1 p2 p3 n i : Int32) : f_Mo_format_71 K (k + 1) p0 p1 p2 p3 n 0 i T = f_Mo_format_124 K p0 p1 p2 p3 n 0 T := by
  rw [f_Mo_format_71]
  by_cases w : n ≤ i
  · rw [if_pos w]
  · rw [if_neg w, if_pos rfl]
theorem qM_f71 {K n : Nat} {T : MS} {tp : Nat → Int32} (hn : n ≤ 4096) (ht : T.v_tape = tp) (p0 p1 p2 p3 : Int32) : ∀ (d i k : Nat), i + d = n → d + 1 < k → f_Mo_format_71 K k p0 p1 p2 p3 (nI n) (nI 1) (nI i) T = f_Mo_format_124 K p0 p1 p2 p3 (nI n) (b01 (∀ j, i ≤ j → j < n → lbB tp j)) T := by
  intro d
  induction d with
  | zero =>
    intro i k h1 h2
    obtain ⟨k, rfl⟩ : ∃ m, k = m + 1 := ⟨k - 1, by omega⟩
    obtain rfl : i = n := by omega
    rw [f_Mo_format_71, if_pos (Int32.le_refl _), b01_t (fun j g1 g2 => absurd g1 (by omega))]
  | succ d ih =>
    intro i k h1 h2
    obtain ⟨k, rfl⟩ : ∃ m, k = m + 2 := ⟨k - 2, by omega⟩
    have hu := ub_lt (tp i)
    have htk : f_Mo_taken K T (nI i) = some (nI (ub (tp i)), T) := by
      unfold f_Mo_taken
      rw [q_g (q_in (by omega) (by decide)), nI_clamp (by omega), ht, ub_and]
    have good : lbB tp i → f_Mo_format_71 K (k + 1) p0 p1 p2 p3 (nI n) (nI 1) (nI (i + 1)) T = f_Mo_format_124 K p0 p1 p2 p3 (nI n) (b01 (∀ j, i ≤ j → j < n → lbB tp j)) T := fun w => by
      rw [ih (i + 1) (k + 1) (by omega) (by omega)]
      have : (∀ j, i + 1 ≤ j → j < n → lbB tp j) = (∀ j, i ≤ j → j < n → lbB tp j) := propext ⟨fun y j g1 g2 => by
        by_cases e : j = i
        · rw [e]; exact w
        · exact y j (by omega) g2, fun y j g1 g2 => y j (by omega) g2⟩
      rw [this]
    have bad : ¬ lbB tp i → f_Mo_format_71 K (k + 1) p0 p1 p2 p3 (nI n) 0 (nI (i + 1)) T = f_Mo_format_124 K p0 p1 p2 p3 (nI n) (b01 (∀ j, i ≤ j → j < n → lbB tp j)) T := fun w => by
      rw [qM_f71z, b01_f (fun y => w (y i (Nat.le_refl _) (by omega)))]
      rfl
    rw [f_Mo_format_71, if_neg (nI_ge (by omega) (by omega)), if_neg (show ¬ nI 1 = 0 by decide), htk, q_c, htk, q_c]
    unfold f_Mo_format_116
    by_cases w : ub (tp i) = 32
    · rw [if_pos (show nI (ub (tp i)) = 32 by rw [w]; rfl)]
      by_cases g : i = 0
      · rw [if_pos (show nI i ≤ 0 by rw [g]; decide), show (1 : Int32) = nI 1 from rfl, nI_add, q_l]
        refine bad fun y => ?_
        rcases y with y | y
        · omega
        · rw [w] at y; revert y; decide
      · rw [if_neg (show ¬ nI i ≤ 0 from nI_nle (by omega) (by omega)), show (1 : Int32) = nI 1 from rfl, nI_add, q_l]
        exact good (Or.inl ⟨w, by omega⟩)
    · rw [if_neg (show ¬ nI (ub (tp i)) = 32 from fun y => w ((nI_eq (a := ub (tp i)) (b := 32) (by omega) (by decide)).mp y))]
      by_cases g : sgP (ub (tp i))
      · rw [(qM_sign K (by omega)).1 g, q_b, show (1 : Int32) = nI 1 from rfl, nI_add, q_l]
        exact good (Or.inr g)
      · rw [(qM_sign K (by omega)).2 g, q_b, show (1 : Int32) = nI 1 from rfl, nI_add, q_l]
        exact bad fun y => y.elim (fun y => w y.1) g
theorem qC_isLabel {K n : Nat} {G : CG} {S : CS} {tp : Nat → Int32} (hK : 5000 ≤ K) (hn : n ≤ 4096) (ht : S.w_Tp_bytes = tp) : f_Tp_isLabel K G S (nI n) = some (b01 (n ≤ 11 ∧ ∀ j, j < n → lbB tp j), S) := by
  have ho : ∀ i, i < 4096 → f_Tp_one K G S (nI i) = some (nI (ub (tp i)), S) := fun i hi => by
    unfold f_Tp_one
    rw [if_neg (nI_pos (by omega)), if_neg (show ¬ 4096 ≤ nI i from nI_ge (b := 4096) (by omega) (by omega)), q_g (q_in (by omega) (by decide)), nI_clamp (by omega), ht, ub_and]
  have loop : ∀ (d i k : Nat), i + d = n → d < k → f_Tp_isLabel_24 K G k (nI n) (nI i) S = some (b01 (∀ j, i ≤ j → j < n → (ub (tp j) = 32 ∨ sgP (ub (tp j)))), S) := by
    intro d
    induction d with
    | zero =>
      intro i k h1 h2
      obtain ⟨k, rfl⟩ : ∃ m, k = m + 1 := ⟨k - 1, by omega⟩
      obtain rfl : i = n := by omega
      rw [f_Tp_isLabel_24, if_pos (Int32.le_refl _), b01_t (fun j g1 g2 => absurd g1 (by omega))]
      rfl
    | succ d ih =>
      intro i k h1 h2
      obtain ⟨k, rfl⟩ : ∃ m, k = m + 1 := ⟨k - 1, by omega⟩
      have hu := ub_lt (tp i)
      have good : (ub (tp i) = 32 ∨ sgP (ub (tp i))) → f_Tp_isLabel_24 K G k (nI n) (nI (i + 1)) S = some (b01 (∀ j, i ≤ j → j < n → (ub (tp j) = 32 ∨ sgP (ub (tp j)))), S) := fun w => by
        rw [ih (i + 1) k (by omega) (by omega)]
        have : (∀ j, i + 1 ≤ j → j < n → (ub (tp j) = 32 ∨ sgP (ub (tp j)))) = (∀ j, i ≤ j → j < n → (ub (tp j) = 32 ∨ sgP (ub (tp j)))) := propext ⟨fun y j g1 g2 => by
          by_cases e : j = i
          · rw [e]; exact w
          · exact y j (by omega) g2, fun y j g1 g2 => y j (by omega) g2⟩
        rw [this]
      rw [f_Tp_isLabel_24, if_neg (nI_ge (by omega) (by omega)), ho i (by omega), q_c, ho i (by omega), q_c]
      unfold f_Tp_isLabel_52
      rw [show (1 : Int32) = nI 1 from rfl, nI_add, q_l]
      by_cases w : ub (tp i) = 32
      · rw [if_pos (show nI (ub (tp i)) = 32 by rw [w]; rfl)]
        exact good (Or.inl w)
      · rw [if_neg (show ¬ nI (ub (tp i)) = 32 from fun y => w ((nI_eq (a := ub (tp i)) (b := 32) (by omega) (by decide)).mp y))]
        by_cases g : sgP (ub (tp i))
        · rw [(qV_sign K (by omega)).1 g, q_b, if_neg (show ¬ nI 1 = 0 by decide)]
          exact good (Or.inr g)
        · rw [(qV_sign K (by omega)).2 g, q_b, if_pos (show nI 0 = 0 from rfl), b01_f (fun y => (y i (Nat.le_refl _) (by omega)).elim w g)]
          rfl
  have loop0 : f_Tp_isLabel_22 K G (nI n) S = some (b01 (∀ j, 0 ≤ j → j < n → (ub (tp j) = 32 ∨ sgP (ub (tp j)))), S) := loop n 0 K (by omega) (by omega)
  unfold f_Tp_isLabel f_Tp_isLabel_20
  by_cases w : n ≤ 11
  rotate_left
  · rw [if_pos (show 11 < nI n from nI_lt (a := 11) (by omega) (by omega)), b01_f (fun y => w y.1)]
    rfl
  rw [if_neg (show ¬ 11 < nI n from nI_nlt (a := 11) (by omega) (by omega)), loop0]
  by_cases g : n = 0
  · rw [if_pos (show nI n ≤ 0 by rw [g]; decide)]
    have : (∀ j, 0 ≤ j → j < n → (ub (tp j) = 32 ∨ sgP (ub (tp j)))) = (n ≤ 11 ∧ ∀ j, j < n → lbB tp j) := propext ⟨fun _ => ⟨w, fun j hj => absurd hj (by omega)⟩, fun _ j _ hj => absurd hj (by omega)⟩
    rw [this]
  rw [if_neg (show ¬ nI n ≤ 0 from nI_nle (by omega) (by omega)), show f_Tp_one K G S 0 = some (nI (ub (tp 0)), S) from ho 0 (by decide), q_c]
  have hu := ub_lt (tp 0)
  by_cases e : ub (tp 0) = 32
  · rw [if_pos (show nI (ub (tp 0)) = 32 by rw [e]; rfl), b01_f (fun y => by
      rcases y.2 0 (by omega) with q | q
      · omega
      · rw [e] at q; revert q; decide)]
    rfl
  · rw [if_neg (show ¬ nI (ub (tp 0)) = 32 from fun y => e ((nI_eq (a := ub (tp 0)) (b := 32) (by omega) (by decide)).mp y))]
    have : (∀ j, 0 ≤ j → j < n → (ub (tp j) = 32 ∨ sgP (ub (tp j)))) = (n ≤ 11 ∧ ∀ j, j < n → lbB tp j) := propext ⟨fun y => ⟨w, fun j hj => by
      rcases y j (Nat.zero_le _) hj with q | q
      · by_cases j0 : j = 0
        · rw [j0] at q; exact absurd q e
        · exact Or.inl ⟨q, by omega⟩
      · exact Or.inr q⟩, fun y j _ hj => (y.2 j hj).imp (fun q => q.1) id⟩
    rw [loop0, this]
/-- a length of a table that will do -/
abbrev zP (N C V Y z : Nat) : Prop := 4 ≤ (N - V - Y * z) / C ∧ (N - V - Y * z) / C + 2 ≤ 128 * z
theorem ar_z {Y z : Nat} (hY : Y = 1 ∨ Y = 2) (hz0 : z ≤ 32) : Y * z ≤ 64 := by
  rcases hY with e | e <;> rw [e] <;> omega
theorem zdiv {N C V Y z : Nat} (hN1 : 256 ≤ N) (hN : N ≤ 1024) (hC : C = 2 ∨ C = 4 ∨ C = 8) (hV : V ≤ 64) (hY : Y = 1 ∨ Y = 2) (hz0 : z ≤ 32) : (nI N - nI V - nI Y * nI z) / nI C = nI ((N - V - Y * z) / C) ∧ (N - V - Y * z) / C ≤ 1024 := by
  have := ar_z hY hz0
  refine ⟨?_, Nat.le_trans (Nat.div_le_self _ _) (by omega)⟩
  rw [pk_sub (by omega), pk_mul, pk_sub (by omega), pk_div (by omega) (by omega) (by omega)]
theorem qM_f127s {K N C V Y z k : Nat} {T : MS} (hN1 : 256 ≤ N) (hN : N ≤ 1024) (hC : C = 2 ∨ C = 4 ∨ C = 8) (hV : V ≤ 64) (hY : Y = 1 ∨ Y = 2) (z1 : 1 ≤ z) (z2 : z ≤ 32) (ht : T.v_n = nI N) (p3 n : Int32) : (zP N C V Y z → f_Mo_format_127 K (k + 1) (nI C) (nI V) (nI Y) p3 n (nI 1) (nI z) T = f_Mo_format_186 K (nI C) (nI V) (nI Y) p3 n (nI 1) (nI z) T) ∧ (¬ zP N C V Y z → f_Mo_format_127 K (k + 1) (nI C) (nI V) (nI Y) p3 n (nI 1) (nI z) T = f_Mo_format_127 K k (nI C) (nI V) (nI Y) p3 n (nI 1) (nI (z + 1)) T) := by
  obtain ⟨e1, e2⟩ := zdiv hN1 hN hC hV hY z2
  have hne : ¬ nI C = 0 := nI_ne0 (by omega) (by omega)
  have h0 : f_Mo_format_127 K (k + 1) (nI C) (nI V) (nI Y) p3 n (nI 1) (nI z) T = if nI ((N - V - Y * z) / C) < 4 then f_Mo_format_127 K k (nI C) (nI V) (nI Y) p3 n (nI 1) (nI (z + 1)) T else if nI ((N - V - Y * z) / C + 2) ≤ nI (128 * z) then f_Mo_format_186 K (nI C) (nI V) (nI Y) p3 n (nI 1) (nI z) T else f_Mo_format_127 K k (nI C) (nI V) (nI Y) p3 n (nI 1) (nI (z + 1)) T := by
    rw [f_Mo_format_127, if_neg (show ¬ nI 1 = 0 by decide), if_neg (show ¬ 33 ≤ nI z from nI_ge (b := 33) (by omega) (by omega)), q_g hne, ht, e1]
    unfold f_Mo_format_180
    rw [show (1 : Int32) = nI 1 from rfl, nI_add z 1, q_l, show (2 : Int32) = nI 2 from rfl, nI_add, show (128 : Int32) = nI 128 from rfl, pk_mul]
    by_cases w : nI ((N - V - Y * z) / C) < 4
    · rw [if_pos w, if_pos w]
    · rw [if_neg w, if_neg w, q_g hne]
  unfold zP
  generalize (N - V - Y * z) / C = c at *
  rw [h0]
  refine ⟨fun ⟨a, b⟩ => ?_, fun w => ?_⟩
  · rw [if_neg (show ¬ nI c < 4 from nI_nlt (b := 4) (by omega) (by omega)), if_pos (nI_le b (by omega))]
  · by_cases a : 4 ≤ c
    · rw [if_neg (show ¬ nI c < 4 from nI_nlt (b := 4) (by omega) (by omega)), if_neg (nI_ge (by omega) (by omega))]
    · rw [if_pos (show nI c < 4 from nI_lt (b := 4) (by omega) (by decide))]
theorem qM_f127 {K N C V Y : Nat} {T : MS} (hN1 : 256 ≤ N) (hN : N ≤ 1024) (hC : C = 2 ∨ C = 4 ∨ C = 8) (hV : V ≤ 64) (hY : Y = 1 ∨ Y = 2) (ht : T.v_n = nI N) (p3 n : Int32) {z0 : Nat} (h33 : z0 ≤ 33) (hno : ∀ z, 1 ≤ z → z < z0 → ¬ zP N C V Y z) (hyes : z0 ≤ 32 → zP N C V Y z0) : ∀ (d z k : Nat), z + d = z0 → 1 ≤ z → d < k → f_Mo_format_127 K k (nI C) (nI V) (nI Y) p3 n (nI 1) (nI z) T = f_Mo_format_186 K (nI C) (nI V) (nI Y) p3 n (nI 1) (nI z0) T := by
  intro d
  induction d with
  | zero =>
    intro z k h1 h2 h3
    obtain ⟨k, rfl⟩ : ∃ m, k = m + 1 := ⟨k - 1, by omega⟩
    obtain rfl : z = z0 := by omega
    by_cases w : z ≤ 32
    · exact (qM_f127s hN1 hN hC hV hY h2 w ht p3 n).1 (hyes w)
    · obtain rfl : z = 33 := by omega
      rw [f_Mo_format_127, if_neg (show ¬ nI 1 = 0 by decide), if_pos (show 33 ≤ nI 33 by decide)]
  | succ d ih =>
    intro z k h1 h2 h3
    obtain ⟨k, rfl⟩ : ∃ m, k = m + 1 := ⟨k - 1, by omega⟩
    rw [(qM_f127s hN1 hN hC hV hY h2 (by omega) ht p3 n).2 (hno z h2 (by omega))]
    exact ih (z + 1) k (by omega) (by omega) (by omega)
theorem qC_lenS {K N C V Y z k : Nat} {G : CG} {S : CS} {p0 p1 p2 : Int32} (hN1 : 256 ≤ N) (hN : N ≤ 1024) (hC : C = 2 ∨ C = 4 ∨ C = 8) (hV : V ≤ 64) (hY : Y = 1 ∨ Y = 2) (z1 : 1 ≤ z) (z2 : z ≤ 32) (e0 : p0 = nI C) (e1 : p1 = nI V) (e2 : p2 = nI Y) (hnm : fmP p0 p1 p2) (ht : S.v_Dk_sectors = nI N) : (zP N C V Y z → f_Tb_leastLength_3 K G (k + 1) p0 p1 p2 (nI z) S = some (nI z, S)) ∧ (¬ zP N C V Y z → f_Tb_leastLength_3 K G (k + 1) p0 p1 p2 (nI z) S = f_Tb_leastLength_3 K G k p0 p1 p2 (nI (z + 1)) S) := by
  obtain ⟨d1, d2⟩ := zdiv hN1 hN hC hV hY z2
  have hcw : f_Tb_clustersWith K G S p0 p1 p2 (nI z) = some (nI ((N - V - Y * z) / C), S) := by
    unfold f_Tb_clustersWith
    rw [e0, e1, e2, if_pos (show 1 ≤ nI C from nI_le (a := 1) (by omega) (by omega)), q_g (nI_ne0 (by omega) (by omega)), ht, d1]
  rw [f_Tb_leastLength_3, if_neg (show ¬ 32 < nI z from nI_nlt (a := 32) (by omega) (by omega)), (qC_fit z1 z2).1 hnm, q_b, if_neg (by decide), hcw, q_c]
  unfold f_Tb_leastLength_41 f_Tb_isEnough f_Tb_isEnough_20
  rw [show (1 : Int32) = nI 1 from rfl, nI_add z 1, q_l, show (2 : Int32) = nI 2 from rfl, nI_add, show (128 : Int32) = nI 128 from rfl, pk_mul]
  unfold zP
  generalize (N - V - Y * z) / C = c at *
  refine ⟨fun ⟨a, b⟩ => ?_, fun w => ?_⟩
  · rw [if_neg (show ¬ nI c < 4 from nI_nlt (b := 4) (by omega) (by omega)), if_neg (show ¬ nI (128 * z) < nI (c + 2) from nI_nlt b (by omega)), q_b, if_neg (show ¬ nI 1 = 0 by decide)]
  · by_cases a : 4 ≤ c
    · rw [if_neg (show ¬ nI c < 4 from nI_nlt (b := 4) (by omega) (by omega)), if_pos (nI_lt (by omega) (by omega)), q_b, if_pos rfl]
    · rw [if_pos (show nI c < 4 from nI_lt (b := 4) (by omega) (by decide)), q_b, if_pos rfl]
theorem qC_len {K N C V Y : Nat} {G : CG} {S : CS} {p0 p1 p2 : Int32} (hN1 : 256 ≤ N) (hN : N ≤ 1024) (hC : C = 2 ∨ C = 4 ∨ C = 8) (hV : V ≤ 64) (hY : Y = 1 ∨ Y = 2) (e0 : p0 = nI C) (e1 : p1 = nI V) (e2 : p2 = nI Y) (hnm : fmP p0 p1 p2) (ht : S.v_Dk_sectors = nI N) {z0 : Nat} (h33 : z0 ≤ 33) (hno : ∀ z, 1 ≤ z → z < z0 → ¬ zP N C V Y z) (hyes : z0 ≤ 32 → zP N C V Y z0) : ∀ (d z k : Nat), z + d = z0 → 1 ≤ z → d < k → f_Tb_leastLength_3 K G k p0 p1 p2 (nI z) S = some (if z0 ≤ 32 then nI z0 else -1, S) := by
  intro d
  induction d with
  | zero =>
    intro z k h1 h2 h3
    obtain ⟨k, rfl⟩ : ∃ m, k = m + 1 := ⟨k - 1, by omega⟩
    obtain rfl : z = z0 := by omega
    by_cases w : z ≤ 32
    · rw [(qC_lenS hN1 hN hC hV hY h2 w e0 e1 e2 hnm ht).1 (hyes w), if_pos w]
    · obtain rfl : z = 33 := by omega
      rw [f_Tb_leastLength_3, if_pos (show 32 < nI 33 by decide), if_neg w]
  | succ d ih =>
    intro z k h1 h2 h3
    obtain ⟨k, rfl⟩ : ∃ m, k = m + 1 := ⟨k - 1, by omega⟩
    rw [(qC_lenS hN1 hN hC hV hY h2 (by omega) e0 e1 e2 hnm ht).2 (hno z h2 (by omega))]
    exact ih (z + 1) k (by omega) (by omega) (by omega)
theorem qC_lenN {K : Nat} {G : CG} {S : CS} {p0 p1 p2 : Int32} (hnm : ¬ fmP p0 p1 p2) : ∀ (d z k : Nat), z + d = 33 → 1 ≤ z → d < k → f_Tb_leastLength_3 K G k p0 p1 p2 (nI z) S = some (-1, S) := by
  intro d
  induction d with
  | zero =>
    intro z k h1 h2 h3
    obtain ⟨k, rfl⟩ : ∃ m, k = m + 1 := ⟨k - 1, by omega⟩
    obtain rfl : z = 33 := by omega
    rw [f_Tb_leastLength_3, if_pos (show 32 < nI 33 by decide)]
  | succ d ih =>
    intro z k h1 h2 h3
    obtain ⟨k, rfl⟩ : ∃ m, k = m + 1 := ⟨k - 1, by omega⟩
    unfold f_Tb_leastLength_3 f_Tb_leastLength_41
    rw [if_neg (show ¬ 32 < nI z from nI_nlt (a := 32) (by omega) (by omega)), (qC_fit h2 (by omega)).2 hnm, q_b, if_pos rfl, show (1 : Int32) = nI 1 from rfl, nI_add z 1, q_l]
    exact ih (z + 1) k (by omega) (by omega) (by omega)
/-- the least length, or 33 -/
theorem z_ex (P : Nat → Prop) : ∃ z0, 1 ≤ z0 ∧ z0 ≤ 33 ∧ (∀ z, 1 ≤ z → z < z0 → ¬ P z) ∧ (z0 ≤ 32 → P z0) := by
  have key : ∀ d z, z + d = 33 → 1 ≤ z → (∀ y, 1 ≤ y → y < z → ¬ P y) → ∃ z0, 1 ≤ z0 ∧ z0 ≤ 33 ∧ (∀ z, 1 ≤ z → z < z0 → ¬ P z) ∧ (z0 ≤ 32 → P z0) := by
    intro d
    induction d with
    | zero => intro z h1 h2 h3; exact ⟨z, h2, by omega, h3, fun w => by omega⟩
    | succ d ih =>
      intro z h1 h2 h3
      by_cases w : P z
      · exact ⟨z, h2, by omega, h3, fun _ => w⟩
      · exact ih (z + 1) (by omega) (by omega) (fun y y1 y2 => by
          by_cases e : y = z
          · rw [e]; exact w
          · exact h3 y y1 (by omega))
  exact key 32 1 rfl (Nat.le_refl _) (fun y y1 y2 => by omega)
