/-! make: what a part and an entry are made of. -/
def puN (X : Nat → Int32) (p : Nat) (v : Nat → Nat) : Nat → Nat → Int32
  | 0 => X
  | i + 1 => st (puN X p v i) (p + uAt i) (v i) 2
theorem uAt_le {i : Nat} (h : i < 13) : 1 ≤ uAt i ∧ uAt i + 2 ≤ 32 := by
  unfold uAt
  split
  · omega
  · split <;> omega
theorem puN_out {X : Nat → Int32} {p q : Nat} {v : Nat → Nat} (h : q < p ∨ p + 32 ≤ q) : ∀ i, i ≤ 13 → o1 (puN X p v i) q = o1 X q := by
  intro i
  induction i with
  | zero => intro _; rfl
  | succ i ih =>
    intro hi
    have := uAt_le (i := i) (by omega)
    rw [puN, st_out (by omega), ih (by omega)]
theorem puN_ag {X Y : Nat → Int32} {p q : Nat} {v : Nat → Nat} (h : o1 X q = o1 Y q) : ∀ i, o1 (puN X p v i) q = o1 (puN Y p v i) q := by
  intro i
  induction i with
  | zero => exact h
  | succ i ih => rw [puN, puN, st_ag ih]
/-- one part in its slot -/
def ptF (X : Nat → Int32) (p a m : Nat) (v : Nat → Nat) : Nat → Int32 := puN (st (st (st X p a 1) (p + 11) 15 1) (p + 13) m 1) p v 13
theorem ptF_out {X : Nat → Int32} {p a m q : Nat} {v : Nat → Nat} (h : q < p ∨ p + 32 ≤ q) : o1 (ptF X p a m v) q = o1 X q := by
  unfold ptF
  rw [puN_out h 13 (by omega), st_out (by omega), st_out (by omega), st_out (by omega)]
theorem ptF_ag {X Y : Nat → Int32} {p a m q : Nat} {v : Nat → Nat} (h : o1 X q = o1 Y q) : o1 (ptF X p a m v) q = o1 (ptF Y p a m v) q := by
  unfold ptF
  exact puN_ag (st_ag (st_ag (st_ag h))) 13
/-- the unit i of a name of many parts -/
def unV (us : List Nat) (i : Nat) : Nat := if i < us.length then us.getD i 0 else if i = us.length then 0 else 65535
theorem unV_lt {us : List Nat} (hu : ∀ u ∈ us, u < 65536) (i : Nat) : unV us i < 65536 := by
  unfold unV
  split
  · exact getD_lt hu (by decide)
  · split <;> omega
theorem l64 {a : Nat} (h : a < 2 ^ 31) : (nI a).toInt64 = lN a := by
  apply Int64.toInt_inj.mp
  rw [Int32.toInt_toInt64, nI_toInt h]
  show _ = (BitVec.ofNat 64 a).toInt
  rw [BitVec.toInt_eq_toNat_cond, BitVec.toNat_ofNat, Nat.mod_eq_of_lt (by omega), if_pos (by omega)]
theorem qM_lay46 {K n p : Nat} {us : List Nat} (hl : us.length ≤ 255) (hu : ∀ u ∈ us, u < 65536) (hn1 : 1 ≤ n) (hn : n ≤ 20) (hp : p + 32 ≤ 524288) (hK : 100 ≤ K) : ∀ (d i k : Nat) (X : Nat → Int32) (T : MS), i + d = 13 → d < k → T.v_size = nI us.length → bufR T.v_name us → T.v_disk = puN X p (fun q => unV us (13 * (n - 1) + q)) i → f_Mo_layPart_46 K k (nI p) (nI n) (nI i) T = some (T.u_v_disk (puN X p (fun q => unV us (13 * (n - 1) + q)) 13)) := by
  intro d
  induction d with
  | zero =>
    intro i k X T h1 h2 h3 h4 h5
    obtain ⟨k, rfl⟩ : ∃ m, k = m + 1 := ⟨k - 1, by omega⟩
    obtain rfl : i = 13 := by omega
    rw [f_Mo_layPart_46, if_pos (show (13 : Int32) ≤ nI 13 by decide), ← h5]
    rfl
  | succ d ih =>
    intro i k X T h1 h2 h3 h4 h5
    obtain ⟨k, rfl⟩ : ∃ m, k = m + 1 := ⟨k - 1, by omega⟩
    have hi : i < 13 := by omega
    have hua := uAt_le hi
    have huv := unV_lt hu (13 * (n - 1) + i)
    have put : ∀ w : Int64, w = lN (unV us (13 * (n - 1) + i)) → f_Mo_layPart_142 K (f_Mo_layPart_46 K k) (nI p) (nI n) (nI i) (nI (p + uAt i)) 2 w T = some (T.u_v_disk (puN X p (fun q => unV us (13 * (n - 1) + q)) 13)) := fun w ew => by
      unfold f_Mo_layPart_142
      rw [ew, show (2 : Int32) = nI 2 from rfl, qM_set hK (by omega) (by omega) (by omega), q_b, q_l, nI_1, h5]
      have := ih (i + 1) k X (T.u_v_disk (st (puN X p (fun q => unV us (13 * (n - 1) + q)) i) (p + uAt i) (unV us (13 * (n - 1) + i)) 2)) (by omega) (by omega) h3 h4 rfl
      rw [this]
      rfl
    have mid : f_Mo_layPart_104 K (f_Mo_layPart_46 K k) (nI p) (nI n) (nI i) (nI (13 * (n - 1) + i)) (nI p) (nI (uAt i)) T = some (T.u_v_disk (puN X p (fun q => unV us (13 * (n - 1) + q)) 13)) := by
      unfold f_Mo_layPart_104
      rw [h3, nI_add]
      by_cases c : us.length ≤ 13 * (n - 1) + i
      · rw [if_pos (nI_le c (by omega))]
        by_cases c2 : 13 * (n - 1) + i = us.length
        · rw [if_pos (by rw [c2])]
          exact put _ (by unfold unV; rw [if_neg (by omega), if_pos c2]; rfl)
        · rw [if_neg (fun y => c2 ((nI_eq (by omega) (by omega)).mp y))]
          exact put _ (by unfold unV; rw [if_neg (by omega), if_neg c2]; rfl)
      · rw [if_neg (nI_ge (by omega) (by omega)), q_g (q_in (by omega) (by decide)), nI_clamp (by omega), h4 _ (by omega)]
        refine put _ ?_
        have := huv
        unfold unV at this ⊢
        rw [if_pos (by omega)] at this ⊢
        exact l64 (by omega)
    rw [f_Mo_layPart_46, if_neg (show ¬ (13 : Int32) ≤ nI i from nI_ge hi (by decide)), show (1 : Int32) = nI 1 from rfl, pk_sub hn1, show (13 : Int32) = nI 13 from rfl, pk_mul, nI_add, q_l, show (2 : Int32) = nI 2 from rfl, pk_mul]
    by_cases c5 : 5 ≤ i
    · rw [if_pos (show (5 : Int32) ≤ nI i from nI_le (a := 5) c5 (by omega))]
      by_cases c11 : 11 ≤ i
      · rw [if_pos (show (11 : Int32) ≤ nI i from nI_le (a := 11) c11 (by omega)), show (6 : Int32) = nI 6 from rfl, nI_add, show 6 + 2 * i = uAt i from by unfold uAt; rw [if_neg (by omega), if_neg (by omega)]]
        exact mid
      · rw [if_neg (show ¬ (11 : Int32) ≤ nI i from nI_ge (Nat.lt_of_not_le c11) (by decide)), show (4 : Int32) = nI 4 from rfl, nI_add, show 4 + 2 * i = uAt i from by unfold uAt; rw [if_neg (by omega), if_pos (by omega)]]
        exact mid
    · rw [if_neg (show ¬ (5 : Int32) ≤ nI i from nI_ge (Nat.lt_of_not_le c5) (by decide)), nI_add, show 1 + 2 * i = uAt i from by unfold uAt; rw [if_pos (by omega)]]
      exact mid
theorem qM_layPart {K n p m : Nat} {us : List Nat} {T : MS} {la : Int32} (hK : 100 ≤ K) (hs : T.v_size = nI us.length) (hb : bufR T.v_name us) (hl : us.length ≤ 255) (hu : ∀ u ∈ us, u < 65536) (hn1 : 1 ≤ n) (hn : n ≤ 20) (hp : p + 32 ≤ 524288) (hm : m < 256) : f_Mo_layPart K T (nI p) (nI n) la (nI m) = some (T.u_v_disk (ptF T.v_disk p (if la = 0 then n else n + 64) m (fun q => unV us (13 * (n - 1) + q)))) := by
  have go : ∀ x : Nat, n + x < 256 → f_Mo_layPart_14 K (nI p) (nI n) (nI m) (nI p) 1 (nI n) (nI x) T = some (T.u_v_disk (ptF T.v_disk p (n + x) m (fun q => unV us (13 * (n - 1) + q)))) := fun x hx => by
    unfold f_Mo_layPart_14 ptF
    rw [nI_add, l64 (by omega), l64 (by omega), show (1 : Int32) = nI 1 from rfl, show (15 : Int64) = lN 15 from rfl, qM_set hK (by omega) (by omega) (by omega), q_b, show (11 : Int32) = nI 11 from rfl, nI_add, qM_set hK (by omega) (by omega) (by omega), q_b, show (13 : Int32) = nI 13 from rfl, nI_add, qM_set hK (by omega) (by omega) (by omega), q_b]
    exact qM_lay46 hl hu hn1 hn hp hK 13 0 K _ (((T.u_v_disk (st T.v_disk p (n + x) 1)).u_v_disk (st (st T.v_disk p (n + x) 1) (p + 11) 15 1)).u_v_disk (st (st (st T.v_disk p (n + x) 1) (p + 11) 15 1) (p + 13) m 1)) rfl (by omega) hs hb rfl
  unfold f_Mo_layPart
  by_cases c : la = 0
  · rw [if_pos c, if_pos c]
    exact go 0 (by omega)
  · rw [if_neg c, if_neg c]
    exact go 64 (by omega)
/-! the class -/
theorem qC_lay84 {K N n p : Nat} {us : List Nat} {G : CG} (hG : G.n = N) (hN1 : 256 ≤ N) (hN : N ≤ 1024) (hl : us.length ≤ 255) (hu : ∀ u ∈ us, u < 65536) (hn1 : 1 ≤ n) (hn : n ≤ 20) (hp : p + 32 ≤ 512 * N) : ∀ (d i k : Nat) (X : Nat → Int32) (S : CS), i + d = 13 → d < k → S.v_Ed_unitCount = nI us.length → bufR S.w_Ed_units us → S.w_Dk_bytes = puN X p (fun q => unV us (13 * (n - 1) + q)) i → f_Ed_putPart_84 K G k (nI p) (nI n) (nI i) S = some (S.u_w_Dk_bytes (puN X p (fun q => unV us (13 * (n - 1) + q)) 13)) := by
  intro d
  induction d with
  | zero =>
    intro i k X S h1 h2 h3 h4 h5
    obtain ⟨k, rfl⟩ : ∃ m, k = m + 1 := ⟨k - 1, by omega⟩
    obtain rfl : i = 13 := by omega
    rw [f_Ed_putPart_84, if_pos (show (13 : Int32) ≤ nI 13 by decide), ← h5]
    rfl
  | succ d ih =>
    intro i k X S h1 h2 h3 h4 h5
    obtain ⟨k, rfl⟩ : ∃ m, k = m + 1 := ⟨k - 1, by omega⟩
    have hi : i < 13 := by omega
    have hua := uAt_le hi
    have huv := unV_lt hu (13 * (n - 1) + i)
    have put : ∀ w : Int32, w = nI (unV us (13 * (n - 1) + i)) → f_Ed_putPart_134 K G (f_Ed_putPart_84 K G k) (nI p) (nI n) (nI i) w S = some (S.u_w_Dk_bytes (puN X p (fun q => unV us (13 * (n - 1) + q)) 13)) := fun w ew => by
      unfold f_Ed_putPart_134
      rw [ew, qC_unitPlace hi, q_b, nI_add, qC_put2 hG hN1 hN (by omega) (by omega), q_b, q_l, nI_1, h5]
      have := ih (i + 1) k X (S.u_w_Dk_bytes (st (puN X p (fun q => unV us (13 * (n - 1) + q)) i) (p + uAt i) (unV us (13 * (n - 1) + i)) 2)) (by omega) (by omega) h3 h4 rfl
      rw [this]
      rfl
    rw [f_Ed_putPart_84, if_neg (show ¬ (13 : Int32) ≤ nI i from nI_ge hi (by decide)), show (1 : Int32) = nI 1 from rfl, pk_sub hn1, show (13 : Int32) = nI 13 from rfl, pk_mul, nI_add, q_l, h3, Nat.mul_comm]
    by_cases c : us.length ≤ 13 * (n - 1) + i
    · rw [if_pos (nI_le c (by omega))]
      by_cases c2 : 13 * (n - 1) + i = us.length
      · rw [if_pos (by rw [c2])]
        exact put _ (by unfold unV; rw [if_neg (by omega), if_pos c2]; rfl)
      · rw [if_neg (fun y => c2 ((nI_eq (by omega) (by omega)).mp y))]
        exact put _ (by unfold unV; rw [if_neg (by omega), if_neg c2]; rfl)
    · rw [if_neg (nI_ge (by omega) (by omega)), q_g (q_in (by omega) (by decide)), nI_clamp (by omega), h4 _ (by omega)]
      exact put _ (by unfold unV; rw [if_pos (by omega)])
theorem qC_putPart {K N n p f0 W pe : Nat} {us : List Nat} {G : CG} {S : CS} (hK : 1000 ≤ K) (hG : G.n = N) (hN1 : 256 ≤ N) (hN : N ≤ 1024) (hs : S.v_Ed_unitCount = nI us.length) (hb : bufR S.w_Ed_units us) (hl : us.length ≤ 255) (hu : ∀ u ∈ us, u < 65536) (hn1 : 1 ≤ n) (hn : n ≤ 20) (hp : p + 32 ≤ 512 * N) (hf0 : S.v_Ed_firstSlot = nI f0) (hW : S.v_Ed_slots = nI W) (hW1 : 1 ≤ W) (hf : f0 + W < 2 ^ 31) (hpl : ∀ f, f_Ed_slotPlace K G (S.u_w_Dk_bytes f) (nI (f0 + W - 1)) = some (nI pe, S.u_w_Dk_bytes f)) (hpe : pe + 32 ≤ 512 * N) (hne : pe + 32 ≤ p ∨ p + 32 ≤ pe) : f_Ed_putPart K G S (nI p) (nI n) = some (S.u_w_Dk_bytes (ptF (zr S.w_Dk_bytes p 32) p (if n = W - 1 then n + 64 else n) (sm S.w_Dk_bytes pe 11) (fun q => unV us (13 * (n - 1) + q)))) := by
  have smE : ∀ X : Nat → Int32, (∀ q, pe ≤ q → q < pe + 32 → o1 X q = o1 S.w_Dk_bytes q) → ∀ i, i ≤ 11 → sm X pe i = sm S.w_Dk_bytes pe i := fun X hX i => by
    induction i with
    | zero => intro _; rfl
    | succ i ih =>
      intro hi
      show (sm X pe i % 2 * 128 + sm X pe i / 2 + o1 X (pe + i)) % 256 = (sm S.w_Dk_bytes pe i % 2 * 128 + sm S.w_Dk_bytes pe i / 2 + o1 S.w_Dk_bytes (pe + i)) % 256
      rw [ih (by omega), hX (pe + i) (by omega) (by omega)]
  have go : ∀ a : Nat, a < 256 → f_Ed_putPart_33 K G (nI p) (nI n) (nI p) (nI a) (S.u_w_Dk_bytes (zr S.w_Dk_bytes p 32)) = some (S.u_w_Dk_bytes (ptF (zr S.w_Dk_bytes p 32) p a (sm S.w_Dk_bytes pe 11) (fun q => unV us (13 * (n - 1) + q)))) := fun a ha0 => by
    unfold f_Ed_putPart_33 ptF
    rw [qC_put1 hG hN1 hN (by omega), q_b, show (11 : Int32) = nI 11 from rfl, show (15 : Int32) = nI 15 from rfl, nI_add, qC_put1 hG hN1 hN (by omega), q_b]
    show lf_c (f_Ed_slotPlace K G (S.u_w_Dk_bytes (st (st (zr S.w_Dk_bytes p 32) p a 1) (p + 11) 15 1)) (S.v_Ed_firstSlot + S.v_Ed_slots - 1)) _ = _
    rw [hf0, hW, nI_add, show (1 : Int32) = nI 1 from rfl, pk_sub (by omega), hpl, q_c, qV_sum (D := st (st (zr S.w_Dk_bytes p 32) p a 1) (p + 11) 15 1) hK hG rfl hN (by omega), q_c, show (13 : Int32) = nI 13 from rfl, nI_add, qC_put1 hG hN1 hN (by omega), q_b, smE _ (fun q h1 h2 => by rw [st_out (by omega), st_out (by omega), zr_o1, if_neg (by omega)]) 11 (Nat.le_refl _)]
    exact qC_lay84 hG hN1 hN hl hu hn1 hn hp 13 0 K _ (S.u_w_Dk_bytes (st (st (st (zr S.w_Dk_bytes p 32) p a 1) (p + 11) 15 1) (p + 13) (sm S.w_Dk_bytes pe 11) 1)) rfl (by omega) hs hb rfl
  unfold f_Ed_putPart
  rw [show (32 : Int32) = nI 32 from rfl, qC_zero hG hN hp, q_b]
  show (if nI n = S.v_Ed_slots - 1 then _ else _) = _
  rw [hW, show (1 : Int32) = nI 1 from rfl, pk_sub hW1, show (64 : Int32) = nI 64 from rfl, nI_add]
  by_cases c : n = W - 1
  · rw [if_pos (by rw [c]), if_pos c]
    exact go _ (by omega)
  · rw [if_neg (fun y => c ((nI_eq (by omega) (by omega)).mp y)), if_neg c]
    exact go _ (by omega)
