/-! make: the entry and its parts laid on both sides. -/
def nmW (X : Nat → Int32) (p : Nat) (nm : Nat → Nat) : Nat → Nat → Int32
  | 0 => X
  | i + 1 => st (nmW X p nm i) (p + i) (nm i) 1
theorem nmW_ag {X Y : Nat → Int32} {p q : Nat} {nm : Nat → Nat} (h : o1 X q = o1 Y q) : ∀ i, o1 (nmW X p nm i) q = o1 (nmW Y p nm i) q := by
  intro i
  induction i with
  | zero => exact h
  | succ i ih => rw [nmW, nmW, st_ag ih]
theorem nmW_out {X : Nat → Int32} {p q : Nat} {nm : Nat → Nat} : ∀ i, (q < p ∨ p + i ≤ q) → o1 (nmW X p nm i) q = o1 X q := by
  intro i
  induction i with
  | zero => intro _; rfl
  | succ i ih => intro h; rw [nmW, st_out (by omega), ih (by omega)]
theorem nmW_at {X : Nat → Int32} {p j : Nat} {nm : Nat → Nat} (hn : nm j < 256) : ∀ i, j < i → o1 (nmW X p nm i) (p + j) = nm j := by
  intro i
  induction i with
  | zero => intro h; omega
  | succ i ih =>
    intro h
    rw [nmW, st_o1]
    by_cases c : j = i
    · rw [if_pos (by omega), c, Nat.sub_self, Nat.pow_zero, Nat.div_one, ← c, Nat.mod_eq_of_lt hn]
    · rw [if_neg (by omega), ih (by omega)]
/-- the rest of an entry -/
def enA (X : Nat → Int32) (p a o : Nat) : Nat → Int32 := st (st (st (st X (p + 11) a 1) (p + 24) 33 2) (p + 20) (o / 65536) 2) (p + 26) o 2
theorem enA_ag {X Y : Nat → Int32} {p a o q : Nat} (h : o1 X q = o1 Y q) : o1 (enA X p a o) q = o1 (enA Y p a o) q := by
  unfold enA
  exact st_ag (st_ag (st_ag (st_ag h)))
theorem enA_out {X : Nat → Int32} {p a o q : Nat} (h : q < p + 11 ∨ p + 32 ≤ q) : o1 (enA X p a o) q = o1 X q := by
  unfold enA
  rw [st_out (by omega), st_out (by omega), st_out (by omega), st_out (by omega)]
def Zd : Nat → Int32 := fun _ => 0
theorem Zd_o (q : Nat) : o1 Zd q = 0 := show ub (0 : Int32) = 0 from by decide
/-- the sum of eleven signs -/
def smN (nm : Nat → Nat) : Nat → Nat
  | 0 => 0
  | i + 1 => (smN nm i % 2 * 128 + smN nm i / 2 + nm i) % 256
theorem sm_N {X : Nat → Int32} {p : Nat} {nm : Nat → Nat} (h : ∀ i, i < 11 → o1 X (p + i) = nm i) : ∀ i, i ≤ 11 → sm X p i = smN nm i := by
  intro i
  induction i with
  | zero => intro _; rfl
  | succ i ih =>
    intro hi
    show (sm X p i % 2 * 128 + sm X p i / 2 + o1 X (p + i)) % 256 = (smN nm i % 2 * 128 + smN nm i / 2 + nm i) % 256
    rw [ih (by omega), h i (by omega)]
/-! the class's entry -/
theorem qC_putEntry {K N p o dr : Nat} {nm : Nat → Nat} {G : CG} {S : CS} (hK : 1000 ≤ K) (hG : G.n = N) (hN1 : 256 ≤ N) (hN : N ≤ 1024) (hp : p + 32 ≤ 512 * N) (hnm : ∀ q, q < 11 → S.w_Ed_shortName q = nI (nm q)) (ho : o < 2 ^ 28) (hdr : dr = 0 ∨ dr = 1) : f_Ed_putEntry K G S (nI p) (nI o) (nI dr) = some (S.u_w_Dk_bytes (enA (nmW (zr S.w_Dk_bytes p 32) p nm 11) p (if dr = 0 then 32 else 48) o)) := by
  have fin : ∀ a : Nat, f_Ed_putEntry_63 K G (nI p) (nI o) (nI p + 11) (nI a) (S.u_w_Dk_bytes (nmW (zr S.w_Dk_bytes p 32) p nm 11)) = some (S.u_w_Dk_bytes (enA (nmW (zr S.w_Dk_bytes p 32) p nm 11) p a o)) := fun a => by
    unfold f_Ed_putEntry_63 f_Ed_putFirstCluster enA
    rw [show (11 : Int32) = nI 11 from rfl, nI_add, qC_put1 hG hN1 hN (by omega), q_b, show (24 : Int32) = nI 24 from rfl, show (33 : Int32) = nI 33 from rfl, nI_add, qC_put2 hG hN1 hN (by omega) (by omega), q_b, show (20 : Int32) = nI 20 from rfl, show (26 : Int32) = nI 26 from rfl, nI_add, nI_add, show (16 : Int32) = nI 16 from rfl, q_shr (by omega) (by decide), qC_put2 hG hN1 hN (by omega) (by omega), q_b, qC_put2 hG hN1 hN (by omega) (by omega), q_b, q_b]
    rfl
  have go : ∀ (d i k : Nat), i + d = 11 → d < k → f_Ed_putEntry_13 K G k (nI p) (nI o) (nI dr) (nI i) (S.u_w_Dk_bytes (nmW (zr S.w_Dk_bytes p 32) p nm i)) = some (S.u_w_Dk_bytes (enA (nmW (zr S.w_Dk_bytes p 32) p nm 11) p (if dr = 0 then 32 else 48) o)) := by
    intro d
    induction d with
    | zero =>
      intro i k h1 h2
      obtain ⟨k, rfl⟩ : ∃ m, k = m + 1 := ⟨k - 1, by omega⟩
      obtain rfl : i = 11 := by omega
      rw [f_Ed_putEntry_13, if_pos (show (11 : Int32) ≤ nI 11 by decide)]
      rcases hdr with rfl | rfl
      · rw [if_pos (show nI 0 = 0 from rfl), if_pos rfl]
        exact fin 32
      · rw [if_neg (show ¬ nI 1 = 0 by decide), if_neg (show ¬ 1 = 0 by omega)]
        exact fin 48
    | succ d ih =>
      intro i k h1 h2
      obtain ⟨k, rfl⟩ : ∃ m, k = m + 1 := ⟨k - 1, by omega⟩
      rw [f_Ed_putEntry_13, if_neg (show ¬ (11 : Int32) ≤ nI i from nI_ge (show i < 11 by omega) (by decide)), q_g (q_in (by omega) (by decide)), nI_clamp (by omega), nI_add]
      show (f_Dk_putOne K G (S.u_w_Dk_bytes (nmW (zr S.w_Dk_bytes p 32) p nm i)) (nI (p + i)) (S.w_Ed_shortName i)).bind _ = _
      rw [hnm i (by omega), qC_put1 hG hN1 hN (by omega), q_b, q_l, nI_1]
      exact ih (i + 1) k (by omega) (by omega)
  unfold f_Ed_putEntry
  rw [show (32 : Int32) = nI 32 from rfl, qC_zero hG hN hp, q_b]
  exact go 11 0 K (by omega) (by omega)
/-! what stands in the slots -/
abbrev inS (P : Nat → Nat) (i q : Nat) : Prop := P i ≤ q ∧ q < P i + 32
abbrev disP (P : Nat → Nat) (W : Nat) : Prop := ∀ i j, i < W → j < W → i ≠ j → P i + 32 ≤ P j ∨ P j + 32 ≤ P i
def ptA (W i : Nat) : Nat := if i = 0 then W - 1 - i + 64 else W - 1 - i
def ptV (us : List Nat) (W i q : Nat) : Nat := unV us (13 * (W - 1 - i - 1) + q)
def slX (P : Nat → Nat) (W m : Nat) (nm : Nat → Nat) (a o : Nat) (us : List Nat) (X F : Nat → Int32) : Prop := (∀ i, i + 1 < W → ∀ q, inS P i q → o1 F q = o1 (ptF Zd (P i) (ptA W i) m (ptV us W i)) q) ∧ (∀ q, inS P (W - 1) q → o1 F q = o1 (enA (nmW Zd (P (W - 1)) nm 11) (P (W - 1)) a o) q) ∧ (∀ q, (∀ i, i < W → ¬ inS P i q) → o1 F q = o1 X q)
/-! the class: parts from the last to the first -/
def ptC (P : Nat → Nat) (W m : Nat) (us : List Nat) (X : Nat → Int32) : Nat → Nat → Int32
  | 0 => X
  | n + 1 => ptF (zr (ptC P W m us X n) (P (W - 1 - (n + 1))) 32) (P (W - 1 - (n + 1))) (ptA W (W - 1 - (n + 1))) m (ptV us W (W - 1 - (n + 1)))
theorem ptC_out {P : Nat → Nat} {W m q : Nat} {us : List Nat} {X : Nat → Int32} : ∀ n, n < W → (∀ i, W - 1 - n ≤ i → i < W - 1 → ¬ inS P i q) → o1 (ptC P W m us X n) q = o1 X q := by
  intro n
  induction n with
  | zero => intro _ _; rfl
  | succ n ih =>
    intro hn h
    have := h (W - 1 - (n + 1)) (Nat.le_refl _) (by omega)
    rw [ptC, ptF_out (by unfold inS at this; omega), zr_o1, if_neg (by unfold inS at this; omega), ih (by omega) fun i a b => h i (by omega) b]
theorem ptC_in {P : Nat → Nat} {W m q i : Nat} {us : List Nat} {X : Nat → Int32} (hd : disP P W) (hi : inS P i q) : ∀ n, n < W → W - 1 - n ≤ i → i < W - 1 → o1 (ptC P W m us X n) q = o1 (ptF Zd (P i) (ptA W i) m (ptV us W i)) q := by
  intro n
  induction n with
  | zero => intro _ h1 h2; omega
  | succ n ih =>
    intro hn h1 h2
    by_cases c : i = W - 1 - (n + 1)
    · rw [ptC, ← c]
      exact ptF_ag (by rw [zr_o1, if_pos hi, Zd_o])
    · have := hd i (W - 1 - (n + 1)) (by omega) (by omega) c
      rw [ptC, ptF_out (by unfold inS at hi; omega), zr_o1, if_neg (by unfold inS at hi; omega)]
      exact ih (by omega) (by omega) h2
theorem slX_C {P : Nat → Nat} {W m a o : Nat} {nm : Nat → Nat} {us : List Nat} {X : Nat → Int32} (hW : 1 ≤ W) (hd : disP P W) : slX P W m nm a o us X (ptC P W m us (enA (nmW (zr X (P (W - 1)) 32) (P (W - 1)) nm 11) (P (W - 1)) a o) (W - 1)) := by
  refine ⟨fun i hi q hq => ptC_in hd hq (W - 1) (by omega) (by omega) (by omega), fun q hq => ?_, fun q hq => ?_⟩
  · rw [ptC_out (W - 1) (by omega) fun i _ h2 h3 => by
      have := hd i (W - 1) (by omega) (by omega) (by omega)
      unfold inS at h3 hq
      omega]
    exact enA_ag (nmW_ag (by rw [zr_o1, if_pos hq, Zd_o]) 11)
  · have h1 := hq (W - 1) (by omega)
    rw [ptC_out (W - 1) (by omega) fun i _ h2 => hq i (by omega), enA_out (by unfold inS at h1; omega), nmW_out 11 (by unfold inS at h1; omega), zr_o1, if_neg (by unfold inS at h1; omega)]
/-! the reference: all slots zeroed, the name, the parts from the first to the last, the rest -/
def zrS (P : Nat → Nat) (X : Nat → Int32) : Nat → Nat → Int32
  | 0 => X
  | i + 1 => zr (zrS P X i) (P i) 32
def ptM (P : Nat → Nat) (W m : Nat) (us : List Nat) (X : Nat → Int32) : Nat → Nat → Int32
  | 0 => X
  | i + 1 => ptF (ptM P W m us X i) (P i) (ptA W i) m (ptV us W i)
theorem zrS_in {P : Nat → Nat} {X : Nat → Int32} {q i : Nat} (hq : inS P i q) : ∀ n, i < n → o1 (zrS P X n) q = 0 := by
  intro n
  induction n with
  | zero => intro h; omega
  | succ n ih =>
    intro h
    rw [zrS, zr_o1]
    by_cases c : inS P n q
    · rw [if_pos c]
    · rw [if_neg c]
      by_cases e : i = n
      · rw [e] at hq; exact absurd hq c
      · exact ih (by omega)
theorem zrS_out {P : Nat → Nat} {X : Nat → Int32} {q : Nat} : ∀ n, (∀ i, i < n → ¬ inS P i q) → o1 (zrS P X n) q = o1 X q := by
  intro n
  induction n with
  | zero => intro _; rfl
  | succ n ih =>
    intro h
    rw [zrS, zr_o1, if_neg (h n (by omega)), ih fun i hi => h i (by omega)]
theorem ptM_out {P : Nat → Nat} {W m q : Nat} {us : List Nat} {X : Nat → Int32} : ∀ n, (∀ i, i < n → ¬ inS P i q) → o1 (ptM P W m us X n) q = o1 X q := by
  intro n
  induction n with
  | zero => intro _; rfl
  | succ n ih =>
    intro h
    have := h n (by omega)
    rw [ptM, ptF_out (by unfold inS at this; omega), ih fun i hi => h i (by omega)]
theorem ptM_in {P : Nat → Nat} {W m q i : Nat} {us : List Nat} {X : Nat → Int32} (hd : disP P W) (hi : inS P i q) (h0 : o1 X q = 0) : ∀ n, n < W → i < n → o1 (ptM P W m us X n) q = o1 (ptF Zd (P i) (ptA W i) m (ptV us W i)) q := by
  intro n
  induction n with
  | zero => intro _ h; omega
  | succ n ih =>
    intro hn h
    by_cases c : i = n
    · rw [ptM, ← c]
      refine ptF_ag ?_
      rw [ptM_out i fun j hj h3 => by
        have := hd j i (by omega) (by omega) (by omega)
        unfold inS at h3 hi
        omega, h0, Zd_o]
    · have := hd i n (by omega) (by omega) c
      rw [ptM, ptF_out (by unfold inS at hi; omega)]
      exact ih (by omega) (by omega)
theorem slX_M {P : Nat → Nat} {W m a o : Nat} {nm : Nat → Nat} {us : List Nat} {X : Nat → Int32} (hW : 1 ≤ W) (hd : disP P W) : slX P W m nm a o us X (enA (ptM P W m us (nmW (zrS P X W) (P (W - 1)) nm 11) (W - 1)) (P (W - 1)) a o) := by
  refine ⟨fun i hi q hq => ?_, fun q hq => ?_, fun q hq => ?_⟩
  · have := hd i (W - 1) (by omega) (by omega) (by omega)
    rw [enA_out (by unfold inS at hq; omega)]
    refine ptM_in hd hq ?_ (W - 1) (by omega) (by omega)
    rw [nmW_out 11 (by unfold inS at hq; omega)]
    exact zrS_in hq W (by omega)
  · refine enA_ag ?_
    rw [ptM_out (W - 1) fun i h2 h3 => by
      have := hd i (W - 1) (by omega) (by omega) (by omega)
      unfold inS at h3 hq
      omega]
    exact nmW_ag (by rw [zrS_in hq W (by omega), Zd_o]) 11
  · have h1 := hq (W - 1) (by omega)
    rw [enA_out (by unfold inS at h1; omega), ptM_out (W - 1) fun i h2 => hq i (by omega), nmW_out 11 (by unfold inS at h1; omega), zrS_out W fun i hi => hq i hi]
