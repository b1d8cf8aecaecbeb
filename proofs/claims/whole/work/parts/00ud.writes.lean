/-! Writes of sectors, one behind another, as far as the power goes. -/
def pR (p : Option Nat) (n : Nat) : Option Nat := match p with
  | none => none
  | some w => some (w - n)
theorem pR_0 (p : Option Nat) : pR p 0 = p := by cases p <;> rfl
theorem pR_1 (p : Option Nat) : pR p 1 = pD p := by cases p <;> rfl
theorem pR_add (p : Option Nat) (a b : Nat) : pR (pR p a) b = pR p (a + b) := by
  cases p with
  | none => rfl
  | some w =>
    show some (w - a - b) = some (w - (a + b))
    rw [Nat.sub_sub]
theorem pR_ok {p : Option Nat} (h : pOk p) (n : Nat) : pOk (pR p n) := by
  intro w e
  cases p with
  | none => cases e
  | some v =>
    have := h v rfl
    cases e
    omega
abbrev Wr : Type := Nat × (Nat → Int32)
noncomputable def ApL : Option Nat → List Wr → (Nat → Int32) → Nat → Int32
  | _, [], E => E
  | p, w :: L, E => ApL (pD p) L (aW p E w.1 w.2 0)
abbrev eqO (E E' : Nat → Int32) : Prop := ∀ q, o1 E q = o1 E' q
theorem aW_eq {p : Option Nat} {E E' Y Y' : Nat → Int32} {s a a' : Nat} (h : eqO E E') (hY : ∀ j, j < 512 → o1 Y (a + j) = o1 Y' (a' + j)) : eqO (aW p E s Y a) (aW p E' s Y' a') := by
  intro q
  unfold aW
  by_cases w : p = some 0
  · rw [cif_t w, cif_t w]; exact h q
  · rw [cif_f w, cif_f w, wS_o1, wS_o1]
    by_cases g : 512 * s ≤ q ∧ q < 512 * s + 512
    · rw [if_pos g, if_pos g]; exact hY _ (by omega)
    · rw [if_neg g, if_neg g]; exact h q
theorem ApL_eq : ∀ (L : List Wr) (p : Option Nat) (E E' : Nat → Int32), eqO E E' → eqO (ApL p L E) (ApL p L E') := by
  intro L
  induction L with
  | nil => intro p E E' h; exact h
  | cons w L ih => intro p E E' h; exact ih _ _ _ (aW_eq h (fun _ _ => rfl))
theorem ApL_app : ∀ (L M : List Wr) (p : Option Nat) (E : Nat → Int32), ApL p (L ++ M) E = ApL (pR p L.length) M (ApL p L E) := by
  intro L
  induction L with
  | nil => intro M p E; rw [List.nil_append, List.length_nil, pR_0]; rfl
  | cons w L ih =>
    intro M p E
    rw [List.cons_append, ApL, ih, ApL, List.length_cons, ← pR_1, pR_add, Nat.add_comm 1]
/-- a property of the disk that each write keeps is kept -/
theorem ApL_J {J : (Nat → Int32) → Prop} (hJ : ∀ E E', eqO E' E → J E → J E') : ∀ (L : List Wr) (p : Option Nat) (E : Nat → Int32), (∀ w ∈ L, ∀ E, J E → J (wS E w.1 w.2 0)) → J E → J (ApL p L E) := by
  intro L
  induction L with
  | nil => intro p E _ h; exact h
  | cons w L ih =>
    intro p E hw h
    refine ih _ _ (fun v hv => hw v (List.mem_cons_of_mem _ hv)) ?_
    unfold aW
    by_cases g : p = some 0
    · rw [cif_t g]; exact h
    · rw [cif_f g]; exact hw w List.mem_cons_self E h
/-! The states of the turner: the disk, the power, the block and the list change. -/
def tS (S : CS) (E : Nat → Int32) (p : Option Nat) (B f : Nat → Int32) (x : Int32) : CS := gSt (((S.u_w_Dk_bytes E).u_v_Dk_power (pI p)).u_w_Tu_block B) f x
/-- L is written -/
abbrev tuO (S : CS) (o : Option CS) (p : Option Nat) (L : List Wr) (E : Nat → Int32) : Prop := ∃ E' B' f' x', o = some (tS S E' (pR p L.length) B' f' x') ∧ eqO E' (ApL p L E) ∧ byt (tS S E' (pR p L.length) B' f' x')
theorem tu_seq {S : CS} {a : Option CS} {g : CS → Option CS} {p : Option Nat} {L M : List Wr} {E : Nat → Int32} (h1 : tuO S a p L E) (h2 : ∀ E' B f x, eqO E' (ApL p L E) → byt (tS S E' (pR p L.length) B f x) → tuO S (g (tS S E' (pR p L.length) B f x)) (pR p L.length) M E') : tuO S (a.bind g) p (L ++ M) E := by
  obtain ⟨E1, B1, f1, x1, a1, a2, a3⟩ := h1
  obtain ⟨E2, B2, f2, x2, b1, b2, b3⟩ := h2 E1 B1 f1 x1 a2 a3
  rw [pR_add] at b1 b3
  refine ⟨E2, B2, f2, x2, ?_, ?_, ?_⟩
  · rw [a1, List.length_append]; exact b1
  · intro q
    rw [b2 q, ApL_app]
    exact ApL_eq M _ _ _ a2 q
  · rw [List.length_append]; exact b3
theorem tu_nil {S : CS} {E B f : Nat → Int32} {p : Option Nat} {x : Int32} (h : byt (tS S E p B f x)) : tuO S (some (tS S E p B f x)) p [] E := ⟨E, B, f, x, by rw [List.length_nil, pR_0], fun _ => rfl, by rw [List.length_nil, pR_0]; exact h⟩
abbrev tuC (N : Nat) (G : CG) (S : CS) : Prop := G.n = N ∧ 256 ≤ N ∧ N ≤ 1024 ∧ S.v_Dk_sectors = nI N
theorem tu_store {K N s a : Nat} {G : CG} {S : CS} {E B f Y : Nat → Int32} {p : Option Nat} {x : Int32} (h : tuC N G S) (hs : s < N) (ha0 : a ≤ 512) (hb : byt (tS S E p B f x)) (hp : pOk p) (hY : ∀ j, j < 512 → o1 B (a + j) = o1 Y j) : ∃ E', f_Dk_store_Tublock K G (tS S E p B f x) (nI s) (nI a) = some (tS S E' (pD p) B f x) ∧ eqO E' (ApL p [(s, Y)] E) ∧ byt (tS S E' (pD p) B f x) := by
  have e := qU_store (K := K) (p := p) (S := tS S E p B f x) h.1 h.2.2.1 hs ha0 h.2.2.2 hb rfl hp
  have hby := b_Dk_store_Tublock (K := K) (G := G) (p0 := nI s) (p2 := nI a) hb _ e
  exact ⟨aW p E s B a, e, aW_eq (fun _ => rfl) (fun j hj => by rw [Nat.zero_add]; exact hY j hj), hby⟩
theorem tu_copy {K N s t : Nat} {G : CG} {S : CS} {E B f Y : Nat → Int32} {p : Option Nat} {x : Int32} (h : tuC N G S) (hs : s < N) (ht : t < N) (hb : byt (tS S E p B f x)) (hp : pOk p) (hY : ∀ j, j < 512 → o1 E (512 * s + j) = o1 Y j) : tuO S (f_Tu_copySector K G (tS S E p B f x) (nI s) (nI t)) p [(t, Y)] E := by
  have e := qU_load (K := K) (S := tS S E p B f x) h.1 h.2.2.1 hs h.2.2.2 hb
  have hby : byt (tS S E p (va_cpy E B (512 * s) 0 512) f x) := b_Dk_load_Tublock (K := K) (G := G) (p0 := nI s) (p2 := 0) hb _ e
  obtain ⟨E', e1, e2, e3⟩ := tu_store (K := K) (a := 0) (Y := Y) h ht (by decide) hby hp (fun j hj => by
    rw [Nat.zero_add, ← hY j hj]
    show ub (if 0 ≤ j ∧ j < 0 + 512 then E (512 * s + (j - 0)) else B j) = _
    rw [if_pos (by omega)]
    rfl)
  refine ⟨E', va_cpy E B (512 * s) 0 512, f, x, ?_, e2, ?_⟩
  · unfold f_Tu_copySector
    rw [e, q_b]
    show (f_Dk_store_Tublock K G (tS S E p (va_cpy E B (512 * s) 0 512) f x) (nI t) (nI 0)).bind _ = _
    rw [e1, q_b]
    show some _ = some (tS S E' (pR p 1) _ f x)
    rw [pR_1]
  · show byt (tS S E' (pR p 1) _ f x)
    rw [pR_1]
    exact e3
/-- a block of two sectors -/
def blW (b : Nat) (Y : Nat → Int32) : List Wr := [(2 * b, Y), (2 * b + 1, fun j => Y (512 + j))]
theorem tu_block {K N b : Nat} {G : CG} {S : CS} {E B f Y : Nat → Int32} {p : Option Nat} {x : Int32} (h : tuC N G S) (hs : 2 * b + 1 < N) (hb : byt (tS S E p B f x)) (hp : pOk p) (hY : ∀ j, j < 1024 → o1 B j = o1 Y j) : ∃ E', f_Tu_storeBlock K G (tS S E p B f x) (nI b) = some (tS S E' (pR p 2) B f x) ∧ eqO E' (ApL p (blW b Y) E) ∧ byt (tS S E' (pR p 2) B f x) := by
  obtain ⟨E1, a1, a2, a3⟩ := tu_store (K := K) (s := 2 * b) (a := 0) (Y := Y) h (by omega) (by decide) hb hp (fun j hj => by rw [Nat.zero_add]; exact hY j (by omega))
  obtain ⟨E2, b1, b2, b3⟩ := tu_store (K := K) (s := 2 * b + 1) (a := 512) (Y := fun j => Y (512 + j)) h (by omega) (by decide) a3 (pD_ok hp) (fun j hj => hY (512 + j) (by omega))
  rw [← pR_1 (pD p), ← pR_1 p, pR_add] at b1 b3
  refine ⟨E2, ?_, ?_, b3⟩
  · unfold f_Tu_storeBlock
    rw [show (2 : Int32) = nI 2 from rfl, show (0 : Int32) = nI 0 from rfl, pk_mul, a1, q_b, show (1 : Int32) = nI 1 from rfl, nI_add, show (512 : Int32) = nI 512 from rfl, ← pR_1 p, b1, q_b]
  · intro q
    rw [b2 q]
    show o1 (ApL (pD p) [(2 * b + 1, fun j => Y (512 + j))] E1) q = o1 (ApL p ([(2 * b, Y)] ++ [(2 * b + 1, fun j => Y (512 + j))]) E) q
    rw [ApL_app, List.length_singleton, pR_1]
    exact ApL_eq _ _ _ _ a2 q
