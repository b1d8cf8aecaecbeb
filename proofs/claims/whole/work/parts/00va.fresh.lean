/-! The reference's inode volume: its bytes are laid. -/
abbrev Rg : Type := (Nat → Int32) × (Nat → Int32) × Int32 × Int32 × Int32 × (Nat → Int32) × Int32
def qS (T : MS) (F U : Nat → Int32) (n : Nat) (R : Rg) : MS := (((((((((T.u_v_fresh F).u_v_used U).u_v_next (nI n)).u_v_record R.1).u_v_list R.2.1).u_v_spot R.2.2.1).u_v_filled R.2.2.2.1).u_v_latest R.2.2.2.2.1).u_v_chain R.2.2.2.2.2.1).u_v_links R.2.2.2.2.2.2
theorem qS_eta (T : MS) (n : Nat) (h : T.v_next = nI n) : T = qS T T.v_fresh T.v_used n (T.v_record, T.v_list, T.v_spot, T.v_filled, T.v_latest, T.v_chain, T.v_links) := by
  show T = ((((((((T.u_v_next (nI n)).u_v_record T.v_record).u_v_list T.v_list).u_v_spot T.v_spot).u_v_filled T.v_filled).u_v_latest T.v_latest).u_v_chain T.v_chain).u_v_links T.v_links)
  rw [← h]
  rfl
theorem ql_lay3 {K p a n : Nat} {T : MS} {U : Nat → Int32} {m : Nat} {R : Rg} (hp : p + n ≤ 524288) (ha : a < 2 ^ 63) (hn : n ≤ 8) : ∀ (d i k : Nat) (F : Nat → Int32), i + d = n → d < k → f_Mo_lay_3 K k (nI p) (nI n) (lN a) (nI i) (qS T (st F p a i) U m R) = some (qS T (st F p a n) U m R) := by
  intro d
  induction d with
  | zero =>
    intro i k F h1 h2
    obtain ⟨k, rfl⟩ : ∃ m, k = m + 1 := ⟨k - 1, by omega⟩
    obtain rfl : i = n := by omega
    rw [f_Mo_lay_3, if_pos (nI_le (by omega) (by omega))]
  | succ d ih =>
    intro i k F h1 h2
    obtain ⟨k, rfl⟩ : ∃ m, k = m + 1 := ⟨k - 1, by omega⟩
    rw [f_Mo_lay_3, if_neg (nI_ge (by omega) (by omega)), nI_add, q_g (q_in (by omega) (by decide)), nI_clamp (by omega), l_shr ha (by omega), lN_i, q_l, show (1 : Int32) = nI 1 from rfl, nI_add, q_l]
    exact ih (i + 1) k F (by omega) (by omega)
theorem ql_lay {K p a n : Nat} {T : MS} {F U : Nat → Int32} {m : Nat} {R : Rg} (hK : 100 ≤ K) (hp : p + n ≤ 524288) (ha : a < 2 ^ 63) (hn : n ≤ 8) : f_Mo_lay K (qS T F U m R) (nI p) (nI n) (lN a) = some (qS T (st F p a n) U m R) := ql_lay3 hp ha hn n 0 K F (by omega) (by omega)
theorem ql_W3 {K p a : Nat} {T : MS} {U : Nat → Int32} {m : Nat} {R : Rg} (hp : p + 4 ≤ 524288) (ha : a < 2 ^ 32) : ∀ (d i k : Nat) (F : Nat → Int32), i + d = 4 → d < k → f_Mo_lay_3 K k (nI p) (nI 4) (nI a).toInt64 (nI i) (qS T (st F p a i) U m R) = some (qS T (st F p a 4) U m R) := by
  intro d
  induction d with
  | zero =>
    intro i k F h1 h2
    obtain ⟨k, rfl⟩ : ∃ m, k = m + 1 := ⟨k - 1, by omega⟩
    obtain rfl : i = 4 := by omega
    rw [f_Mo_lay_3, if_pos (nI_le (by omega) (by omega))]
  | succ d ih =>
    intro i k F h1 h2
    obtain ⟨k, rfl⟩ : ∃ m, k = m + 1 := ⟨k - 1, by omega⟩
    have hw : wb ((nI a).toInt64 >>> ((8 * nI i).toInt64 &&& 63)).toInt32 = wb (nI (a / 256 ^ i)) := wb_ub (by rw [shl_ub ha (by omega), ub_nI])
    have hw : vp_nar .byte ((((nI a).toInt64 >>> ((8 * nI i).toInt64 &&& 63)).toInt32).toInt8.toInt32) = wb (nI (a / 256 ^ i)) := hw
    rw [f_Mo_lay_3, if_neg (nI_ge (by omega) (by omega)), nI_add, q_g (q_in (by omega) (by decide)), nI_clamp (by omega), hw, q_l, show (1 : Int32) = nI 1 from rfl, nI_add, q_l]
    exact ih (i + 1) k F (by omega) (by omega)
/-- four bytes of an int -/
theorem ql_4 {K p a : Nat} {T : MS} {F U : Nat → Int32} {m : Nat} {R : Rg} (hK : 100 ≤ K) (hp : p + 4 ≤ 524288) (ha : a < 2 ^ 32) : f_Mo_lay K (qS T F U m R) (nI p) 4 (nI a).toInt64 = some (qS T (st F p a 4) U m R) := ql_W3 hp ha 4 0 K F (by omega) (by omega)
theorem i64 {a : Nat} (h : a < 2 ^ 31) : (nI a).toInt64 = lN a := by
  apply Int64.toInt_inj.mp
  rw [Int32.toInt_toInt64]
  show (nI a).toBitVec.toInt = (lN a).toBitVec.toInt
  rw [q_bv, l_bv, BitVec.toInt_eq_toNat_cond, BitVec.toInt_eq_toNat_cond, BitVec.toNat_ofNat, BitVec.toNat_ofNat, Nat.mod_eq_of_lt (by omega), Nat.mod_eq_of_lt (by omega), if_pos (by omega), if_pos (by omega)]
theorem ql_2 {K p a : Nat} {T : MS} {F U : Nat → Int32} {m : Nat} {R : Rg} (hK : 100 ≤ K) (hp : p + 2 ≤ 524288) (ha : a < 2 ^ 31) : f_Mo_lay K (qS T F U m R) (nI p) 2 (nI a).toInt64 = some (qS T (st F p a 2) U m R) := by
  rw [i64 ha]
  exact ql_lay hK hp (by omega) (by decide)
theorem ql_1 {K p a : Nat} {T : MS} {F U : Nat → Int32} {m : Nat} {R : Rg} (hK : 100 ≤ K) (hp : p + 1 ≤ 524288) (ha : a < 2 ^ 31) : f_Mo_lay K (qS T F U m R) (nI p) 1 (nI a).toInt64 = some (qS T (st F p a 1) U m R) := by
  rw [i64 ha]
  exact ql_lay hK hp (by omega) (by decide)
/-- which blocks are used -/
abbrev uM (U : Nat → Int32) (p : Nat → Prop) : Prop := ∀ c, c < 512 → U c = b01 (p c)
theorem uM_upd {U : Nat → Int32} {p : Nat → Prop} {b : Nat} (h : uM U p) : uM (upd U b (vp_nar .boolean 1)) (fun c => p c ∨ c = b) := fx_upd h
abbrev bdA (T : MS) (rm : List Nat) : Prop := arr T.v_built rm ∧ rm.length ≤ 512 ∧ (∀ b ∈ rm, b < 512) ∧ rm.Nodup
theorem ql_build {K n : Nat} {T : MS} {F U : Nat → Int32} {R : Rg} {rm : List Nat} (h : bdA T rm) (hn : n < rm.length) : f_Mo_build K (qS T F U n R) = some (nI (rm.getD n 0), qS T F (upd U (rm.getD n 0) (vp_nar .boolean 1)) (n + 1) R) := by
  have hb := h.2.2.1 _ (getD_mem hn)
  have hl := h.2.1
  unfold f_Mo_build
  rw [show (qS T F U n R).v_next = nI n from rfl, q_g (q_in (by omega) (by decide)), nI_clamp (by omega), show (qS T F U n R).v_built n = nI (rm.getD n 0) from h.1 n hn, q_l, show (1 : Int32) = nI 1 from rfl, nI_add, q_l, q_g (q_in (by omega) (by decide)), q_l, nI_clamp (by omega)]
  rfl
/-- block b of F is Y -/
abbrev bkA (F : Nat → Int32) (b : Nat) (Y : Nat → Int32) : Prop := ∀ j, j < 1024 → o1 F (1024 * b + j) = o1 Y j
theorem bk_st {F Y : Nat → Int32} {b q v n : Nat} (h : bkA F b Y) : bkA (st F (1024 * b + q) v n) b (st Y q v n) := by
  intro j hj
  rw [st_o1, st_o1, h j hj]
  by_cases g : q ≤ j ∧ j < q + n
  · rw [if_pos g, if_pos (by omega), show 1024 * b + j - (1024 * b + q) = j - q by omega]
  · rw [if_neg g, if_neg (by omega)]
theorem bk_out {F Y : Nat → Int32} {b q v n : Nat} (h : bkA F b Y) (hq : q + n ≤ 1024 * b ∨ 1024 * b + 1024 ≤ q) : bkA (st F q v n) b Y := by
  intro j hj
  rw [st_out (by omega)]
  exact h j hj
/-- the sectors that are written stand in F -/
abbrev agW (F : Nat → Int32) (L : List Wr) : Prop := ∀ w ∈ L, ∀ j, j < 512 → o1 F (512 * w.1 + j) = o1 w.2 j
theorem agW_blk {F Y : Nat → Int32} {b : Nat} (h : bkA F b Y) : agW F (blW b Y) := by
  intro w ww j hj
  unfold blW at ww
  rcases List.mem_cons.mp ww with y | y
  · rw [y]
    have := h j (by omega)
    rw [show 512 * (2 * b) + j = 1024 * b + j by omega]
    exact this
  · rw [List.mem_singleton.mp y]
    have := h (512 + j) (by omega)
    show o1 F (512 * (2 * b + 1) + j) = o1 Y (512 + j)
    rw [show 512 * (2 * b + 1) + j = 1024 * b + (512 + j) by omega]
    exact this
theorem agW_app {F : Nat → Int32} {L M : List Wr} (h1 : agW F L) (h2 : agW F M) : agW F (L ++ M) := fun w ww => (List.mem_append.mp ww).elim (h1 w) (h2 w)
