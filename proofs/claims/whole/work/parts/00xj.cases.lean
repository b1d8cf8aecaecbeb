set_option maxHeartbeats 200000
/-! Every case of the law. -/
abbrev okQ (o : Option (Int32 × CG × CS)) : Prop := ∃ G' S', o = some (1, G', S') ∧ 74 + G'.gc ≤ 601024 ∧ 1720373 + G'.gs ≤ 7293000
abbrev hRec (K N t i : Nat) (rec : Int32 → CG → CS → MS → (Nat → Int64) → Option (Int32 × CG × CS)) : Prop := ∀ G S T oo, INV K N (t + 1) G S T → okQ (rec (nI (i + 6)) G S T oo)
theorem lw_cmp (x : Int64) : lg_cmp x x = 0 := by
  unfold lg_cmp
  simp
theorem lw_e3 {e : Nat} (h : e ≤ 3 ∧ e ≠ 2) : e = 0 ∨ e = 1 ∨ e = 3 := by omega
theorem lwn {α β : Type} {r : α} {G : CG} {S : CS} {f : α → CG → CS → Option β} : lf_n (some (r, G, S)) f = f r G S := rfl
theorem lwo {α β : Type} {r : α} {G : CG} {S : CS} {f : α → CG → CS → Option β} {g : Nat → CG → CS → Option β} : lf_h (some (.ok r, G, S)) f g = f r G S := rfl
theorem lwe {α β : Type} {e : Nat} {G : CG} {S : CS} {f : α → CG → CS → Option β} {g : Nat → CG → CS → Option β} : lf_h (some ((.error e : Except Nat α), G, S)) f g = g e G S := rfl
theorem lwt {K : Nat} {T : MS} : f_Mo_thrown K T = some (T.v_thrown, T) := rfl
theorem lwg {i L j : Nat} (h : i + 5 < L) (hL : L ≤ 3073) (hj : j ≤ 5) : lf_in (nI i + nI j) L := by rw [nI_add]; exact q_in (by omega) (by omega)
theorem lwu (oo : Nat → Int64) (x : Int64) : vp_updL oo (0 : Int32).toNatClampNeg x (0 : Int32).toNatClampNeg = x := if_pos rfl
theorem lw_1388 {K N t i L : Nat} {xs : Nat → Int32} {rec : Int32 → CG → CS → MS → (Nat → Int64) → Option (Int32 × CG × CS)} {G : CG} {S : CS} {T : MS} {oo : Nat → Int64} (hr : hRec K N t i rec) (h : INV K N (t + 1) G S T) : okQ (f_law_1388 K L xs rec (nI i) G S T oo) := by
  unfold f_law_1388
  rw [show (6 : Int32) = nI 6 from rfl, nI_add, q_l]
  exact hr _ _ _ _ h
theorem lw_feed {K N t i L : Nat} {xs : Nat → Int32} {rec : Int32 → CG → CS → MS → (Nat → Int64) → Option (Int32 × CG × CS)} {G : CG} {S : CS} {T : MS} {oo : Nat → Int64} (hK : 600000 ≤ K) (ht : t < 512) (hi : i + 5 < L) (hL : L ≤ 3073) (hr : hRec K N t i rec) (h : INV K N t G S T) : okQ (f_law_160 K L xs rec (nI i) G S T oo) := by
  obtain ⟨S', T', a1, a2, a3⟩ := opI_feed hK ht h (xs (nI i + 1).toNatClampNeg) (xs (nI i + 2).toNatClampNeg) (xs (nI i + 3).toNatClampNeg) (xs (nI i + 4).toNatClampNeg) (xs (nI i + 5).toNatClampNeg)
  unfold f_law_160
  rw [q_g (show lf_in (nI i + 1) L from lwg hi hL (by decide : 1 ≤ 5)), q_g (show lf_in (nI i + 2) L from lwg hi hL (by decide : 2 ≤ 5)), q_g (show lf_in (nI i + 3) L from lwg hi hL (by decide : 3 ≤ 5)), q_g (show lf_in (nI i + 4) L from lwg hi hL (by decide : 4 ≤ 5)), q_g (show lf_in (nI i + 5) L from lwg hi hL (by decide : 5 ≤ 5)), a1, q_b, q_g (show lf_in (nI i + 1) L from lwg hi hL (by decide : 1 ≤ 5)), q_g (show lf_in (nI i + 2) L from lwg hi hL (by decide : 2 ≤ 5)), q_g (show lf_in (nI i + 3) L from lwg hi hL (by decide : 3 ≤ 5)), q_g (show lf_in (nI i + 4) L from lwg hi hL (by decide : 4 ≤ 5)), q_g (show lf_in (nI i + 5) L from lwg hi hL (by decide : 5 ≤ 5)), a2, q_b]
  exact lw_1388 hr a3
theorem lw_clear {K N t i L : Nat} {xs : Nat → Int32} {rec : Int32 → CG → CS → MS → (Nat → Int64) → Option (Int32 × CG × CS)} {G : CG} {S : CS} {T : MS} {oo : Nat → Int64} (hK : 600000 ≤ K) (ht : t < 512) (hi : i + 5 < L) (hL : L ≤ 3073) (hr : hRec K N t i rec) (h : INV K N t G S T) : okQ (f_law_256 K L xs rec (nI i) G S T oo) := by
  obtain ⟨S', T', a1, a2, a3⟩ := opI_clear hK ht h
  unfold f_law_256
  rw [a1, q_b, a2, q_b]
  exact lw_1388 hr a3
theorem lw_end {K N t i L : Nat} {xs : Nat → Int32} {rec : Int32 → CG → CS → MS → (Nat → Int64) → Option (Int32 × CG × CS)} {G : CG} {S : CS} {T : MS} {oo : Nat → Int64} (hK : 600000 ≤ K) (ht : t < 512) (hi : i + 5 < L) (hL : L ≤ 3073) (hr : hRec K N t i rec) (h : INV K N t G S T) : okQ (f_law_231 K L xs rec (nI i) G S T oo) := by
  obtain ⟨r, S', T', a1, a2, a3⟩ := opI_end hK ht h (xs (nI i + 1).toNatClampNeg)
  unfold f_law_231
  rw [q_g (show lf_in (nI i + 1) L from lwg hi hL (by decide : 1 ≤ 5)), a1, q_c, q_g (show lf_in (nI i + 1) L from lwg hi hL (by decide : 1 ≤ 5)), a2, q_c, if_pos rfl]
  exact lw_1388 hr a3
theorem lw_poke {K N t i L : Nat} {xs : Nat → Int32} {rec : Int32 → CG → CS → MS → (Nat → Int64) → Option (Int32 × CG × CS)} {G : CG} {S : CS} {T : MS} {oo : Nat → Int64} (hK : 600000 ≤ K) (ht : t < 512) (hi : i + 5 < L) (hL : L ≤ 3073) (hr : hRec K N t i rec) (h : INV K N t G S T) : okQ (f_law_359 K L xs rec (nI i) G S T oo) := by
  obtain ⟨r, S', T', a1, a2, a3⟩ := opI_poke hK ht h (xs (nI i + 1).toNatClampNeg) (xs (nI i + 2).toNatClampNeg) (xs (nI i + 3).toNatClampNeg)
  unfold f_law_359
  rw [q_g (show lf_in (nI i + 1) L from lwg hi hL (by decide : 1 ≤ 5)), q_g (show lf_in (nI i + 2) L from lwg hi hL (by decide : 2 ≤ 5)), q_g (show lf_in (nI i + 3) L from lwg hi hL (by decide : 3 ≤ 5)), a1, q_c, q_g (show lf_in (nI i + 1) L from lwg hi hL (by decide : 1 ≤ 5)), q_g (show lf_in (nI i + 2) L from lwg hi hL (by decide : 2 ≤ 5)), q_g (show lf_in (nI i + 3) L from lwg hi hL (by decide : 3 ≤ 5)), a2, q_c, if_pos rfl]
  exact lw_1388 hr a3
theorem lw_fail {K N t i L : Nat} {xs : Nat → Int32} {rec : Int32 → CG → CS → MS → (Nat → Int64) → Option (Int32 × CG × CS)} {G : CG} {S : CS} {T : MS} {oo : Nat → Int64} (hK : 600000 ≤ K) (ht : t < 512) (hi : i + 5 < L) (hL : L ≤ 3073) (hr : hRec K N t i rec) (h : INV K N t G S T) : okQ (f_law_1283 K L xs rec (nI i) G S T oo) := by
  obtain ⟨r, S', T', a1, a2, a3⟩ := opI_fail hK ht h (xs (nI i + 1).toNatClampNeg) (xs (nI i + 2).toNatClampNeg)
  unfold f_law_1283
  rw [q_g (show lf_in (nI i + 1) L from lwg hi hL (by decide : 1 ≤ 5)), q_g (show lf_in (nI i + 2) L from lwg hi hL (by decide : 2 ≤ 5)), a1, q_c, q_g (show lf_in (nI i + 1) L from lwg hi hL (by decide : 1 ≤ 5)), q_g (show lf_in (nI i + 2) L from lwg hi hL (by decide : 2 ≤ 5)), a2, q_c, if_pos rfl]
  exact lw_1388 hr a3
theorem lw_kind {K N t i L : Nat} {xs : Nat → Int32} {rec : Int32 → CG → CS → MS → (Nat → Int64) → Option (Int32 × CG × CS)} {G : CG} {S : CS} {T : MS} {oo : Nat → Int64} (hK : 600000 ≤ K) (ht : t < 512) (hi : i + 5 < L) (hL : L ≤ 3073) (hr : hRec K N t i rec) (h : INV K N t G S T) : okQ (f_law_408 K L xs rec (nI i) G S T oo) := by
  obtain ⟨r, G', S', T', a1, a2, a3⟩ := opI_kind hK ht h
  unfold f_law_408 f_law_412
  rw [a1, lwn, a2, q_c, if_pos rfl]
  exact lw_1388 hr a3
theorem lw_fault {K N t i L : Nat} {xs : Nat → Int32} {rec : Int32 → CG → CS → MS → (Nat → Int64) → Option (Int32 × CG × CS)} {G : CG} {S : CS} {T : MS} {oo : Nat → Int64} (hK : 600000 ≤ K) (ht : t < 512) (hi : i + 5 < L) (hL : L ≤ 3073) (hr : hRec K N t i rec) (h : INV K N t G S T) : okQ (f_law_421 K L xs rec (nI i) G S T oo) := by
  obtain ⟨r, G', S', T', a1, a2, a3⟩ := opI_fault hK ht h
  unfold f_law_421 f_law_425
  rw [a1, lwn, a2, q_c, if_pos rfl]
  exact lw_1388 hr a3
theorem lw_byteAt {K N t i L : Nat} {xs : Nat → Int32} {rec : Int32 → CG → CS → MS → (Nat → Int64) → Option (Int32 × CG × CS)} {G : CG} {S : CS} {T : MS} {oo : Nat → Int64} (hK : 600000 ≤ K) (ht : t < 512) (hi : i + 5 < L) (hL : L ≤ 3073) (hr : hRec K N t i rec) (h : INV K N t G S T) : okQ (f_law_434 K L xs rec (nI i) G S T oo) := by
  obtain ⟨r, G', S', T', a1, a2, a3⟩ := opI_byteAt hK ht h (xs (nI i + 1).toNatClampNeg) (xs (nI i + 2).toNatClampNeg)
  unfold f_law_434 f_law_450
  rw [q_g (show lf_in (nI i + 1) L from lwg hi hL (by decide : 1 ≤ 5)), q_g (show lf_in (nI i + 2) L from lwg hi hL (by decide : 2 ≤ 5)), a1, lwn, q_g (show lf_in (nI i + 1) L from lwg hi hL (by decide : 1 ≤ 5)), q_g (show lf_in (nI i + 2) L from lwg hi hL (by decide : 2 ≤ 5)), a2, q_c, if_pos rfl]
  exact lw_1388 hr a3
theorem lw_plan {K N t i L : Nat} {xs : Nat → Int32} {rec : Int32 → CG → CS → MS → (Nat → Int64) → Option (Int32 × CG × CS)} {G : CG} {S : CS} {T : MS} {oo : Nat → Int64} (hK : 600000 ≤ K) (ht : t < 512) (hi : i + 5 < L) (hL : L ≤ 3073) (hr : hRec K N t i rec) (h : INV K N t G S T) : okQ (f_law_1209 K L xs rec (nI i) G S T oo) := by
  obtain ⟨r, G', S', T', a1, a2, a3⟩ := opI_plan hK ht h (xs (nI i + 1).toNatClampNeg) (xs (nI i + 2).toNatClampNeg)
  unfold f_law_1209 f_law_1225
  rw [q_g (show lf_in (nI i + 1) L from lwg hi hL (by decide : 1 ≤ 5)), q_g (show lf_in (nI i + 2) L from lwg hi hL (by decide : 2 ≤ 5)), a1, lwn, q_g (show lf_in (nI i + 1) L from lwg hi hL (by decide : 1 ≤ 5)), q_g (show lf_in (nI i + 2) L from lwg hi hL (by decide : 2 ≤ 5)), a2, q_c, if_pos rfl]
  exact lw_1388 hr a3
theorem lw_target {K N t i L : Nat} {xs : Nat → Int32} {rec : Int32 → CG → CS → MS → (Nat → Int64) → Option (Int32 × CG × CS)} {G : CG} {S : CS} {T : MS} {oo : Nat → Int64} (hK : 600000 ≤ K) (ht : t < 512) (hi : i + 5 < L) (hL : L ≤ 3073) (hr : hRec K N t i rec) (h : INV K N t G S T) : okQ (f_law_1246 K L xs rec (nI i) G S T oo) := by
  obtain ⟨r, G', S', T', a1, a2, a3⟩ := opI_target hK ht h (xs (nI i + 1).toNatClampNeg) (xs (nI i + 2).toNatClampNeg)
  unfold f_law_1246 f_law_1262
  rw [q_g (show lf_in (nI i + 1) L from lwg hi hL (by decide : 1 ≤ 5)), q_g (show lf_in (nI i + 2) L from lwg hi hL (by decide : 2 ≤ 5)), a1, lwn, q_g (show lf_in (nI i + 1) L from lwg hi hL (by decide : 1 ≤ 5)), q_g (show lf_in (nI i + 2) L from lwg hi hL (by decide : 2 ≤ 5)), a2, q_c, if_pos rfl]
  exact lw_1388 hr a3
theorem lwB_items {K N t i L : Nat} {xs : Nat → Int32} {rec : Int32 → CG → CS → MS → (Nat → Int64) → Option (Int32 × CG × CS)} {G : CG} {S : CS} {T : MS} {oo : Nat → Int64} (hi : i + 5 < L) (hL : L ≤ 3073) (hr : hRec K N t i rec) {z : Int32} {y : Int32} {T' : MS} (a2 : f_Mo_items K T = some (y, T')) (a3 : T'.v_thrown = z) (hz : z ≠ 0 ∨ oo (0 : Int32).toNatClampNeg = y.toInt64) (h : INV K N (t + 1) G S T') : okQ (f_law_476 K L xs rec (nI i) z G S T oo) := by
  unfold f_law_476 f_law_512
  rw [a2, q_c, lwt, q_c, a3, if_pos rfl]
  by_cases c : z = 0
  · rw [if_pos c, hz.resolve_left (fun y => y c), if_pos (lw_cmp _)]
    exact lw_1388 hr h
  · rw [if_neg c]
    exact lw_1388 hr h
theorem lw_items {K N t i L : Nat} {xs : Nat → Int32} {rec : Int32 → CG → CS → MS → (Nat → Int64) → Option (Int32 × CG × CS)} {G : CG} {S : CS} {T : MS} {oo : Nat → Int64} (hK : 600000 ≤ K) (ht : t < 512) (hi : i + 5 < L) (hL : L ≤ 3073) (hr : hRec K N t i rec) (h : INV K N t G S T) : okQ (f_law_471 K L xs rec (nI i) G S T oo) := by
  unfold f_law_471
  rcases opI_items hK ht h with ⟨r, G', S', T', a1, a2, a3, a4⟩ | ⟨e, y, G', S', T', a1, a2, a3, a4, a5⟩
  · rw [a1, lwo, q_l]
    exact lwB_items hi hL hr a2 a3 (Or.inr (lwu _ _)) a4
  · rw [a1, lwe]
    have hk0 : e = 1 := by exact a3
    subst hk0
    · rw [if_pos rfl]
      exact lwB_items hi hL hr a2 a4 (Or.inl (by decide)) a5
theorem lwB_letter {K N t i L : Nat} {xs : Nat → Int32} {rec : Int32 → CG → CS → MS → (Nat → Int64) → Option (Int32 × CG × CS)} {G : CG} {S : CS} {T : MS} {oo : Nat → Int64} (hi : i + 5 < L) (hL : L ≤ 3073) (hr : hRec K N t i rec) {z : Int32} {y : Int32} {T' : MS} (a2 : f_Mo_letter K T (xs (nI i + 1).toNatClampNeg) (xs (nI i + 2).toNatClampNeg) = some (y, T')) (a3 : T'.v_thrown = z) (hz : z ≠ 0 ∨ oo (0 : Int32).toNatClampNeg = y.toInt64) (h : INV K N (t + 1) G S T') : okQ (f_law_532 K L xs rec (nI i) z G S T oo) := by
  unfold f_law_532 f_law_580
  rw [q_g (show lf_in (nI i + 1) L from lwg hi hL (by decide : 1 ≤ 5)), q_g (show lf_in (nI i + 2) L from lwg hi hL (by decide : 2 ≤ 5)), a2, q_c, lwt, q_c, a3, if_pos rfl]
  by_cases c : z = 0
  · rw [if_pos c, hz.resolve_left (fun y => y c), if_pos (lw_cmp _)]
    exact lw_1388 hr h
  · rw [if_neg c]
    exact lw_1388 hr h
theorem lw_letter {K N t i L : Nat} {xs : Nat → Int32} {rec : Int32 → CG → CS → MS → (Nat → Int64) → Option (Int32 × CG × CS)} {G : CG} {S : CS} {T : MS} {oo : Nat → Int64} (hK : 600000 ≤ K) (ht : t < 512) (hi : i + 5 < L) (hL : L ≤ 3073) (hr : hRec K N t i rec) (h : INV K N t G S T) : okQ (f_law_515 K L xs rec (nI i) G S T oo) := by
  unfold f_law_515
  rcases opI_letter hK ht h (xs (nI i + 1).toNatClampNeg) (xs (nI i + 2).toNatClampNeg) with ⟨r, G', S', T', a1, a2, a3, a4⟩ | ⟨e, y, G', S', T', a1, a2, a3, a4, a5⟩
  · rw [q_g (show lf_in (nI i + 1) L from lwg hi hL (by decide : 1 ≤ 5)), q_g (show lf_in (nI i + 2) L from lwg hi hL (by decide : 2 ≤ 5)), a1, lwo, q_l]
    exact lwB_letter hi hL hr a2 a3 (Or.inr (lwu _ _)) a4
  · rw [q_g (show lf_in (nI i + 1) L from lwg hi hL (by decide : 1 ≤ 5)), q_g (show lf_in (nI i + 2) L from lwg hi hL (by decide : 2 ≤ 5)), a1, lwe]
    have hk0 : e = 1 ∨ e = 2 := by exact a3
    rcases hk0 with rfl | rfl
    · rw [if_pos rfl]
      exact lwB_letter hi hL hr a2 a4 (Or.inl (by decide)) a5
    · rw [if_neg (show ¬ (2 : Nat) = 1 by decide), if_pos rfl]
      exact lwB_letter hi hL hr a2 a4 (Or.inl (by decide)) a5
theorem lwB_about {K N t i L : Nat} {xs : Nat → Int32} {rec : Int32 → CG → CS → MS → (Nat → Int64) → Option (Int32 × CG × CS)} {G : CG} {S : CS} {T : MS} {oo : Nat → Int64} (hi : i + 5 < L) (hL : L ≤ 3073) (hr : hRec K N t i rec) {z : Int32} {y : Int64} {T' : MS} (a2 : f_Mo_about K T (xs (nI i + 1).toNatClampNeg) (xs (nI i + 2).toNatClampNeg) = some (y, T')) (a3 : T'.v_thrown = z) (hz : z ≠ 0 ∨ oo (0 : Int32).toNatClampNeg = y) (h : INV K N (t + 1) G S T') : okQ (f_law_600 K L xs rec (nI i) z G S T oo) := by
  unfold f_law_600 f_law_647
  rw [q_g (show lf_in (nI i + 1) L from lwg hi hL (by decide : 1 ≤ 5)), q_g (show lf_in (nI i + 2) L from lwg hi hL (by decide : 2 ≤ 5)), a2, q_c, lwt, q_c, a3, if_pos rfl]
  by_cases c : z = 0
  · rw [if_pos c, hz.resolve_left (fun y => y c), if_pos (lw_cmp _)]
    exact lw_1388 hr h
  · rw [if_neg c]
    exact lw_1388 hr h
theorem lw_about {K N t i L : Nat} {xs : Nat → Int32} {rec : Int32 → CG → CS → MS → (Nat → Int64) → Option (Int32 × CG × CS)} {G : CG} {S : CS} {T : MS} {oo : Nat → Int64} (hK : 600000 ≤ K) (ht : t < 512) (hi : i + 5 < L) (hL : L ≤ 3073) (hr : hRec K N t i rec) (h : INV K N t G S T) : okQ (f_law_583 K L xs rec (nI i) G S T oo) := by
  unfold f_law_583
  rcases opI_about hK ht h (xs (nI i + 1).toNatClampNeg) (xs (nI i + 2).toNatClampNeg) with ⟨r, G', S', T', a1, a2, a3, a4⟩ | ⟨e, y, G', S', T', a1, a2, a3, a4, a5⟩
  · rw [q_g (show lf_in (nI i + 1) L from lwg hi hL (by decide : 1 ≤ 5)), q_g (show lf_in (nI i + 2) L from lwg hi hL (by decide : 2 ≤ 5)), a1, lwo, q_l]
    exact lwB_about hi hL hr a2 a3 (Or.inr (lwu _ _)) a4
  · rw [q_g (show lf_in (nI i + 1) L from lwg hi hL (by decide : 1 ≤ 5)), q_g (show lf_in (nI i + 2) L from lwg hi hL (by decide : 2 ≤ 5)), a1, lwe]
    have hk0 : e = 0 ∨ e = 1 ∨ e = 2 := by exact a3
    rcases hk0 with rfl | rfl | rfl
    · rw [if_pos rfl]
      exact lwB_about hi hL hr a2 a4 (Or.inl (by decide)) a5
    · rw [if_neg (show ¬ (1 : Nat) = 0 by decide), if_pos rfl]
      exact lwB_about hi hL hr a2 a4 (Or.inl (by decide)) a5
    · rw [if_neg (show ¬ (2 : Nat) = 0 by decide), if_neg (show ¬ (2 : Nat) = 1 by decide), if_pos rfl]
      exact lwB_about hi hL hr a2 a4 (Or.inl (by decide)) a5
theorem lwB_content {K N t i L : Nat} {xs : Nat → Int32} {rec : Int32 → CG → CS → MS → (Nat → Int64) → Option (Int32 × CG × CS)} {G : CG} {S : CS} {T : MS} {oo : Nat → Int64} (hi : i + 5 < L) (hL : L ≤ 3073) (hr : hRec K N t i rec) {z : Int32} {y : Int32} {T' : MS} (a2 : f_Mo_content K T (xs (nI i + 1).toNatClampNeg) (xs (nI i + 2).toNatClampNeg) = some (y, T')) (a3 : T'.v_thrown = z) (hz : z ≠ 0 ∨ oo (0 : Int32).toNatClampNeg = y.toInt64) (h : INV K N (t + 1) G S T') : okQ (f_law_667 K L xs rec (nI i) z G S T oo) := by
  unfold f_law_667 f_law_715
  rw [q_g (show lf_in (nI i + 1) L from lwg hi hL (by decide : 1 ≤ 5)), q_g (show lf_in (nI i + 2) L from lwg hi hL (by decide : 2 ≤ 5)), a2, q_c, lwt, q_c, a3, if_pos rfl]
  by_cases c : z = 0
  · rw [if_pos c, hz.resolve_left (fun y => y c), if_pos (lw_cmp _)]
    exact lw_1388 hr h
  · rw [if_neg c]
    exact lw_1388 hr h
theorem lw_content {K N t i L : Nat} {xs : Nat → Int32} {rec : Int32 → CG → CS → MS → (Nat → Int64) → Option (Int32 × CG × CS)} {G : CG} {S : CS} {T : MS} {oo : Nat → Int64} (hK : 600000 ≤ K) (ht : t < 512) (hi : i + 5 < L) (hL : L ≤ 3073) (hr : hRec K N t i rec) (h : INV K N t G S T) : okQ (f_law_650 K L xs rec (nI i) G S T oo) := by
  unfold f_law_650
  rcases opI_content hK ht h (xs (nI i + 1).toNatClampNeg) (xs (nI i + 2).toNatClampNeg) with ⟨r, G', S', T', a1, a2, a3, a4⟩ | ⟨e, y, G', S', T', a1, a2, a3, a4, a5⟩
  · rw [q_g (show lf_in (nI i + 1) L from lwg hi hL (by decide : 1 ≤ 5)), q_g (show lf_in (nI i + 2) L from lwg hi hL (by decide : 2 ≤ 5)), a1, lwo, q_l]
    exact lwB_content hi hL hr a2 a3 (Or.inr (lwu _ _)) a4
  · rw [q_g (show lf_in (nI i + 1) L from lwg hi hL (by decide : 1 ≤ 5)), q_g (show lf_in (nI i + 2) L from lwg hi hL (by decide : 2 ≤ 5)), a1, lwe]
    have hk0 : e = 1 ∨ e = 2 := by exact a3
    rcases hk0 with rfl | rfl
    · rw [if_pos rfl]
      exact lwB_content hi hL hr a2 a4 (Or.inl (by decide)) a5
    · rw [if_neg (show ¬ (2 : Nat) = 1 by decide), if_pos rfl]
      exact lwB_content hi hL hr a2 a4 (Or.inl (by decide)) a5
theorem lwB_enter {K N t i L : Nat} {xs : Nat → Int32} {rec : Int32 → CG → CS → MS → (Nat → Int64) → Option (Int32 × CG × CS)} {G : CG} {S : CS} {T : MS} {oo : Nat → Int64} (hi : i + 5 < L) (hL : L ≤ 3073) (hr : hRec K N t i rec) {z : Int32} {y : Int32} {T' : MS} (a2 : f_Mo_enter K T (xs (nI i + 1).toNatClampNeg) = some (y, T')) (a3 : T'.v_thrown = z) (hz : z ≠ 0 ∨ oo (0 : Int32).toNatClampNeg = y.toInt64) (h : INV K N (t + 1) G S T') : okQ (f_law_729 K L xs rec (nI i) z G S T oo) := by
  unfold f_law_729 f_law_771
  rw [q_g (show lf_in (nI i + 1) L from lwg hi hL (by decide : 1 ≤ 5)), a2, q_c, lwt, q_c, a3, if_pos rfl]
  by_cases c : z = 0
  · rw [if_pos c, hz.resolve_left (fun y => y c), if_pos (lw_cmp _)]
    exact lw_1388 hr h
  · rw [if_neg c]
    exact lw_1388 hr h
theorem lw_enter {K N t i L : Nat} {xs : Nat → Int32} {rec : Int32 → CG → CS → MS → (Nat → Int64) → Option (Int32 × CG × CS)} {G : CG} {S : CS} {T : MS} {oo : Nat → Int64} (hK : 600000 ≤ K) (ht : t < 512) (hi : i + 5 < L) (hL : L ≤ 3073) (hr : hRec K N t i rec) (h : INV K N t G S T) : okQ (f_law_718 K L xs rec (nI i) G S T oo) := by
  unfold f_law_718
  rcases opI_enter hK ht h (xs (nI i + 1).toNatClampNeg) with ⟨r, G', S', T', a1, a2, a3, a4⟩ | ⟨e, y, G', S', T', a1, a2, a3, a4, a5⟩
  · rw [q_g (show lf_in (nI i + 1) L from lwg hi hL (by decide : 1 ≤ 5)), a1, lwo, q_l]
    exact lwB_enter hi hL hr a2 a3 (Or.inr (lwu _ _)) a4
  · rw [q_g (show lf_in (nI i + 1) L from lwg hi hL (by decide : 1 ≤ 5)), a1, lwe]
    have hk0 : e = 0 ∨ e = 1 ∨ e = 2 := by exact a3
    rcases hk0 with rfl | rfl | rfl
    · rw [if_pos rfl]
      exact lwB_enter hi hL hr a2 a4 (Or.inl (by decide)) a5
    · rw [if_neg (show ¬ (1 : Nat) = 0 by decide), if_pos rfl]
      exact lwB_enter hi hL hr a2 a4 (Or.inl (by decide)) a5
    · rw [if_neg (show ¬ (2 : Nat) = 0 by decide), if_neg (show ¬ (2 : Nat) = 1 by decide), if_pos rfl]
      exact lwB_enter hi hL hr a2 a4 (Or.inl (by decide)) a5
theorem lwB_write {K N t i L : Nat} {xs : Nat → Int32} {rec : Int32 → CG → CS → MS → (Nat → Int64) → Option (Int32 × CG × CS)} {G : CG} {S : CS} {T : MS} {oo : Nat → Int64} (hi : i + 5 < L) (hL : L ≤ 3073) (hr : hRec K N t i rec) {z : Int32} {y : Int32} {T' : MS} (a2 : f_Mo_write K T (xs (nI i + 1).toNatClampNeg) = some (y, T')) (a3 : T'.v_thrown = z) (hz : z ≠ 0 ∨ oo (0 : Int32).toNatClampNeg = y.toInt64) (h : INV K N (t + 1) G S T') : okQ (f_law_908 K L xs rec (nI i) z G S T oo) := by
  unfold f_law_908 f_law_950
  rw [q_g (show lf_in (nI i + 1) L from lwg hi hL (by decide : 1 ≤ 5)), a2, q_c, lwt, q_c, a3, if_pos rfl]
  by_cases c : z = 0
  · rw [if_pos c, hz.resolve_left (fun y => y c), if_pos (lw_cmp _)]
    exact lw_1388 hr h
  · rw [if_neg c]
    exact lw_1388 hr h
theorem lw_write {K N t i L : Nat} {xs : Nat → Int32} {rec : Int32 → CG → CS → MS → (Nat → Int64) → Option (Int32 × CG × CS)} {G : CG} {S : CS} {T : MS} {oo : Nat → Int64} (hK : 600000 ≤ K) (ht : t < 512) (hi : i + 5 < L) (hL : L ≤ 3073) (hr : hRec K N t i rec) (h : INV K N t G S T) : okQ (f_law_897 K L xs rec (nI i) G S T oo) := by
  unfold f_law_897
  rcases opI_write hK ht h (xs (nI i + 1).toNatClampNeg) with ⟨r, G', S', T', a1, a2, a3, a4⟩ | ⟨e, y, G', S', T', a1, a2, a3, a4, a5⟩
  · rw [q_g (show lf_in (nI i + 1) L from lwg hi hL (by decide : 1 ≤ 5)), a1, lwo, q_l]
    exact lwB_write hi hL hr a2 a3 (Or.inr (lwu _ _)) a4
  · rw [q_g (show lf_in (nI i + 1) L from lwg hi hL (by decide : 1 ≤ 5)), a1, lwe]
    have hk0 : e = 0 ∨ e = 1 ∨ e = 2 ∨ e = 3 := by omega
    rcases hk0 with rfl | rfl | rfl | rfl
    · rw [if_pos rfl]
      exact lwB_write hi hL hr a2 a4 (Or.inl (by decide)) a5
    · rw [if_neg (show ¬ (1 : Nat) = 0 by decide), if_pos rfl]
      exact lwB_write hi hL hr a2 a4 (Or.inl (by decide)) a5
    · rw [if_neg (show ¬ (2 : Nat) = 0 by decide), if_neg (show ¬ (2 : Nat) = 1 by decide), if_pos rfl]
      exact lwB_write hi hL hr a2 a4 (Or.inl (by decide)) a5
    · rw [if_neg (show ¬ (3 : Nat) = 0 by decide), if_neg (show ¬ (3 : Nat) = 1 by decide), if_neg (show ¬ (3 : Nat) = 2 by decide), if_pos rfl]
      exact lwB_write hi hL hr a2 a4 (Or.inl (by decide)) a5
theorem lwB_grow {K N t i L : Nat} {xs : Nat → Int32} {rec : Int32 → CG → CS → MS → (Nat → Int64) → Option (Int32 × CG × CS)} {G : CG} {S : CS} {T : MS} {oo : Nat → Int64} (hi : i + 5 < L) (hL : L ≤ 3073) (hr : hRec K N t i rec) {z : Int32} {y : Int32} {T' : MS} (a2 : f_Mo_grow K T (xs (nI i + 1).toNatClampNeg) (xs (nI i + 2).toNatClampNeg) (xs (nI i + 3).toNatClampNeg) = some (y, T')) (a3 : T'.v_thrown = z) (hz : z ≠ 0 ∨ oo (0 : Int32).toNatClampNeg = y.toInt64) (h : INV K N (t + 1) G S T') : okQ (f_law_976 K L xs rec (nI i) z G S T oo) := by
  unfold f_law_976 f_law_1030
  rw [q_g (show lf_in (nI i + 1) L from lwg hi hL (by decide : 1 ≤ 5)), q_g (show lf_in (nI i + 2) L from lwg hi hL (by decide : 2 ≤ 5)), q_g (show lf_in (nI i + 3) L from lwg hi hL (by decide : 3 ≤ 5)), a2, q_c, lwt, q_c, a3, if_pos rfl]
  by_cases c : z = 0
  · rw [if_pos c, hz.resolve_left (fun y => y c), if_pos (lw_cmp _)]
    exact lw_1388 hr h
  · rw [if_neg c]
    exact lw_1388 hr h
theorem lw_grow {K N t i L : Nat} {xs : Nat → Int32} {rec : Int32 → CG → CS → MS → (Nat → Int64) → Option (Int32 × CG × CS)} {G : CG} {S : CS} {T : MS} {oo : Nat → Int64} (hK : 600000 ≤ K) (ht : t < 512) (hi : i + 5 < L) (hL : L ≤ 3073) (hr : hRec K N t i rec) (h : INV K N t G S T) : okQ (f_law_953 K L xs rec (nI i) G S T oo) := by
  unfold f_law_953
  rcases opI_grow hK ht h (xs (nI i + 1).toNatClampNeg) (xs (nI i + 2).toNatClampNeg) (xs (nI i + 3).toNatClampNeg) with ⟨r, G', S', T', a1, a2, a3, a4⟩ | ⟨e, y, G', S', T', a1, a2, a3, a4, a5⟩
  · rw [q_g (show lf_in (nI i + 1) L from lwg hi hL (by decide : 1 ≤ 5)), q_g (show lf_in (nI i + 2) L from lwg hi hL (by decide : 2 ≤ 5)), q_g (show lf_in (nI i + 3) L from lwg hi hL (by decide : 3 ≤ 5)), a1, lwo, q_l]
    exact lwB_grow hi hL hr a2 a3 (Or.inr (lwu _ _)) a4
  · rw [q_g (show lf_in (nI i + 1) L from lwg hi hL (by decide : 1 ≤ 5)), q_g (show lf_in (nI i + 2) L from lwg hi hL (by decide : 2 ≤ 5)), q_g (show lf_in (nI i + 3) L from lwg hi hL (by decide : 3 ≤ 5)), a1, lwe]
    have hk0 : e = 0 ∨ e = 1 ∨ e = 2 ∨ e = 3 := by omega
    rcases hk0 with rfl | rfl | rfl | rfl
    · rw [if_pos rfl]
      exact lwB_grow hi hL hr a2 a4 (Or.inl (by decide)) a5
    · rw [if_neg (show ¬ (1 : Nat) = 0 by decide), if_pos rfl]
      exact lwB_grow hi hL hr a2 a4 (Or.inl (by decide)) a5
    · rw [if_neg (show ¬ (2 : Nat) = 0 by decide), if_neg (show ¬ (2 : Nat) = 1 by decide), if_pos rfl]
      exact lwB_grow hi hL hr a2 a4 (Or.inl (by decide)) a5
    · rw [if_neg (show ¬ (3 : Nat) = 0 by decide), if_neg (show ¬ (3 : Nat) = 1 by decide), if_neg (show ¬ (3 : Nat) = 2 by decide), if_pos rfl]
      exact lwB_grow hi hL hr a2 a4 (Or.inl (by decide)) a5
theorem lwB_cut {K N t i L : Nat} {xs : Nat → Int32} {rec : Int32 → CG → CS → MS → (Nat → Int64) → Option (Int32 × CG × CS)} {G : CG} {S : CS} {T : MS} {oo : Nat → Int64} (hi : i + 5 < L) (hL : L ≤ 3073) (hr : hRec K N t i rec) {z : Int32} {y : Int32} {T' : MS} (a2 : f_Mo_cut K T (xs (nI i + 1).toNatClampNeg) (xs (nI i + 2).toNatClampNeg) = some (y, T')) (a3 : T'.v_thrown = z) (hz : z ≠ 0 ∨ oo (0 : Int32).toNatClampNeg = y.toInt64) (h : INV K N (t + 1) G S T') : okQ (f_law_1050 K L xs rec (nI i) z G S T oo) := by
  unfold f_law_1050 f_law_1098
  rw [q_g (show lf_in (nI i + 1) L from lwg hi hL (by decide : 1 ≤ 5)), q_g (show lf_in (nI i + 2) L from lwg hi hL (by decide : 2 ≤ 5)), a2, q_c, lwt, q_c, a3, if_pos rfl]
  by_cases c : z = 0
  · rw [if_pos c, hz.resolve_left (fun y => y c), if_pos (lw_cmp _)]
    exact lw_1388 hr h
  · rw [if_neg c]
    exact lw_1388 hr h
theorem lw_cut {K N t i L : Nat} {xs : Nat → Int32} {rec : Int32 → CG → CS → MS → (Nat → Int64) → Option (Int32 × CG × CS)} {G : CG} {S : CS} {T : MS} {oo : Nat → Int64} (hK : 600000 ≤ K) (ht : t < 512) (hi : i + 5 < L) (hL : L ≤ 3073) (hr : hRec K N t i rec) (h : INV K N t G S T) : okQ (f_law_1033 K L xs rec (nI i) G S T oo) := by
  unfold f_law_1033
  rcases opI_cut hK ht h (xs (nI i + 1).toNatClampNeg) (xs (nI i + 2).toNatClampNeg) with ⟨r, G', S', T', a1, a2, a3, a4⟩ | ⟨e, y, G', S', T', a1, a2, a3, a4, a5⟩
  · rw [q_g (show lf_in (nI i + 1) L from lwg hi hL (by decide : 1 ≤ 5)), q_g (show lf_in (nI i + 2) L from lwg hi hL (by decide : 2 ≤ 5)), a1, lwo, q_l]
    exact lwB_cut hi hL hr a2 a3 (Or.inr (lwu _ _)) a4
  · rw [q_g (show lf_in (nI i + 1) L from lwg hi hL (by decide : 1 ≤ 5)), q_g (show lf_in (nI i + 2) L from lwg hi hL (by decide : 2 ≤ 5)), a1, lwe]
    have hk0 : e = 0 ∨ e = 1 ∨ e = 2 := by exact a3
    rcases hk0 with rfl | rfl | rfl
    · rw [if_pos rfl]
      exact lwB_cut hi hL hr a2 a4 (Or.inl (by decide)) a5
    · rw [if_neg (show ¬ (1 : Nat) = 0 by decide), if_pos rfl]
      exact lwB_cut hi hL hr a2 a4 (Or.inl (by decide)) a5
    · rw [if_neg (show ¬ (2 : Nat) = 0 by decide), if_neg (show ¬ (2 : Nat) = 1 by decide), if_pos rfl]
      exact lwB_cut hi hL hr a2 a4 (Or.inl (by decide)) a5
theorem lwB_run {K N t i L : Nat} {xs : Nat → Int32} {rec : Int32 → CG → CS → MS → (Nat → Int64) → Option (Int32 × CG × CS)} {G : CG} {S : CS} {T : MS} {oo : Nat → Int64} (hi : i + 5 < L) (hL : L ≤ 3073) (hr : hRec K N t i rec) {z : Int32} {y : Int32} {T' : MS} (a2 : f_Mo_run K T (xs (nI i + 1).toNatClampNeg) (xs (nI i + 2).toNatClampNeg) = some (y, T')) (a3 : T'.v_thrown = z) (hz : z ≠ 0 ∨ oo (0 : Int32).toNatClampNeg = y.toInt64) (h : INV K N (t + 1) G S T') : okQ (f_law_1337 K L xs rec (nI i) z G S T oo) := by
  unfold f_law_1337 f_law_1385
  rw [q_g (show lf_in (nI i + 1) L from lwg hi hL (by decide : 1 ≤ 5)), q_g (show lf_in (nI i + 2) L from lwg hi hL (by decide : 2 ≤ 5)), a2, q_c, lwt, q_c, a3, if_pos rfl]
  by_cases c : z = 0
  · rw [if_pos c, hz.resolve_left (fun y => y c), if_pos (lw_cmp _)]
    exact lw_1388 hr h
  · rw [if_neg c]
    exact lw_1388 hr h
theorem lw_run {K N t i L : Nat} {xs : Nat → Int32} {rec : Int32 → CG → CS → MS → (Nat → Int64) → Option (Int32 × CG × CS)} {G : CG} {S : CS} {T : MS} {oo : Nat → Int64} (hK : 600000 ≤ K) (ht : t < 512) (hi : i + 5 < L) (hL : L ≤ 3073) (hr : hRec K N t i rec) (h : INV K N t G S T) : okQ (f_law_1320 K L xs rec (nI i) G S T oo) := by
  unfold f_law_1320
  rcases opI_run hK ht h (xs (nI i + 1).toNatClampNeg) (xs (nI i + 2).toNatClampNeg) with ⟨r, G', S', T', a1, a2, a3, a4⟩ | ⟨e, y, G', S', T', a1, a2, a3, a4, a5⟩
  · rw [q_g (show lf_in (nI i + 1) L from lwg hi hL (by decide : 1 ≤ 5)), q_g (show lf_in (nI i + 2) L from lwg hi hL (by decide : 2 ≤ 5)), a1, lwo, q_l]
    exact lwB_run hi hL hr a2 a3 (Or.inr (lwu _ _)) a4
  · rw [q_g (show lf_in (nI i + 1) L from lwg hi hL (by decide : 1 ≤ 5)), q_g (show lf_in (nI i + 2) L from lwg hi hL (by decide : 2 ≤ 5)), a1, lwe]
    have hk0 : e = 0 ∨ e = 1 := by omega
    rcases hk0 with rfl | rfl
    · rw [if_pos rfl]
      exact lwB_run hi hL hr a2 a4 (Or.inl (by decide)) a5
    · rw [if_neg (show ¬ (1 : Nat) = 0 by decide), if_pos rfl]
      exact lwB_run hi hL hr a2 a4 (Or.inl (by decide)) a5
theorem lwB_format {K N t i L : Nat} {xs : Nat → Int32} {rec : Int32 → CG → CS → MS → (Nat → Int64) → Option (Int32 × CG × CS)} {G : CG} {S : CS} {T : MS} {oo : Nat → Int64} (hi : i + 5 < L) (hL : L ≤ 3073) (hr : hRec K N t i rec) {z : Int32} {y : Int32} {T' : MS} (a2 : f_Mo_format K T (xs (nI i + 1).toNatClampNeg) (xs (nI i + 2).toNatClampNeg) (xs (nI i + 3).toNatClampNeg) (xs (nI i + 4).toNatClampNeg) = some (y, T')) (a3 : T'.v_thrown = z) (hz : z ≠ 0 ∨ oo (0 : Int32).toNatClampNeg = y.toInt64) (h : INV K N (t + 1) G S T') : okQ (f_law_296 K L xs rec (nI i) z G S T oo) := by
  unfold f_law_296 f_law_356
  rw [q_g (show lf_in (nI i + 1) L from lwg hi hL (by decide : 1 ≤ 5)), q_g (show lf_in (nI i + 2) L from lwg hi hL (by decide : 2 ≤ 5)), q_g (show lf_in (nI i + 3) L from lwg hi hL (by decide : 3 ≤ 5)), q_g (show lf_in (nI i + 4) L from lwg hi hL (by decide : 4 ≤ 5)), a2, q_c, lwt, q_c, a3, if_pos rfl]
  by_cases c : z = 0
  · rw [if_pos c, hz.resolve_left (fun y => y c), if_pos (lw_cmp _)]
    exact lw_1388 hr h
  · rw [if_neg c]
    exact lw_1388 hr h
theorem lw_format {K N t i L : Nat} {xs : Nat → Int32} {rec : Int32 → CG → CS → MS → (Nat → Int64) → Option (Int32 × CG × CS)} {G : CG} {S : CS} {T : MS} {oo : Nat → Int64} (hK : 600000 ≤ K) (ht : t < 512) (hi : i + 5 < L) (hL : L ≤ 3073) (hr : hRec K N t i rec) (h : INV K N t G S T) : okQ (f_law_267 K L xs rec (nI i) G S T oo) := by
  unfold f_law_267
  rcases opI_format hK ht h (xs (nI i + 1).toNatClampNeg) (xs (nI i + 2).toNatClampNeg) (xs (nI i + 3).toNatClampNeg) (xs (nI i + 4).toNatClampNeg) with ⟨r, G', S', T', a1, a2, a3, a4⟩ | ⟨e, y, G', S', T', a1, a2, a3, a4, a5⟩
  · rw [q_g (show lf_in (nI i + 1) L from lwg hi hL (by decide : 1 ≤ 5)), q_g (show lf_in (nI i + 2) L from lwg hi hL (by decide : 2 ≤ 5)), q_g (show lf_in (nI i + 3) L from lwg hi hL (by decide : 3 ≤ 5)), q_g (show lf_in (nI i + 4) L from lwg hi hL (by decide : 4 ≤ 5)), a1, lwo, q_l]
    exact lwB_format hi hL hr a2 a3 (Or.inr (lwu _ _)) a4
  · rw [q_g (show lf_in (nI i + 1) L from lwg hi hL (by decide : 1 ≤ 5)), q_g (show lf_in (nI i + 2) L from lwg hi hL (by decide : 2 ≤ 5)), q_g (show lf_in (nI i + 3) L from lwg hi hL (by decide : 3 ≤ 5)), q_g (show lf_in (nI i + 4) L from lwg hi hL (by decide : 4 ≤ 5)), a1, lwe]
    have hk0 : e = 0 := by exact a3
    subst hk0
    · rw [if_pos rfl]
      exact lwB_format hi hL hr a2 a4 (Or.inl (by decide)) a5
theorem lwB_remove {K N t i L : Nat} {xs : Nat → Int32} {rec : Int32 → CG → CS → MS → (Nat → Int64) → Option (Int32 × CG × CS)} {G : CG} {S : CS} {T : MS} {oo : Nat → Int64} (hi : i + 5 < L) (hL : L ≤ 3073) (hr : hRec K N t i rec) {z : Int32} {T' : MS} (a2 : f_Mo_remove K T (xs (nI i + 1).toNatClampNeg) = some T') (a3 : T'.v_thrown = z) (h : INV K N (t + 1) G S T') : okQ (f_law_1111 K L xs rec (nI i) z G S T oo) := by
  unfold f_law_1111
  rw [q_g (show lf_in (nI i + 1) L from lwg hi hL (by decide : 1 ≤ 5)), a2, q_b, lwt, q_c, a3, if_pos rfl]
  exact lw_1388 hr h
theorem lw_remove {K N t i L : Nat} {xs : Nat → Int32} {rec : Int32 → CG → CS → MS → (Nat → Int64) → Option (Int32 × CG × CS)} {G : CG} {S : CS} {T : MS} {oo : Nat → Int64} (hK : 600000 ≤ K) (ht : t < 512) (hi : i + 5 < L) (hL : L ≤ 3073) (hr : hRec K N t i rec) (h : INV K N t G S T) : okQ (f_law_1101 K L xs rec (nI i) G S T oo) := by
  unfold f_law_1101
  rcases opI_remove hK ht h (xs (nI i + 1).toNatClampNeg) with ⟨G', S', T', a1, a2, a3, a4⟩ | ⟨e, G', S', T', a1, a2, a3, a4, a5⟩
  · rw [q_g (show lf_in (nI i + 1) L from lwg hi hL (by decide : 1 ≤ 5)), a1, lwo]
    exact lwB_remove hi hL hr a2 a3 a4
  · rw [q_g (show lf_in (nI i + 1) L from lwg hi hL (by decide : 1 ≤ 5)), a1, lwe]
    rcases a3 with rfl | rfl | rfl
    · rw [if_pos rfl]
      exact lwB_remove hi hL hr a2 a4 a5
    · rw [if_neg (show ¬ (1 : Nat) = 0 by decide), if_pos rfl]
      exact lwB_remove hi hL hr a2 a4 a5
    · rw [if_neg (show ¬ (2 : Nat) = 0 by decide), if_neg (show ¬ (2 : Nat) = 1 by decide), if_pos rfl]
      exact lwB_remove hi hL hr a2 a4 a5
theorem lwB_stamp {K N t i L : Nat} {xs : Nat → Int32} {rec : Int32 → CG → CS → MS → (Nat → Int64) → Option (Int32 × CG × CS)} {G : CG} {S : CS} {T : MS} {oo : Nat → Int64} (hi : i + 5 < L) (hL : L ≤ 3073) (hr : hRec K N t i rec) {z : Int32} {T' : MS} (a2 : f_Mo_stamp K T (xs (nI i + 1).toNatClampNeg) (xs (nI i + 2).toNatClampNeg) (xs (nI i + 3).toNatClampNeg) (xs (nI i + 4).toNatClampNeg) = some T') (a3 : T'.v_thrown = z) (h : INV K N (t + 1) G S T') : okQ (f_law_1165 K L xs rec (nI i) z G S T oo) := by
  unfold f_law_1165
  rw [q_g (show lf_in (nI i + 1) L from lwg hi hL (by decide : 1 ≤ 5)), q_g (show lf_in (nI i + 2) L from lwg hi hL (by decide : 2 ≤ 5)), q_g (show lf_in (nI i + 3) L from lwg hi hL (by decide : 3 ≤ 5)), q_g (show lf_in (nI i + 4) L from lwg hi hL (by decide : 4 ≤ 5)), a2, q_b, lwt, q_c, a3, if_pos rfl]
  exact lw_1388 hr h
theorem lw_stamp {K N t i L : Nat} {xs : Nat → Int32} {rec : Int32 → CG → CS → MS → (Nat → Int64) → Option (Int32 × CG × CS)} {G : CG} {S : CS} {T : MS} {oo : Nat → Int64} (hK : 600000 ≤ K) (ht : t < 512) (hi : i + 5 < L) (hL : L ≤ 3073) (hr : hRec K N t i rec) (h : INV K N t G S T) : okQ (f_law_1137 K L xs rec (nI i) G S T oo) := by
  unfold f_law_1137
  rcases opI_stamp hK ht h (xs (nI i + 1).toNatClampNeg) (xs (nI i + 2).toNatClampNeg) (xs (nI i + 3).toNatClampNeg) (xs (nI i + 4).toNatClampNeg) with ⟨G', S', T', a1, a2, a3, a4⟩ | ⟨e, G', S', T', a1, a2, a3, a4, a5⟩
  · rw [q_g (show lf_in (nI i + 1) L from lwg hi hL (by decide : 1 ≤ 5)), q_g (show lf_in (nI i + 2) L from lwg hi hL (by decide : 2 ≤ 5)), q_g (show lf_in (nI i + 3) L from lwg hi hL (by decide : 3 ≤ 5)), q_g (show lf_in (nI i + 4) L from lwg hi hL (by decide : 4 ≤ 5)), a1, lwo]
    exact lwB_stamp hi hL hr a2 a3 a4
  · rw [q_g (show lf_in (nI i + 1) L from lwg hi hL (by decide : 1 ≤ 5)), q_g (show lf_in (nI i + 2) L from lwg hi hL (by decide : 2 ≤ 5)), q_g (show lf_in (nI i + 3) L from lwg hi hL (by decide : 3 ≤ 5)), q_g (show lf_in (nI i + 4) L from lwg hi hL (by decide : 4 ≤ 5)), a1, lwe]
    rcases a3 with rfl | rfl | rfl
    · rw [if_pos rfl]
      exact lwB_stamp hi hL hr a2 a4 a5
    · rw [if_neg (show ¬ (1 : Nat) = 0 by decide), if_pos rfl]
      exact lwB_stamp hi hL hr a2 a4 a5
    · rw [if_neg (show ¬ (2 : Nat) = 0 by decide), if_neg (show ¬ (2 : Nat) = 1 by decide), if_pos rfl]
      exact lwB_stamp hi hL hr a2 a4 a5
theorem lwB_up {K N t i L : Nat} {xs : Nat → Int32} {rec : Int32 → CG → CS → MS → (Nat → Int64) → Option (Int32 × CG × CS)} {G : CG} {S : CS} {T : MS} {oo : Nat → Int64} (hi : i + 5 < L) (hL : L ≤ 3073) (hr : hRec K N t i rec) {z : Int32} {y : Int32} {T' : MS} (a2 : f_Mo_up K T = some (y, T')) (a3 : T'.v_thrown = z) (hz : z ≠ 0 ∨ oo (0 : Int32).toNatClampNeg = if y = 0 then 0 else 1) (h : INV K N (t + 1) G S T') : okQ (f_law_779 K L xs rec (nI i) z G S T oo) := by
  unfold f_law_779 f_law_816 f_law_822
  rw [a2, q_c, lwt, q_c, a3, if_pos rfl]
  by_cases c : z = 0
  · rw [if_pos c, hz.resolve_left (fun y => y c)]
    by_cases d : y = 0
    · rw [if_pos d, if_pos d, if_pos (lw_cmp _)]
      exact lw_1388 hr h
    · rw [if_neg d, if_neg d, if_pos (lw_cmp _)]
      exact lw_1388 hr h
  · rw [if_neg c]
    exact lw_1388 hr h
theorem lw_up {K N t i L : Nat} {xs : Nat → Int32} {rec : Int32 → CG → CS → MS → (Nat → Int64) → Option (Int32 × CG × CS)} {G : CG} {S : CS} {T : MS} {oo : Nat → Int64} (hK : 600000 ≤ K) (ht : t < 512) (hi : i + 5 < L) (hL : L ≤ 3073) (hr : hRec K N t i rec) (h : INV K N t G S T) : okQ (f_law_774 K L xs rec (nI i) G S T oo) := by
  unfold f_law_774
  rcases opI_up hK ht h with ⟨r, G', S', T', a1, a2, a3, a4⟩ | ⟨e, y, G', S', T', a1, a2, a3, a4, a5⟩
  · rw [a1, lwo, q_l]
    exact lwB_up hi hL hr a2 a3 (Or.inr (lwu _ _)) a4
  · rw [a1, lwe]
    subst a3
    rw [if_pos rfl]
    exact lwB_up hi hL hr a2 a4 (Or.inl (by decide)) a5
theorem lwB_make {K N t i L : Nat} {xs : Nat → Int32} {rec : Int32 → CG → CS → MS → (Nat → Int64) → Option (Int32 × CG × CS)} {G : CG} {S : CS} {T : MS} {oo : Nat → Int64} (hi : i + 5 < L) (hL : L ≤ 3073) (hr : hRec K N t i rec) {z : Int32} {y : Int32} {dr : Nat} {T' : MS} (hdr : dr = 0 ∨ dr = 1) (hx : (xs (nI i + 1).toNatClampNeg) = 0 ↔ dr = 0) (a2 : f_Mo_make K T (nI dr) = some (y, T')) (a3 : T'.v_thrown = z) (hz : z ≠ 0 ∨ oo (0 : Int32).toNatClampNeg = y.toInt64) (h : INV K N (t + 1) G S T') : okQ (f_law_844 K L xs rec (nI i) z G S T oo) := by
  have key : okQ (f_law_861 K L xs rec (nI i) z (nI dr) G S T oo) := by
    unfold f_law_861 f_law_894
    rw [a2, q_c, lwt, q_c, a3, if_pos rfl]
    by_cases c : z = 0
    · rw [if_pos c, hz.resolve_left (fun y => y c), if_pos (lw_cmp _)]
      exact lw_1388 hr h
    · rw [if_neg c]
      exact lw_1388 hr h
  unfold f_law_844
  rw [q_g (show lf_in (nI i + 1) L from lwg hi hL (by decide : 1 ≤ 5))]
  rcases hdr with e | e
  · rw [if_pos (hx.mpr e)]
    rw [e] at key
    exact key
  · rw [if_neg (fun y => by have := hx.mp y; omega)]
    rw [e] at key
    exact key
theorem lwA_make {K N t i L dr : Nat} {xs : Nat → Int32} {rec : Int32 → CG → CS → MS → (Nat → Int64) → Option (Int32 × CG × CS)} {G : CG} {S : CS} {T : MS} {oo : Nat → Int64} (hK : 600000 ≤ K) (ht : t < 512) (hi : i + 5 < L) (hL : L ≤ 3073) (hr : hRec K N t i rec) (hdr : dr = 0 ∨ dr = 1) (hx : (xs (nI i + 1).toNatClampNeg) = 0 ↔ dr = 0) (h : INV K N t G S T) : okQ (f_law_840 K L xs rec (nI i) (nI dr) G S T oo) := by
  unfold f_law_840
  rcases opI_make hK ht h hdr with ⟨r, G', S', T', a1, a2, a3, a4⟩ | ⟨e, y, G', S', T', a1, a2, a3, a4, a5⟩
  · rw [a1, lwo, q_l]
    exact lwB_make hi hL hr hdr hx a2 a3 (Or.inr (lwu _ _)) a4
  · rw [a1, lwe]
    have hk0 : e = 0 ∨ e = 1 ∨ e = 3 := lw_e3 a3
    rcases hk0 with rfl | rfl | rfl
    · rw [if_pos rfl]
      exact lwB_make hi hL hr hdr hx a2 a4 (Or.inl (by decide)) a5
    · rw [if_neg (show ¬ (1 : Nat) = 0 by decide), if_pos rfl]
      exact lwB_make hi hL hr hdr hx a2 a4 (Or.inl (by decide)) a5
    · rw [if_neg (show ¬ (3 : Nat) = 0 by decide), if_neg (show ¬ (3 : Nat) = 1 by decide), if_pos rfl]
      exact lwB_make hi hL hr hdr hx a2 a4 (Or.inl (by decide)) a5
theorem lw_make {K N t i L : Nat} {xs : Nat → Int32} {rec : Int32 → CG → CS → MS → (Nat → Int64) → Option (Int32 × CG × CS)} {G : CG} {S : CS} {T : MS} {oo : Nat → Int64} (hK : 600000 ≤ K) (ht : t < 512) (hi : i + 5 < L) (hL : L ≤ 3073) (hr : hRec K N t i rec) (h : INV K N t G S T) : okQ (f_law_825 K L xs rec (nI i) G S T oo) := by
  unfold f_law_825
  rw [q_g (show lf_in (nI i + 1) L from lwg hi hL (by decide : 1 ≤ 5))]
  by_cases c : (xs (nI i + 1).toNatClampNeg) = 0
  · rw [if_pos c]
    exact lwA_make (dr := 0) hK ht hi hL hr (Or.inl rfl) ⟨fun _ => rfl, fun _ => c⟩ h
  · rw [if_neg c]
    exact lwA_make (dr := 1) hK ht hi hL hr (Or.inr rfl) ⟨fun y => absurd y c, fun y => by cases y⟩ h
