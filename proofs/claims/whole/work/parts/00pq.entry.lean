/-! An entry read while the tables are being changed. -/
theorem qM_entryN {K N y : Nat} {D : Nat → Int32} {T : MS} (h : hdOk N D) (hN : N ≤ 1024) (hy0 : y < hk N D + 2) (h1 : T.v_v = nI (hv D)) (h3 : T.v_z = nI (hz D)) : f_Mo_entry K T (nI y) = some (nI (o4 T.v_disk (pE (hv D) (hz D) 0 y) % 2 ^ 28), T) := by
  have hf := hd_facts h hN
  have hp := lk_hp h hN hy0 (show 0 < hy D by omega)
  have hA : f_Mo_entryAt K T 0 (nI y) = some (nI (pE (hv D) (hz D) 0 y), T) := by
    unfold f_Mo_entryAt
    rw [h1, h3, show (0 : Int32) = nI 0 from rfl, pk_mul, nI_add, show (512 : Int32) = nI 512 from rfl, pk_mul, show (4 : Int32) = nI 4 from rfl, pk_mul, nI_add]
  have hw := o4_lt T.v_disk (pE (hv D) (hz D) 0 y)
  unfold f_Mo_entry
  rw [hA, q_c, qM_four T (by omega), q_c, show (268435455 : Int32) = nI 268435455 from rfl, q_and, show 268435455 = 2 ^ 28 - 1 from rfl, Nat.and_two_pow_sub_one_eq_mod]
theorem qM_entryL {K N y : Nat} {D X : Nat → Int32} {l : List (Nat × Nat)} {T : MS} (h : hdOk N D) (hN : N ≤ 1024) (hT : tabOk N D) (hl : lsOk N D l) (hy0 : y < hk N D + 2) (h1 : T.v_v = nI (hv D)) (h3 : T.v_z = nI (hz D)) (hD : T.v_disk = X) (ht : ∀ q, 512 * hv D ≤ q → q < 512 * ha D → o1 X q = o1 (lks D D l) q) : f_Mo_entry K T (nI y) = some (nI (lkV l y (ent D y)), T) := by
  have hf := hd_facts h hN
  have hp := lk_hp h hN hy0 (show 0 < hy D by omega)
  rw [qM_entryN h hN hy0 h1 h3, hD, o4_eq (Y := lks D D l) fun k hk0 => ht _ (by omega) (by omega), lks_e4 h hN hy0 (by omega) l D hl, tab_old h hN hT hy0 (by omega)]
theorem lkV_lt {l : List (Nat × Nat)} {y w : Nat} (hl : ∀ a ∈ l, a.2 < 2 ^ 28) (hw : w < 2 ^ 28) : lkV l y w < 2 ^ 28 := by
  rcases lkV_or (y := y) l w with e | ⟨a, a1, a2, a3⟩
  · rw [e]; exact hw
  · rw [a3]; exact hl a a1
theorem lkV_app {y w : Nat} : ∀ (l m : List (Nat × Nat)) (w : Nat), lkV (l ++ m) y w = lkV m y (lkV l y w) := by
  intro l
  induction l with
  | nil => intro m w; rfl
  | cons a l ih => intro m w; exact ih m _
