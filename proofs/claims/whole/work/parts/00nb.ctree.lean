/-! How the class holds the items. -/
abbrev gOk (N : Nat) (G : CG) : Prop := G.n = N ∧ (G.l_first = G.l_parent ∧ G.l_size = G.l_parent ∧ G.l_bits = G.l_parent ∧ G.l_spot = G.l_parent ∧ G.l_slot = G.l_parent ∧ G.l_parts = G.l_parent ∧ G.l_kids = G.l_parent ∧ G.l_kidCount = G.l_parent ∧ G.l_nameAt = G.l_parent ∧ G.l_nameLength = G.l_parent ∧ G.l_nameBytes = G.l_parent ∧ G.l_built = G.l_parent ∧ G.l_builtBlocks = G.l_parent) ∧ 64 ≤ G.l_parent ∧ G.l_parent ≤ 9000 ∧ 1024 ≤ G.l_pool ∧ G.l_pool ≤ 400000
def widN (u : Nat) : Nat := if u < 128 then 1 else if u < 2048 then 2 else 3
theorem widN_le (u : Nat) : 1 ≤ widN u ∧ widN u ≤ 3 := by unfold widN; split <;> (try split) <;> omega
def tsz (l : List Nat) : Nat := (l.map widN).sum
theorem tsz_app (a b : List Nat) : tsz (a ++ b) = tsz a + tsz b := by unfold tsz; rw [List.map_append, List.sum_append]
theorem tsz_le (l : List Nat) : tsz l ≤ 3 * l.length := by
  induction l with
  | nil => exact Nat.le_refl _
  | cons a l ih =>
    have := (widN_le a).2
    unfold tsz at *
    simp only [List.map_cons, List.sum_cons, List.length_cons]
    omega
def btI (D : Nat → Int32) (its : List It) (j : Nat) : Nat := if j = 0 then 16 else o1 D (isp (itr its j) + 11)
def szI (D : Nat → Int32) (its : List It) (j : Nat) : Nat := if j = 0 then 0 else if o1 D (isp (itr its j) + 11) / 16 % 2 = 1 then 0 else o4 D (isp (itr its j) + 28)
def spI (mp : Nat → Nat) (its : List It) (j : Nat) : Nat := if j = 0 then 0 else mp (isp (itr its j))
abbrev rcJ (D : Nat → Int32) (mp : Nat → Nat) (its : List It) (S : CS) (j : Nat) : Prop := S.w_Tr_parent j = nI (ipa (itr its j)) ∧ S.w_Tr_first j = nI (begI D its j) ∧ S.w_Tr_bits j = nI (btI D its j) ∧ S.w_Tr_spot j = nI (spI mp its j) ∧ S.w_Tr_slot j = nI (isl (itr its j)) ∧ S.w_Tr_parts j = nI (ipt (itr its j)) ∧ S.w_Tr_nameAt j = nI (uns (its.take j)).length ∧ S.w_Tr_nameLength j = nI (inm (itr its j)).length ∧ S.w_Tr_nameBytes j = nI (tsz (inm (itr its j))) ∧ S.w_Tr_size j = nI (szI D its j)
abbrev rcI (D : Nat → Int32) (mp : Nat → Nat) (its : List It) (S : CS) : Prop := S.v_Tr_count = nI its.length ∧ S.v_Tr_pooled = nI (uns its).length ∧ (∀ j, j < its.length → rcJ D mp its S j) ∧ (∀ u, u < (uns its).length → S.w_Tr_pool u = nI ((uns its).getD u 0))
theorem qC_has {K j n : Nat} {G : CG} {S : CS} (hc : S.v_Tr_count = nI n) (hn : n < 2 ^ 31) (hj : j < 2 ^ 31) : f_Tr_has K G S (nI j) = some (b01 (j < n), S) := by
  unfold f_Tr_has f_Tr_has_16
  rw [if_neg (nI_pos hj), hc]
  by_cases g : n ≤ j
  · rw [if_pos (nI_le g hj), b01_f (by omega)]; rfl
  · rw [if_neg (nI_ge (by omega) hn), b01_t (by omega)]; rfl
section
variable {K N j : Nat} {G : CG} {D : Nat → Int32} {mp : Nat → Nat} {its : List It} {S : CS}
theorem qC_first (hG : gOk N G) (hS : rcI D mp its S) (hl : its.length ≤ G.l_parent) (hj : j < its.length) : f_Tr_firstOf K G S (nI j) = some (nI (begI D its j), S) := by
  obtain ⟨g0, ⟨g1, -⟩, g2, g3, -⟩ := hG
  unfold f_Tr_firstOf
  rw [qC_has hS.1 (by omega) (by omega), q_c, b01_t hj, if_neg (by decide), q_g (q_in (by omega) (by omega)), nI_clamp (by omega), (hS.2.2.1 j hj).2.1]
theorem qC_parent (hG : gOk N G) (hS : rcI D mp its S) (hl : its.length ≤ G.l_parent) (hj : j < its.length) : f_Tr_parentOf K G S (nI j) = some (nI (ipa (itr its j)), S) := by
  obtain ⟨g0, -, g2, g3, -⟩ := hG
  unfold f_Tr_parentOf
  rw [qC_has hS.1 (by omega) (by omega), q_c, b01_t hj, if_neg (by decide), q_g (q_in (by omega) (by omega)), nI_clamp (by omega), (hS.2.2.1 j hj).1]
theorem qC_spot (hG : gOk N G) (hS : rcI D mp its S) (hl : its.length ≤ G.l_parent) (hj : j < its.length) : f_Tr_spotOf K G S (nI j) = some (nI (spI mp its j), S) := by
  obtain ⟨g0, ⟨-, -, -, g1, -⟩, g2, g3, -⟩ := hG
  unfold f_Tr_spotOf
  rw [qC_has hS.1 (by omega) (by omega), q_c, b01_t hj, if_neg (by decide), q_g (q_in (by omega) (by omega)), nI_clamp (by omega), (hS.2.2.1 j hj).2.2.2.1]
theorem qC_size (hG : gOk N G) (hS : rcI D mp its S) (hl : its.length ≤ G.l_parent) (hj : j < its.length) : f_Tr_sizeOf K G S (nI j) = some (nI (szI D its j), S) := by
  obtain ⟨g0, ⟨-, g1, -⟩, g2, g3, -⟩ := hG
  unfold f_Tr_sizeOf
  rw [qC_has hS.1 (by omega) (by omega), q_c, b01_t hj, if_neg (by decide), q_g (q_in (by omega) (by omega)), nI_clamp (by omega), (hS.2.2.1 j hj).2.2.2.2.2.2.2.2.2]
theorem qC_slot (hG : gOk N G) (hS : rcI D mp its S) (hl : its.length ≤ G.l_parent) (hj : j < its.length) : f_Tr_slotOf K G S (nI j) = some (nI (isl (itr its j)), S) := by
  obtain ⟨g0, ⟨-, -, -, -, g1, -⟩, g2, g3, -⟩ := hG
  unfold f_Tr_slotOf
  rw [qC_has hS.1 (by omega) (by omega), q_c, b01_t hj, if_neg (by decide), q_g (q_in (by omega) (by omega)), nI_clamp (by omega), (hS.2.2.1 j hj).2.2.2.2.1]
theorem qC_parts (hG : gOk N G) (hS : rcI D mp its S) (hl : its.length ≤ G.l_parent) (hj : j < its.length) : f_Tr_partsOf K G S (nI j) = some (nI (ipt (itr its j)), S) := by
  obtain ⟨g0, ⟨-, -, -, -, -, g1, -⟩, g2, g3, -⟩ := hG
  unfold f_Tr_partsOf
  rw [qC_has hS.1 (by omega) (by omega), q_c, b01_t hj, if_neg (by decide), q_g (q_in (by omega) (by omega)), nI_clamp (by omega), (hS.2.2.1 j hj).2.2.2.2.2.1]
theorem qC_nameSize (hG : gOk N G) (hS : rcI D mp its S) (hl : its.length ≤ G.l_parent) (hj : j < its.length) : f_Tr_nameSize K G S (nI j) = some (nI (tsz (inm (itr its j))), S) := by
  obtain ⟨g0, ⟨-, -, -, -, -, -, -, -, -, -, g1, -⟩, g2, g3, -⟩ := hG
  unfold f_Tr_nameSize
  rw [qC_has hS.1 (by omega) (by omega), q_c, b01_t hj, if_neg (by decide), q_g (q_in (by omega) (by omega)), nI_clamp (by omega), (hS.2.2.1 j hj).2.2.2.2.2.2.2.2.1]
theorem btI_lt : btI D its j < 256 := by
  unfold btI
  split
  · decide
  · exact o1_lt D _
theorem btI_dir : btI D its j / 16 % 2 = 1 ↔ isDr D its j := by
  unfold btI isDr
  split
  · rename_i h; exact ⟨fun _ => Or.inl h, fun _ => rfl⟩
  · rename_i h; exact ⟨fun w => Or.inr w, fun w => w.resolve_left h⟩
theorem qC_isDir (hG : gOk N G) (hS : rcI D mp its S) (hl : its.length ≤ G.l_parent) (hj : j < its.length) : f_Tr_isDirectory K G S (nI j) = some (b01 (isDr D its j), S) := by
  obtain ⟨g0, ⟨-, -, g1, -⟩, g2, g3, -⟩ := hG
  unfold f_Tr_isDirectory f_Tr_isDirectory_24
  have hb : btI D its j < 256 := btI_lt
  rw [qC_has hS.1 (by omega) (by omega), q_c, b01_t hj, if_neg (by decide), q_g (q_in (by omega) (by omega)), nI_clamp (by omega), (hS.2.2.1 j hj).2.2.1, show (16 : Int32) = nI 16 from rfl, q_and, q_and16 hb]
  by_cases w : btI D its j / 16 % 2 = 1
  · rw [b01_t (btI_dir.mp w), w, if_neg (by decide)]; rfl
  · rw [b01_f (fun y => w (btI_dir.mpr y)), show btI D its j / 16 % 2 = 0 by omega, if_pos (by decide)]; rfl
theorem qC_isDirN (hS : rcI D mp its S) (hlen : its.length < 2 ^ 31) (hj : its.length ≤ j) (hj2 : j < 2 ^ 31) : f_Tr_isDirectory K G S (nI j) = some (nI 0, S) := by
  unfold f_Tr_isDirectory f_Tr_isDirectory_24
  rw [qC_has hS.1 (by omega) (by omega), q_c, b01_f (by omega), if_pos (by decide)]
  rfl
theorem qC_ro (hG : gOk N G) (hS : rcI D mp its S) (hl : its.length ≤ G.l_parent) (hj : j < its.length) : f_Tr_isReadOnly K G S (nI j) = some (b01 (btI D its j % 2 = 1), S) := by
  obtain ⟨g0, ⟨-, -, g1, -⟩, g2, g3, -⟩ := hG
  unfold f_Tr_isReadOnly f_Tr_isReadOnly_23
  have hb : btI D its j < 256 := btI_lt
  have e : btI D its j &&& 1 = btI D its j % 2 := Nat.and_one_is_mod _
  rw [qC_has hS.1 (by omega) (by omega), q_c, b01_t hj, if_neg (by decide), q_g (q_in (by omega) (by omega)), nI_clamp (by omega), (hS.2.2.1 j hj).2.2.1, show (1 : Int32) = nI 1 from rfl, q_and, e]
  by_cases w : btI D its j % 2 = 1
  · rw [b01_t w, w, if_neg (by decide)]
  · rw [b01_f w, show btI D its j % 2 = 0 by omega, if_pos (by decide)]; rfl
end
theorem qC_named {K N j : Nat} {G : CG} {D : Nat → Int32} {mp : Nat → Nat} {its : List It} {S : CS} {us : List Nat} (hK : 1000 ≤ K) (hG : gOk N G) (hS : rcI D mp its S) (hl : its.length ≤ G.l_parent) (hp : (uns its).length ≤ G.l_pool) (hu : ∀ u ∈ uns its, u < 65536) (hj : j < its.length) (hus : us.length ≤ 260) (hb : bufR S.w_Rd_units us) (hlt : ∀ u ∈ us, u < 65536) (hnl : (inm (itr its j)).length ≤ 260) : f_Tr_isNamed_Rdunits K G S (nI j) (nI us.length) = some (b01 (alk (inm (itr its j)) us), S) := by
  obtain ⟨g0, ⟨-, -, -, -, -, -, -, -, ga, gl, -⟩, g2, g3, g4, g5⟩ := hG
  obtain ⟨c1, c2, c3, c4⟩ := hS
  obtain ⟨-, -, -, -, -, -, n1, n2, -⟩ := c3 j hj
  have n4 := uns_len hj
  unfold f_Tr_isNamed_Rdunits f_Tr_isNamed_Rdunits_24
  rw [qC_has c1 (by omega) (by omega), q_c, b01_t hj, if_neg (by decide), q_g (q_in (by omega) (by omega)), q_g (show lf_in (nI j) G.l_nameAt from q_in (by omega) (by omega)), nI_clamp (by omega), n2]
  by_cases e : (inm (itr its j)).length = us.length
  rotate_left
  · rw [if_neg (fun w => e ((nI_eq (by omega) (by omega)).mp w)), b01_f (fun w => e (alk_iff.mp w).1)]; rfl
  rw [if_pos (by rw [e]), if_pos (show nI us.length ≤ 260 from nI_le (b := 260) hus (by decide)), n1, q_l]
  have loop : ∀ (d i k : Nat), i + d = us.length → d < k → f_Tr_isNamed_Rdunits_37 K G k (nI us.length) (nI (uns (its.take j)).length) (nI i) S = some (b01 (∀ q, i ≤ q → q < us.length → capN ((inm (itr its j)).getD q 0) = capN (us.getD q 0)), S) := by
    intro d
    induction d with
    | zero =>
      intro i k h1 h2
      obtain ⟨k, rfl⟩ : ∃ q, k = q + 1 := ⟨k - 1, by omega⟩
      rw [f_Tr_isNamed_Rdunits_37, if_pos (nI_le (by omega) (by omega)), b01_t (fun q a b => by omega)]; rfl
    | succ d ih =>
      intro i k h1 h2
      obtain ⟨k, rfl⟩ : ∃ q, k = q + 1 := ⟨k - 1, by omega⟩
      have b1 : (inm (itr its j)).getD i 0 < 65536 := by rw [← uns_get hj (by omega)]; exact getD_lt hu (by decide)
      have b2 : us.getD i 0 < 65536 := getD_lt hlt (by decide)
      have i1 : lf_in (nI ((uns (its.take j)).length + i)) G.l_pool := q_in (by omega) (by omega)
      have i2 : lf_in (nI i) 260 := q_in (by omega) (by decide)
      rw [f_Tr_isNamed_Rdunits_37, if_neg (nI_ge (by omega) (by omega)), nI_add]
      simp only [q_g i1, q_g i2]
      rw [nI_clamp (by omega), nI_clamp (by omega), c4 _ (by omega), uns_get hj (by omega), hb i (by omega)]
      unfold f_Tr_isNamed_Rdunits_85
      have nx := ih (i + 1) k (by omega) (by omega)
      have go : capN ((inm (itr its j)).getD i 0) = capN (us.getD i 0) → some (b01 (∀ q, i + 1 ≤ q → q < us.length → capN ((inm (itr its j)).getD q 0) = capN (us.getD q 0)), S) = some (b01 (∀ q, i ≤ q → q < us.length → capN ((inm (itr its j)).getD q 0) = capN (us.getD q 0)), S) := by
        intro ec
        congr 2
        refine b01_iff ⟨fun h q a b => ?_, fun h q a b => h q (by omega) b⟩
        rcases Nat.lt_or_ge i q with z | z
        · exact h q z b
        · obtain rfl : q = i := by omega
          exact ec
      by_cases e1 : (inm (itr its j)).getD i 0 = us.getD i 0
      · rw [if_pos (by rw [e1]), q_l, nI_1, nx, go (by rw [e1])]
      · rw [if_neg (fun w => e1 ((nI_eq (by omega) (by omega)).mp w)), qV_capital K (by omega), q_b, qV_capital K (by omega), q_b]
        have c1 := capN_lt b1
        have c2 := capN_lt b2
        by_cases ec : capN ((inm (itr its j)).getD i 0) = capN (us.getD i 0)
        · rw [if_pos (by rw [ec]), q_l, nI_1, nx, go ec]
        · rw [if_neg (fun w => ec ((nI_eq (by omega) (by omega)).mp w)), b01_f (fun w => ec (w i (Nat.le_refl _) (by omega)))]; rfl
  rw [show (0 : Int32) = nI 0 from rfl, loop us.length 0 K (by omega) (by omega)]
  congr 2
  rw [b01_iff alk_iff]
  exact b01_iff ⟨fun h => ⟨e, fun q hq => h q (by omega) hq⟩, fun h q _ hq => h.2 q hq⟩
/-- two slots with one short name -/
theorem qC_same {K N a b : Nat} {G : CG} {E : Nat → Int32} {S : CS} (hK : 1000 ≤ K) (hG : G.n = N) (hE : S.w_Dk_bytes = E) (hN : N ≤ 1024) (ha : a + 31 < 512 * N) (hb : b + 31 < 512 * N) : f_Rd_sameShortName K G S (nI a) (nI b) = some (b01 (∀ q, q < 11 → o1 E (a + q) = o1 E (b + q)), S) := by
  have loop : ∀ (d i k : Nat), i + d = 11 → d < k → f_Rd_sameShortName_2 K G k (nI a) (nI b) (nI i) S = some (b01 (∀ q, i ≤ q → q < 11 → o1 E (a + q) = o1 E (b + q)), S) := by
    intro d
    induction d with
    | zero =>
      intro i k h1 h2
      obtain ⟨k, rfl⟩ : ∃ q, k = q + 1 := ⟨k - 1, by omega⟩
      obtain rfl : i = 11 := by omega
      rw [f_Rd_sameShortName_2, if_pos (by decide), b01_t (fun q a b => by omega)]; rfl
    | succ d ih =>
      intro i k h1 h2
      obtain ⟨k, rfl⟩ : ∃ q, k = q + 1 := ⟨k - 1, by omega⟩
      have b1 := o1_lt E (a + i)
      have b2 := o1_lt E (b + i)
      rw [f_Rd_sameShortName_2, if_neg (show ¬ 11 ≤ nI i from nI_ge (b := 11) (by omega) (by decide)), nI_add, rV1 E hG hE hN (by omega), q_c, nI_add, rV1 E hG hE hN (by omega), q_c]
      by_cases e : o1 E (a + i) = o1 E (b + i)
      · rw [if_pos (by rw [e]), q_l, nI_1, ih (i + 1) k (by omega) (by omega)]
        congr 2
        refine b01_iff ⟨fun h q x y => ?_, fun h q x y => h q (by omega) y⟩
        rcases Nat.lt_or_ge i q with z | z
        · exact h q z y
        · obtain rfl : q = i := by omega
          exact e
      · rw [if_neg (fun w => e ((nI_eq (by omega) (by omega)).mp w)), b01_f (fun w => e (w i (Nat.le_refl _) (by omega)))]; rfl
  unfold f_Rd_sameShortName
  rw [show (0 : Int32) = nI 0 from rfl, loop 11 0 K rfl (by omega)]
  congr 2
  exact b01_iff ⟨fun h q hq => h q (by omega) hq, fun h q _ hq => h q hq⟩
