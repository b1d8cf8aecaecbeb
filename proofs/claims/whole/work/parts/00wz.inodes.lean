/-! The items of a turned volume on the class's disk. -/
theorem owF_mem {N : Nat} {D : Nat → Int32} {fks : List Nat} {its : List It} {A H b0 : Nat} {gl : Nat → Nat} {rm : List Nat} : ∀ (n i0 i : Nat), i0 ≤ i → i < i0 + n → (isDr D its i → ∀ w ∈ dwG D fks its i rm (eNo fks its i) 0 Zd 0 0 (boN fks D its b0 i), w ∈ owF N D fks its A H b0 gl rm n i0) ∧ ∀ w ∈ inW rm (fiN fks D its b0 i) (ownL N D fks its A H b0 gl rm i) (indN (ownL N D fks its A H b0 gl rm i).length), w ∈ owF N D fks its A H b0 gl rm n i0 := by
  intro n
  induction n with
  | zero => intro i0 i h1 h2; omega
  | succ n ih =>
    intro i0 i h1 h2
    rw [owF]
    by_cases c : i = i0
    · subst c
      exact ⟨fun hd w hw => List.mem_append_left _ (by rw [cif_t hd]; exact hw), fun w hw => List.mem_append_right _ (List.mem_append_left _ hw)⟩
    · obtain ⟨a, b⟩ := ih (i0 + 1) i (by omega) (by omega)
      exact ⟨fun hd w hw => List.mem_append_right _ (List.mem_append_right _ (a hd w hw)), fun w hw => List.mem_append_right _ (List.mem_append_right _ (b w hw))⟩
theorem tB_eq {n : Nat} {N : Nat} {D : Nat → Int32} {fks : List Nat} {z : SS} {A H B P g0 r to : Nat} {gl : Nat → Nat} {E F : Nat → Int32} (h : tB N D fks z A H B P g0 r to gl E F) (hn : 1 ≤ n ∧ n ≤ g0 * (8 * r)) : (∀ x, x < 128 → o1 E (inPos A P (8 * r) n + x) = o1 F (inPos A P (8 * r) n + x)) ∧ inPos A P (8 * r) n + 128 ≤ 512 * N := by
  have hm := tB_num h
  obtain ⟨g, b, q1, q2, q3, q4, q5, q6, q7, q8⟩ := slot_in h.1.2.2.1.1 h.1.2.2.1.2.1 h.1.2.2.2.1 hn
  have h8 := Nat.mod_lt ((n - 1) % (8 * r)) (show 0 < 8 by decide)
  refine ⟨fun x hx => ?_, by omega⟩
  have := tB_fx h q4 (128 * ((n - 1) % (8 * r) % 8) + x) (by omega)
  rw [q5, Nat.add_assoc]
  exact this
theorem tB_room {t : Nat} {N : Nat} {D : Nat → Int32} {fks : List Nat} {z : SS} {A H B P g0 r to : Nat} {gl : Nat → Nat} {E F : Nat → Int32} (h : tB N D fks z A H B P g0 r to gl E F) (ht : t < bdN N fks D (sIt z) A H) : (rml A H (fxd A P r g0) (ent D) gl (hk N D)).getD t 0 < B ∧ 1024 * (rml A H (fxd A P r g0) (ent D) gl (hk N D)).getD t 0 + 1024 ≤ 512 * N := by
  have hm := tB_num h
  have hb := h.1.2.2.1.2.2.2.2.2.2
  have := room_f h.1.2.2.1 t (by omega)
  omega
theorem tB_own {i : Nat} {N : Nat} {D : Nat → Int32} {fks : List Nat} {z : SS} {A H B P g0 r to : Nat} {gl : Nat → Nat} {E F : Nat → Int32} (h : tB N D fks z A H B P g0 r to gl E F) (hi : i < (sIt z).length) : (ownL N D fks (sIt z) A H (3 + indN (rcB N D (sIt z) A H)) gl (rml A H (fxd A P r g0) (ent D) gl (hk N D)) i).length = cif (isDr D (sIt z) i) (flB fks (sIt z) i) (fbN D (sIt z) i) ∧ cif (isDr D (sIt z) i) (flB fks (sIt z) i) (fbN D (sIt z) i) ≤ 512 ∧ (∀ b ∈ ownL N D fks (sIt z) A H (3 + indN (rcB N D (sIt z) A H)) gl (rml A H (fxd A P r g0) (ent D) gl (hk N D)) i, b < B) ∧ ∀ t, t < indN (cif (isDr D (sIt z) i) (flB fks (sIt z) i) (fbN D (sIt z) i)) → fiN fks D (sIt z) (3 + indN (rcB N D (sIt z) A H)) i + t < bdN N fks D (sIt z) A H := by
  have hm := tB_num h
  have hu := h.1.2.2.1
  have hfb := hu.2.2.2.2.2.1 i hi
  have hlen := own_len (N := N) (D := D) (fks := fks) (its := sIt z) (A := A) (H := H) (b0 := 3 + indN (rcB N D (sIt z) A H)) (gl := gl) (rm := rml A H (fxd A P r g0) (ent D) gl (hk N D)) (i := i) hfb
  have hend := own_end (D := D) (fks := fks) (its := sIt z) (b0 := 3 + indN (rcB N D (sIt z) A H)) (i := i) hi
  have hbs := bd_sum (N := N) (fks := fks) (D := D) (its := sIt z) (A := A) (H := H)
  have hrm := rml_len (A := A) (H := H) (fx := fxd A P r g0) (e := ent D) (gl := gl) (hk N D)
  have hbd := hu.2.2.2.2.2.2
  refine ⟨hlen, ?_, fun b hb => ?_, fun t ht => by omega⟩
  · by_cases d : isDr D (sIt z) i
    · rw [cif_t d] at hend ⊢
      have : fiN fks D (sIt z) (3 + indN (rcB N D (sIt z) A H)) i = boN fks D (sIt z) (3 + indN (rcB N D (sIt z) A H)) i + flB fks (sIt z) i := by unfold fiN bbN; rw [cif_t d]
      omega
    · rw [cif_f d]
      have h1 := hfb d
      have h2 := (h.2.1.2.2.2.1 i hi).1
      have := Nat.mul_le_mul_right H h2
      omega
  · unfold ownL at hb
    by_cases d : isDr D (sIt z) i
    · rw [cif_t d] at hb
      obtain ⟨s, s1, s2, s3⟩ := (rmF_mem _ _).mp hb
      rw [cif_t d] at hend
      have : fiN fks D (sIt z) (3 + indN (rcB N D (sIt z) A H)) i = boN fks D (sIt z) (3 + indN (rcB N D (sIt z) A H)) i + flB fks (sIt z) i := by unfold fiN bbN; rw [cif_t d]
      rw [s3]
      exact (tB_room h (by omega)).1
    · rw [cif_f d] at hb
      have := (kLs_f hu).2 b ((kLs_mem _).mpr ⟨i, hi, by unfold kLi; rw [cif_f d]; exact hb⟩)
      omega
theorem tB_item {i : Nat} {N : Nat} {D : Nat → Int32} {fks : List Nat} {z : SS} {A H B P g0 r to : Nat} {gl : Nat → Nat} {E F : Nat → Int32} (h : tB N D fks z A H B P g0 r to gl E F) (hi : i < (sIt z).length) : nodA E (inPos A P (8 * r) (nmr i)) (moN D (sIt z) i) (szN N D (sIt z) (ownL N D fks (sIt z) A H (3 + indN (rcB N D (sIt z) A H)) gl (rml A H (fxd A P r g0) (ent D) gl (hk N D)) i) i) (decide (1 ≤ i)) (tmN D (isp (itr (sIt z) i))) (lkN D fks (sIt z) i) (ownL N D fks (sIt z) A H (3 + indN (rcB N D (sIt z) A H)) gl (rml A H (fxd A P r g0) (ent D) gl (hk N D)) i) (rml A H (fxd A P r g0) (ent D) gl (hk N D)) (fiN fks D (sIt z) (3 + indN (rcB N D (sIt z) A H)) i) := by
  have hm := tB_num h
  have hn := nmr_ok (i := i) hi hm.2.2.2.2.2.2.2.2.2.2.2.2.1
  refine ⟨fun x hx => ?_, fun w hw => h.2.2.1.1.2.2.2.2.2 w ((owF_mem _ 0 i (Nat.zero_le _) (by omega)).2 w hw)⟩
  rw [(tB_eq h hn).1 x hx]
  by_cases d : isDr D (sIt z) i
  · exact (h.2.2.2.1.2.2.2.2.1 i hi d).2.2 x hx
  · exact (h.2.2.2.1.2.2.2.2.2.1 i hi d).2.2 x hx
theorem tB_rec {N : Nat} {D : Nat → Int32} {fks : List Nat} {z : SS} {A H B P g0 r to : Nat} {gl : Nat → Nat} {E F : Nat → Int32} (h : tB N D fks z A H B P g0 r to gl E F) : nodA E (inPos A P (8 * r) 11) 33024 ((recL N D (sIt z) A H gl (rml A H (fxd A P r g0) (ent D) gl (hk N D))).length * 1024) false (fun _ => 0) 1 (recL N D (sIt z) A H gl (rml A H (fxd A P r g0) (ent D) gl (hk N D))) (rml A H (fxd A P r g0) (ent D) gl (hk N D)) 3 := by
  have hm := tB_num h
  have hl := h.2.1.2.1.1
  refine ⟨fun x hx => ?_, h.2.2.1.1.2.2.2.2.1⟩
  rw [(tB_eq h ⟨by omega, by omega⟩).1 x hx]
  exact h.2.2.2.1.2.2.2.2.2.2.1 x hx
theorem tB_recl {N : Nat} {D : Nat → Int32} {fks : List Nat} {z : SS} {A H B P g0 r to : Nat} {gl : Nat → Nat} {E F : Nat → Int32} (h : tB N D fks z A H B P g0 r to gl E F) : (recL N D (sIt z) A H gl (rml A H (fxd A P r g0) (ent D) gl (hk N D))).length = rcB N D (sIt z) A H ∧ rcB N D (sIt z) A H ≤ 512 ∧ (∀ b ∈ recL N D (sIt z) A H gl (rml A H (fxd A P r g0) (ent D) gl (hk N D)), b < B ∧ usd N D (sIt z) A H gl (rml A H (fxd A P r g0) (ent D) gl (hk N D)) (bdN N fks D (sIt z) A H) (fxd A P r g0) b) ∧ 3 + indN (rcB N D (sIt z) A H) ≤ bdN N fks D (sIt z) A H := by
  have hm := tB_num h
  have hbs := bd_sum (N := N) (fks := fks) (D := D) (its := sIt z) (A := A) (H := H)
  refine ⟨recL_len (by omega), h.1.2.2.2.2.2.2, fun b hb => ?_, by omega⟩
  unfold recL at hb
  rcases List.mem_append.mp hb with y | y
  · rcases List.mem_append.mp y with y | y
    · obtain ⟨s, s1, s2, s3⟩ := (rmF_mem _ _).mp y
      rw [s3]
      exact ⟨(tB_room h (by omega)).1, Or.inr (Or.inl ⟨s, by omega, rfl⟩)⟩
    · have := (blk_mem _ _).mp y
      exact ⟨by omega, Or.inr (Or.inr (Or.inl (by omega)))⟩
  · have y2 := (rcD_sub (N := N) (D := D) (its := sIt z) (A := A) (H := H) (gl := gl) (sIt z).length).subset y
    have := (kLs_f h.1.2.2.1).2 b y2
    exact ⟨by omega, Or.inr (Or.inr (Or.inr y2))⟩
/-! Names. -/
theorem nbN_lt {u q : Nat} (h : u < 65536) : nbN u q < 256 := by
  have hw : (widN u = 1 ∧ u < 128) ∨ (widN u = 2 ∧ u < 2048) ∨ widN u = 3 := by unfold widN; split <;> (try split) <;> omega
  unfold nbN
  by_cases c : q = 0
  · rw [if_pos c]
    rcases hw with ⟨w, k⟩ | ⟨w, k⟩ | w
    · rw [if_pos w]; omega
    · rw [if_neg (show ¬ widN u = 1 by omega), if_pos w]; exact Nat.or_lt_two_pow (n := 8) (by decide) (by omega)
    · rw [if_neg (show ¬ widN u = 1 by omega), if_neg (show ¬ widN u = 2 by omega)]; exact Nat.or_lt_two_pow (n := 8) (by decide) (by omega)
  · rw [if_neg c]
    rcases hw with ⟨w, k⟩ | ⟨w, k⟩ | w
    · rw [if_pos w]; omega
    · rw [if_neg (show ¬ widN u = 1 by omega)]; exact Nat.or_lt_two_pow (n := 8) (by decide) (Nat.lt_of_le_of_lt Nat.and_le_right (by decide))
    · rw [if_neg (show ¬ widN u = 1 by omega)]; exact Nat.or_lt_two_pow (n := 8) (by decide) (Nat.lt_of_le_of_lt Nat.and_le_right (by decide))
theorem nbV_lt : ∀ (l : List Nat) (q : Nat), (∀ u ∈ l, u < 65536) → nbV l q < 256
  | [], q => fun _ => by show (0 : Nat) < 256; decide
  | u :: l, q => fun h => by
    unfold nbV
    rw [nbL]
    split
    · exact nbN_lt (h u List.mem_cons_self)
    · exact nbV_lt l _ (fun x hx => h x (List.mem_cons_of_mem _ hx))
theorem tsz_ge : ∀ (l : List Nat), l.length ≤ tsz l
  | [] => Nat.zero_le _
  | u :: l => by
    have := tsz_ge l
    have h2 := (widN_le u).1
    rw [show u :: l = [u] ++ l from rfl, tsz_app, List.length_append]
    have : tsz [u] = widN u := by unfold tsz; simp
    show 1 + l.length ≤ _
    omega
theorem kid_in {fks : List Nat} {its : List It} {i q : Nat} (hkd : kdS fks its) (hfl : fks.length = its.length) (hi : i < its.length) (hq : q < kcI fks its.length i) : 1 ≤ fkI fks i + q ∧ fkI fks i + q < its.length ∧ ipa (itr its (fkI fks i + q)) = i := by
  obtain ⟨k1, k2, k3, k4, k5⟩ := hkd i (by omega)
  have hq2 : q < fks.getD (i + 1) its.length - fks.getD i 0 := hq
  have k1' : 1 ≤ fks.getD i 0 := k1
  have k2' : fks.getD i 0 ≤ fks.getD (i + 1) its.length := k2
  have e : fkI fks i = fks.getD i 0 := rfl
  refine ⟨by omega, by omega, (k5 _ (by omega) (by omega)).mpr ⟨by omega, by omega⟩⟩
theorem tB_esz {i : Nat} {N : Nat} {D : Nat → Int32} {fks : List Nat} {z : SS} {A H B P g0 r to : Nat} {gl : Nat → Nat} {E F : Nat → Int32} (h : tB N D fks z A H B P g0 r to gl E F) (hi : i < (sIt z).length) : ∀ e, eSz fks (sIt z) i e ≤ 255 ∧ 1 ≤ eSz fks (sIt z) i e := fun e => by
  unfold eSz
  split
  · omega
  · split
    · rename_i g
      obtain ⟨k1, k2, -⟩ := kid_in h.2.1.2.2.1.1 h.2.1.2.2.1.2 hi g
      have n1 := h.2.2.2.2.2 _ k1 k2
      have n2 := tsz_ge (inm (itr (sIt z) (fkI fks i + (e - 2))))
      have n3 := (h.2.1.2.1.2.2.2.2 _ k1 k2).2.2.2.2.2
      omega
    · omega
theorem tB_enb {i : Nat} {N : Nat} {D : Nat → Int32} {fks : List Nat} {z : SS} {A H B P g0 r to : Nat} {gl : Nat → Nat} {E F : Nat → Int32} (h : tB N D fks z A H B P g0 r to gl E F) (hi : i < (sIt z).length) : ∀ e q, q < eSz fks (sIt z) i e → eNb fks (sIt z) i e q < 256 := fun e q hq => by
  unfold eNb
  split
  · omega
  · split
    · rename_i g
      obtain ⟨k1, k2, -⟩ := kid_in h.2.1.2.2.1.1 h.2.1.2.2.1.2 hi g
      refine nbV_lt _ _ (fun u hu => h.2.1.2.1.2.2.2.1 u ?_)
      rw [uns_cut k2]
      exact List.mem_append_left _ (List.mem_append_right _ hu)
    · have : ∀ x ∈ rcN, x < 256 := by decide
      by_cases c : q < rcN.length
      · exact this _ (getD_mem c)
      · rw [getD_out (by omega)]; decide
/-- where entry e of directory i stands -/
noncomputable def enP (N : Nat) (D : Nat → Int32) (fks : List Nat) (its : List It) (A H : Nat) (rm : List Nat) (i e : Nat) : Nat := 1024 * rm.getD (boN fks D its (3 + indN (rcB N D its A H)) i + eBl (eSz fks its i) e) 0 + eOf (eSz fks its i) e
theorem tB_ent {i : Nat} {N : Nat} {D : Nat → Int32} {fks : List Nat} {z : SS} {A H B P g0 r to : Nat} {gl : Nat → Nat} {E F : Nat → Int32} (h : tB N D fks z A H B P g0 r to gl E F) (hi : i < (sIt z).length) (hd : isDr D (sIt z) i) : ∀ e, e < eNo fks (sIt z) i → eAt D fks (sIt z) i e E (enP N D fks (sIt z) A H (rml A H (fxd A P r g0) (ent D) gl (hk N D)) i e) (if e + 1 < eNo fks (sIt z) i ∧ eBl (eSz fks (sIt z) i) (e + 1) = eBl (eSz fks (sIt z) i) e then elN (eSz fks (sIt z) i e) else 1024 - eOf (eSz fks (sIt z) i) e) := by
  have hs := tB_esz h hi
  have hb := tB_enb h hi
  have hlen := h.2.1.2.1.2.1
  have hkd := h.2.1.2.2.1
  have hen : ∀ e Z a, e < eNo fks (sIt z) i → eAt D fks (sIt z) i e (enD D fks (sIt z) i e Z a) a (elN (eSz fks (sIt z) i e)) := fun e Z a he => by
    refine en_put ?_ (by have := (hs e).1; omega) ?_ (hb e) (by have := elN_lt (show eSz fks (sIt z) i e ≤ 765 by have := (hs e).1; omega); omega)
    · unfold eNu nmr
      have hp := h.2.1.2.2.2.2.2.2.1 i hi hd
      split
      · split <;> omega
      · split
        · split <;> omega
        · split
          · rename_i g
            have := kid_in hkd.1 hkd.2 hi g
            split <;> omega
          · decide
    · unfold eKd
      split
      · decide
      · split
        · by_cases c : isDr D (sIt z) (fkI fks i + (e - 2))
          · rw [cif_t c]; decide
          · rw [cif_f c]; decide
        · decide
  have := dw_rd (D := D) (fks := fks) (its := sIt z) (i := i) (b0 := boN fks D (sIt z) (3 + indN (rcB N D (sIt z) A H)) i) (M := eNo fks (sIt z) i) (rm := rml A H (fxd A P r g0) (ent D) gl (hk N D)) (X := E) (fun e => by have := (hs e).1; omega) hen (eNo fks (sIt z) i) 0 Zd 0 0 (boN fks D (sIt z) (3 + indN (rcB N D (sIt z) A H)) i) 0 (by omega) rfl rfl (Nat.le_refl _) (fun e' _ h2 => by omega) (fun y => by omega) (fun w hw => h.2.2.1.1.2.2.2.2.2 w ((owF_mem _ 0 i (Nat.zero_le _) (by omega)).1 hd w hw))
  intro e he
  exact this e (Nat.zero_le _) he
/-! The class looks for an entry. -/
def hin (i : Nat) : Nat := if i = 0 then 0 else 11 + i
theorem cl_find {K i m : Nat} {y rv : Int32} {N : Nat} {D : Nat → Int32} {fks : List Nat} {z : SS} {A H B P g0 r to : Nat} {gl : Nat → Nat} {E F : Nat → Int32} {G : CG} {S : CS} (hK : 100000 ≤ K) (h : tB N D fks z A H B P g0 r to gl E F) (hG : G.n = N) (hS : S.w_Dk_bytes = E) (hi : i < (sIt z).length) (hd : isDr D (sIt z) i) (hy : (∃ k, k < eNo fks (sIt z) i ∧ y = nI k ∧ rv = nI (enP N D fks (sIt z) A H (rml A H (fxd A P r g0) (ent D) gl (hk N D)) i k) ∧ m = k) ∨ ((∀ e', e' < eNo fks (sIt z) i → ¬ nI e' = y) ∧ rv = -1 ∧ m = eNo fks (sIt z) i)) : f_In_findEntry K G S (nI (hin i)) y = some (rv, S.u_v_In_seen (nI m)) := by
  have hm := tB_num h
  have hN := hm.2.2.2.2.2.2.2.2.2.2.2.1
  have hlen := h.2.1.2.1.2.1
  have hkd := h.2.1.2.2.1
  have hn := nmr_ok (i := i) hi hm.2.2.2.2.2.2.2.2.2.2.2.2.1
  obtain ⟨o1', o2', o3, o4'⟩ := tB_own h hi
  have hno := tB_item h hi
  have hs := tB_esz h hi
  have hent := tB_ent h hi hd
  have hpos := (tB_eq h hn).2
  have hk0 : kcI fks (sIt z).length i ≤ 4200 := by
    obtain ⟨k1, k2, k3, k4, k5⟩ := hkd.1 i (by omega)
    have : kcI fks (sIt z).length i = fks.getD (i + 1) (sIt z).length - fks.getD i 0 := rfl
    omega
  have hM : 2 ≤ eNo fks (sIt z) i ∧ eNo fks (sIt z) i ≤ 4203 := by unfold eNo; split <;> omega
  rw [cif_t hd] at o1' o2' o4'
  have hdi : f_In_directoryInode K (nI (hin i)) = some (nI (nmr i)) := by
    unfold f_In_directoryInode hin nmr
    by_cases c : i = 0
    · rw [if_pos c, if_pos c, if_pos (show nI 0 = 0 from rfl)]
      rfl
    · rw [if_neg c, if_neg c, if_neg (nI_ne0 (by omega) (by omega))]
  have hsz : o4 E (inPos A P (8 * r) (nmr i) + 4) = flB fks (sIt z) i * 1024 := by
    rw [nod_4 hno (by decide), in_size (by unfold szN; rw [cif_t hd, o1']; omega)]
    unfold szN
    rw [cif_t hd, o1']
  unfold f_In_findEntry
  rw [hdi, q_b, cl_place h hG hS hn, q_c, show (4 : Int32) = nI 4 from rfl, nI_add, rV4 E hG hS hN (by omega), q_c, hsz, show (1024 : Int32) = nI 1024 from rfl, pk_div (by omega) (by decide) (by decide), Nat.mul_div_cancel _ (by decide), q_l, q_l]
  obtain ⟨w, rfl⟩ : ∃ w, K = w + 1 := ⟨K - 1, by omega⟩
  have hblk : ∀ (j : Nat) (x : Int32), j < flB fks (sIt z) i → f_In_blockOf (w + 1) G (S.u_v_In_seen x) (nI (inPos A P (8 * r) (nmr i))) (nI j) = some (nI ((rml A H (fxd A P r g0) (ent D) gl (hk N D)).getD (boN fks D (sIt z) (3 + indN (rcB N D (sIt z) A H)) i + j) 0), S.u_v_In_seen x) := fun j x hj => by
    have := cl_blockOf (K := w + 1) (S := S.u_v_In_seen x) (j := j) hG hS hN hno hpos (fun b hb => by have := o3 b hb; omega) (fun t ht => by rw [o1'] at ht; exact (tB_room h (o4' t ht)).2) (by rw [o1']; exact hj) (by rw [o1']; omega)
    rw [this]
    unfold ownL
    rw [cif_t hd, rmF_getD _ _ _ _ hj]
  have hf1 := (pkS_le (fun e => (by have := (hs e).1; omega : eSz fks (sIt z) i e ≤ 765)) (eNo fks (sIt z) i)).1
  have hfl : flB fks (sIt z) i = (pkS (eSz fks (sIt z) i) (eNo fks (sIt z) i)).1 := rfl
  have hfi : fiN fks D (sIt z) (3 + indN (rcB N D (sIt z) A H)) i = boN fks D (sIt z) (3 + indN (rcB N D (sIt z) A H)) i + flB fks (sIt z) i := by unfold fiN bbN; rw [cif_t hd]
  have hend := own_end (D := D) (fks := fks) (its := sIt z) (b0 := 3 + indN (rcB N D (sIt z) A H)) (i := i) hi
  rw [cif_t hd, ← bd_sum] at hend
  have e0 : eBl (eSz fks (sIt z) i) 0 = 0 ∧ eOf (eSz fks (sIt z) i) 0 = 0 := by
    have hfit : (pkS (eSz fks (sIt z) i) 0).2 + elN (eSz fks (sIt z) i 0) ≤ 1024 := by
      have := elN_lt (show eSz fks (sIt z) i 0 ≤ 765 by have := (hs 0).1; omega)
      show 0 + _ ≤ _
      omega
    obtain ⟨a, b⟩ := eOf_fit hfit
    exact ⟨b, a⟩
  rw [f_In_findEntry_33, if_neg (show ¬ nI (flB fks (sIt z) i) ≤ 0 from nI_ge (a := 0) (by omega) (by omega)), show (S.u_v_In_seen 0) = S.u_v_In_seen (nI 0) from rfl, show f_In_blockOf (w + 1) G (S.u_v_In_seen (nI 0)) (nI (inPos A P (8 * r) (nmr i))) 0 = _ from hblk 0 (nI 0) (by omega), q_c, show (1024 : Int32) = nI 1024 from rfl, pk_mul, q_l, Nat.mul_comm _ 1024]
  have := fe_walk (K := w + 1) (N := N) (M := eNo fks (sIt z) i) (pos := inPos A P (8 * r) (nmr i)) (bl := flB fks (sIt z) i) (s := eSz fks (sIt z) i) (bk := fun j => (rml A H (fxd A P r g0) (ent D) gl (hk N D)).getD (boN fks D (sIt z) (3 + indN (rcB N D (sIt z) A H)) i + j) 0) (S := S) (y := y) (rv := rv) (m := m) hK hG hS hN (fun e => by have := hs e; omega) (by omega) hfl hblk (fun j hj => (tB_room h (by omega)).2) (fun e he => (hent e he).2.1) (eNo fks (sIt z) i) 0 w (w + 1) (by omega) (by omega) (by omega) (by omega) (by
    rcases hy with ⟨k, k1, k2, k3, k4⟩ | k
    · exact Or.inl ⟨k, Nat.zero_le _, k1, k2, k3, k4⟩
    · exact Or.inr k)
  rw [e0.1, e0.2] at this
  exact this
