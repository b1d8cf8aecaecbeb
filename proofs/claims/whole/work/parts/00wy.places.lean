/-! The fixed blocks on the class's disk, and where the inodes stand. -/
theorem fgI_mem {N : Nat} {D : Nat → Int32} {fks : List Nat} {its : List It} {A H : Nat} {gl : Nat → Nat} {rm : List Nat} {I mb g : Nat} : ∀ (n j0 j : Nat), j0 ≤ j → j < j0 + n → ∀ w ∈ blW (mb + 2 + j) (iBl N D fks its A H gl rm (g * I + 8 * j + 1) Zd 8), w ∈ fgI N D fks its A H gl rm I mb g n j0 := by
  intro n
  induction n with
  | zero => intro j0 j h1 h2; omega
  | succ n ih =>
    intro j0 j h1 h2 w hw
    rw [fgI]
    by_cases c : j = j0
    · subst c; exact List.mem_append_left _ hw
    · exact List.mem_append_right _ (ih (j0 + 1) j (by omega) (by omega) w hw)
theorem fgG_mem {N : Nat} {D : Nat → Int32} {fks : List Nat} {its : List It} {A H B P g0 r fr : Nat} {gl : Nat → Nat} {rm : List Nat} {us : Nat → Prop} {by0 : Nat → Nat} : ∀ (n h0 g : Nat), h0 ≤ g → g < h0 + n → (∀ w ∈ blW (mBk A P g) (mX (bmP us B P g0 g)), w ∈ fgG N D fks its A H B P g0 r gl rm us fr by0 n h0) ∧ (∀ w ∈ blW (mBk A P g + 1) (mX (imP (8 * r) (10 + its.length) g)), w ∈ fgG N D fks its A H B P g0 r gl rm us fr by0 n h0) ∧ (∀ j, j < r → ∀ w ∈ blW (mBk A P g + 2 + j) (iBl N D fks its A H gl rm (g * (8 * r) + 8 * j + 1) Zd 8), w ∈ fgG N D fks its A H B P g0 r gl rm us fr by0 n h0) ∧ (g ≠ 0 → (∀ w ∈ blW (1 + g * P) (sbL Zd (g0 * (8 * r)) B fr (g0 * (8 * r) - (10 + its.length)) P (8 * r) g (o4 D 67) by0), w ∈ fgG N D fks its A H B P g0 r gl rm us fr by0 n h0) ∧ (∀ w ∈ blW (1 + g * P + 1) (dsX Zd (mBk A P) (frB us B P g0) (frI (8 * r) (10 + its.length)) (dgN D its (8 * r)) g0), w ∈ fgG N D fks its A H B P g0 r gl rm us fr by0 n h0)) := by
  intro n
  induction n with
  | zero => intro h0 g h1 h2; omega
  | succ n ih =>
    intro h0 g h1 h2
    rw [fgG]
    by_cases c : g = h0
    · subst c
      refine ⟨fun w hw => List.mem_append_right _ (List.mem_append_left _ hw), fun w hw => List.mem_append_right _ (List.mem_append_right _ (List.mem_append_left _ hw)), fun j hj w hw => List.mem_append_right _ (List.mem_append_right _ (List.mem_append_right _ (List.mem_append_left _ (fgI_mem r 0 j (Nat.zero_le _) (by omega) w hw)))), fun hg => ⟨fun w hw => List.mem_append_left _ ?_, fun w hw => List.mem_append_left _ ?_⟩⟩
      · rw [if_neg hg]; exact List.mem_append_left _ hw
      · rw [if_neg hg]; exact List.mem_append_right _ hw
    · obtain ⟨a, b, c3, d⟩ := ih (h0 + 1) g (by omega) (by omega)
      have up : ∀ w, w ∈ fgG N D fks its A H B P g0 r gl rm us fr by0 n (h0 + 1) → w ∈ _ := fun w hw => List.mem_append_right (if h0 = 0 then [] else blW (1 + h0 * P) (sbL Zd (g0 * (8 * r)) B fr (g0 * (8 * r) - (10 + its.length)) P (8 * r) h0 (o4 D 67) by0) ++ blW (1 + h0 * P + 1) (dsX Zd (mBk A P) (frB us B P g0) (frI (8 * r) (10 + its.length)) (dgN D its (8 * r)) g0)) (List.mem_append_right (blW (mBk A P h0) (mX (bmP us B P g0 h0))) (List.mem_append_right (blW (mBk A P h0 + 1) (mX (imP (8 * r) (10 + its.length) h0))) (List.mem_append_right (fgI N D fks its A H gl rm (8 * r) (mBk A P h0) h0 r 0) hw)))
      exact ⟨fun w hw => up w (a w hw), fun w hw => up w (b w hw), fun j hj w hw => up w (c3 j hj w hw), fun hg => ⟨fun w hw => up w ((d hg).1 w hw), fun w hw => up w ((d hg).2 w hw)⟩⟩
/-- every fixed block holds one image, wherever the fixed writes stand -/
theorem fx_img {N : Nat} {D : Nat → Int32} {fks : List Nat} {its : List It} {A H B P g0 r fr b : Nat} {gl : Nat → Nat} {rm : List Nat} {us : Nat → Prop} {by0 : Nat → Nat} (hg0 : 1 ≤ g0) (hb : fxd A P r g0 b) : ∃ Y, ∀ X, agW X (fxL N D fks its A H B P g0 r gl rm us fr by0) → bkA X b Y := by
  obtain ⟨g, hg, hc⟩ := hb
  have hm := fgG_mem (N := N) (D := D) (fks := fks) (its := its) (A := A) (H := H) (B := B) (P := P) (g0 := g0) (r := r) (fr := fr) (gl := gl) (rm := rm) (us := us) (by0 := by0) g0 0 g (Nat.zero_le _) (by omega)
  have low : ∀ X, agW X (fxL N D fks its A H B P g0 r gl rm us fr by0) → ∀ {b Y}, (∀ w ∈ blW b Y, w ∈ fgG N D fks its A H B P g0 r gl rm us fr by0 g0 0) → bkA X b Y := fun X hX b Y h => agW_bl hX (fun w hw => by unfold fxL; exact List.mem_append_left _ (h w hw))
  rcases hc with e | e | ⟨e1, e2⟩
  · by_cases c : g = 0
    · subst c
      rw [Nat.zero_mul] at e
      rw [e]
      refine ⟨sbL Zd (g0 * (8 * r)) B fr (g0 * (8 * r) - (10 + its.length)) P (8 * r) 0 (o4 D 67) by0, fun X hX => agW_bl hX (fun w hw => ?_)⟩
      unfold fxL
      refine List.mem_append_right _ (List.mem_append_right _ ?_)
      unfold blW at hw
      rcases List.mem_cons.mp hw with y | y
      · rw [y]; exact List.mem_cons_of_mem _ (List.mem_singleton.mpr rfl)
      · rw [List.mem_singleton.mp y]; exact List.mem_cons_self
    · rw [e]
      exact ⟨_, fun X hX => low X hX (hm.2.2.2 c).1⟩
  · by_cases c : g = 0
    · subst c
      rw [Nat.zero_mul] at e
      rw [e]
      exact ⟨dsX Zd (mBk A P) (frB us B P g0) (frI (8 * r) (10 + its.length)) (dgN D its (8 * r)) g0, fun X hX => agW_bl hX (fun w hw => by unfold fxL; exact List.mem_append_right _ (List.mem_append_left _ hw))⟩
    · rw [e, show 2 + g * P = 1 + g * P + 1 by omega]
      exact ⟨_, fun X hX => low X hX (hm.2.2.2 c).2⟩
  · by_cases c : b = mBk A P g
    · rw [c]
      exact ⟨_, fun X hX => low X hX hm.1⟩
    by_cases c1 : b = mBk A P g + 1
    · rw [c1]
      exact ⟨_, fun X hX => low X hX hm.2.1⟩
    · have := hm.2.2.1 (b - (mBk A P g + 2)) (by omega)
      rw [show mBk A P g + 2 + (b - (mBk A P g + 2)) = b by omega] at this
      exact ⟨_, fun X hX => low X hX this⟩
theorem sbL_ino {gi B fr fi P I g id : Nat} {by0 : Nat → Nat} (hP : I < 2 ^ 32) : o4 (sbL Zd gi B fr fi P I g id by0) 40 = I := o4_of hP fun k hk0 => by
  unfold sbL
  rw [nbX_o1, if_neg (by omega)]
  unfold sbX
  rw [st_out (by omega), st_out (by omega), st_out (by omega), st_out (by omega), st_out (by omega), st_out (by omega), st_out (by omega), st_out (by omega), st_out (by omega), st_out (by omega), st_o1, if_pos (by omega), Nat.add_sub_cancel_left]
theorem dsX_get {mb fb fi dg0 : Nat → Nat} (hm : ∀ g, mb g + 2 < 2 ^ 32) : ∀ n g, g < n → o4 (dsX Zd mb fb fi dg0 n) (32 * g) = mb g ∧ o4 (dsX Zd mb fb fi dg0 n) (32 * g + 8) = mb g + 2 := by
  intro n
  induction n with
  | zero => intro g hg; omega
  | succ n ih =>
    intro g hg
    rw [dsX]
    by_cases c : g = n
    · subst c
      have := hm g
      refine ⟨o4_of (by omega) fun k hk0 => ?_, o4_of (by omega) fun k hk0 => ?_⟩
      · rw [st_out (by omega), st_out (by omega), st_out (by omega), st_out (by omega), st_out (by omega), st_o1, if_pos (by omega), Nat.add_sub_cancel_left]
      · rw [st_out (by omega), st_out (by omega), st_out (by omega), st_o1, if_pos (by omega), Nat.add_sub_cancel_left]
    · obtain ⟨a, b⟩ := ih g (by omega)
      refine ⟨?_, ?_⟩
      · rw [← a]; exact o4_sh fun k hk0 => by rw [st_out (by omega), st_out (by omega), st_out (by omega), st_out (by omega), st_out (by omega), st_out (by omega)]
      · rw [← b]; exact o4_sh fun k hk0 => by rw [st_out (by omega), st_out (by omega), st_out (by omega), st_out (by omega), st_out (by omega), st_out (by omega)]
/-! All that is fixed while the volume is turned. -/
abbrev tB (N : Nat) (D : Nat → Int32) (fks : List Nat) (z : SS) (A H B P g0 r to : Nat) (gl : Nat → Nat) (E F : Nat → Int32) : Prop := pPl N D fks (sIt z) A H (hk N D) B P g0 r to gl ∧ pTr N D fks z (hk N D) ∧ dTh N D fks z A H (hk N D) B P g0 r gl E ∧ lyA N D fks (sIt z) A H P g0 r gl (rml A H (fxd A P r g0) (ent D) gl (hk N D)) F ∧ agW F (fxZ N D fks z A H (hk N D) B P g0 r gl) ∧ nmOk (sIt z)
theorem tB_num {N : Nat} {D : Nat → Int32} {fks : List Nat} {z : SS} {A H B P g0 r to : Nat} {gl : Nat → Nat} {E F : Nat → Int32} (h : tB N D fks z A H B P g0 r to gl E F) : 1 ≤ P ∧ P ≤ 256 ∧ g0 ≤ 8 ∧ 1 ≤ g0 ∧ 1 ≤ r ∧ r < 2000 ∧ A ≤ 64 ∧ 5 ≤ A ∧ B ≤ 512 ∧ 1024 * B = 512 * N ∧ 256 ≤ N ∧ N ≤ 1024 ∧ 10 + (sIt z).length ≤ g0 * (8 * r) ∧ (H = 1 ∨ H = 2 ∨ H = 4) ∧ A + hk N D * H ≤ B := by
  obtain ⟨p1, p2, p3, p4, p5, p6, p7⟩ := h.1
  have hp := p3.1
  have hB : B = N / 2 := p2.2.2.2
  have h1 := hp.2.2.2.2.2.1
  have h2 := p1.2.2.1
  refine ⟨?_, ?_, ?_, ?_, p4, hp.2.2.2.2.2.2.1, hp.1.2, hp.1.1, hp.2.2.2.1.2, by omega, p1.2.1.1, p1.2.1.2, p5, hp.2.1, hp.2.2.2.2.2.2.2⟩
  · have := hp.2.2.2.2.1; omega
  · have := hp.2.2.2.2.1; omega
  · have := hp.2.2.2.1; rcases hp.2.2.2.2.1 with q | q | q <;> rw [q] at h1 <;> omega
  · have := hp.2.2.2.1; rcases hp.2.2.2.2.1 with q | q | q <;> rw [q] at h1 <;> omega
theorem tB_fx {N : Nat} {D : Nat → Int32} {fks : List Nat} {z : SS} {A H B P g0 r to b : Nat} {gl : Nat → Nat} {E F : Nat → Int32} (h : tB N D fks z A H B P g0 r to gl E F) (hb : fxd A P r g0 b) : ∀ x, x < 1024 → o1 E (1024 * b + x) = o1 F (1024 * b + x) := fun x hx => by
  have hn := tB_num h
  obtain ⟨Y, hY⟩ := fx_img (N := N) (D := D) (fks := fks) (its := sIt z) (A := A) (H := H) (B := B) (P := P) (g0 := g0) (r := r) (fr := B - 1 - (g0 * (4 + r) + (bdN N fks D (sIt z) A H + kpN N D (sIt z) A H))) (gl := gl) (rm := rml A H (fxd A P r g0) (ent D) gl (hk N D)) (us := usd N D (sIt z) A H gl (rml A H (fxd A P r g0) (ent D) gl (hk N D)) (bdN N fks D (sIt z) A H) (fxd A P r g0)) (by0 := lby D (sLb z)) hn.2.2.2.1 hb
  rw [hY E h.2.2.1.2 x hx, hY F h.2.2.2.2.1 x hx]
theorem tB_hd {N : Nat} {D : Nat → Int32} {fks : List Nat} {z : SS} {A H B P g0 r to : Nat} {gl : Nat → Nat} {E F : Nat → Int32} (h : tB N D fks z A H B P g0 r to gl E F) : o4 E 1056 = P ∧ o4 E 1064 = 8 * r ∧ ∀ g, g < g0 → o4 E (2048 + 32 * g) = mBk A P g ∧ o4 E (2048 + 32 * g + 8) = mBk A P g + 2 := by
  have hn := tB_num h
  have hE := h.2.2.1.2
  have b1 : bkA E 1 (sbL Zd (g0 * (8 * r)) B (B - 1 - (g0 * (4 + r) + (bdN N fks D (sIt z) A H + kpN N D (sIt z) A H))) (g0 * (8 * r) - (10 + (sIt z).length)) P (8 * r) 0 (o4 D 67) (lby D (sLb z))) := agW_bl hE (fun w hw => by
    unfold fxZ fxL
    refine List.mem_append_right _ (List.mem_append_right _ ?_)
    unfold blW at hw
    rcases List.mem_cons.mp hw with y | y
    · rw [y]; exact List.mem_cons_of_mem _ (List.mem_singleton.mpr rfl)
    · rw [List.mem_singleton.mp y]; exact List.mem_cons_self)
  have b2 : bkA E 2 (dsX Zd (mBk A P) (frB (usd N D (sIt z) A H gl (rml A H (fxd A P r g0) (ent D) gl (hk N D)) (bdN N fks D (sIt z) A H) (fxd A P r g0)) B P g0) (frI (8 * r) (10 + (sIt z).length)) (dgN D (sIt z) (8 * r)) g0) := agW_bl hE (fun w hw => by
    unfold fxZ fxL
    exact List.mem_append_right _ (List.mem_append_left _ hw))
  have hmb : ∀ g, g < g0 → mBk A P g + 2 < 2 ^ 32 := fun g hg => by
    have : g * P ≤ 8 * 256 := Nat.mul_le_mul (by omega) (by omega)
    unfold mBk
    split <;> omega
  refine ⟨?_, ?_, fun g hg => ?_⟩
  · have := bk_4 b1 (q := 32) (by decide)
    rw [sbL_per (by omega)] at this
    exact this
  · have := bk_4 b1 (q := 40) (by decide)
    rw [sbL_ino (by omega)] at this
    exact this
  · have key : ∀ (mb fb fi dg0 : Nat → Nat) (n : Nat), (∀ g, g < n → mb g + 2 < 2 ^ 32) → ∀ g, g < n → o4 (dsX Zd mb fb fi dg0 n) (32 * g) = mb g ∧ o4 (dsX Zd mb fb fi dg0 n) (32 * g + 8) = mb g + 2 := by
      intro mb fb fi dg0 n hm g hg
      have e : ∀ k, k ≤ n → dsX Zd mb fb fi dg0 k = dsX Zd (fun g => if g < n then mb g else 0) fb fi dg0 k := by
        intro k
        induction k with
        | zero => intro _; rfl
        | succ k ihk =>
          intro hk0
          rw [dsX, dsX, ihk (by omega), if_pos (show k < n by omega)]
      have := dsX_get (mb := fun g => if g < n then mb g else 0) (fb := fb) (fi := fi) (dg0 := dg0) (fun g => by
        show (if g < n then mb g else 0) + 2 < 2 ^ 32
        split
        · exact hm g (by assumption)
        · decide) n g hg
      rw [← e n (Nat.le_refl _)] at this
      have t : (if g < n then mb g else 0) = mb g := if_pos hg
      rw [t] at this
      exact this
    obtain ⟨k1, k2⟩ := key _ (frB (usd N D (sIt z) A H gl (rml A H (fxd A P r g0) (ent D) gl (hk N D)) (bdN N fks D (sIt z) A H) (fxd A P r g0)) B P g0) (frI (8 * r) (10 + (sIt z).length)) (dgN D (sIt z) (8 * r)) g0 hmb g hg
    have a1 := bk_4 b2 (q := 32 * g) (by omega)
    have a2 := bk_4 b2 (q := 32 * g + 8) (by omega)
    rw [k1] at a1
    rw [k2] at a2
    exact ⟨a1, a2⟩
/-- the class finds an inode -/
theorem cl_place {K n : Nat} {N : Nat} {D : Nat → Int32} {fks : List Nat} {z : SS} {A H B P g0 r to : Nat} {gl : Nat → Nat} {E F : Nat → Int32} {G : CG} {S : CS} (h : tB N D fks z A H B P g0 r to gl E F) (hG : G.n = N) (hS : S.w_Dk_bytes = E) (hn : 1 ≤ n ∧ n ≤ g0 * (8 * r)) : f_In_inodePlace K G S (nI n) = some (nI (inPos A P (8 * r) n), S) := by
  have hm := tB_num h
  obtain ⟨q1, q2, q3⟩ := tB_hd h
  have hg8 : g0 * (8 * r) ≤ 8 * 16000 := Nat.mul_le_mul (by omega) (by omega)
  have hdv : (n - 1) / (8 * r) < g0 := (Nat.div_lt_iff_lt_mul (by omega)).mpr (by omega)
  unfold f_In_inodePlace
  rw [show (1064 : Int32) = nI 1064 from rfl, rV4 E hG hS hm.2.2.2.2.2.2.2.2.2.2.2.1 (by omega), q_c, q2, if_neg (show ¬ nI n < 1 from nI_nlt (b := 1) hn.1 (by omega)), if_pos (show 1 ≤ nI (8 * r) from nI_le (a := 1) (by omega) (by omega)), q_g (nI_ne0 (by omega) (by omega)), show (1 : Int32) = nI 1 from rfl, pk_sub (by omega), pk_rem (by omega) (by omega) (by omega), pk_div (by omega) (by omega) (by omega), show (2048 : Int32) = nI 2048 from rfl, show (32 : Int32) = nI 32 from rfl, show (8 : Int32) = nI 8 from rfl, pk_mul, nI_add, nI_add, rV4 E hG hS hm.2.2.2.2.2.2.2.2.2.2.2.1 (by omega), q_c, q_g (nI_ne0 (by omega) (by omega)), (q3 _ hdv).2, show (1024 : Int32) = nI 1024 from rfl, show (128 : Int32) = nI 128 from rfl, pk_mul, pk_mul, nI_add]
  unfold inPos
  rw [Nat.mul_comm 1024, Nat.mul_comm 128]
