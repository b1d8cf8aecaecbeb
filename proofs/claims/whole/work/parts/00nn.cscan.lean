/-! The scan of the class comes to the same tree. -/
noncomputable def ksD (D : Nat → Int32) (its : List It) (fks : List Nat) (j : Nat) : Nat := cif (j < fks.length ∧ isDr D its j) (fkI fks j) 0
def kcD (fks : List Nat) (n j : Nat) : Nat := if j < fks.length then kcI fks n j else 0
theorem kcI_app {fks : List Nat} {n n' j : Nat} (h : j < fks.length) : kcI (fks ++ [n]) n' j = kcI fks n j := by
  unfold kcI
  rw [getD_app1 h]
  by_cases y : j + 1 = fks.length
  · rw [y, getD_app2, getD_out (Nat.le_refl _)]
  · rw [getD_app1 (by omega)]
    congr 1
    rw [List.getD_eq_getElem?_getD, List.getD_eq_getElem?_getD, List.getElem?_eq_getElem (by omega)]
    rfl
theorem isDr_ext {D : Nat → Int32} {z z' : SS} (h : ext z z') {j : Nat} (hj : j < (sIt z).length) : isDr D (sIt z') j ↔ isDr D (sIt z) j := by
  unfold isDr
  rw [ext_itr h hj]
theorem ksD_step {D : Nat → Int32} {z z' : SS} {fks : List Nat} (h : ext z z') (hf : fks.length < (sIt z).length) (hd : isDr D (sIt z) fks.length) (j : Nat) : ksU (ksD D (sIt z) fks) fks.length (sIt z).length j = ksD D (sIt z') (fks ++ [(sIt z).length]) j ∧ ksU (kcD fks (sIt z).length) fks.length ((sIt z').length - (sIt z).length) j = kcD (fks ++ [(sIt z).length]) (sIt z').length j := by
  unfold ksU ksD kcD
  have hl : (fks ++ [(sIt z).length]).length = fks.length + 1 := by rw [List.length_append]; rfl
  rw [hl]
  by_cases e : j = fks.length
  · subst e
    rw [if_pos rfl, if_pos rfl, if_pos (by omega), cif_t ⟨by omega, (isDr_ext h hf).mpr hd⟩]
    unfold fkI kcI
    rw [getD_app2, getD_out (by rw [hl]; exact Nat.le_refl _)]
    exact ⟨rfl, rfl⟩
  · rw [if_neg e, if_neg e]
    by_cases w : j < fks.length
    · rw [if_pos w, if_pos (by omega), kcI_app w]
      refine ⟨?_, rfl⟩
      by_cases y : isDr D (sIt z) j
      · rw [cif_t ⟨w, y⟩, cif_t ⟨by omega, (isDr_ext h (by omega)).mpr y⟩]
        unfold fkI
        rw [getD_app1 w]
      · rw [cif_f (fun v => y v.2), cif_f (fun v => y ((isDr_ext h (by omega)).mp v.2))]
    · rw [if_neg w, if_neg (by omega), cif_f (fun v => w v.1), cif_f (fun v => by omega)]
      exact ⟨rfl, rfl⟩
theorem ksD_skip {D : Nat → Int32} {z : SS} {fks : List Nat} (hd : ¬ isDr D (sIt z) fks.length) (j : Nat) : ksD D (sIt z) fks j = ksD D (sIt z) (fks ++ [(sIt z).length]) j ∧ kcD fks (sIt z).length j = kcD (fks ++ [(sIt z).length]) (sIt z).length j := by
  unfold ksD kcD
  have hl : (fks ++ [(sIt z).length]).length = fks.length + 1 := by rw [List.length_append]; rfl
  rw [hl]
  by_cases e : j = fks.length
  · subst e
    rw [if_neg (Nat.lt_irrefl _), if_pos (by omega), cif_f (fun v => hd v.2), cif_f (fun v => hd v.2)]
    unfold kcI
    rw [getD_app2, getD_out (by rw [hl]; exact Nat.le_refl _), Nat.sub_self]
    exact ⟨rfl, rfl⟩
  · by_cases w : j < fks.length
    · rw [if_pos w, if_pos (by omega), kcI_app w]
      refine ⟨?_, rfl⟩
      by_cases y : isDr D (sIt z) j
      · rw [cif_t ⟨w, y⟩, cif_t ⟨by omega, y⟩]
        unfold fkI
        rw [getD_app1 w]
      · rw [cif_f (fun v => y v.2), cif_f (fun v => y v.2)]
    · rw [if_neg w, if_neg (by omega), cif_f (fun v => w v.1), cif_f (fun v => by omega)]
      exact ⟨rfl, rfl⟩
theorem ksD_0 {D : Nat → Int32} {its : List It} {fks : List Nat} {j : Nat} {n : Nat} (h : fks.length ≤ j) : ksD D its fks j = 0 ∧ kcD fks n j = 0 := by
  unfold ksD kcD
  rw [if_neg (by omega), cif_f (fun v => by omega)]
  exact ⟨rfl, rfl⟩
abbrev cSc (N t : Nat) (D E : Nat → Int32) (mp : Nat → Nat) (fks : List Nat) (z : SS) (G : CG) (S : CS) : Prop := dcI N t D E mp (ksD D (sIt z) fks) (kcD fks (sIt z).length) z G S
theorem qC_scan64 {K N t m mv : Nat} {G0 : CG} {D E : Nat → Int32} {gl : Nat → Nat} {S0 : CS} (hK : 20000 ≤ K) (hS0 : cIs N E G0 S0) (hH : agH D E) (hA : agC N D E (gF mv gl)) (h : hdOk N D) (hN : N ≤ 1024) (hcp : capOk N D m) (hm : m ≤ 4000) (hmv : mv = 0 ∨ mv = 1) (hg : mv = 1 → ∀ c, c < N / 2 + 2 → S0.w_Tb_goal c = nI (gl c)) (hgl : ∀ c, gl c < 2 ^ 31) : ∀ (d k : Nat) (fks : List Nat) (z : SS) (G : CG) (S : CS), fks.length + d = 5000 → d < k → fks.length ≤ (sIt z).length → coC S = coC S0 → cSc N t D E (mpP D (gF mv gl)) fks z G S → (∀ f' z', scL N D d fks.length fks z = .ok (f', z') → ∃ G' S', f_Rd_scan_64 K k (nI mv) (nI fks.length) G S = f_Rd_scan_115 K G' S' ∧ coC S' = coC S0 ∧ f'.length = (sIt z').length ∧ cSc N t D E (mpP D (gF mv gl)) f' z' G' S') ∧ (∀ e, scL N D d fks.length fks z = .error e → ∃ G' S', f_Rd_scan_64 K k (nI mv) (nI fks.length) G S = some (nI e, G', S') ∧ coC S' = coC S0 ∧ gOk N G' ∧ gLim t G') := by
  intro d
  induction d with
  | zero =>
    intro k fks z G S h1 h2 h3 hco hI
    have := cinD_bnd hI.2.2.2.2.2.2.1 hcp
    omega
  | succ d ih =>
    intro k fks z G S h1 h2 h3 hco hI
    obtain ⟨k, rfl⟩ : ∃ q, k = q + 1 := ⟨k - 1, by omega⟩
    have hb := cinD_bnd hI.2.2.2.2.2.2.1 hcp
    have hgc := hI.2.2.2.2.1
    have hS : cIs N E G S := cIs_co hco (hgc.1.1.trans hS0.1.symm) hS0
    rw [scL, f_Rd_scan_64, if_neg (show ¬ 1000000 ≤ nI fks.length from nI_ge (b := 1000000) (by omega) (by decide)), hI.1.1]
    by_cases g : fks.length < (sIt z).length
    rotate_left
    · rw [if_neg g, if_pos (nI_le (by omega) (by omega))]
      refine ⟨fun f' z' e => ?_, fun e he => (by cases he)⟩
      cases e
      exact ⟨G, S, rfl, hco, by omega, hI⟩
    rw [if_pos g, if_neg (nI_ge g (by omega)), qC_isDir hgc.1 hI.1 hgc.2.2.1 g, q_c]
    unfold f_Rd_scan_98 f_Rd_scan_102
    have hl1 : (fks ++ [(sIt z).length]).length = fks.length + 1 := by rw [List.length_append]; rfl
    by_cases w : isDr D (sIt z) fks.length
    · rw [b01_t w, if_neg (by decide), cif_t w]
      obtain ⟨q1, q2⟩ := qC_readDir (K := K) (i := fks.length) hK hS hH hA h hN hcp hm hmv (fun e c hc => by rw [coC_w_Tb_goal hco]; exact hg e c hc) hgl hI g (fun j hj => ksD_0 hj)
      cases hd : dirS N D fks.length z with
      | error e1 =>
        obtain ⟨G2, S2, r1, r2, r3⟩ := q2 e1 hd
        rw [r1, exb_e]
        have he1 : ¬ nI e1 = 0 := by
          have hfo : 3 ≤ e1 ∧ e1 ≤ 5 := by
            unfold dirS at hd
            split at hd
            · cases hd; omega
            · unfold dirC at hd
              cases hx : dirL N D fks.length (sIt z).length _ _ 0 _ with
              | error e2 => rw [hx] at hd; cases hd; exact dirL_err _ _ _ _ hx
              | ok x =>
                rw [hx, exb_o] at hd
                unfold dirE at hd
                by_cases y : pM (sPe x.2) = 0 ∧ (fks.length = 0 ∨ 2 ≤ x.1)
                · rw [cif_t y] at hd; cases hd
                · rw [cif_f y] at hd; cases hd; omega
          exact nI_ne0 (by omega) (by omega)
        refine ⟨fun f' z' e => (by cases e), fun e he => ?_⟩
        cases he
        show ∃ G' S', (if nI e1 = 0 then _ else some (nI e1, G2, S2)) = _ ∧ _
        rw [if_neg he1]
        exact ⟨G2, S2, rfl, r2.trans hco, r3⟩
      | ok z1 =>
        obtain ⟨G2, S2, r1, r2, r3, r4⟩ := q1 z1 hd
        rw [r1, exb_o]
        show (∀ f' z', _ → ∃ G' S', (if nI 0 = 0 then (lf_l (nI fks.length + 1) fun x_18 => f_Rd_scan_64 K k (nI mv) x_18 G2 S2) else some (nI 0, G2, S2)) = _ ∧ _) ∧ (∀ e, _ → ∃ G' S', (if nI 0 = 0 then (lf_l (nI fks.length + 1) fun x_18 => f_Rd_scan_64 K k (nI mv) x_18 G2 S2) else some (nI 0, G2, S2)) = _ ∧ _)
        rw [if_pos (show nI 0 = 0 from rfl), q_l, nI_1]
        have hl := ext_len r4
        have := ih k (fks ++ [(sIt z).length]) z1 G2 S2 (by rw [hl1]; omega) (by omega) (by rw [hl1]; omega) (r2.trans hco) ⟨r3.1, r3.2.1, r3.2.2.1, fun j hj => by rw [← (ksD_step r4 g w j).1, ← (ksD_step r4 g w j).2]; exact r3.2.2.2.1 j hj, r3.2.2.2.2⟩
        rw [hl1] at this
        exact this
    · rw [b01_f w, if_pos (by decide), cif_f w, exb_o, if_pos rfl, q_l, nI_1]
      have := ih k (fks ++ [(sIt z).length]) z G S (by rw [hl1]; omega) (by omega) (by rw [hl1]; omega) hco ⟨hI.1, hI.2.1, hI.2.2.1, fun j hj => by rw [← (ksD_skip w j).1, ← (ksD_skip w j).2]; exact hI.2.2.2.1 j hj, hI.2.2.2.2⟩
      rw [hl1] at this
      exact this
theorem qC_isFree {K N x : Nat} {G : CG} {D E : Nat → Int32} {S : CS} (hS : cIs N E G S) (hH : agH D E) (h : hdOk N D) (hN : N ≤ 1024) (h1 : 2 ≤ x) (h2 : x < hk N D + 2) : f_Tb_isFree K G S (nI x) = some (b01 (ent D x = 0), S) := by
  have hk5 := hd_facts h hN
  obtain ⟨e1, e2, e3, e4, e5, e6, e7⟩ := agH_n hH
  have hx := ent_lt D x
  unfold f_Tb_isFree f_Tb_isFree_37
  have hnx : S.w_Tb_next x = nI (ent D x) := by
    rw [hS.2.2.2.2.2.2.2.2.2.2 x (by omega), e7, if_pos h2, agH_ent hH h hN h2]
  rw [if_neg (show ¬ nI x < 2 from nI_nlt (b := 2) h1 (by omega)), hS.2.2.2.2.2.2.2.2.2.1, e7, show (2 : Int32) = nI 2 from rfl, nI_add, if_neg (nI_ge h2 (by omega)), hS.1, if_neg (nI_ge (by omega) (by omega)), q_g (q_in (by omega) (by omega)), nI_clamp (by omega), hnx]
  by_cases w : ent D x = 0
  · rw [w, if_pos (show nI 0 = 0 from rfl), b01_t rfl]; rfl
  · rw [if_neg (nI_ne0 (by omega) (by omega)), b01_f w]; rfl
theorem qC_strays {K N : Nat} {G : CG} {D E : Nat → Int32} {S : CS} {tk : List Nat} (hK : 20000 ≤ K) (hS : cIs N E G S) (hH : agH D E) (h : hdOk N D) (hN : N ≤ 1024) (htk : tkR N S.w_Rd_taken tk) : f_Rd_hasStrays K G S = some (b01 (stray N D tk), S) := by
  have hk5 := hd_facts h hN
  have hcls : S.v_Tb_clusters = nI (hk N D) := by rw [hS.2.2.2.2.2.2.2.2.2.1, (agH_n hH).2.2.2.2.2.2]
  have key : ∀ (d x k : Nat), x + d = hk N D + 2 → 2 ≤ x → d < k → f_Rd_hasStrays_2 K G k (nI x) S = some (b01 (∃ y, x ≤ y ∧ y < hk N D + 2 ∧ ent D y ≠ 0 ∧ y ∉ tk), S) := by
    intro d
    induction d with
    | zero =>
      intro x k h1 h2 h3
      obtain ⟨k, rfl⟩ : ∃ q, k = q + 1 := ⟨k - 1, by omega⟩
      unfold f_Rd_hasStrays_2 f_Rd_hasStrays_52
      rw [hcls, show (2 : Int32) = nI 2 from rfl, nI_add, if_pos (nI_le (by omega) (by omega)), b01_f (fun ⟨y, a, b, _⟩ => by omega)]; rfl
    | succ d ih =>
      intro x k h1 h2 h3
      obtain ⟨k, rfl⟩ : ∃ q, k = q + 1 := ⟨k - 1, by omega⟩
      have nx := ih (x + 1) k (by omega) (by omega) (by omega)
      have skip : (ent D x = 0 ∨ x ∈ tk) → some (b01 (∃ y, x + 1 ≤ y ∧ y < hk N D + 2 ∧ ent D y ≠ 0 ∧ y ∉ tk), S) = some (b01 (∃ y, x ≤ y ∧ y < hk N D + 2 ∧ ent D y ≠ 0 ∧ y ∉ tk), S) := by
        intro ho
        congr 2
        refine b01_iff ⟨fun ⟨y, a, b⟩ => ⟨y, by omega, b⟩, fun ⟨y, a, b, c, e⟩ => ⟨y, ?_, b, c, e⟩⟩
        rcases Nat.lt_or_ge x y with v | v
        · exact v
        · obtain rfl : y = x := by omega
          exact ho.elim (fun q => absurd q c) (fun q => absurd q e)
      rw [f_Rd_hasStrays_2, hcls, show (2 : Int32) = nI 2 from rfl, nI_add, if_neg (nI_ge (by omega) (by omega)), hS.1, if_neg (nI_ge (by omega) (by omega)), qC_isFree hS hH h hN h2 (by omega), q_c]
      unfold f_Rd_hasStrays_46
      by_cases g1 : ent D x = 0
      · rw [b01_t g1, if_neg (by decide), q_l, nI_1, nx, skip (Or.inl g1)]
      · rw [b01_f g1, if_pos (by decide), q_g (q_in (by omega) (by omega)), nI_clamp (by omega), htk x (by omega)]
        by_cases g2 : x ∈ tk
        · rw [if_pos g2, if_neg (by decide), q_l, nI_1, nx, skip (Or.inr g2)]
        · rw [if_neg g2, if_pos (by decide), b01_t ⟨x, Nat.le_refl _, by omega, g1, g2⟩]; rfl
  unfold f_Rd_hasStrays
  rw [show (2 : Int32) = nI 2 from rfl, key (hk N D) 2 K (by omega) (by omega) (by omega)]
