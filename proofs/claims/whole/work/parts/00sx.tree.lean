/-! make: the tree of the changed disk. -/
theorem make_tree {N hh b W e L L' m a o : Nat} {P : Nat → Nat} {nm : Nat → Nat} {us ch xs Xs2 : List Nat} {D D' : Nat → Int32} {fks : List Nat} {z : SS} (h : hdOk N D) (hN : N ≤ 1024) (hd1 : hdOk N D') (hd2 : tabOk N D') (hn : numE N D D') (et : trE N D = .ok (fks, z)) (hl42 : (sIt z).length ≤ 4200) (hh0 : hh < (sIt z).length) (hdr : isDr D (sIt z) hh) (hk0 : kept N D D' (sIt z) hh) (hSI : SI N D (sIt z).length (sIt z) (sTk z)) (hi0 : ipa (itr (sIt z) 0) = 0) (hch : ch = chI N D (sIt z) hh) (hfoL : ∀ tk, fo N D (begI D (sIt z) hh) tk = some ch → (∀ x ∈ tk, x ∈ sTk z) → fo N D' (begI D (sIt z) hh) tk = some (ch ++ xs)) (htk : ∀ x ∈ sTk z, isCl N D x ∧ ent D x ≠ 0) (hXs : ∀ x ∈ Xs2, ent D x = 0) (hsub : ∀ x ∈ xs, x ∈ Xs2) (hent : ∀ x, isCl N D x → ent D x ≠ 0 → x ∉ ch → ent D' x = ent D x ∧ ∀ r, r < 512 * hc D → o1 D' (plC D x + r) = o1 D (plC D x + r)) (hstr : ∀ x, 2 ≤ x → x < hk N D + 2 → ent D' x ≠ 0 → x ∈ sTk z ∨ x ∈ Xs2) (hL : L = ch.length * 16 * hc D) (hL' : L' = (ch ++ xs).length * 16 * hc D) (he : enE (fun s => o1 D (plS D ch s)) L e) (hbe : b ≤ e) (hrun : ∀ s, b ≤ s → s < b + W → s < e → o1 D (plS D ch s) = 229) (hlo : ∀ s, s < b → slq D' (plS D ch s) D (plS D ch s)) (hhi : b + W ≤ e → ∀ s, b + W ≤ s → s < L → slq D' (plS D ch s) D (plS D ch s)) (hz0 : e < b + W → b + W < L' → o1 D' (plS D (ch ++ xs) (b + W)) = 0) (hend : ∀ s, L ≤ s → s < L' → b + W ≤ s → o1 D' (plS D (ch ++ xs) s) = 0) (hchs : ∀ s, s < L → plS D (ch ++ xs) s = plS D ch s) (hLL : L ≤ L') (hbW : b + W ≤ L') (hl : laid P W m nm a o us D') (hP : ∀ i, i < W → plS D (ch ++ xs) (b + i) = P i) (hm : m < 256) (hu : ∀ u ∈ us, u < 65536) (hW : 1 ≤ W) (hW2 : W ≤ 21) (hb2 : hh = 0 ∨ 2 ≤ b) (ha : (a = 32 ∧ o = 0) ∨ a = 48) (ho : o < 65536) (hnm : ∀ q, q < 11 → nm q < 256) (hn0 : 33 ≤ nm 0 ∧ nm 0 ≤ 126) (hsh : shP D' (P (W - 1)) ((0 : Nat) = 1)) (hms : m = smN nm 11) (hnP : W ≠ 1 → nmP us ∧ us.length ≤ 13 * (W - 1) ∧ 13 * (W - 1) < us.length + 13) (hnt : ∀ j, 1 ≤ j → j < (sIt z).length → ipa (itr (sIt z) j) = hh → ¬ (alk (if W = 1 then svO D' (P (W - 1)) 11 else us) (inm (itr (sIt z) j)) ∨ ssP D' (P (W - 1)) (isp (itr (sIt z) j)))) (hPn : ∀ p z2 z2', simY p ((hh, P (W - 1)), (b + W - 1, W - 1), if W = 1 then svO D' (P (W - 1)) 11 else us) xs z2 z2' → agI D D' (sIt z2) → (∀ x ∈ sTk z2, x ∈ sTk z) → hh < p → begI D (sIt z2) hh = begI D (sIt z) hh → ∃ z'', cif (isDr D' (sIt z2') p) (dirS N D' p z2') (.ok z2') = .ok z'' ∧ simY p ((hh, P (W - 1)), (b + W - 1, W - 1), if W = 1 then svO D' (P (W - 1)) 11 else us) Xs2 z2 z'') : ∃ p f1 z1', trE N D' = .ok (f1, z1') ∧ simY p ((hh, P (W - 1)), (b + W - 1, W - 1), if W = 1 then svO D' (P (W - 1)) 11 else us) Xs2 z z1' ∧ fkI f1 hh = fkI fks hh ∧ fkI fks hh ≤ p ∧ hh < p ∧ p ≤ fks.getD (hh + 1) (sIt z).length ∧ (∀ j, fkI fks hh ≤ j → j < p → isl (itr (sIt z) j) < b) ∧ (∀ j, p ≤ j → j < fks.getD (hh + 1) (sIt z).length → b ≤ isl (itr (sIt z) j)) := by
  obtain ⟨-, -, es, -⟩ := trE_scL et
  obtain ⟨dh, fh, zh, b1, b2, b3, b4, b5, b6, b7, b8, b9⟩ := scL_pre2 (h := hh) (f' := fks) (z' := z) hn hk0 hh0 5000 [] z0 (SI_0 N D) (Nat.le_refl 1) (fun j g1 g2 => absurd g2 (by show ¬ j < 1; omega)) rfl es (Nat.zero_le _) (by show hh < 0 + 5000; omega)
  have b2 : scL N D' 5000 0 [] z0 = scL N D' dh hh fh zh := b2
  have b7 : scL N D 5000 0 [] z0 = scL N D dh hh fh zh := b7
  have b6 : dh + hh = 5000 + 0 := b6
  rw [b7] at es
  obtain ⟨d', rfl⟩ : ∃ n, dh = n + 1 + 1 := ⟨dh - 2, by omega⟩
  rw [scL, if_pos b5] at es
  obtain ⟨z1, e1, e2⟩ := exb_ok es
  have hIh : itr (sIt z) hh = itr (sIt zh) hh := ext_itr b3 b5
  have hdh : isDr D (sIt zh) hh := by unfold isDr at hdr ⊢; rw [← hIh]; exact hdr
  have hbg : begI D (sIt zh) hh = begI D (sIt z) hh := by unfold begI; rw [hIh]
  have h1l : 1 ≤ (sIt zh).length := Nat.lt_of_le_of_lt (Nat.zero_le _) b5
  rw [cif_t hdh] at e1
  obtain ⟨s1, s2, s3⟩ := dirS_SI b8 h1l b5 hdh e1
  have hx1 := scL_ext _ _ _ _ _ _ e2
  have hl1 := ext_len s2
  have hl2 := ext_len hx1
  have e1k := e1
  unfold dirS at e1
  cases hfo : fo N D (begI D (sIt zh) hh) (sTk zh) with
  | none => rw [hfo] at e1; cases e1
  | some c =>
    rw [hfo] at e1
    have e1 : dirC N D hh c zh = .ok z1 := e1
    obtain rfl : ch = c := by
      rw [hch]
      unfold chI
      rw [← hbg]
      exact (fo_cOf hfo).2
    have htz : ∀ x ∈ sTk zh, x ∈ sTk z := fun x w => ext_tk b3 w
    have hfo' : fo N D' (begI D (sIt zh) hh) (sTk zh) = some (ch ++ xs) := by rw [hbg] at hfo ⊢; exact hfoL _ hfo htz
    have hchz : ∀ x ∈ ch, x ∈ sTk z1 := fun x w => by
      obtain ⟨s', q1, -, -⟩ := dirC_ok e1
      exact ext_tk (dirL_ext _ _ _ _ _ q1) (List.mem_append_left _ w)
    have hpa0 : ipa (itr (sIt zh) hh) < (sIt zh).length := by
      by_cases q : hh = 0
      · rw [q, b9]; exact h1l
      · exact Nat.lt_trans (b8.2.1 hh (Nat.one_le_iff_ne_zero.mpr q) b5).2.1 b5
    have hpa : ∀ j, j < (sIt z1).length → ipa (itr (sIt z1) j) ≤ j ∧ (1 ≤ j → ipa (itr (sIt z1) j) < j) := fun j hj => by
      by_cases q : j = 0
      · refine ⟨?_, fun w => absurd q (Nat.one_le_iff_ne_zero.mp w)⟩
        rw [q, ext_itr s2 h1l, b9]
        exact Nat.le_refl _
      · have := (s1.2.1 j (Nat.one_le_iff_ne_zero.mpr q) hj).2.1
        exact ⟨Nat.le_of_lt this, fun _ => this⟩
    have old : ∀ x ∈ sTk z, x ∉ ch → (ent D' x = ent D x ∧ x ∉ Xs2) ∧ ∀ r, r < 512 * hc D → o1 D' (plC D x + r) = o1 D (plC D x + r) := fun x w1 w2 => by
      obtain ⟨t1, t2⟩ := htk x w1
      obtain ⟨u1, u2⟩ := hent x t1 t2 w2
      exact ⟨⟨u1, fun t => t2 (hXs x t)⟩, u2⟩
    obtain ⟨p, z1', r1, r2, r3, r4, r5, r6⟩ := here_ins (zh := zh) (z1 := z1) hn b4 b5 hpa0 hpa hfo hfo' e1 hL hL' he hbe hrun hlo hhi hz0 hend hchs hLL hbW hl hP hm hu hW hW2 hb2 ha ho hnm hn0 hsh hms hnP (fun j j1 j2 => by
      have hj := ext_itr hx1 j2
      have := hnt j (Nat.le_trans h1l j1) (Nat.lt_of_lt_of_le j2 hl2) (by rw [hj]; exact (s3 j (Nat.le_trans h1l j1) j2).mpr j1)
      rw [hj] at this
      exact this) (fun x w1 w2 => by
      have := (old x (ext_tk hx1 w1) (fun t => w2 (List.mem_append_left _ t))).1
      exact ⟨this.1, fun t => this.2 (hsub x t)⟩)
    generalize hnw : (((hh, P (W - 1)), (b + W - 1, W - 1), if W = 1 then svO D' (P (W - 1)) 11 else us) : It) = nw at *
    have hhp : hh < p := Nat.lt_of_lt_of_le b5 r4
    -- the old scan with one step less
    have e2' : scL N D d' (hh + 1) (fh ++ [(sIt zh).length]) z1 = .ok (fks, z) := scL_fuel d' (d' + 1) (hh + 1) _ z1 fks z (Nat.le_succ _) (by omega) e2
    obtain ⟨f1, zE, t1, t2⟩ := scL_sim1 (p := p) (nw := nw) (Xs := xs) (Xs2 := Xs2) (z1 := z) h hN hn hsub (fun z2 z2' w1 w2 w3 => by
      refine hPn p z2 z2' w1 w2 (fun x w => ext_tk w3 w) hhp ?_
      unfold begI
      rw [ext_itr w3 (Nat.lt_of_lt_of_le hhp w1.2.1)]) d' (hh + 1) (fh ++ [(sIt zh).length]) z1 fks (fh ++ [(sIt zh).length]) z1' s1 (Nat.le_trans h1l hl1) (by rw [ext_itr s2 h1l]; exact b9) r3 (simY_of r2) hhp (fun x w1 w2 => old x w1 (fun t => w2 (hchz x t))) (by omega) e2'
    have hdD : isDr D' (sIt zh) hh := by
      unfold isDr at hdh ⊢
      by_cases q : hh = 0
      · exact Or.inl q
      · rw [b4 hh (Nat.one_le_iff_ne_zero.mpr q) b5 11 (by decide)]
        exact hdh
    have hnewS : scL N D' 5000 0 [] z0 = .ok (f1, zE) := by
      rw [b2, scL, if_pos b5, cif_t hdD, r1, exb_o]
      exact t1
    have hfk : fkI fks hh = (sIt zh).length := by
      obtain ⟨l, el⟩ := scL_fks _ _ _ _ _ _ e2
      unfold fkI
      rw [el, List.getD_eq_getElem?_getD, List.getElem?_append_left (by rw [List.length_append, b1]; exact Nat.lt_succ_self _), List.getElem?_append_right (by rw [b1]; exact Nat.le_refl _), b1, Nat.sub_self]
      rfl
    have hfk1 : fkI f1 hh = (sIt zh).length := by
      obtain ⟨l, el⟩ := scL_fks _ _ _ _ _ _ t1
      unfold fkI
      rw [el, List.getD_eq_getElem?_getD, List.getElem?_append_left (by rw [List.length_append, b1]; exact Nat.lt_succ_self _), List.getElem?_append_right (by rw [b1]; exact Nat.le_refl _), b1, Nat.sub_self]
      rfl
    have hnx : fks.getD (hh + 1) (sIt z).length = (sIt z1).length := by
      rw [scL] at e2
      have hfl : (fh ++ [(sIt zh).length]).length = hh + 1 := by rw [List.length_append, b1]; rfl
      by_cases g : hh + 1 < (sIt z1).length
      · rw [if_pos g] at e2
        obtain ⟨z2, q1, q2⟩ := exb_ok e2
        obtain ⟨l, el⟩ := scL_fks _ _ _ _ _ _ q2
        rw [el, List.getD_eq_getElem?_getD, List.getElem?_append_left (by rw [List.length_append, hfl]; exact Nat.lt_succ_self _), List.getElem?_append_right (by rw [hfl]; exact Nat.le_refl _), hfl, Nat.sub_self]
        rfl
      · rw [if_neg g] at e2
        cases e2
        rw [List.getD_eq_getElem?_getD, List.getElem?_eq_none (by rw [hfl]; exact Nat.le_refl _)]
        rfl
    refine ⟨p, f1, zE, ?_, t2, by rw [hfk, hfk1], by rw [hfk]; exact r4, hhp, by rw [hnx]; exact r2.2.1, fun j j1 j2 => ?_, fun j j1 j2 => ?_⟩
    · unfold trE
      rw [cif_t hd1, cif_t hd2]
      unfold trS
      rw [hnewS, exb_o]
      refine cif_f ?_
      rintro ⟨x, x1, x2, x3, x4⟩
      rw [hn.2.2.2] at x2
      exact x4 ((t2.2.2.2.2.2.2 x).mpr (hstr x x1 x2 x3))
    · rw [hfk] at j1
      have := r5 j j1 j2
      rw [← ext_itr hx1 (Nat.lt_of_lt_of_le j2 r2.2.1)] at this
      exact this
    · rw [hnx] at j2
      have := r6 j j1 j2
      rw [← ext_itr hx1 j2] at this
      exact this
