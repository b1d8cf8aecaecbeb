/-! make: HERE read again, the new entry in it. -/
theorem skip229 {N i fk : Nat} {D : Nat → Int32} {ch : List Nat} {y : SS} (hpe : pM (sPe y) = 0) : ∀ (r d s : Nat), (∀ t, s ≤ t → t < s + r → o1 D (plS D ch t) = 229) → (i = 0 ∨ 2 ≤ s) → dirL N D i fk ch (d + r) s y = dirL N D i fk ch d (s + r) y := by
  intro r
  induction r with
  | zero => intro d s _ _; rfl
  | succ r ih =>
    intro d s h hs
    have h0 := h s (Nat.le_refl _) (by omega)
    rw [← Nat.add_assoc, dirL, cif_f (by rw [h0]; decide)]
    have sl : slS N D i fk s (plS D ch s) y = .ok y := by
      unfold slS
      rw [cif_f (by omega), cif_t h0, cif_t hpe]
    rw [sl, exb_o, ih d (s + 1) (fun t a b => h t (by omega) (by omega)) (by omega), show s + 1 + r = s + (r + 1) by omega]
theorem sim_one {nw : It} {Xs tkb : List Nat} {y : SS} (h1 : 1 ≤ (sIt y).length) (hpe : sPe y = pe0) (hpa : ∀ j, j < (sIt y).length → ipa (itr (sIt y) j) < (sIt y).length) (ht : ∀ x, x ∈ tkb ↔ x ∈ sTk y ∨ x ∈ Xs) : simZ (sIt y).length nw Xs y ((sIt y ++ [nw], sLb y), tkb, pe0) := by
  refine ⟨List.length_append, Nat.le_refl _, h1, fun j hj => ?_, itr_last, rfl, hpe.symm, ht⟩
  show itr (sIt y ++ [nw]) (shf (sIt y).length j) = shI (sIt y).length (itr (sIt y) j)
  rw [shf_lo hj, itr_ap hj]
  unfold shI
  rw [shf_lo (hpa j hj)]
theorem here_ins {N hh b W e L L' m a o : Nat} {P : Nat → Nat} {nm : Nat → Nat} {us ch xs : List Nat} {D D' : Nat → Int32} {zh z1 : SS} (hn : numE N D D') (hI : agI D D' (sIt zh)) (hi : hh < (sIt zh).length) (hpa0 : ipa (itr (sIt zh) hh) < (sIt zh).length) (hpa : ∀ j, j < (sIt z1).length → ipa (itr (sIt z1) j) ≤ j ∧ (1 ≤ j → ipa (itr (sIt z1) j) < j)) (hfo : fo N D (begI D (sIt zh) hh) (sTk zh) = some ch) (hfo' : fo N D' (begI D (sIt zh) hh) (sTk zh) = some (ch ++ xs)) (e0 : dirC N D hh ch zh = .ok z1) (hL : L = ch.length * 16 * hc D) (hL' : L' = (ch ++ xs).length * 16 * hc D) (he : enE (fun s => o1 D (plS D ch s)) L e) (hbe : b ≤ e) (hrun : ∀ s, b ≤ s → s < b + W → s < e → o1 D (plS D ch s) = 229) (hlo : ∀ s, s < b → slq D' (plS D ch s) D (plS D ch s)) (hhi : b + W ≤ e → ∀ s, b + W ≤ s → s < L → slq D' (plS D ch s) D (plS D ch s)) (hz0 : e < b + W → b + W < L' → o1 D' (plS D (ch ++ xs) (b + W)) = 0) (hend : ∀ s, L ≤ s → s < L' → b + W ≤ s → o1 D' (plS D (ch ++ xs) s) = 0) (hchs : ∀ s, s < L → plS D (ch ++ xs) s = plS D ch s) (hLL : L ≤ L') (hbW : b + W ≤ L') (hl : laid P W m nm a o us D') (hP : ∀ i, i < W → plS D (ch ++ xs) (b + i) = P i) (hm : m < 256) (hu : ∀ u ∈ us, u < 65536) (hW : 1 ≤ W) (hW2 : W ≤ 21) (hb2 : hh = 0 ∨ 2 ≤ b) (ha : (a = 32 ∧ o = 0) ∨ a = 48) (ho : o < 65536) (hnm : ∀ q, q < 11 → nm q < 256) (hn0 : 33 ≤ nm 0 ∧ nm 0 ≤ 126) (hsh : shP D' (P (W - 1)) ((0 : Nat) = 1)) (hms : m = smN nm 11) (hnP : W ≠ 1 → nmP us ∧ us.length ≤ 13 * (W - 1) ∧ 13 * (W - 1) < us.length + 13) (hnt : ∀ j, (sIt zh).length ≤ j → j < (sIt z1).length → ¬ (alk (if W = 1 then svO D' (P (W - 1)) 11 else us) (inm (itr (sIt z1) j)) ∨ ssP D' (P (W - 1)) (isp (itr (sIt z1) j)))) (hy : ∀ x ∈ sTk z1, x ∉ ch ++ sTk zh → ent D' x = ent D x ∧ x ∉ xs) : ∃ p z1', dirS N D' hh zh = .ok z1' ∧ simZ p ((hh, P (W - 1)), (b + W - 1, W - 1), if W = 1 then svO D' (P (W - 1)) 11 else us) xs z1 z1' ∧ agI D D' (sIt z1) ∧ (sIt zh).length ≤ p ∧ (∀ j, (sIt zh).length ≤ j → j < p → isl (itr (sIt z1) j) < b) ∧ (∀ j, p ≤ j → j < (sIt z1).length → b ≤ isl (itr (sIt z1) j)) := by
  obtain ⟨s', e1, e2, e3⟩ := dirC_ok e0
  rw [← hL] at e1
  have heL := he.1
  have hbL : b ≤ L := Nat.le_trans hbe heL
  generalize hnw : (((hh, P (W - 1)), (b + W - 1, W - 1), if W = 1 then svO D' (P (W - 1)) 11 else us) : It) = nw
  have hx1 := dirL_ext _ _ _ _ _ e1
  have h1l : 1 ≤ (sIt zh).length := Nat.lt_of_le_of_lt (Nat.zero_le _) hi
  have e1' : dirL N D hh (sIt zh).length ch (L - b + b) 0 ((sIt zh, sLb zh), ch ++ sTk zh, pe0) = .ok (s', z1) := by rw [Nat.sub_add_cancel hbL]; exact e1
  obtain ⟨yb, tkb, c1, c2, c3, c4, c5, c6, c7⟩ := dirL_to (Xs := xs) (ch := ch) (ch' := ch ++ xs) (b := b) hn h1l hlo (fun s hs => hchs s (Nat.lt_of_lt_of_le hs hbL)) (fun s hs => he.2.2 s (Nat.lt_of_lt_of_le hs hbe)) b 0 ((sIt zh, sLb zh), ch ++ sTk zh, pe0) s' z1 (L - b) (L' - b) ((ch ++ xs) ++ sTk zh) (Nat.zero_add _) hI hi hpa0 hy (fun x => by
    show x ∈ (ch ++ xs) ++ sTk zh ↔ x ∈ ch ++ sTk zh ∨ x ∈ xs
    rw [List.mem_append, List.mem_append, List.mem_append]
    constructor
    · rintro ((w | w) | w)
      · exact Or.inl (Or.inl w)
      · exact Or.inr w
      · exact Or.inl (Or.inr w)
    · rintro ((w | w) | w)
      · exact Or.inl (Or.inl w)
      · exact Or.inr w
      · exact Or.inl (Or.inr w)) (fun _ => rfl) e1'
  have hlb : (sIt zh).length ≤ (sIt yb).length := ext_len (a := ((sIt zh, sLb zh), ch ++ sTk zh, pe0)) c4
  have hxb := dirL_ext _ _ _ _ _ c1
  have hl1 : (sIt yb).length ≤ (sIt z1).length := ext_len hxb
  -- nothing waits at b
  have hends : b = e → s' = b ∧ z1 = yb := fun eb => by
    by_cases q : e < L
    · have := he.2.1 q
      obtain ⟨n, en⟩ : ∃ n, L - b = n + 1 := ⟨L - b - 1, by omega⟩
      rw [en, dirL, cif_t (by rw [eb]; exact this)] at c1
      cases c1
      exact ⟨rfl, rfl⟩
    · have : L - b = 0 := by omega
      rw [this, dirL] at c1
      cases c1
      exact ⟨rfl, rfl⟩
  have hpM : pM (sPe yb) = 0 := by
    by_cases eb : b = e
    · rw [← (hends eb).2]; exact e2
    · have h229 := hrun b (Nat.le_refl _) (by omega) (by omega)
      obtain ⟨n, en⟩ : ∃ n, L - b = n + 1 := ⟨L - b - 1, by omega⟩
      rw [en, dirL, cif_f (by rw [h229]; decide)] at c1
      obtain ⟨y2, q1, q2⟩ := exb_ok c1
      unfold slS at q1
      rw [cif_f (by omega), cif_t h229] at q1
      by_cases w : pM (sPe yb) = 0
      · exact w
      · rw [cif_f w] at q1; cases q1
  have hpe := c6 hpM
  have hitr : ∀ j, j < (sIt yb).length → itr (sIt z1) j = itr (sIt yb) j := fun j hj => ext_itr hxb hj
  have hpaB : ∀ j, j < (sIt yb).length → ipa (itr (sIt yb) j) < (sIt yb).length := fun j hj => by
    have := (hpa j (Nat.lt_of_lt_of_le hj hl1)).1
    rw [hitr j hj] at this
    exact Nat.lt_of_le_of_lt this hj
  have hsim : simZ (sIt yb).length nw xs yb ((sIt yb ++ [nw], sLb yb), tkb, pe0) := sim_one (Nat.le_trans h1l hlb) hpe hpaB c3
  -- the new entry
  have hPF : ∀ i, i < W → plS D' (ch ++ xs) (b + i) = P i := fun i hi => by rw [plS_num hn]; exact hP i hi
  have htw : ¬ enTw D' (sIt yb) (sIt zh).length (P (W - 1)) (if W = 1 then svO D' (P (W - 1)) 11 else us) := by
    rintro ⟨j, b1, b2, b3⟩
    refine hnt j b1 (Nat.lt_of_lt_of_le b2 hl1) ?_
    rw [hitr j b2]
    rcases b3 with w | w
    · exact Or.inl (show alk _ _ from Eq.symm w)
    · exact Or.inr fun q hq => (w q hq).symm
  obtain ⟨d2, hd2⟩ : ∃ d2, L' - b = d2 + W := ⟨L' - b - W, by omega⟩
  have new1 : dirL N D' hh (sIt zh).length (ch ++ xs) L' 0 ((sIt zh, sLb zh), (ch ++ xs) ++ sTk zh, pe0) = dirL N D' hh (sIt zh).length (ch ++ xs) d2 (b + W) ((sIt yb ++ [nw], sLb yb), tkb, pe0) := by
    have c2' : dirL N D' hh (sIt zh).length (ch ++ xs) (L' - b + b) 0 ((sIt zh, sLb zh), (ch ++ xs) ++ sTk zh, pe0) = dirL N D' hh (sIt zh).length (ch ++ xs) (L' - b) b ((sIt yb, sLb yb), tkb, sPe yb) := c2
    rw [Nat.sub_add_cancel (by omega), hd2, hpe] at c2'
    rw [c2']
    have p1 := ins_parts (N := N) (hh := hh) (fk := (sIt zh).length) (d := d2 + 1) (its := sIt yb) (lb := sLb yb) (tk := tkb) (x := pe0) hl hPF hm hu hW2 hb2 rfl rfl (W - 1) 0 (by omega)
    rw [show d2 + 1 + (W - 1) = d2 + W by omega, Nat.add_zero] at p1
    have p2 := ins_entry (N := N) (hh := hh) (fk := (sIt zh).length) (d := d2) (its := sIt yb) (lb := sLb yb) (tk := tkb) (x := pe0) hl hPF hW hb2 rfl ha ho hnm hn0 hsh hms hnP htw
    rw [hnw] at p2
    exact p1.trans p2
  have fin : ∀ s'' z1', dirL N D' hh (sIt zh).length (ch ++ xs) d2 (b + W) ((sIt yb ++ [nw], sLb yb), tkb, pe0) = .ok (s'', z1') → pM (sPe z1') = 0 → (hh = 0 ∨ 2 ≤ s'') → dirS N D' hh zh = .ok z1' := fun s'' z1' q1 q2 q3 => by
    unfold dirS
    have hb : begI D' (sIt zh) hh = begI D (sIt zh) hh := by
      unfold begI
      by_cases w : hh = 0
      · rw [if_pos w, if_pos w, hn.2.2.1]
      · rw [if_neg w, if_neg w, slq_fc (hI hh (Nat.one_le_iff_ne_zero.mpr w) hi)]
    rw [hb, hfo']
    show dirC N D' hh (ch ++ xs) zh = .ok z1'
    refine dirC_of (s' := s'') ?_ q2 q3
    rw [hn.1, ← hL', new1]
    exact q1
  by_cases cW : b + W ≤ e
  · -- the old scan goes on behind the free slots
    have old : dirL N D hh (sIt zh).length ch (L - (b + W)) (b + W) yb = .ok (s', z1) := by
      have := skip229 (N := N) (i := hh) (fk := (sIt zh).length) (D := D) (ch := ch) (y := yb) hpM W (L - (b + W)) b (fun t t1 t2 => hrun t t1 t2 (by omega)) hb2
      rw [show L - (b + W) + W = L - b by omega] at this
      rw [← this]
      exact c1
    obtain ⟨z1', s1, s2, s3⟩ := dirL_sim (nw := nw) (Xs := xs) (p := (sIt yb).length) (lo := b + W) (fk := (sIt zh).length) (fk' := (sIt zh).length) (tot := L) (tot' := L') (ch := ch) (ch' := ch ++ xs) hn h1l (Or.inr ⟨hlb, rfl⟩) (hhi cW) hchs (fun s a1 a2 => hend s a1 a2 (by omega)) hLL (L - (b + W)) (b + W) yb s' z1 d2 ((sIt yb ++ [nw], sLb yb), tkb, pe0) (Nat.le_refl _) (by omega) (by omega) c5 (Nat.lt_of_lt_of_le hi hlb) (hpaB hh (Nat.lt_of_lt_of_le hi hlb)) hsim (fun _ j j1 j2 => by rw [← hnw]; exact hnt j (Nat.le_trans hlb j1) j2) (fun x w1 w2 => hy x w1 (fun t => w2 (ext_tk c4 t))) old
    rw [shf_lo (Nat.lt_of_lt_of_le hi hlb)] at s1
    refine ⟨(sIt yb).length, z1', fin s' z1' s1 (by rw [s2.2.2.2.2.2.2.1]; exact e2) e3, s2, s3, hlb, fun j j1 j2 => ?_, fun j j1 j2 => ?_⟩
    · rw [hitr j j2]
      exact c7 j j1 j2
    · exact Nat.le_trans (Nat.le_add_right b W) (dirL_new _ _ _ _ _ old j j1 j2)
  · -- the old scan ends before
    have old : z1 = yb := by
      have := skip229 (N := N) (i := hh) (fk := (sIt zh).length) (D := D) (ch := ch) (y := yb) hpM (e - b) (L - e) b (fun t t1 t2 => hrun t t1 (by omega) (by omega)) hb2
      rw [show L - e + (e - b) = L - b by omega, show b + (e - b) = e by omega] at this
      rw [this] at c1
      by_cases q : e < L
      · obtain ⟨n, en⟩ : ∃ n, L - e = n + 1 := ⟨L - e - 1, by omega⟩
        rw [en, dirL, cif_t (he.2.1 q)] at c1
        cases c1
        rfl
      · rw [show L - e = 0 by omega, dirL] at c1
        cases c1
        rfl
    have q1 : dirL N D' hh (sIt zh).length (ch ++ xs) d2 (b + W) ((sIt yb ++ [nw], sLb yb), tkb, pe0) = .ok (b + W, ((sIt yb ++ [nw], sLb yb), tkb, pe0)) := by
      cases d2 with
      | zero => rw [dirL]
      | succ d2 => rw [dirL, plS_num hn, cif_t (hz0 (by omega) (by omega))]
    refine ⟨(sIt yb).length, _, fin _ _ q1 rfl (by omega), by rw [old]; exact hsim, by rw [old]; exact c5, hlb, fun j j1 j2 => ?_, fun j j1 j2 => ?_⟩
    · rw [hitr j j2]
      exact c7 j j1 j2
    · rw [old] at j2
      exact absurd j2 (Nat.not_lt_of_le j1)
