/-! An entry, whole, in the reference. -/
def coMa (T : MS) : ((Int32 × (Nat → Int32) × (Nat → Int32) × (Nat → Int32) × (Nat → Int32) × Int32 × Int32 × Int32) × (Int32 × Int32 × Int32 × Int32 × Int32)) × (Int32 × Int32 × Int32 × Int32 × Int32 × Int32 × Int32) × ((Nat → Int32) × (Nat → Int32) × (Nat → Int32)) × (Int32 × Int32 × Int32 × Int32 × Int32 × (Nat → Int32) × (Nat → Int32) × (Nat → Int32) × (Nat → Int32) × (Nat → Int32)) × (Int32 × Int32 × Int32 × Int32 × Int32 × (Nat → Int32) × (Nat → Int32) × Int32 × Int32 × Int32) :=
  (((T.v_n, T.v_disk, T.v_fresh, T.v_tape, T.v_ready, T.v_taped, T.v_thrown, T.v_told), (T.v_fed, T.v_turned, T.v_ran, T.v_here, T.v_looked)), (T.v_c, T.v_v, T.v_y, T.v_z, T.v_root, T.v_a, T.v_k), (T.v_brief, T.v_stem, T.v_tail), (T.v_groups, T.v_per, T.v_inodes, T.v_rows, T.v_blocks, T.v_fixed, T.v_used, T.v_moved, T.v_aimed, T.v_built), (T.v_fixedBlocks, T.v_moves, T.v_builds, T.v_kept, T.v_next, T.v_record, T.v_list, T.v_spot, T.v_filled, T.v_latest))
def coM (T : MS) := (coMa T, T.v_parent 0)
theorem mIs_co {N : Nat} {D : Nat → Int32} {T T0 : MS} (h : coM T = coM T0) (m : mIs N D T0) : mIs N D T := by
  have h := congrArg Prod.fst h
  simp only [coM, coMa, Prod.mk.injEq] at h
  obtain ⟨⟨⟨h1, h2, -⟩, -⟩, ⟨c1, c2, c3, c4, c5, c6, c7⟩, -⟩ := h
  obtain ⟨m1, m2, m3, m4, m5, m6, m7, m8, m9⟩ := m
  exact ⟨h2.trans m1, h1.trans m2, c1.trans m3, c2.trans m4, c3.trans m5, c4.trans m6, c5.trans m7, c6.trans m8, c7.trans m9⟩
def lbI (o : Option Nat) : Int32 := match o with
  | some p => nI p
  | none => -1
/-- what stays while the slots of directory i are read -/
abbrev fr1 (i : Nat) (T T' : MS) : Prop := coM T' = coM T ∧ T'.v_folder = T.v_folder ∧ T'.v_folders = T.v_folders ∧ T'.v_fault = T.v_fault ∧ T'.v_firstKid = T.v_firstKid ∧ (∀ j, j ≠ i → T'.v_kids j = T.v_kids j) ∧ T'.v_parent 0 = T.v_parent 0
theorem fr1_rf (i : Nat) (T : MS) : fr1 i T T := ⟨rfl, rfl, rfl, rfl, rfl, fun _ _ => rfl, rfl⟩
theorem fr1_tr {i : Nat} {A B C : MS} (h : fr1 i A B) (g : fr1 i B C) : fr1 i A C := by
  obtain ⟨h1, h2, h3, h4, h5, h6, h7⟩ := h
  obtain ⟨g1, g2, g3, g4, g5, g6, g7⟩ := g
  exact ⟨g1.trans h1, g2.trans h2, g3.trans h3, g4.trans h4, g5.trans h5, fun j hj => (g6 j hj).trans (h6 j hj), g7.trans h7⟩
abbrev vR (N : Nat) (i fk : Nat) (z : SS) (T : MS) : Prop := rmI (sIt z) T ∧ rmP (sPe z) T ∧ tkR N T.v_chained (sTk z) ∧ T.v_label = lbI (sLb z) ∧ T.v_kids i = nI ((sIt z).length - fk)
theorem qM_adm200 {K N p i s fk : Nat} {y4 : Int32} {D : Nat → Int32} {its : List It} {us : List Nat} {T : MS} (hK : 10000 ≤ K) (hN : N ≤ 1024) (hD : T.v_disk = D) (hT : rmI its T) (ho : itsOk N its) (hp : p + 31 < 512 * N) (hi : i < its.length) (hf : T.v_firstKid i = nI fk) (hk : T.v_kids i = nI (its.length - fk)) (h1 : 1 ≤ fk) (h2 : fk ≤ its.length) (hn : its.length < 4200) (hu : (uns its).length + us.length ≤ 90000) (hs : T.v_size = nI us.length) (hl : us.length ≤ 260) (hb : bufR T.v_name us) (hlt : ∀ u ∈ us, u < 65536) : (enTw D its fk p us → f_Mo_adm_200 K (nI p) (nI i) (nI s) y4 0 T = some (nI 5, T)) ∧ (¬ enTw D its fk p us → ∀ Q : Int32 × MS → Prop, wp (admEnd K (nI p) y4 (adT T its.length p i s (uns its).length (its.length - fk) us)) Q → wp (f_Mo_adm_200 K (nI p) (nI i) (nI s) y4 0 T) Q) := by
  have hin : lf_in (nI i) 4200 := q_in (by omega) (by decide)
  have hcl : (nI i).toNatClampNeg = i := nI_clamp (by omega)
  have ht := qM_taken (K := K) (i := i) hK hT ho (by omega) hf hk h1 (by omega) hs hl hb hlt
  obtain ⟨k, h225⟩ := qM_adm225 (K := K) (p := p) hK hN hD hT ho (by omega) h1 h2 (nI i) (nI s) y4
  unfold f_Mo_adm_200
  rw [if_pos rfl, ht, q_c]
  by_cases g1 : ∃ j, fk ≤ j ∧ j < fk + (its.length - fk) ∧ alk (inm (itr its j)) us
  · have : enTw D its fk p us := by
      obtain ⟨j, a, b, c⟩ := g1
      exact ⟨j, a, by omega, Or.inl c⟩
    rw [b01_t g1, if_neg (by decide)]
    exact ⟨fun _ => rfl, fun z => absurd this z⟩
  · rw [b01_f g1, if_pos (by decide), q_g hin, hcl, hf, q_l, h225]
    by_cases g2 : ∃ j, fk ≤ j ∧ j < its.length ∧ ssP D (isp (itr its j)) p
    · have : enTw D its fk p us := by
        obtain ⟨j, a, b, c⟩ := g2
        exact ⟨j, a, b, Or.inr c⟩
      rw [cif_t g2]
      exact ⟨fun _ => rfl, fun z => absurd this z⟩
    · have : ¬ enTw D its fk p us := fun ⟨j, a, b, c⟩ => c.elim (fun z => g1 ⟨j, a, by omega, z⟩) (fun z => g2 ⟨j, a, b, z⟩)
      rw [cif_f g2]
      exact ⟨fun z => absurd z this, fun _ Q hQ => qM_add (N := N) (by omega) hT (by omega) hn hu hs hl hb hlt hk hQ⟩
theorem svO_bnd (D : Nat → Int32) (p : Nat) : (svO D p 11).length ≤ 22 := svO_len D p 11
theorem tw_len (u : List Nat) : (tw u).length ≤ u.length := (tw_pre u).1
theorem nmN_len {D : Nat → Int32} {p : Nat} {x : Pend} (h : peOk x) : (nmN D p x).length ≤ 260 := by
  unfold nmN
  split
  · have := svO_bnd D p; omega
  · have := tw_len (pU x)
    have h1 := h.1
    have h2 := h.2.1
    omega
theorem nmN_lt {D : Nat → Int32} {p : Nat} {x : Pend} (h : peOk x) : ∀ u ∈ nmN D p x, u < 65536 := by
  intro u hu
  unfold nmN at hu
  split at hu
  · exact Nat.lt_of_lt_of_le (svO_lt D p 11 u hu) (by decide)
  · exact h.2.2.2 u (List.takeWhile_subset _ hu)
theorem qM_adm {K N p i s fk : Nat} {D : Nat → Int32} {z : SS} {T : MS} (hK : 10000 ≤ K) (h : hdOk N D) (hN : N ≤ 1024) (hM : mIs N D T) (hV : vR N i fk z T) (hF : T.v_firstKid i = nI fk) (hz : itsOk N (sIt z)) (hpe : peOk (sPe z)) (h1 : 1 ≤ fk) (h2 : fk ≤ (sIt z).length) (hi : i < (sIt z).length) (hn : (sIt z).length < 4200) (hu : (uns (sIt z)).length + 260 ≤ 90000) (hlb : ∀ q, sLb z = some q → q < 2 ^ 31) (hp : p + 31 < 512 * N) : stM (entS N D i s p fk z) (f_Mo_adm K T (nI p) (nI i) (nI s)) (fun z' T' => fr1 i T T' ∧ vR N i fk z' T') (fun T' => coM T' = coM T ∧ T'.v_folders = T.v_folders) := by
  obtain ⟨v1, v2, v3, v4, v5⟩ := hV
  have hD := hM.1
  have b11 := o1_lt D (p + 11)
  have b28 := o4_lt D (p + 28)
  have bf := fc_lt D p
  unfold entS f_Mo_adm f_Mo_adm_25
  rw [show (11 : Int32) = nI 11 from rfl, nI_add, rM1 D hD (by omega), q_c]
  by_cases g1 : o1 D (p + 11) ≤ 63
  rotate_left
  · rw [cif_f (fun w => g1 w.1), if_pos (show 63 < nI (o1 D (p + 11)) from nI_lt (a := 63) (by omega) (by omega))]
    exact stM_e rfl ⟨rfl, rfl⟩
  rw [if_neg (show ¬ 63 < nI (o1 D (p + 11)) from nI_nlt (b := o1 D (p + 11)) (a := 63) g1 (by omega)), b01_of (qM_areDays hD (by omega)), q_c]
  by_cases g2 : daysP D p
  rotate_left
  · rw [b01_f g2, if_pos (by decide), cif_f (fun w => g2 w.2)]
    exact stM_e rfl ⟨rfl, rfl⟩
  rw [b01_t g2, if_neg (by decide), cif_t ⟨g1, g2⟩, show (8 : Int32) = nI 8 from rfl, q_and, q_and8 b11, show (16 : Int32) = nI 16 from rfl, q_and, q_and16 b11]
  by_cases g3 : o1 D (p + 11) / 8 % 2 = 1
  · -- a label
    rw [cif_t g3, g3, if_neg (by decide)]
    unfold f_Mo_adm_89 f_Mo_adm_94
    by_cases a1 : o1 D (p + 11) / 16 % 2 = 0
    rotate_left
    · rw [cif_f (fun w => a1 w.1), show o1 D (p + 11) / 16 % 2 = 1 by omega, if_neg (by decide)]
      exact stM_e rfl ⟨rfl, rfl⟩
    rw [a1, if_pos (by decide)]
    by_cases a2 : i = 0
    rotate_left
    · rw [cif_f (fun w => a2 w.2.1), if_pos (show 0 < nI i from nI_lt (a := 0) (by omega) (by omega))]
      exact stM_e rfl ⟨rfl, rfl⟩
    rw [if_neg (show ¬ 0 < nI i by rw [a2]; decide), v4]
    by_cases a3 : sLb z = none
    rotate_left
    · obtain ⟨q, hq⟩ := Option.ne_none_iff_exists'.mp a3
      rw [cif_f (fun w => a3 w.2.2.1), hq, if_pos (show 0 ≤ lbI (some q) from nI_pos' (hlb q hq))]
      exact stM_e rfl ⟨rfl, rfl⟩
    rw [a3, if_neg (show ¬ 0 ≤ lbI none by decide), v2.1]
    by_cases a4 : pM (sPe z) = 0
    rotate_left
    · have := hpe.1
      rw [cif_f (fun w => a4 w.2.2.2.1), if_pos (show 0 < nI (pM (sPe z)) from nI_lt (a := 0) (by omega) (by omega))]
      exact stM_e rfl ⟨rfl, rfl⟩
    rw [a4, if_neg (show ¬ 0 < nI 0 by decide), qM_firstOf hD (by omega), q_c]
    by_cases a5 : fc D p = 0
    rotate_left
    · rw [cif_f (fun w => a5 w.2.2.2.2.1), if_neg (fun w : nI (fc D p) = 0 => a5 ((q_eqW (b := 0) bf (by decide)).mp w))]
      exact stM_e rfl ⟨rfl, rfl⟩
    rw [a5, if_pos (show nI 0 = 0 from rfl), show (28 : Int32) = nI 28 from rfl, nI_add, rM4 D hD (by omega), q_c]
    by_cases a6 : o4 D (p + 28) = 0
    rotate_left
    · rw [cif_f (fun w => a6 w.2.2.2.2.2.1), if_neg (fun w : nI (o4 D (p + 28)) = 0 => a6 ((q_eqW (b := 0) b28 (by decide)).mp w))]
      exact stM_e rfl ⟨rfl, rfl⟩
    rw [a6, if_pos (show nI 0 = 0 from rfl), show (1 : Int32) = nI 1 from rfl, b01_of (qM_isShort (by omega) hD (by omega) (Or.inr rfl)), q_c]
    by_cases a7 : shP D p ((1 : Nat) = 1)
    rotate_left
    · rw [cif_f (fun w => a7 w.2.2.2.2.2.2), b01_f a7, if_pos (show nI 0 = 0 from rfl)]
      exact stM_e rfl ⟨rfl, rfl⟩
    rw [cif_t (show enLb D i p z from ⟨a1, a2, a3, a4, a5, a6, a7⟩), b01_t a7, if_neg (by decide), q_l, if_pos rfl]
    exact stM_o rfl ⟨⟨rfl, rfl, rfl, rfl, rfl, fun _ _ => rfl, rfl⟩, v1, v2, v3, rfl, v5⟩
  · -- an item
    rw [cif_f g3, show o1 D (p + 11) / 8 % 2 = 0 by omega, if_pos (by decide)]
    have hbx := v2.2
    have lenN := nmN_len (D := D) (p := p) hpe
    have ltN := nmN_lt (D := D) (p := p) hpe
    have main : ∀ T1 : MS, (∃ a e, T1 = (T.u_v_size a).u_v_name e) → T1.v_size = nI (nmN D p (sPe z)).length → bufR T1.v_name (nmN D p (sPe z)) → stM (cif (enTw D (sIt z) fk p (nmN D p (sPe z))) (.error 5) (entR N D i s p z)) (f_Mo_adm_200 K (nI p) (nI i) (nI s) (nI (o1 D (p + 11))) 0 T1) (fun z' T' => fr1 i T T' ∧ vR N i fk z' T') (fun T' => coM T' = coM T ∧ T'.v_folders = T.v_folders) := by
      intro T1 hT1 hs1 hb1
      obtain ⟨a, e, hT1⟩ := hT1
      have r1 : rmI (sIt z) T1 := by rw [hT1]; exact v1
      obtain ⟨m1, m2⟩ := qM_adm200 (K := K) (p := p) (s := s) (y4 := nI (o1 D (p + 11))) (T := T1) (D := D) hK hN (by rw [hT1]; exact hD) r1 hz hp hi (by rw [hT1]; exact hF) (by rw [hT1]; exact v5) h1 h2 hn (by omega) hs1 lenN hb1 ltN
      by_cases g : enTw D (sIt z) fk p (nmN D p (sPe z))
      · rw [cif_t g]
        exact stM_e (m1 g) ⟨by rw [hT1]; rfl, by rw [hT1]; rfl⟩
      · rw [cif_f g]
        have hmm : T1.v_met = nI (pM (sPe z)) := by rw [hT1]; exact v2.1
        have hA := adT_rm (n := (sIt z).length) (p := p) (i := i) (s := s) (b := (uns (sIt z)).length) (kn := (sIt z).length - fk) r1 rfl rfl hs1 hmm
        generalize hB : adT T1 (sIt z).length p i s (uns (sIt z)).length ((sIt z).length - fk) (nmN D p (sPe z)) = B at *
        have hco : coM B = coM T := by
          refine Prod.ext (show coMa B = coMa T by rw [← hB, hT1]; rfl) ?_
          show B.v_parent 0 = T.v_parent 0
          rw [← hB, hT1]
          show upd T.v_parent (sIt z).length _ 0 = _
          rw [pk_un (by omega)]
        have hBM : mIs N D B := mIs_co hco hM
        have hBt : B.v_chained = T.v_chained := by rw [← hB, hT1]; rfl
        obtain ⟨e1, e2⟩ := qM_admEnd (K := K) (p := p) (T := B) (tk := sTk z) (by omega) hBM h hN (by rw [hBt]; exact v3) (by omega)
        cases hE : entF N D p (sTk z) with
        | none =>
          obtain ⟨a', b', c', e3⟩ := e2 hE
          obtain ⟨x, hx1, hx2⟩ := m2 g (fun r => r = (nI 3, ((B.u_v_chained a').u_v_chain b').u_v_links c')) (wp_e e3 rfl)
          rw [hx2] at hx1
          rw [entR_n hE]
          exact stM_e hx1 ⟨hco, by show B.v_folders = _; rw [← hB, hT1]; rfl⟩
        | some ch =>
          obtain ⟨b', c', e3⟩ := e1 ch hE
          obtain ⟨x, hx1, hx2⟩ := m2 g (fun r => r = (nI 0, ((B.u_v_chained (mk1 B.v_chained ch)).u_v_chain b').u_v_links c')) (wp_e e3 rfl)
          rw [hx2] at hx1
          rw [entR_s hE]
          refine stM_o hx1 ⟨⟨hco, ?_, ?_, ?_, ?_, fun j hj => ?_, ?_⟩, hA, ⟨?_, fun w => absurd rfl w⟩, ?_, ?_, ?_⟩
          · show B.v_folder = _
            rw [← hB, hT1]; rfl
          · show B.v_folders = _
            rw [← hB, hT1]; rfl
          · show B.v_fault = _
            rw [← hB, hT1]; rfl
          · show B.v_firstKid = _
            rw [← hB, hT1]; rfl
          · show B.v_kids j = _
            rw [← hB, hT1]
            show upd T.v_kids i _ j = _
            rw [pk_un hj]
          · show B.v_parent 0 = _
            rw [← hB, hT1]
            show upd T.v_parent (sIt z).length _ 0 = _
            rw [pk_un (by omega)]
          · show B.v_met = _
            rw [← hB]; rfl
          · show tkR N (mk1 B.v_chained ch) (ch ++ sTk z)
            rw [hBt]
            exact tkR_app v3
          · show B.v_label = _
            rw [← hB, hT1]
            exact v4
          · show B.v_kids i = _
            rw [← hB, hT1]
            show upd T.v_kids i (nI ((sIt z).length - fk + 1)) i = nI ((sIt z ++ [_]).length - fk)
            rw [pk_us, List.length_append]
            congr 1
            simp only [List.length_cons, List.length_nil]
            omega
    have sameT : ∃ a e, T = (T.u_v_size a).u_v_name e := ⟨T.v_size, T.v_name, rfl⟩
    have shn : f_Mo_shown K T (nI p) = some (nmT T (svO D p 11)) := qM_shown (by omega) hD (by omega)
    have hsvE : ∃ sv, sv = svO D p 11 := ⟨_, rfl⟩
    obtain ⟨sv, hsv⟩ := hsvE
    rw [← hsv] at shn
    have hsz : (nmT T sv).v_size = nI sv.length := rfl
    have hnb : bufR (nmT T sv).v_name sv := fun j hj => mkL_get hj
    have hnc : coM (nmT T sv) = coM T ∧ (nmT T sv).v_folders = T.v_folders := ⟨rfl, rfl⟩
    have shT : ∃ a e, nmT T sv = (T.u_v_size a).u_v_name e := ⟨_, _, rfl⟩
    generalize nmT T sv = TS at *
    have n4 : ¬ (1 : Int32) = 0 := by decide
    have fin140 : stM (.error 4) (f_Mo_adm_145 K (nI p) (nI i) (nI s) (nI (o1 D (p + 11))) 1 T) (fun z' T' => fr1 i T T' ∧ vR N i fk z' T') (fun T' => coM T' = coM T ∧ T'.v_folders = T.v_folders) := by
      unfold f_Mo_adm_145 f_Mo_adm_185 f_Mo_adm_190 f_Mo_adm_200
      by_cases w : T.v_met ≤ 0
      · rw [if_pos w, shn, q_b, if_neg n4]; exact stM_e rfl hnc
      · rw [if_neg w, if_neg n4, if_neg n4]; exact stM_e rfl ⟨rfl, rfl⟩
    rw [show (0 : Int32) = nI 0 from rfl, b01_of (qM_isShort (by omega) hD (by omega) (Or.inl rfl)), q_c]
    unfold f_Mo_adm_140 f_Mo_adm_144
    by_cases a1 : shP D p ((0 : Nat) = 1)
    rotate_left
    · rw [b01_f a1, if_pos rfl, cif_f (fun w => a1 w.1)]
      exact fin140
    rw [b01_t a1, if_neg (show ¬ nI 1 = nI 0 by decide)]
    have good : (o1 D (p + 11) / 16 % 2 = 1 → o4 D (p + 28) = 0) → stM (cif (enBad D p (sPe z)) (cif (enTw D (sIt z) fk p (nmN D p (sPe z))) (.error 5) (entR N D i s p z)) (.error 4)) (f_Mo_adm_145 K (nI p) (nI i) (nI s) (nI (o1 D (p + 11))) 0 T) (fun z' T' => fr1 i T T' ∧ vR N i fk z' T') (fun T' => coM T' = coM T ∧ T'.v_folders = T.v_folders) := by
      intro a2
      unfold f_Mo_adm_145 f_Mo_adm_185 f_Mo_adm_190
      rw [v2.1]
      by_cases a3 : pM (sPe z) = 0
      · have en : nmN D p (sPe z) = svO D p 11 := by unfold nmN; rw [if_pos a3]
        rw [if_pos (show nI (pM (sPe z)) ≤ 0 by rw [a3]; decide), shn, q_b, cif_t (show enBad D p (sPe z) from ⟨a1, a2, fun w => absurd a3 w⟩)]
        exact main TS shT (by rw [en, ← hsv]; exact hsz) (by rw [en, ← hsv]; exact hnb)
      · have := hpe.1
        obtain ⟨u1, u2, u3, u4⟩ := hbx a3
        have en : nmN D p (sPe z) = tw (pU (sPe z)) := by unfold nmN; rw [if_neg a3]
        rw [if_neg (show ¬ nI (pM (sPe z)) ≤ 0 from nI_nle (by omega) (by omega)), if_pos rfl, u1]
        have b4 : ∀ T1 : MS, f_Mo_adm_200 K (nI p) (nI i) (nI s) (nI (o1 D (p + 11))) 1 T1 = some (4, T1) := fun T1 => by unfold f_Mo_adm_200; rw [if_neg n4]
        by_cases a4 : pL (sPe z) = 0
        rotate_left
        · rw [cif_f (fun w => a4 (w.2.2 a3).1), if_pos (show 0 < nI (pL (sPe z)) from nI_lt (a := 0) (by omega) (by omega)), b4]
          exact stM_e rfl ⟨rfl, rfl⟩
        rw [if_neg (show ¬ 0 < nI (pL (sPe z)) by rw [a4]; decide), qM_sum (by omega) hD (by omega), q_c, u2]
        have hsm := sm_lt D p 11
        have hps := hpe.2.2.1
        by_cases a5 : sm D p 11 = pS (sPe z)
        rotate_left
        · rw [cif_f (fun w => a5 (w.2.2 a3).2.1), if_neg (fun w => a5 ((nI_eq (by omega) (by omega)).mp w)), b4]
          exact stM_e rfl ⟨rfl, rfl⟩
        have hul := hpe.2.1
        have hsd := qM_said (K := K) (T := T) (us := pU (sPe z)) (m := pM (sPe z)) (by omega) (by rw [u3, a4, hul]; rfl) hul (by omega) (fun j hj => by have := u4 j (by omega); rw [a4, Nat.mul_zero, Nat.zero_add] at this; exact this) hpe.2.2.2
        rw [if_pos (by rw [a5]), hsd, q_c]
        have hc2 : coM (T.u_v_size (nI (tw (pU (sPe z))).length)) = coM T ∧ (T.u_v_size (nI (tw (pU (sPe z))).length)).v_folders = T.v_folders := ⟨rfl, rfl⟩
        by_cases a6 : sdP (pU (sPe z))
        rotate_left
        · rw [cif_f (fun w => a6 (w.2.2 a3).2.2), b01_f a6, if_pos (show nI 0 = 0 from rfl), b4]
          exact stM_e rfl hc2
        rw [b01_t a6, if_neg (show ¬ nI 1 = 0 by decide), cif_t (show enBad D p (sPe z) from ⟨a1, a2, fun _ => ⟨a4, a5, a6⟩⟩)]
        refine main (T.u_v_size (nI (tw (pU (sPe z))).length)) ⟨nI (tw (pU (sPe z))).length, T.v_name, rfl⟩ (by rw [en]; rfl) (fun j hj => ?_)
        rw [en] at hj ⊢
        show T.v_name j = _
        have hj2 := tw_len (pU (sPe z))
        have := u4 j (by omega)
        rw [a4, Nat.mul_zero, Nat.zero_add] at this
        rw [this, ((tw_pre (pU (sPe z))).2.1 j hj).1]
    by_cases a2 : o1 D (p + 11) / 16 % 2 = 1
    · rw [a2, if_neg (show ¬ nI (16 * 1) = nI 0 by decide), show (28 : Int32) = nI 28 from rfl, nI_add, rM4 D hD (by omega), q_c]
      by_cases a3 : o4 D (p + 28) = 0
      · rw [if_pos (by rw [a3])]
        exact good (fun _ => a3)
      · rw [if_neg (fun w => a3 ((q_eqW b28 (by decide)).mp w)), cif_f (fun w => a3 (w.2.1 a2))]
        exact fin140
    · rw [show o1 D (p + 11) / 16 % 2 = 0 by omega, if_pos (show nI (16 * 0) = nI 0 by decide)]
      exact good (fun w => absurd w a2)
