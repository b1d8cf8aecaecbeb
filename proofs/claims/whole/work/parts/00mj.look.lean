/-! The reference's look. -/
def foF (f g : Nat → Int32) (n : Nat) : Nat → Int32 := fun j => if j < n then g j else f j
theorem foF_add (f g : Nat → Int32) (n : Nat) : upd (foF f g n) n (g n) = foF f g (n + 1) := by
  funext j
  unfold foF
  by_cases e : j = n
  · rw [e, pk_us, if_pos (by omega)]
  · rw [pk_un e]
    by_cases w : j < n
    · rw [if_pos w, if_pos (by omega)]
    · rw [if_neg w, if_neg (by omega)]
theorem foF_0 (f g : Nat → Int32) : foF f g 0 = f := funext (fun j => if_neg (Nat.not_lt_zero j))
theorem fo_spec {N x : Nat} {D : Nat → Int32} {tk ch : List Nat} (h : fo N D x tk = some ch) (h2 : N ≤ 1024) : ch.length ≤ 514 ∧ 1 ≤ ch.length ∧ ch.Nodup ∧ (∀ y ∈ ch, isCl N D y) ∧ (∀ y ∈ ch, y ∉ tk) := by
  obtain ⟨a1, a2, a3, a4, a5, -⟩ := fol_spec _ _ _ _ h
  exact ⟨by omega, a2, a4, fun y hy => (a5 y hy).1, fun y hy => (a5 y hy).2.1⟩
theorem qM_scan20 {K i : Nat} {ch : List Nat} {T : MS} (hK : 1000 ≤ K) (hl : ch.length ≤ 514) (hli : T.v_links = nI ch.length) : f_Mo_scan_20 K K (nI i) 0 T = f_Mo_scan_66 K K (nI i) 0 ((((T.u_v_folder (foF T.v_folder T.v_chain ch.length)).u_v_folders (nI ch.length)).u_v_met 0).u_v_left 0) := by
  have key := lp (F := fun k q S => f_Mo_scan_20 K k (nI i) (nI q) S) (Inv := fun q s => s = T.u_v_folder (foF T.v_folder T.v_chain q)) (Post := fun r => r = f_Mo_scan_66 K K (nI i) 0 ((((T.u_v_folder (foF T.v_folder T.v_chain ch.length)).u_v_folders (nI ch.length)).u_v_met 0).u_v_left 0)) (n := ch.length) ?_ ?_ ch.length 0 K T (by omega) (by omega) ?_
  · exact key
  · intro q s k hq hI
    left
    refine ⟨_, rfl, ?_⟩
    have e1 : s.v_links = nI ch.length := by rw [hI]; exact hli
    have e2 : s.v_folder = foF T.v_folder T.v_chain q := by rw [hI]; rfl
    have e3 : s.v_chain = T.v_chain := by rw [hI]; rfl
    have hin : lf_in (nI q) 560 := q_in (by omega) (by decide)
    rw [f_Mo_scan_20, e1, if_neg (nI_ge hq (by omega)), q_g hin, q_g hin, q_l, q_l, nI_1, nI_clamp (by omega), e2, e3, foF_add, hI]
    rfl
  · intro s k hI
    have e1 : s.v_links = nI ch.length := by rw [hI]; exact hli
    rw [f_Mo_scan_20, e1, if_pos (Int32.le_refl _), q_l, q_l, q_l, hI]
  · show T = T.u_v_folder _
    rw [foF_0]
    rfl
theorem qM_scan {K N m i : Nat} {D : Nat → Int32} {z : SS} {T : MS} (hK : 20000 ≤ K) (h : hdOk N D) (hN : N ≤ 1024) (hcp : capOk N D m) (hm : m ≤ 4000) (hM : mIs N D T) (hz : zOk N z) (hci : cinD N D z) (hI : rmI (sIt z) T) (htk : tkR N T.v_chained (sTk z)) (hlb : T.v_label = lbI (sLb z)) (hF : T.v_firstKid i = nI (sIt z).length) (hk0 : T.v_kids i = nI 0) (hfl : T.v_fault = 0) (hii : i < (sIt z).length) : (∀ z', dirS N D i z = .ok z' → ∃ T', f_Mo_scan K T (nI i) = some T' ∧ T'.v_fault = 0 ∧ fr2 i T T' ∧ vR N i (sIt z).length z' T' ∧ zOk N z' ∧ cinD N D z' ∧ ext z z') ∧ (∀ e, dirS N D i z = .error e → ∃ T', f_Mo_scan K T (nI i) = some T' ∧ T'.v_fault = nI e ∧ 3 ≤ e ∧ e ≤ 5 ∧ coM T' = coM T) := by
  have hD := hM.1
  have hC := (hd_facts h hN).1
  obtain ⟨f1, f2⟩ := qM_followsW (K := K) (x := begI D (sIt z) i) (by omega) hM h hN htk (begI_lt D _ i)
  unfold f_Mo_scan dirS
  rw [qM_beginOf hD hM.2.2.2.2.2.2.1 hN hI hz.1 hii, q_c]
  cases hfo : fo N D (begI D (sIt z) i) (sTk z) with
  | none =>
    obtain ⟨a, b, c, f3⟩ := f2 hfo
    rw [f3, q_c, if_pos (by decide), q_l]
    refine ⟨fun z' e => (by cases e), fun e he => ?_⟩
    cases he
    exact ⟨_, rfl, rfl, by omega, by omega, rfl⟩
  | some ch =>
    obtain ⟨c1, c2, c3, c4, c5⟩ := fo_spec hfo hN
    rw [f1 ch hfo, q_c, if_neg (by decide), qM_scan20 (T := chT T ch) (ch := ch) (by omega) c1 rfl]
    show (∀ z', dirC N D i ch z = .ok z' → _) ∧ (∀ e, dirC N D i ch z = .error e → _)
    have htot : ch.length * 16 * hc D < 2 ^ 20 ∧ ch.length * 16 * hc D + 2 < K := by
      have k3 := (hd_facts h hN).2.2.2.2.2.2.2.2.2.2.2.2.2.1
      have hnd := nd_cl (k := hk N D) c3 c4
      have := Nat.mul_le_mul_right (hc D) hnd
      rw [show ch.length * 16 * hc D = 16 * (ch.length * hc D) by rw [Nat.mul_comm ch.length 16, Nat.mul_assoc]]
      omega
    -- the state at the first slot
    generalize hT1 : (((((chT T ch).u_v_folder (foF (chT T ch).v_folder (chT T ch).v_chain ch.length)).u_v_folders (nI ch.length)).u_v_met 0).u_v_left 0) = T1
    have g1 : coM T1 = coM T := by rw [← hT1]; rfl
    have gM : mIs N D T1 := mIs_co g1 hM
    have gI : rmI (sIt z) T1 := by rw [← hT1]; exact hI
    have gF : T1.v_firstKid = T.v_firstKid := by rw [← hT1]; rfl
    have gK : T1.v_kids = T.v_kids := by rw [← hT1]; rfl
    have gP : T1.v_parent = T.v_parent := by rw [← hT1]; rfl
    have gf : T1.v_fault = T.v_fault := by rw [← hT1]; rfl
    have gm : T1.v_met = nI 0 := by rw [← hT1]; rfl
    have gt : tkR N T1.v_chained (ch ++ sTk z) := by rw [← hT1]; exact tkR_app htk
    have gl : T1.v_label = lbI (sLb z) := by rw [← hT1]; exact hlb
    have go : ∀ q, q < ch.length → T1.v_folder q = nI (ch.getD q 0) := by
      intro q hq
      rw [← hT1]
      show foF T.v_folder (mkL T.v_chain ch) ch.length q = _
      unfold foF
      rw [if_pos hq, mkL_get hq]
    have gs : T1.v_folders = nI ch.length := by rw [← hT1]; rfl
    have hz1 : zOk N ((sIt z, sLb z), ch ++ sTk z, pe0) := ⟨hz.1, pe0_ok, hz.2.2⟩
    have hv1 : vR N i (sIt z).length ((sIt z, sLb z), ch ++ sTk z, pe0) T1 := ⟨gI, ⟨gm, fun w => absurd rfl w⟩, gt, gl, by rw [gK, hk0]; show nI 0 = nI ((sIt z).length - (sIt z).length); rw [Nat.sub_self]⟩
    obtain ⟨q1, q2⟩ := qM_dirL (K := K) (m := m) (i := i) (fk := (sIt z).length) (tk0 := sTk z) (ch := ch) (T0 := T1) (by omega) h hN hcp hm c4 c3 c1 c5 gM (by rw [gF]; exact hF) hz.1.1 (gf.trans hfl) go gs (ch.length * 16 * hc D) 0 K _ T1 (by omega) htot.2 ⟨fr1_rf i T1, hv1, hz1, cinD_in hci, hii, Nat.le_refl _⟩
    unfold dirC
    cases hdl : dirL N D i (sIt z).length ch (ch.length * 16 * hc D) 0 ((sIt z, sLb z), ch ++ sTk z, pe0) with
    | error e1 =>
      obtain ⟨T2, r1, r2, r3⟩ := q2 e1 hdl
      have he := dirL_err _ _ _ _ hdl
      rw [exb_e, show (0 : Int32) = nI 0 from rfl, r1]
      refine ⟨fun z' e => (by cases e), fun e w => ?_⟩
      cases w
      exact ⟨T2, rfl, r2, he.1, he.2, r3.trans g1⟩
    | ok x =>
      obtain ⟨s1, z1⟩ := x
      obtain ⟨T2, r1, r2, r3, r4, r5, r6, r7⟩ := q1 s1 z1 hdl
      obtain ⟨j1, j2, j3, j4, j5, j6⟩ := dirL_ok h hN c4 c3 c1 c5 hcp hm _ _ _ _ _ (by omega) hz1 (cinD_in hci) hii hdl
      rw [exb_o, show (0 : Int32) = nI 0 from rfl, r1]
      unfold f_Mo_scan_220 f_Mo_scan_243 dirE
      have e1 : T2.v_fault = 0 := r2.2.2.2.1.trans (gf.trans hfl)
      have e2 := r3.2.1.1
      have e3 := j1.2.1.1
      have hext : ext z z1 := ext_tr (b := ((sIt z, sLb z), ch ++ sTk z, pe0)) ⟨⟨[], (List.append_nil _).symm⟩, ⟨ch, rfl⟩⟩ j3
      rw [if_pos e1, e2]
      have bad : T2.v_fault = 0 → (∀ z', (Except.error 4 : Except Nat SS) = .ok z' → ∃ T', (lf_l (T2.u_v_fault 4) fun S_36 => some S_36) = some T' ∧ T'.v_fault = nI 0 ∧ fr2 i T T' ∧ vR N i (sIt z).length z' T' ∧ zOk N z' ∧ cinD N D z' ∧ ext z z') ∧ (∀ e, (Except.error 4 : Except Nat SS) = .error e → ∃ T', (lf_l (T2.u_v_fault 4) fun S_36 => some S_36) = some T' ∧ T'.v_fault = nI e ∧ 3 ≤ e ∧ e ≤ 5 ∧ coM T' = coM T) := by
        intro _
        refine ⟨fun z' e => (by cases e), fun e w => ?_⟩
        cases w
        exact ⟨_, rfl, rfl, by omega, by omega, r2.1.trans g1⟩
      by_cases w1 : pM (sPe z1) = 0
      · rw [if_neg (show ¬ 0 < nI (pM (sPe z1)) by rw [w1]; decide)]
        have good : (∀ z', (Except.ok z1 : Except Nat SS) = .ok z' → ∃ T', (some T2) = some T' ∧ T'.v_fault = nI 0 ∧ fr2 i T T' ∧ vR N i (sIt z).length z' T' ∧ zOk N z' ∧ cinD N D z' ∧ ext z z') ∧ (∀ e, (Except.ok z1 : Except Nat SS) = .error e → ∃ T', (some T2) = some T' ∧ T'.v_fault = nI e ∧ 3 ≤ e ∧ e ≤ 5 ∧ coM T' = coM T) := by
          refine ⟨fun z' e => ?_, fun e w => (by cases w)⟩
          cases e
          exact ⟨T2, rfl, e1, ⟨r2.1.trans g1, r2.2.2.2.2.1.trans gF, fun j hj => (r2.2.2.2.2.2.1 j hj).trans (by rw [gK]), r2.2.2.2.2.2.2.trans (by rw [gP])⟩, r3, j1, cinD_out h hN c4 j5 j2 j3, hext⟩
        by_cases w2 : i = 0
        · rw [if_pos (show nI i ≤ 0 by rw [w2]; decide), cif_t ⟨w1, Or.inl w2⟩]
          exact good
        · rw [if_neg (show ¬ nI i ≤ 0 from nI_nle (by omega) (by have := hz.1.2.1; omega))]
          by_cases w3 : 2 ≤ s1
          · rw [if_pos (show 2 ≤ nI s1 from nI_le (a := 2) w3 (by omega)), cif_t ⟨w1, Or.inr w3⟩]
            exact good
          · rw [if_neg (show ¬ 2 ≤ nI s1 from nI_ge (b := 2) (by omega) (by decide)), cif_f (fun y => by omega)]
            exact bad e1
      · rw [if_pos (show 0 < nI (pM (sPe z1)) from nI_lt (a := 0) (by omega) (by omega)), cif_f (fun y => w1 y.1)]
        exact bad e1
