/-! A file laid by the reference. -/
/-- q lies in none of the blocks -/
abbrev offB (l : List Nat) (q : Nat) : Prop := ∀ b ∈ l, q < 1024 * b ∨ 1024 * b + 1024 ≤ q
theorem take_get {l : List Nat} {n s : Nat} (h : s < n) : (l.take n).getD s 0 = l.getD s 0 := by
  rw [List.getD_eq_getElem?_getD, List.getElem?_take, if_pos h, ← List.getD_eq_getElem?_getD]
theorem ql_fl17 {K i : Nat} {N : Nat} {D : Nat → Int32} {fks : List Nat} {its : List It} {A H k B P g0 r : Nat} {gl : Nat → Nat} {rm ch l : List Nat} {T : MS} {n fb : Nat} {p : Nat → Prop} {rc : Nat → Int32} (hK : 2000 ≤ K) (h : tnM N D fks its A H k B P g0 r gl rm T) (hgl : ∀ c, gl c < k + 2) (hcl : ∀ c ∈ ch, 2 ≤ c ∧ c < k + 2 ∧ 2 ≤ stnd gl c) (hl : ch.length ≤ 514) (hle : l = (chL A H gl ch).take fb) (hfb : fb ≤ ch.length * H) (hf5 : fb ≤ 512) (hlb : ∀ b ∈ l, b < 512) (hnd : l.Nodup) {F0 : Nat → Int32} : ∀ (d q w : Nat) (F U : Nat → Int32) (R : Rg), q + d = fb → d < w → R.1 = rc → (∀ s, s < ch.length → R.2.2.2.2.2.1 s = nI (ch.getD s 0)) → (∀ s, s < q → R.2.1 s = nI (l.getD s 0)) → (∀ s, s < q → bkA F (l.getD s 0) (fun j => D (1024 * srB A H ch s + j))) → (∀ x, (∀ s, s < q → x < 1024 * l.getD s 0 ∨ 1024 * l.getD s 0 + 1024 ≤ x) → o1 F x = o1 F0 x) → uM U (fun c => p c ∨ c ∈ l.take q) → ∃ F' U' R', f_Mo_makeFile_17 K w (nI i) (nI fb) (nI q) (qS T F U n R) = f_Mo_makeFile_17 K (w - d) (nI i) (nI fb) (nI fb) (qS T F' U' n R') ∧ R'.1 = rc ∧ (∀ s, s < fb → R'.2.1 s = nI (l.getD s 0)) ∧ (∀ s, s < fb → bkA F' (l.getD s 0) (fun j => D (1024 * srB A H ch s + j))) ∧ (∀ x, offB l x → o1 F' x = o1 F0 x) ∧ uM U' (fun c => p c ∨ c ∈ l) := by
  have hll : l.length = fb := by rw [hle, List.length_take, chL_len]; omega
  intro d
  induction d with
  | zero =>
    intro q w F U R e1 e2 h1 h2 h3 h4 h5 h6
    obtain rfl : q = fb := by omega
    refine ⟨F, U, R, rfl, h1, h3, h4, fun x hx => h5 x (fun s hs => hx _ (getD_mem (by omega))), fun c hc0 => ?_⟩
    rw [h6 c hc0, List.take_of_length_le (by omega)]
  | succ d ih =>
    intro q w F U R e1 e2 h1 h2 h3 h4 h5 h6
    obtain ⟨w, rfl⟩ : ∃ m, w = m + 1 := ⟨w - 1, by omega⟩
    have hlq : l.getD q 0 = (chL A H gl ch).getD q 0 := by rw [hle]; exact take_get (by omega)
    have hcp := ql_copied (K := K) (q := q) (F := F) (U := U) (n := n) (R := R) hK h hgl h2 hcl hl (by omega)
    rw [← hlq] at hcp
    have hne : ∀ s, s < q → l.getD s 0 ≠ l.getD q 0 := fun s hs e => by have := nd_getD hnd (by omega) (by omega) e; omega
    obtain ⟨F', U', R', c1, c2, c3, c4, c5, c6⟩ := ih (q + 1) w (cpB F D (l.getD q 0) (1024 * srB A H ch q) 1024) (upd U (l.getD q 0) (vp_nar .boolean 1)) (R.1, upd R.2.1 q (nI (l.getD q 0)), R.2.2) (by omega) (by omega) h1 h2 (fun s hs => by
      show upd R.2.1 q (nI (l.getD q 0)) s = _
      by_cases c : s = q
      · rw [c, pk_us]
      · rw [pk_un c]; exact h3 s (by omega)) (fun s hs j hj => by
      rw [cpB_o1]
      by_cases c : s = q
      · rw [c, if_pos (by omega), Nat.add_sub_cancel_left]; rfl
      · have := hne s (by omega)
        rw [if_neg (by omega)]
        exact h4 s (by omega) j hj) (fun x hx => by
      have := hx q (by omega)
      rw [cpB_o1, if_neg (by omega)]
      exact h5 x (fun s hs => hx s (by omega))) (fun c hc0 => by
      rw [uM_upd h6 c hc0, take_s (by omega)]
      refine b01_iff ⟨fun y => ?_, fun y => ?_⟩
      · rcases y with (y | y) | y
        · exact Or.inl y
        · exact Or.inr (List.mem_append_left _ y)
        · exact Or.inr (List.mem_append_right _ (by rw [y]; exact List.mem_singleton.mpr rfl))
      · rcases y with y | y
        · exact Or.inl (Or.inl y)
        · rcases List.mem_append.mp y with z | z
          · exact Or.inl (Or.inr z)
          · exact Or.inr (List.mem_singleton.mp z))
    refine ⟨F', U', R', ?_, c2, c3, c4, c5, c6⟩
    rw [f_Mo_makeFile_17, if_neg (nI_ge (by omega) (by omega)), hcp, q_c, q_g (q_in (by omega) (by decide)), nI_clamp (by omega), q_l, nI_1, q_l, show w + 1 - (d + 1) = w - d by omega]
    exact c1
theorem ql_file {K i n : Nat} {N : Nat} {D : Nat → Int32} {fks : List Nat} {its : List It} {A H k B P g0 r : Nat} {gl : Nat → Nat} {rm l : List Nat} {T : MS} {F U : Nat → Int32} {R : Rg} {p : Nat → Prop} (hK : 20000 ≤ K) (h : tnM N D fks its A H k B P g0 r gl rm T) (hi : i < its.length) (hdr : ¬ isDr D its i) (hgl : ∀ c, gl c < k + 2) (hcl : ∀ c ∈ chI N D its i, 2 ≤ c ∧ c < k + 2 ∧ 2 ≤ stnd gl c) (hle : l = (chL A H gl (chI N D its i)).take (fbN D its i)) (hfb : fbN D its i ≤ (chI N D its i).length * H) (hf5 : fbN D its i ≤ 512) (hlb : ∀ b ∈ l, b < 512 ∧ (inPos A P (8 * r) (nmr i) + 128 ≤ 1024 * b ∨ 1024 * b + 1024 ≤ inPos A P (8 * r) (nmr i)) ∧ ∀ t, t < rm.length → b ≠ rm.getD t 0) (hnd : l.Nodup) (hin : n + indN l.length ≤ rm.length) (hz : ∀ t, n ≤ t → t < n + indN l.length → bkA F (rm.getD t 0) Zd) (ha0 : inPos A P (8 * r) (nmr i) + 128 ≤ 524288) (hd : ∀ t, t < rm.length → inPos A P (8 * r) (nmr i) + 128 ≤ 1024 * rm.getD t 0 ∨ 1024 * rm.getD t 0 + 1024 ≤ inPos A P (8 * r) (nmr i)) (hU : uM U p) : ∃ F' U' R', f_Mo_makeFile K (qS T F U n R) (nI i) = some (qS T F' U' (n + indN l.length) R') ∧ (∀ s, s < fbN D its i → bkA F' (l.getD s 0) (fun j => D (1024 * srB A H (chI N D its i) s + j))) ∧ agW F' (inW rm n l (indN l.length)) ∧ (∀ q, inPos A P (8 * r) (nmr i) ≤ q → q < inPos A P (8 * r) (nmr i) + 128 → o1 F' q = o1 (inX F (inPos A P (8 * r) (nmr i)) (moN D its i) (szI D its i) true (tmN D (isp (itr its i))) (lkN D fks its i) l rm n) q) ∧ (∀ q, (q < inPos A P (8 * r) (nmr i) ∨ inPos A P (8 * r) (nmr i) + 128 ≤ q) → offB l q → (∀ s, n ≤ s → s < n + indN l.length → farR rm s q) → o1 F' q = o1 F q) ∧ uM U' (fun c => (p c ∨ c ∈ l) ∨ c ∈ rmF rm n (indN l.length)) ∧ R'.1 = R.1 := by
  have hh := h
  obtain ⟨hM, ⟨hpl, hT, hI, hr, hil⟩, hbd, hmv, ⟨hp0, hq0, hpar⟩, hdy⟩ := h
  have hN := hM.1.2
  have ho := hM.2.2.2.1
  have hlen := ho.2.1
  have hi0 : i ≠ 0 := fun e => hdr (Or.inl e)
  obtain ⟨w1, w2, w3⟩ := hM.2.2.2.2.2.2.2.1 i hi
  have hsz := hM.2.2.2.2.2.2.2.2 i hi hdr
  have hH : 1 ≤ H := by have := hpl.2.1; omega
  have hll : l.length = fbN D its i := by rw [hle, List.length_take, chL_len]; omega
  have hbg := qM_beginOf (K := K) (T := qS T F U n R) hM.2.1.1 hM.2.1.2.2.2.2.2.2.1 hN hM.2.2.1 ho hi
  obtain ⟨fch, v1, v2⟩ := qM_walk (K := K) (T := qS T F U n R) (by omega) hM.1.1 hN hM.2.1 w1 w2 w3
  have v1 : f_Mo_walk K (qS T F U n R) (nI (begI D its i)) = some (qS T F U n (R.1, R.2.1, R.2.2.1, R.2.2.2.1, R.2.2.2.2.1, fch, nI (chI N D its i).length)) := v1
  obtain ⟨F1, U1, R1, c1, c2, c3, c4, c5, c6⟩ := ql_fl17 (K := K) (i := i) (n := n) (p := p) (rc := R.1) (F0 := F) (by omega) hh hgl hcl w1 hle hfb hf5 (fun b hb => (hlb b hb).1) hnd (fbN D its i) 0 K F U (R.1, R.2.1, R.2.2.1, R.2.2.2.1, R.2.2.2.2.1, fch, nI (chI N D its i).length) (by omega) (by omega) rfl v2 (fun s hs => absurd hs (Nat.not_lt_zero _)) (fun s hs => absurd hs (Nat.not_lt_zero _)) (fun x _ => rfl) (fun c hc0 => by
    rw [hU c hc0]
    exact b01_iff ⟨Or.inl, fun y => y.resolve_right (fun z => by cases z)⟩)
  have hnr : 1 ≤ nmr i ∧ nmr i ≤ g0 * (8 * r) := by unfold nmr; split <;> omega
  have hmo := moN_lt D its i
  have hp := (ho.2.2.2.2 i (by omega) hi).1
  have hat : T.v_at i = nI (isp (itr its i)) := (hM.2.2.1.2.2.1 i (by omega) hi).1
  have hsI : szI D its i = o4 D (isp (itr its i) + 28) := (if_neg hi0).trans (if_neg (fun y => hdr (Or.inr y)))
  have hlk : lkN D fks its i = 1 := cif_f hdr
  have t2' := tmN_lt D (isp (itr its i)) 2
  have t3' := tmN_lt D (isp (itr its i)) 3
  have t4' := tmN_lt D (isp (itr its i)) 4
  have hroom : ∀ t, t < rm.length → ∀ j, j < 1024 → offB l (1024 * rm.getD t 0 + j) := fun t ht j hj b hb => by
    have := (hlb b hb).2.2 t ht
    omega
  obtain ⟨F5, U5, g1, g2, g3, g4, g5⟩ := ql_inode_list (K := K) (i := nmr i) (mode := moN D its i) (links := lkN D fks its i) (size := szI D its i) (t0 := tmN D (isp (itr its i)) 2) (t1 := tmN D (isp (itr its i)) 3) (t2 := tmN D (isp (itr its i)) 4) (T := T) (F := F1) (U := U1) (n := n) (R := R1) (rm := rm) (l := l) (by omega) hbd hpl hT hI hr hnr (by omega) (fun x hx => by have := (hlb x hx).1; omega) (fun s hs => c3 s (by omega)) ha0 (by omega) (by omega) (by omega) ⟨by omega, by omega, by omega⟩ hin (fun t t1 t2 j hj => by
    rw [c5 _ (hroom t (by omega) j hj)]
    exact hz t t1 t2 j hj) hd
  refine ⟨F5, U5, R1, ?_, fun s hs j hj => ?_, g3, fun q q1 q2 => ?_, fun q q1 q2 q3 => ?_, g5 _ c6, c2⟩
  · unfold f_Mo_makeFile
    rw [hbg, q_c, v1, q_b, qM_fileBlocks (T := qS T F U n (R.1, R.2.1, R.2.2.1, R.2.2.2.1, R.2.2.2.2.1, fch, nI (chI N D its i).length)) hM hi hdr, q_c]
    show f_Mo_makeFile_17 K K (nI i) (nI (fbN D its i)) (nI 0) _ = _
    obtain ⟨K', eK⟩ : ∃ m, K - fbN D its i = m + 1 := ⟨K - fbN D its i - 1, by omega⟩
    have tm := fun (w : Nat) (w1 : 2 ≤ w) (w2 : w ≤ 4) => qM_timeOf (K := K) (T := qS T F1 U1 n R1) (D := D) (w := w) (by omega) hN hM.2.1.1 (show i < 4200 by omega) hat hp (hdy i (by omega) hi) w1 w2
    have t2 : f_Mo_timeOf K (qS T F1 U1 n R1) (nI i) 0 = _ := tm 2 (by decide) (by decide)
    have t3 : f_Mo_timeOf K (qS T F1 U1 n R1) (nI i) 1 = _ := tm 3 (by decide) (by decide)
    have t4 : f_Mo_timeOf K (qS T F1 U1 n R1) (nI i) 2 = _ := tm 4 (by decide) (by decide)
    have hat2 : (qS T F1 U1 n R1).v_at (nI i).toNatClampNeg = nI (isp (itr its i)) := by rw [nI_clamp (by omega)]; exact hat
    rw [c1, eK, f_Mo_makeFile_17, if_pos (nI_le (Nat.le_refl _) (by omega)), ql_num (by omega), q_c, ql_mode (T := qS T F1 U1 n R1) hM hi, q_c, t2, q_c, t3, q_c, t4, q_c, q_g (q_in (by omega) (by decide)), hat2, show (28 : Int32) = nI 28 from rfl, nI_add, rM4 D (T := qS T F1 U1 n R1) hM.2.1.1 (by omega), q_c, nI_l (by omega), ← hsI]
    rw [hll, hlk] at g1
    rw [hll]
    have g1 : f_Mo_inode_list K (qS T F1 U1 n R1) (nI (nmr i)) (nI (moN D its i)) 1 (lN (tmN D (isp (itr its i)) 2)) (lN (tmN D (isp (itr its i)) 3)) (lN (tmN D (isp (itr its i)) 4)) (lN (szI D its i)) (nI (fbN D its i)) = _ := g1
    rw [g1, q_b]
  · have hm : l.getD s 0 ∈ l := getD_mem (by omega)
    obtain ⟨m1, m2, m3⟩ := hlb _ hm
    rw [g4 _ (by omega) (fun t t1 t2 => by have := m3 t (by omega); unfold farR; omega)]
    exact c4 s hs j hj
  · rw [g2 q q1 q2]
    have hsl : o1 F1 q = o1 F q := c5 q (fun b hb => by have := (hlb b hb).2.1; omega)
    unfold inX
    refine riX_ag (piX_ag (st_ag (st_ag ?_)) _) _
    exact st_ag (st_ag (st_ag (st_ag (st_ag hsl))))
  · rw [g4 q q1 q3]
    exact c5 q q2
