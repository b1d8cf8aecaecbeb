/-! All that comes to free clusters, then the mark. -/
abbrev rnC (N : Nat) (D : Nat → Int32) (mp : Nat → Nat) (fks : List Nat) (its : List It) (A H k B P g0 r to : Nat) (gl e : Nat → Nat) (G : CG) (S : CS) : Prop := mkC N D mp fks its A H k B P g0 r to gl e G S ∧ drC N D mp fks its k e G S ∧ tuC N G S ∧ S.v_Pl_inodes = nI (8 * r)
theorem rn_st {N : Nat} {D : Nat → Int32} {mp : Nat → Nat} {fks : List Nat} {its : List It} {A H k B P g0 r to : Nat} {gl e : Nat → Nat} {G : CG} {S : CS} (h : rnC N D mp fks its A H k B P g0 r to gl e G S) : B = N / 2 ∧ rmC B (rml A H (fxd A P r g0) e gl k) S ∧ (∀ b ∈ rml A H (fxd A P r g0) e gl k, 2 * b + 1 < N) ∧ bdN N fks D its A H ≤ (rml A H (fxd A P r g0) e gl k).length ∧ 2 * A + k * (2 * H) ≤ N ∧ 3 + indN (rcB N D its A H) ≤ (rml A H (fxd A P r g0) e gl k).length ∧ (∀ i, i < its.length → boN fks D its (3 + indN (rcB N D its A H)) i + bbN fks D its i ≤ B ∧ fiN fks D its (3 + indN (rcB N D its A H)) i + indN (ownL N D fks its A H (3 + indN (rcB N D its A H)) gl (rml A H (fxd A P r g0) e gl k) i).length ≤ (rml A H (fxd A P r g0) e gl k).length ∧ (ownL N D fks its A H (3 + indN (rcB N D its A H)) gl (rml A H (fxd A P r g0) e gl k) i).length ≤ B + 4 ∧ ∀ b ∈ ownL N D fks its A H (3 + indN (rcB N D its A H)) gl (rml A H (fxd A P r g0) e gl k) i, b < B) ∧ (recL N D its A H gl (rml A H (fxd A P r g0) e gl k)).length ≤ B ∧ ∀ b ∈ recL N D its A H gl (rml A H (fxd A P r g0) e gl k), b < B := by
  obtain ⟨⟨hL, ht, hU, hP, hrm, hfx, hw⟩, -, hc, -⟩ := h
  have hA := hL.1.1
  have hH := hL.1.2.1
  have hB := hL.1.2.2.2
  have hBN := hL.2.1.2.2.1
  have hAk := hU.1.2.2.2.2.2.2.2
  have hlen := ht.2.2.2.1.2.1
  obtain ⟨q1, q2, q3⟩ := bd_lt ht hAk hB.2
  obtain ⟨k1, k2⟩ := kLs_f hU
  have hbd := hU.2.2.2.2.2.2
  have hfb := hU.2.2.2.2.2.1
  have hrl := hrm.2.2
  have hrb : ∀ b ∈ rml A H (fxd A P r g0) e gl k, b < B := fun b hb => by have := (rml_lt hb).2.1; omega
  have hrF : ∀ a d, a + d ≤ (rml A H (fxd A P r g0) e gl k).length → ∀ b ∈ rmF (rml A H (fxd A P r g0) e gl k) a d, b < B := fun a d hd b hb => by
    obtain ⟨q, z1, z2, z3⟩ := (rmF_mem _ _).mp hb
    rw [z3]
    exact hrb _ (getD_mem (by omega))
  have hkb : ∀ i, i < its.length → ∀ b ∈ kLi N D its A H gl i, b < B := fun i hi b hb => by
    have := (k2 b ((kLs_mem _).mpr ⟨i, hi, hb⟩)).2.1
    omega
  have hend := fun i (hi : i < its.length) => own_end (fks := fks) (D := D) (b0 := 3 + indN (rcB N D its A H)) hi
  have hfle : ∀ j, j < its.length → boN fks D its (3 + indN (rcB N D its A H)) j + bbN fks D its j ≤ B := fun j hj => by
    have := hend j hj
    unfold fiN at this
    omega
  have howB : ∀ i, i < its.length → ∀ b ∈ ownL N D fks its A H (3 + indN (rcB N D its A H)) gl (rml A H (fxd A P r g0) e gl k) i, b < B := fun i hi b hb => by
    unfold ownL at hb
    by_cases w : isDr D its i
    · rw [cif_t w] at hb
      have := hend i hi
      unfold fiN at this
      rw [show bbN fks D its i = flB fks its i from cif_t w] at this
      exact hrF _ _ (by omega) b hb
    · rw [cif_f w] at hb
      refine hkb i hi b ?_
      unfold kLi
      rw [cif_f w]
      exact hb
  have howL : ∀ i, i < its.length → (ownL N D fks its A H (3 + indN (rcB N D its A H)) gl (rml A H (fxd A P r g0) e gl k) i).length ≤ B + 4 := fun i hi => by
    rw [own_len (hfb i hi)]
    by_cases w : isDr D its i
    · rw [cif_t w]
      have := hfle i hi
      rw [show bbN fks D its i = flB fks its i from cif_t w] at this
      omega
    · rw [cif_f w]
      have := hfb i hi w
      have := Nat.mul_le_mul_right H (ht.2.2.2.2.2.2.1 i hi).1
      omega
  have h3A := hA.1
  refine ⟨hBN, hrm, fun b hb => by have := hrb b hb; omega, hbd, ?_, ?_, fun i hi => ⟨hfle i hi, ?_, howL i hi, howB i hi⟩, ?_, fun b hb => ?_⟩
  · have e1 : k * (2 * H) = 2 * (k * H) := by rw [Nat.mul_comm 2 H, ← Nat.mul_assoc, Nat.mul_comm]
    omega
  · omega
  · rw [own_len (hfb i hi)]
    have := hend i hi
    omega
  · rw [recL_len (by omega)]; exact q1
  · unfold recL at hb
    rcases List.mem_append.mp hb with y | y
    · rcases List.mem_append.mp y with z | z
      · exact hrF 0 3 (by omega) b z
      · have := (blk_mem _ _).mp z
        omega
    · have key : ∀ n, n ≤ its.length → b ∈ rcD N D its A H gl n → ∃ i, i < n ∧ b ∈ kLi N D its A H gl i := by
        intro n
        induction n with
        | zero => intro _ h; cases h
        | succ n ih =>
          intro hn h
          rw [rcD] at h
          rcases List.mem_append.mp h with z | z
          · obtain ⟨i, i1, i2⟩ := ih (by omega) z
            exact ⟨i, by omega, i2⟩
          · by_cases w : isDr D its n
            · rw [cif_t w] at z
              refine ⟨n, by omega, ?_⟩
              unfold kLi
              rw [cif_t w]
              exact z
            · rw [cif_f w] at z; cases z
      obtain ⟨i, i1, i2⟩ := key _ (Nat.le_refl _) y
      exact hkb i i1 b i2
theorem rn_own {K N i : Nat} {D : Nat → Int32} {mp : Nat → Nat} {fks : List Nat} {its : List It} {A H k B P g0 r to : Nat} {gl e : Nat → Nat} {G : CG} {S : CS} {E B1 f : Nat → Int32} {p : Option Nat} {x : Int32} (hK : 20000 ≤ K) (h : rnC N D mp fks its A H k B P g0 r to gl e G S) (hi : i < its.length) : ∃ f', arr f' (ownL N D fks its A H (3 + indN (rcB N D its A H)) gl (rml A H (fxd A P r g0) e gl k) i) ∧ f_Pl_gather K G (tS S E p B1 f x) (nI i) = some (tS S E p B1 f' (nI (ownL N D fks its A H (3 + indN (rcB N D its A H)) gl (rml A H (fxd A P r g0) e gl k) i).length)) ∧ f_Pl_firstIndirect K G (tS S E p B1 f' (nI (ownL N D fks its A H (3 + indN (rcB N D its A H)) gl (rml A H (fxd A P r g0) e gl k) i).length)) (nI i) = some (nI (fiN fks D its (3 + indN (rcB N D its A H)) i), tS S E p B1 f' (nI (ownL N D fks its A H (3 + indN (rcB N D its A H)) gl (rml A H (fxd A P r g0) e gl k) i).length)) := by
  have hst := rn_st h
  obtain ⟨⟨hL, ht, hU, hP, hrm, hfx, hw⟩, -, hc, -⟩ := h
  have hAk := hU.1.2.2.2.2.2.2.2
  have hfb := hU.2.2.2.2.2.1
  have hlen := ht.2.2.2.1.2.1
  obtain ⟨f1, a1, a2⟩ := qC_gatherO (K := K) (S := tS S E p B1 f x) hK hL ht hAk hrm hw (fun j hj => (hst.2.2.2.2.2.2.1 j hj).1) hi
  refine ⟨f1, a1, a2, ?_⟩
  obtain ⟨S3, eS3⟩ : ∃ S3, tS S E p B1 f1 (nI (ownL N D fks its A H (3 + indN (rcB N D its A H)) gl (rml A H (fxd A P r g0) e gl k) i).length) = S3 := ⟨_, rfl⟩
  have ht3 : trC N D mp fks its k e G S3 := by rw [← eS3]; exact ht
  have hw3 : S3.w_Tr_built i = nI (boN fks D its (3 + indN (rcB N D its A H)) i) := by rw [← eS3]; exact (hw i hi).1
  have hl3 : S3.v_Pl_listed = nI (ownL N D fks its A H (3 + indN (rcB N D its A H)) gl (rml A H (fxd A P r g0) e gl k) i).length := by rw [← eS3]; rfl
  rw [eS3]
  unfold f_Pl_firstIndirect fiN
  rw [if_neg (nI_nm1 (by omega)), qC_isDir ht3.1 ht3.2.1 ht3.2.2.1 hi, q_c, tu_built ht3 hi hw3, q_c, q_c, hl3, own_len (hfb i hi), nI_add]
  by_cases w : isDr D its i
  · rw [b01_t w, if_neg (show ¬ nI 1 = 0 by decide), cif_t w, show bbN fks D its i = flB fks its i from cif_t w]
  · rw [b01_f w, if_pos (show nI 0 = 0 from rfl), show bbN fks D its i = 0 from cif_f w, Nat.add_zero]
/-- what is built for the owners from i on -/
noncomputable def owF (N : Nat) (D : Nat → Int32) (fks : List Nat) (its : List It) (A H b0 : Nat) (gl : Nat → Nat) (rm : List Nat) : Nat → Nat → List Wr
  | 0, _ => []
  | n + 1, i => cif (isDr D its i) (dwG D fks its i rm (eNo fks its i) 0 Zd 0 0 (boN fks D its b0 i)) [] ++ (inW rm (fiN fks D its b0 i) (ownL N D fks its A H b0 gl rm i) (indN (ownL N D fks its A H b0 gl rm i).length) ++ owF N D fks its A H b0 gl rm n (i + 1))
def mrkX (P r : Nat) : Nat → Int32 := st (st (st Zd 0 1314018644 4) 4 P 4) 8 (8 * r) 4
theorem tu_mark {K N : Nat} {D : Nat → Int32} {mp : Nat → Nat} {fks : List Nat} {its : List It} {A H k B P g0 r to : Nat} {gl e : Nat → Nat} {G : CG} {S : CS} {E B1 f : Nat → Int32} {p : Option Nat} {x : Int32} (h : rnC N D mp fks its A H k B P g0 r to gl e G S) (hb : byt (tS S E p B1 f x)) (hp : pOk p) : tuO S (f_Tu_prepare_109 K G (tS S E p B1 f x)) p [(7, mrkX P r)] E := by
  obtain ⟨⟨hL, ht, hU, hP, hrm, hfx, hw⟩, -, hc, hino⟩ := h
  have hN1 := hc.2.1
  have hr := hU.1.2.2.2.2.2.2.1
  have hPP := hU.1.2.2.2.2.1
  have e1 := tu_em (K := K) (G := G) (S := S) (E := E) (B := B1) (f := f) (p := p) (x := x)
  have b1 := b_Tu_empty (K := K) (G := G) hb _ e1
  have e2 := tu_p4 (K := K) (G := G) (S := S) (E := E) (B := zB B1) (f := f) (p := p) (x := x) (q := 0) (a := 1314018644) (by omega) (by decide)
  have b2 := b_Tu_putFour (K := K) (G := G) b1 _ e2
  have e3 := tu_p4 (K := K) (G := G) (S := S) (E := E) (B := st (zB B1) 0 1314018644 4) (f := f) (p := p) (x := x) (q := 4) (a := P) (by omega) (by omega)
  have b3 := b_Tu_putFour (K := K) (G := G) b2 _ e3
  have e4 := tu_p4 (K := K) (G := G) (S := S) (E := E) (B := st (st (zB B1) 0 1314018644 4) 4 P 4) (f := f) (p := p) (x := x) (q := 8) (a := 8 * r) (by omega) (by omega)
  have b4 := b_Tu_putFour (K := K) (G := G) b3 _ e4
  obtain ⟨E', c1, c2, c3⟩ := tu_store (K := K) (s := 7) (a := 0) (Y := mrkX P r) hc (by omega) (by decide) b4 hp (fun j hj => by rw [Nat.zero_add]; exact st_ag (st_ag (st_ag (zB_Zd (by omega)))))
  unfold f_Tu_prepare_109
  rw [e1, q_b, show (0 : Int32) = nI 0 from rfl, show (1314018644 : Int32) = nI 1314018644 from rfl, e2, q_b]
  rw [show (tS S E p (st (zB B1) 0 1314018644 4) f x).v_Pl_size = nI P from hP.2.2.2.2.1, show (4 : Int32) = nI 4 from rfl, e3, q_b]
  rw [show (tS S E p (st (st (zB B1) 0 1314018644 4) 4 P 4) f x).v_Pl_inodes = nI (8 * r) from hino, show (8 : Int32) = nI 8 from rfl, e4, q_b, show (7 : Int32) = nI 7 from rfl, c1, q_b]
  refine ⟨E', st (st (st (zB B1) 0 1314018644 4) 4 P 4) 8 (8 * r) 4, f, x, ?_, c2, ?_⟩
  · rw [List.length_singleton, pR_1]
  · rw [List.length_singleton, pR_1]; exact c3
theorem tu_prep61 {K N : Nat} {D : Nat → Int32} {mp : Nat → Nat} {fks : List Nat} {its : List It} {A H k B P g0 r to : Nat} {gl e : Nat → Nat} {G : CG} {S : CS} (hK : 20000 ≤ K) (h : rnC N D mp fks its A H k B P g0 r to gl e G S) : ∀ (n i q : Nat) (E B1 f : Nat → Int32) (p : Option Nat) (x : Int32), i + n = its.length → n < q → byt (tS S E p B1 f x) → pOk p → tuO S (f_Tu_prepare_61 K G q (nI i) (tS S E p B1 f x)) p (owF N D fks its A H (3 + indN (rcB N D its A H)) gl (rml A H (fxd A P r g0) e gl k) n i ++ [(7, mrkX P r)]) E := by
  obtain ⟨s1, s2, s3, s4, s5, s6, s7, s8, s9⟩ := rn_st h
  have hh := h
  obtain ⟨⟨hL, ht, hU, hP, hrm, hfx, hw⟩, hdc, hc, hino⟩ := h
  have hlen := ht.2.2.2.1.2.1
  have hN := hc.2.2.1
  intro n
  induction n with
  | zero =>
    intro i q E B1 f p x e1 e2 hb hp
    obtain ⟨q, rfl⟩ : ∃ m, q = m + 1 := ⟨q - 1, by omega⟩
    rw [f_Tu_prepare_61, show (tS S E p B1 f x).v_Tr_count = nI its.length from ht.2.1.1, if_pos (nI_le (by omega) (by omega))]
    exact tu_mark hh hb hp
  | succ n ih =>
    intro i q E B1 f p x e1 e2 hb hp
    obtain ⟨q, rfl⟩ : ∃ m, q = m + 1 := ⟨q - 1, by omega⟩
    rw [f_Tu_prepare_61, show (tS S E p B1 f x).v_Tr_count = nI its.length from ht.2.1.1, if_neg (nI_ge (by omega) (by omega)), tu_isOn hp, q_c]
    by_cases off : p = some 0
    · rw [b01_f (fun y => y off), if_pos (show nI 0 = 0 from rfl)]
      subst off
      exact tu_off (tu_mark hh hb hp)
    have hi : i < its.length := by omega
    rw [b01_t off, if_neg (show ¬ nI 1 = 0 by decide), qC_isDir (S := tS S E p B1 f x) ht.1 ht.2.1 ht.2.2.1 hi, q_c, owF, List.append_assoc, List.append_assoc]
    have h98 : ∀ (E B1 f : Nat → Int32) (p : Option Nat) (x : Int32), byt (tS S E p B1 f x) → pOk p → tuO S (f_Tu_prepare_98 K G (f_Tu_prepare_61 K G q) (nI i) (tS S E p B1 f x)) p (inW (rml A H (fxd A P r g0) e gl k) (fiN fks D its (3 + indN (rcB N D its A H)) i) (ownL N D fks its A H (3 + indN (rcB N D its A H)) gl (rml A H (fxd A P r g0) e gl k) i) (indN (ownL N D fks its A H (3 + indN (rcB N D its A H)) gl (rml A H (fxd A P r g0) e gl k) i).length) ++ (owF N D fks its A H (3 + indN (rcB N D its A H)) gl (rml A H (fxd A P r g0) e gl k) n (i + 1) ++ [(7, mrkX P r)])) E := fun E B1 f p x hb hp => by
      obtain ⟨f', a1, a2, a3⟩ := rn_own (E := E) (B1 := B1) (f := f) (p := p) (x := x) hK hh hi
      obtain ⟨-, z2, z3, z4⟩ := s7 i hi
      unfold f_Tu_prepare_98
      refine tu_seq (tu_ind (by omega) hc s1 hrm s3 z2 (by omega) (fun b hb => by have := z4 b hb; omega) a1 a2 a3 hb hp) (fun E' B' f'' x' _ c2 => ?_)
      rw [show (1 : Int32) = nI 1 from rfl, nI_add, q_l]
      exact ih (i + 1) q E' B' f'' _ x' (by omega) (by omega) c2 (pR_ok hp _)
    by_cases w : isDr D its i
    · rw [b01_t w, if_neg (show ¬ nI 1 = 0 by decide), cif_t w]
      refine tu_seq (tu_dir hK hc hdc hi w s1 hrm s3 ?_ (hw i hi).1 hb hp) (fun E' B' f'' x' _ c2 => h98 E' B' f'' _ x' c2 (pR_ok hp _))
      have := (s7 i hi).2.1
      unfold fiN at this
      rw [show bbN fks D its i = flB fks its i from cif_t w] at this
      omega
    · rw [b01_f w, if_pos (show nI 0 = 0 from rfl), cif_f w]
      exact h98 E B1 f p x hb hp
/-- all that is written ahead of the mark, and the mark -/
noncomputable def prL (N : Nat) (D : Nat → Int32) (fks : List Nat) (its : List It) (A H k P r : Nat) (gl : Nat → Nat) (rm : List Nat) (Y : Nat → Nat → Nat → Int32) (Ys : Nat → Nat → Int32) : List Wr := mvF A H gl Y k 2 ++ (kpS rm Ys ++ (inW rm 3 (recL N D its A H gl rm) (indN (recL N D its A H gl rm).length) ++ (owF N D fks its A H (3 + indN (rcB N D its A H)) gl rm its.length 0 ++ [(7, mrkX P r)])))
theorem tu_prepare {K N : Nat} {D : Nat → Int32} {mp : Nat → Nat} {fks : List Nat} {its : List It} {A H k B P g0 r to : Nat} {gl e : Nat → Nat} {G : CG} {S : CS} {J : (Nat → Int32) → Prop} {Y : Nat → Nat → Nat → Int32} {Ys : Nat → Nat → Int32} (hK : 20000 ≤ K) (h : rnC N D mp fks its A H k B P g0 r to gl e G S) (hJ : jOk J) (hY : ∀ c, 2 ≤ c → c < k + 2 → gl c ≠ 0 → ∀ E, J E → ∀ i, i < 2 * H → ∀ j, j < 512 → o1 E (512 * (sc A H c + i) + j) = o1 (Y c i) j) (hw : ∀ c, 2 ≤ c → c < k + 2 → gl c ≠ 0 → ∀ E i, i < 2 * H → J E → J (wS E (sc A H (gl c) + i) (Y c i) 0)) (hYs : ∀ E, J E → ∀ s, s < 8 → ∀ j, j < 512 → o1 E (512 * s + j) = o1 (Ys s) j) (hws : ∀ E, J E → ∀ w ∈ kpS (rml A H (fxd A P r g0) e gl k) Ys, J (wS E w.1 w.2 0)) {E B1 f : Nat → Int32} {p : Option Nat} {x : Int32} (hE : J E) (hb : byt (tS S E p B1 f x)) (hp : pOk p) : tuO S (f_Tu_prepare K G (tS S E p B1 f x)) p (prL N D fks its A H k P r gl (rml A H (fxd A P r g0) e gl k) Y Ys) E := by
  obtain ⟨s1, s2, s3, s4, s5, s6, s7, s8, s9⟩ := rn_st h
  have hh := h
  obtain ⟨⟨hL, ht, hU, hP, hrm, hfx, hw0⟩, hdc, hc, hino⟩ := h
  have hlen := ht.2.2.2.1.2.1
  have hk5 := hL.1.2.2.1
  have hN := hc.2.2.1
  have hAk := hU.1.2.2.2.2.2.2.2
  unfold f_Tu_prepare prL
  refine tu_prep2 (by omega) hc hL s5 hJ hY hw (fun E B1 f p x hE hb hp => ?_) k 2 K E B1 f p x (by omega) (by omega) (by omega) hE hb hp
  unfold f_Tu_prepare_55
  refine tu_keep hc s1 hrm (by omega) s3 hJ hYs hws (fun E B1 f p x _ hb hp => ?_) hE hb hp
  obtain ⟨K', eK⟩ : ∃ m, K = m + 1 := ⟨K - 1, by omega⟩
  have hgo : f_Tu_prepare_61 K G K (-1) (tS S E p B1 f x) = f_Tu_prepare_61 K G (K' + 1) (-1) (tS S E p B1 f x) := by rw [← eK]
  show tuO S (f_Tu_prepare_61 K G K (-1) (tS S E p B1 f x)) _ _ _
  rw [hgo, f_Tu_prepare_61, show (tS S E p B1 f x).v_Tr_count = nI its.length from ht.2.1.1, if_neg (nI_nleM (by omega)), tu_isOn hp, q_c]
  by_cases off : p = some 0
  · rw [b01_f (fun y => y off), if_pos (show nI 0 = 0 from rfl)]
    subst off
    exact tu_off (tu_off (tu_mark hh hb hp))
  rw [b01_t off, if_neg (show ¬ nI 1 = 0 by decide), qC_isDirR, q_c, if_pos rfl]
  unfold f_Tu_prepare_98
  obtain ⟨f', a1, a2⟩ := qC_gatherR (K := K) (S := tS S E p B1 f x) hK hL ht hAk hrm
  have a2 : f_Pl_gather K G (tS S E p B1 f x) (-1) = some (tS S E p B1 f' (nI (recL N D its A H gl (rml A H (fxd A P r g0) e gl k)).length)) := a2
  have hrl : (recL N D its A H gl (rml A H (fxd A P r g0) e gl k)).length = rcB N D its A H := recL_len (by have := hL.1.1; omega)
  refine tu_seq (tu_ind (fi := 3) (by omega) hc s1 hrm s3 (by rw [hrl]; exact s6) (by omega) (fun b hb => by have := s9 b hb; omega) a1 a2 (by unfold f_Pl_firstIndirect; rw [if_pos rfl]; rfl) hb hp) (fun E' B' f'' x' _ c2 => ?_)
  rw [show (-1 : Int32) + 1 = nI 0 from rfl, q_l]
  exact tu_prep61 hK hh its.length 0 K' E' B' f'' _ x' (by omega) (by omega) c2 (pR_ok hp _)
