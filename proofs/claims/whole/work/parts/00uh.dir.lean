/-! A directory's blocks. -/
def nbX (Z : Nat → Int32) (p : Nat) (nb : Nat → Nat) : Nat → Nat → Int32
  | 0 => Z
  | i + 1 => st (nbX Z p nb i) (p + i) (nb i) 1
theorem nbX_ag {Z Z' : Nat → Int32} {p q : Nat} {nb : Nat → Nat} (h : o1 Z q = o1 Z' q) : ∀ i, o1 (nbX Z p nb i) q = o1 (nbX Z' p nb i) q := by
  intro i
  induction i with
  | zero => exact h
  | succ i ih => exact st_ag ih
/-- an entry without its length -/
def enY (Z : Nat → Int32) (at0 no n kd : Nat) (nb : Nat → Nat) : Nat → Int32 := nbX (st (st (st Z at0 no 4) (at0 + 6) n 1) (at0 + 7) kd 1) (at0 + 8) nb n
def enX (Z : Nat → Int32) (at0 no n kd : Nat) (nb : Nat → Nat) (len : Nat) : Nat → Int32 := st (enY Z at0 no n kd nb) (at0 + 4) len 2
theorem enX_ag {Z Z' : Nat → Int32} {at0 no n kd len q : Nat} {nb : Nat → Nat} (h : o1 Z q = o1 Z' q) : o1 (enX Z at0 no n kd nb len) q = o1 (enX Z' at0 no n kd nb len) q := st_ag (nbX_ag (st_ag (st_ag (st_ag h))) _)
def nmr (x : Nat) : Nat := if x = 0 then 2 else 11 + x
def nbV (l : List Nat) (q : Nat) : Nat := (nbL l q).getD 0
theorem nbL_some : ∀ (l : List Nat) (q : Nat), q < tsz l → nbL l q = some (nbV l q) := by
  intro l
  induction l with
  | nil => intro q h; exact absurd h (Nat.not_lt_zero _)
  | cons u l ih =>
    intro q h
    have e : tsz (u :: l) = widN u + tsz l := by unfold tsz; simp
    rw [e] at h
    unfold nbV
    rw [nbL]
    by_cases g : q < widN u
    · rw [if_pos g]; rfl
    · rw [if_neg g, ih _ (by omega)]; rfl
abbrev isK (fks : List Nat) (its : List It) (i e : Nat) : Prop := e - 2 < kcI fks its.length i
def eNu (fks : List Nat) (its : List It) (i e : Nat) : Nat := if e = 0 then nmr i else if e = 1 then nmr (ipa (itr its i)) else if isK fks its i e then nmr (fkI fks i + (e - 2)) else 11
noncomputable def eKd (D : Nat → Int32) (fks : List Nat) (its : List It) (i e : Nat) : Nat := if e < 2 then 2 else if isK fks its i e then cif (isDr D its (fkI fks i + (e - 2))) 2 1 else 1
def eNb (fks : List Nat) (its : List It) (i e q : Nat) : Nat := if e < 2 then 46 else if isK fks its i e then nbV (inm (itr its (fkI fks i + (e - 2)))) q else rcN.getD q 0
noncomputable def enD (D : Nat → Int32) (fks : List Nat) (its : List It) (i e : Nat) (Z : Nat → Int32) (at0 : Nat) : Nat → Int32 := enX Z at0 (eNu fks its i e) (eSz fks its i e) (eKd D fks its i e) (eNb fks its i e) (elN (eSz fks its i e))
theorem qC_isDirR {K : Nat} {G : CG} {S : CS} : f_Tr_isDirectory K G S (-1) = some (0, S) := by
  unfold f_Tr_isDirectory f_Tr_has
  rw [if_pos (by decide)]
  rfl
theorem tu_p1 {K q a : Nat} {G : CG} {S : CS} {E B f : Nat → Int32} {p : Option Nat} {x : Int32} (hp : q < 1024) : f_Tu_putOne K G (tS S E p B f x) (nI q) (nI a) = some (tS S E p (st B q a 1) f x) := qU_1 hp
theorem tu_p2 {K q a : Nat} {G : CG} {S : CS} {E B f : Nat → Int32} {p : Option Nat} {x : Int32} (hp : q + 1 < 1024) (ha0 : a < 2 ^ 32) : f_Tu_putTwo K G (tS S E p B f x) (nI q) (nI a) = some (tS S E p (st B q a 2) f x) := qU_2 hp ha0
theorem tu_p4 {K q a : Nat} {G : CG} {S : CS} {E B f : Nat → Int32} {p : Option Nat} {x : Int32} (hp : q + 3 < 1024) (ha0 : a < 2 ^ 32) : f_Tu_putFour K G (tS S E p B f x) (nI q) (nI a) = some (tS S E p (st B q a 4) f x) := qU_4 hp ha0
theorem tu_em {K : Nat} {G : CG} {S : CS} {E B f : Nat → Int32} {p : Option Nat} {x : Int32} : f_Tu_empty K G (tS S E p B f x) = some (tS S E p (zB B) f x) := rfl
theorem nbX_0 {Z : Nat → Int32} {p : Nat} {nb : Nat → Nat} : nbX Z p nb 0 = Z := rfl
abbrev drC (N : Nat) (D : Nat → Int32) (mp : Nat → Nat) (fks : List Nat) (its : List It) (k : Nat) (e : Nat → Nat) (G : CG) (S : CS) : Prop := trC N D mp fks its k e G S ∧ (uns its).length ≤ G.l_pool ∧ ∀ i, i < its.length → isDr D its i → ipa (itr its i) < its.length ∧ isDr D its (ipa (itr its i))
theorem tu_pe142 {K N k0 i e : Nat} {D : Nat → Int32} {mp : Nat → Nat} {fks : List Nat} {its : List It} {en : Nat → Nat} {G : CG} {S : CS} {E f : Nat → Int32} {p : Option Nat} {x : Int32} (hK : 1000 ≤ K) (h : drC N D mp fks its k0 en G S) (hi : i < its.length) (hd : isDr D its i) (he : e < eNo fks its i) {at0 : Nat} (hat : at0 + 8 + eSz fks its i e ≤ 1024) {Z : Nat → Int32} {kid : Int32} (hkid : 2 ≤ e → isK fks its i e → kid = nI (fkI fks i + (e - 2))) : ∀ (d q w : Nat), q + d = eSz fks its i e → d < w → f_Tu_putEntry_142 K G w (nI at0) (nI e) (b01 (2 ≤ e ∧ isK fks its i e)) kid (nI (eSz fks its i e)) (nI q) (tS S E p (nbX Z (at0 + 8) (eNb fks its i e) q) f x) = some (tS S E p (nbX Z (at0 + 8) (eNb fks its i e) (eSz fks its i e)) f x) := by
  obtain ⟨ht, hpl, hpa⟩ := h
  have hkd := ht.2.2.2.2.2.1.1
  have hfl := ht.2.2.2.2.2.1.2
  have hlen := ht.2.2.2.1.2.1
  have heN : e < 5000 := by
    have : kcI fks its.length i ≤ 4200 := by
      unfold kcI
      have := (hkd i (by rw [hfl]; exact hi)).2.2.1
      omega
    unfold eNo at he
    split at he <;> omega
  intro d
  induction d with
  | zero =>
    intro q w e1 e2
    obtain ⟨w, rfl⟩ : ∃ m, w = m + 1 := ⟨w - 1, by omega⟩
    rw [f_Tu_putEntry_142, if_pos (nI_le (by omega) (by omega)), ← e1]
    rfl
  | succ d ih =>
    intro q w e1 e2
    obtain ⟨w, rfl⟩ : ∃ m, w = m + 1 := ⟨w - 1, by omega⟩
    have hput : ∀ a, a = eNb fks its i e q → f_Tu_putEntry_199 K G (f_Tu_putEntry_142 K G w) (nI at0) (nI e) (b01 (2 ≤ e ∧ isK fks its i e)) kid (nI (eSz fks its i e)) (nI q) (nI a) (tS S E p (nbX Z (at0 + 8) (eNb fks its i e) q) f x) = some (tS S E p (nbX Z (at0 + 8) (eNb fks its i e) (eSz fks its i e)) f x) := fun a ha0 => by
      unfold f_Tu_putEntry_199
      rw [show (8 : Int32) = nI 8 from rfl, nI_add, nI_add, tu_p1 (by omega), q_b, show (1 : Int32) = nI 1 from rfl, nI_add, q_l, ha0]
      exact ih (q + 1) w (by omega) (by omega)
    rw [f_Tu_putEntry_142, if_neg (nI_ge (by omega) (by omega))]
    by_cases g : 2 ≤ e
    · rw [if_pos (show (2 : Int32) ≤ nI e from nI_le (a := 2) (by omega) (by omega))]
      by_cases g2 : isK fks its i e
      · rw [b01_t ⟨g, g2⟩, if_neg (show ¬ nI 1 = 0 by decide), hkid g g2]
        have hsz : eSz fks its i e = tsz (inm (itr its (fkI fks i + (e - 2)))) := by unfold eSz; rw [if_neg (by omega), if_pos g2]
        have hk1 := hkd i (by rw [hfl]; exact hi)
        have hj : fkI fks i + (e - 2) < its.length := by
          have : e - 2 < fks.getD (i + 1) its.length - fks.getD i 0 := g2
          have e0 : fkI fks i = fks.getD i 0 := rfl
          have := hk1.2.2.1
          omega
        rw [qC_nameByte (S := tS S E p (nbX Z (at0 + 8) (eNb fks its i e) q) f x) hK ht.1 ht.2.1 ht.2.2.2.1 ht.2.2.1 hpl (by have := hk1.1; omega) hj, q_c, if_neg (nI_pos (by omega)), nI_clamp (by omega), nbL_some _ _ (by omega)]
        rw [← hkid g g2, ← b01_t (show 2 ≤ e ∧ isK fks its i e from ⟨g, g2⟩)]
        refine hput _ ?_
        unfold eNb
        rw [if_neg (by omega), if_pos g2]
      · rw [b01_f (fun y => g2 y.2), if_pos (show nI 0 = 0 from rfl)]
        have hsz : eSz fks its i e = 7 := by unfold eSz; rw [if_neg (by omega), if_neg g2]
        rw [if_neg (show ¬ (7 : Int32) ≤ nI q from nI_ge (b := 7) (by omega) (by omega)), rcN_at (by omega), q_b]
        rw [← b01_f (show ¬ (2 ≤ e ∧ isK fks its i e) from fun y => g2 y.2)]
        refine hput _ ?_
        unfold eNb
        rw [if_neg (by omega), if_neg g2]
    · rw [if_neg (show ¬ (2 : Int32) ≤ nI e from nI_ge (b := 2) (by omega) (by omega))]
      refine hput 46 ?_
      unfold eNb
      rw [if_pos (by omega)]
theorem tu_pe101 {K N k0 i e no kd : Nat} {D : Nat → Int32} {mp : Nat → Nat} {fks : List Nat} {its : List It} {en : Nat → Nat} {G : CG} {S : CS} {E f B : Nat → Int32} {p : Option Nat} {x kid : Int32} (hK : 2000 ≤ K) (hh : drC N D mp fks its k0 en G S) (hi : i < its.length) (hd : isDr D its i) (he : e < eNo fks its i) {at0 : Nat} (hat : at0 + 8 + eSz fks its i e ≤ 1024) (h1 : no < 2 ^ 31) (h2 : no = eNu fks its i e) (h3 : kd = eKd D fks its i e) (h4 : 2 ≤ e → isK fks its i e → kid = nI (fkI fks i + (e - 2))) (h5 : ∀ B, f_Tr_isDirectory K G (tS S E p B f x) kid = some (nI (kd - 1), tS S E p B f x)) (h6 : kd = 1 ∨ kd = 2) : f_Tu_putEntry_101 K G (nI at0) (nI e) (b01 (2 ≤ e ∧ isK fks its i e)) kid (nI (eSz fks its i e)) (nI at0) (nI no) (tS S E p B f x) = some (tS S E p (enY B at0 (eNu fks its i e) (eSz fks its i e) (eKd D fks its i e) (eNb fks its i e)) f x) := by
  unfold f_Tu_putEntry_101 f_Tu_putEntry_136
  rw [tu_p4 (by omega) (by omega), q_b, show (6 : Int32) = nI 6 from rfl, nI_add, tu_p1 (by omega), q_b, h5, q_c, show (7 : Int32) = nI 7 from rfl, nI_add]
  have fin := fun Z => tu_pe142 (K := K) (E := E) (f := f) (p := p) (x := x) (Z := Z) (by omega) hh hi hd he hat h4 (eSz fks its i e) 0 K (by omega) (by omega)
  simp only [nbX_0] at fin
  unfold enY
  rcases h6 with g | g
  · rw [g, if_pos (show nI (1 - 1) = 0 from rfl), show (1 : Int32) = nI 1 from rfl, tu_p1 (by omega), q_b, ← h2, ← h3, g]
    exact fin (st (st (st B at0 no 4) (at0 + 6) (eSz fks its i e) 1) (at0 + 7) 1 1)
  · rw [g, if_neg (show ¬ nI (2 - 1) = 0 by decide), show (2 : Int32) = nI 2 from rfl, tu_p1 (by omega), q_b, ← h2, ← h3, g]
    exact fin (st (st (st B at0 no 4) (at0 + 6) (eSz fks its i e) 1) (at0 + 7) 2 1)
theorem tu_entry {K N k0 i e : Nat} {D : Nat → Int32} {mp : Nat → Nat} {fks : List Nat} {its : List It} {en : Nat → Nat} {G : CG} {S : CS} {E f B : Nat → Int32} {p : Option Nat} {x : Int32} (hK : 2000 ≤ K) (h : drC N D mp fks its k0 en G S) (hi : i < its.length) (hd : isDr D its i) (he : e < eNo fks its i) {at0 : Nat} (hat : at0 + 8 + eSz fks its i e ≤ 1024) : f_Tu_putEntry K G (tS S E p B f x) (nI at0) (nI i) (nI e) = some (tS S E p (enY B at0 (eNu fks its i e) (eSz fks its i e) (eKd D fks its i e) (eNb fks its i e)) f x) := by
  have hh := h
  obtain ⟨ht, hpl, hpa⟩ := h
  have hkd := ht.2.2.2.2.2.1.1
  have hfl := ht.2.2.2.2.2.1.2
  have hlen := ht.2.2.2.1.2.1
  have hk1 := hkd i (by rw [hfl]; exact hi)
  have hkc : kcI fks its.length i ≤ 4200 := by unfold kcI; omega
  have heN : e < 5000 := by
    unfold eNo at he
    split at he <;> omega
  have hns : ∀ B, f_Pl_nameSize K G (tS S E p B f x) (nI i) (nI e) = some (nI (eSz fks its i e), tS S E p B f x) := fun B => (qC_entries (S := tS S E p B f x) ht hi hd).2 e he
  have h101 := fun (no kd : Nat) (kid : Int32) => tu_pe101 (K := K) (E := E) (f := f) (p := p) (x := x) (B := B) (no := no) (kd := kd) (kid := kid) hK hh hi hd he hat
  have hino : ∀ j, j < its.length → f_Tu_inodeOf K (nI j) = some (nI (nmr j)) := fun j hj => by
    unfold f_Tu_inodeOf nmr
    by_cases g : j = 0
    · rw [g, if_pos (show nI 0 = 0 from rfl), if_pos rfl]; rfl
    · rw [if_neg (nI_ne0 (by omega) (by omega)), if_neg g, show (11 : Int32) = nI 11 from rfl, nI_add]
  have hdi : ∀ j, j < its.length → ∀ B, f_Tr_isDirectory K G (tS S E p B f x) (nI j) = some (b01 (isDr D its j), tS S E p B f x) := fun j hj B => qC_isDir ht.1 (S := tS S E p B f x) ht.2.1 ht.2.2.1 hj
  have nmr_lt : ∀ j, j < its.length → nmr j < 2 ^ 31 := fun j hj => by unfold nmr; split <;> omega
  unfold f_Tu_putEntry f_Tu_putEntry_23
  by_cases g : 2 ≤ e
  · rw [if_neg (show ¬ nI e < 2 from nI_nlt (b := 2) (by omega) (by omega)), qC_cnt (S := tS S E p B f x) ht hi, q_c, show (2 : Int32) = nI 2 from rfl, pk_sub (by omega)]
    unfold f_Tu_putEntry_24 f_Tu_putEntry_70
    rw [if_neg (show ¬ nI e = 0 from nI_ne0 (by omega) (by omega)), if_neg (show ¬ nI e = 1 from fun y => by have := (nI_eq (b := 1) (by omega) (by decide)).mp y; omega), if_neg (show ¬ nI e = 0 from nI_ne0 (by omega) (by omega)), if_neg (show ¬ nI e = 1 from fun y => by have := (nI_eq (b := 1) (by omega) (by decide)).mp y; omega)]
    by_cases g2 : isK fks its i e
    · have hj : fkI fks i + (e - 2) < its.length := by
        have g3 : e - 2 < fks.getD (i + 1) its.length - fks.getD i 0 := g2
        have e0 : fkI fks i = fks.getD i 0 := rfl
        omega
      rw [if_neg (nI_ge g2 (by omega)), if_neg (show ¬ (1 : Int32) = 0 by decide), show nI e - 2 = nI (e - 2) from pk_sub (b := 2) (by omega), qC_kd (S := tS S E p B f x) ht hi hd, q_c, hns, q_c, if_neg (nI_nm1 (by omega)), hino _ hj, q_b]
      have := h101 (nmr (fkI fks i + (e - 2))) (eKd D fks its i e) (nI (fkI fks i + (e - 2))) (nmr_lt _ hj) (by unfold eNu; rw [if_neg (by omega), if_neg (by omega), if_pos g2]) rfl (fun _ _ => rfl) (fun B => by
        rw [hdi _ hj]
        unfold eKd
        rw [if_neg (by omega), if_pos g2]
        by_cases w : isDr D its (fkI fks i + (e - 2))
        · rw [b01_t w, cif_t w]
        · rw [b01_f w, cif_f w]) (by
        unfold eKd
        rw [if_neg (by omega), if_pos g2]
        by_cases w : isDr D its (fkI fks i + (e - 2))
        · rw [cif_t w]; exact Or.inr rfl
        · rw [cif_f w]; exact Or.inl rfl)
      rw [b01_t ⟨g, g2⟩] at this
      exact this
    · have hle : kcI fks its.length i ≤ e - 2 := Nat.le_of_not_lt g2
      rw [if_pos (nI_le hle (by omega)), if_pos rfl, hns, q_c, if_pos rfl]
      have := h101 11 1 (-1) (by decide) (by unfold eNu; rw [if_neg (by omega), if_neg (by omega), if_neg g2]) (by unfold eKd; rw [if_neg (by omega), if_neg g2]) (fun _ y => absurd y g2) (fun B => qC_isDirR) (Or.inl rfl)
      rw [b01_f (fun y => g2 y.2)] at this
      exact this
  · rw [if_pos (show nI e < 2 from nI_lt (b := 2) (by omega) (by omega))]
    unfold f_Tu_putEntry_24 f_Tu_putEntry_70
    rcases (show e = 0 ∨ e = 1 by omega) with w | w
    · rw [w, if_pos (show nI 0 = 0 from rfl), ← w, hns, q_c, if_neg (nI_nm1 (by omega)), hino _ hi, q_b]
      have := h101 (nmr i) 2 (nI i) (nmr_lt _ hi) (by unfold eNu; rw [if_pos w]) (by unfold eKd; rw [if_pos (by omega)]) (fun y => absurd y g) (fun B => by rw [hdi _ hi, b01_t hd]) (Or.inr rfl)
      rw [b01_f (fun y => g y.1)] at this
      exact this
    · obtain ⟨q1, q2⟩ := hpa i hi hd
      rw [w, if_neg (show ¬ nI 1 = 0 by decide), if_pos (show nI 1 = 1 from rfl), qC_parent (S := tS S E p B f x) ht.1 ht.2.1 ht.2.2.1 hi, q_c, ← w, hns, q_c, if_neg (nI_nm1 (by omega)), hino _ q1, q_b]
      have := h101 (nmr (ipa (itr its i))) 2 (nI (ipa (itr its i))) (nmr_lt _ q1) (by unfold eNu; rw [if_neg (by omega), if_pos w]) (by unfold eKd; rw [if_pos (by omega)]) (fun y => absurd y g) (fun B => by rw [hdi _ q1, b01_t q2]) (Or.inr rfl)
      rw [b01_f (fun y => g y.1)] at this
      exact this
