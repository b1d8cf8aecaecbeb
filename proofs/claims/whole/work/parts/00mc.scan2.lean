/-! Dots, the name that parts say, twins. -/
abbrev begI (D : Nat → Int32) (its : List It) (i : Nat) : Nat := if i = 0 then hr D else fc D (isp (itr its i))
def dtP (D : Nat → Int32) (its : List It) (p i s : Nat) : Prop := (∀ q, q < 11 → o1 D (p + q) = (if q ≤ s then 46 else 32)) ∧ o1 D (p + 11) = 16 ∧ fc D p = (if s = 0 then begI D its i else if ipa (itr its i) = 0 then 0 else begI D its (ipa (itr its i)))
theorem hr_lt (D : Nat → Int32) : hr D < 2 ^ 32 := o4_lt D 44
theorem begI_lt (D : Nat → Int32) (its : List It) (i : Nat) : begI D its i < 2 ^ 32 := by
  unfold begI
  split
  · exact hr_lt D
  · exact fc_lt D _
theorem qM_beginOf {K N i : Nat} {D : Nat → Int32} {its : List It} {T : MS} (hD : T.v_disk = D) (hr0 : T.v_root = nI (hr D)) (hN : N ≤ 1024) (hT : rmI its T) (ho : itsOk N its) (hi : i < its.length) : f_Mo_beginOf K T (nI i) = some (nI (begI D its i), T) := by
  obtain ⟨-, -, hI, -⟩ := hT
  obtain ⟨-, o1', -, -, o4'⟩ := ho
  unfold f_Mo_beginOf begI
  by_cases g : i = 0
  · rw [if_pos (by rw [g]; rfl), if_pos g, hr0]
  · rw [if_neg (nI_ne0 (by omega) (by omega)), if_neg g, q_g (q_in (by omega) (by decide)), nI_clamp (by omega), (hI i (by omega) hi).1]
    have := (o4' i (by omega) hi).1
    rw [qM_firstOf hD (by omega), q_c]
theorem qM_isFolder {K N i : Nat} {D : Nat → Int32} {its : List It} {T : MS} (hD : T.v_disk = D) (hN : N ≤ 1024) (hT : rmI its T) (ho : itsOk N its) (hi : i < its.length) : f_Mo_isFolder K T (nI i) = some (b01 (i = 0 ∨ o1 D (isp (itr its i) + 11) / 16 % 2 = 1), T) := by
  obtain ⟨-, -, hI, -⟩ := hT
  obtain ⟨-, o1', -, -, o4'⟩ := ho
  unfold f_Mo_isFolder f_Mo_isFolder_23
  by_cases g : i = 0
  · rw [if_pos (by rw [g]; rfl), b01_t (Or.inl g)]; rfl
  · rw [if_neg (nI_ne0 (by omega) (by omega)), q_g (q_in (by omega) (by decide)), nI_clamp (by omega), (hI i (by omega) hi).1]
    have h1 := (o4' i (by omega) hi).1
    have h2 := o1_lt D (isp (itr its i) + 11)
    rw [show (11 : Int32) = nI 11 from rfl, nI_add, rM1 D hD (by omega), q_c, show (16 : Int32) = nI 16 from rfl, q_and]
    generalize o1 D (isp (itr its i) + 11) = r at *
    have e : r &&& 16 = 16 * (r / 16 % 2) := by
      have : ∀ r : Fin 256, r.val &&& 16 = 16 * (r.val / 16 % 2) := by decide +kernel
      exact this ⟨r, h2⟩
    rw [e]
    by_cases z : r / 16 % 2 = 1
    · rw [b01_t (Or.inr z), z, if_neg (by decide)]; rfl
    · rw [b01_f (fun y => by omega), show r / 16 % 2 = 0 by omega, if_pos (by decide)]; rfl
theorem qM_dots {K N p i s : Nat} {D : Nat → Int32} {its : List It} {T : MS} (hK : 1000 ≤ K) (hD : T.v_disk = D) (hr0 : T.v_root = nI (hr D)) (hN : N ≤ 1024) (hT : rmI its T) (ho : itsOk N its) (hp : p + 31 < 524288) (hi0 : 1 ≤ i) (hi : i < its.length) (hs : s < 2) : f_Mo_dots K T (nI p) (nI i) (nI s) = some (b01 (dtP D its p i s), T) := by
  have hO := ho
  have hTT := hT
  obtain ⟨-, -, hI, -⟩ := hT
  obtain ⟨-, o1', -, -, o4'⟩ := ho
  have ht : f_Mo_dots_3 K 1 (nI p) (nI i) (nI s) (nI 11) T = f_Mo_dots_3 K 1 (nI p) (nI i) (nI s) (nI 11) T := rfl
  have fin : ∀ k, f_Mo_dots_3 K (k + 1) (nI p) (nI i) (nI s) (nI 11) T = some (b01 (o1 D (p + 11) = 16 ∧ fc D p = (if s = 0 then begI D its i else if ipa (itr its i) = 0 then 0 else begI D its (ipa (itr its i)))), T) := by
    intro k
    have h11 := o1_lt D (p + 11)
    have hf := fc_lt D p
    rw [f_Mo_dots_3, if_pos (by decide), show (11 : Int32) = nI 11 from rfl, nI_add, rM1 D hD (by omega), q_c]
    unfold f_Mo_dots_102 f_Mo_dots_95
    by_cases g : o1 D (p + 11) = 16
    · rw [if_pos (by rw [g]; rfl), qM_firstOf hD (by omega), q_c]
      have last : ∀ z : Nat, z < 2 ^ 32 → (if nI (fc D p) = nI z then some ((1 : Int32), T) else some (0, T)) = some (b01 (o1 D (p + 11) = 16 ∧ fc D p = z), T) := by
        intro z hz
        by_cases e : fc D p = z
        · rw [if_pos (by rw [e]), b01_t ⟨g, e⟩]; rfl
        · rw [if_neg (fun y => e ((q_eqW hf hz).mp y)), b01_f (fun y => e y.2)]; rfl
      by_cases e : s = 0
      · rw [if_pos (by rw [e]; rfl), qM_beginOf hD hr0 hN hTT hO hi, q_c, if_pos e]
        exact last _ (begI_lt D its i)
      · have hin : lf_in (nI i) 4200 := q_in (by omega) (by decide)
        have hcl : (nI i).toNatClampNeg = i := nI_clamp (by omega)
        have hpa := (hI i hi0 hi).2.2.2.1
        have hpl := (o4' i hi0 hi).2.2.2.1
        rw [if_neg (nI_ne0 (by omega) (by omega)), q_g hin, if_neg e, q_g hin, hcl, hpa]
        by_cases y : ipa (itr its i) = 0
        · rw [if_pos (by rw [y]; rfl), if_pos y]
          exact last 0 (by decide)
        · rw [if_neg (nI_ne0 (by omega) (by omega)), if_neg y, qM_beginOf hD hr0 hN hTT hO (by omega), q_c]
          exact last _ (begI_lt D its _)
    · rw [if_neg (fun z : nI (o1 D (p + 11)) = 16 => g ((nI_eq (b := 16) (by omega) (by omega)).mp z)), b01_f (fun z => g z.1)]; rfl
  have step : ∀ q k, q < 11 → f_Mo_dots_3 K (k + 1) (nI p) (nI i) (nI s) (nI q) T = if o1 D (p + q) = (if q ≤ s then 46 else 32) then f_Mo_dots_3 K k (nI p) (nI i) (nI s) (nI (q + 1)) T else some (nI 0, T) := by
    intro q k hq
    have h0 := o1_lt D (p + q)
    rw [f_Mo_dots_3, if_neg (show ¬ 11 ≤ nI q from nI_ge (b := 11) hq (by decide)), nI_add, rM1 D hD (by omega), q_c]
    unfold f_Mo_dots_31
    have c : nI s < nI q ↔ s < q := nI_ltI (by omega) (by omega)
    by_cases g : q ≤ s
    · rw [if_neg (fun z => by have := c.mp z; omega), if_pos g, q_l, nI_1]
      by_cases e : o1 D (p + q) = 46
      · rw [if_pos (by rw [e]; rfl), if_pos e]
      · rw [if_neg (fun z : nI (o1 D (p + q)) = 46 => e ((nI_eq (b := 46) (by omega) (by omega)).mp z)), if_neg e]; rfl
    · rw [if_pos (c.mpr (by omega)), if_neg g, q_l, nI_1]
      by_cases e : o1 D (p + q) = 32
      · rw [if_pos (by rw [e]; rfl), if_pos e]
      · rw [if_neg (fun z : nI (o1 D (p + q)) = 32 => e ((nI_eq (b := 32) (by omega) (by omega)).mp z)), if_neg e]; rfl
  have all : ∀ d q k, q + d = 11 → d < k → f_Mo_dots_3 K k (nI p) (nI i) (nI s) (nI q) T = some (b01 ((∀ j, q ≤ j → j < 11 → o1 D (p + j) = (if j ≤ s then 46 else 32)) ∧ o1 D (p + 11) = 16 ∧ fc D p = (if s = 0 then begI D its i else if ipa (itr its i) = 0 then 0 else begI D its (ipa (itr its i)))), T) := by
    intro d
    induction d with
    | zero =>
      intro q k h1 h2
      obtain ⟨k, rfl⟩ : ∃ m, k = m + 1 := ⟨k - 1, by omega⟩
      obtain rfl : q = 11 := by omega
      rw [fin k]
      congr 2
      exact b01_iff ⟨fun z => ⟨fun j a b => by omega, z⟩, fun z => z.2⟩
    | succ d ih =>
      intro q k h1 h2
      obtain ⟨k, rfl⟩ : ∃ m, k = m + 1 := ⟨k - 1, by omega⟩
      rw [step q k (by omega)]
      by_cases g : o1 D (p + q) = (if q ≤ s then 46 else 32)
      · rw [if_pos g, ih (q + 1) k (by omega) (by omega)]
        congr 2
        refine b01_iff ⟨fun z => ⟨fun j a b => ?_, z.2⟩, fun z => ⟨fun j a b => z.1 j (by omega) b, z.2⟩⟩
        rcases Nat.lt_or_ge q j with y | y
        · exact z.1 j y b
        · obtain rfl : j = q := by omega
          exact g
      · rw [if_neg g, b01_f (fun z => g (z.1 q (Nat.le_refl _) (by omega)))]
  unfold f_Mo_dots
  rw [show (0 : Int32) = nI 0 from rfl, all 11 0 K rfl (by omega)]
  congr 2
  exact b01_iff ⟨fun z => ⟨fun q hq => z.1 q (Nat.zero_le _) hq, z.2⟩, fun z => ⟨fun q _ hq => z.1 q hq, z.2⟩⟩
/-- the units ahead of the first 0 -/
def tw (u : List Nat) : List Nat := u.takeWhile (fun x => x != 0)
theorem tw_pre (u : List Nat) : (tw u).length ≤ u.length ∧ (∀ j, j < (tw u).length → u.getD j 0 = (tw u).getD j 0 ∧ u.getD j 0 ≠ 0) ∧ ((tw u).length < u.length → u.getD (tw u).length 0 = 0) := by
  induction u with
  | nil => exact ⟨Nat.le_refl _, fun j h => absurd h (Nat.not_lt_zero _), fun h => absurd h (Nat.lt_irrefl _)⟩
  | cons a u ih =>
    obtain ⟨h1, h2, h3⟩ := ih
    by_cases g : a = 0
    · have e : tw (a :: u) = [] := by unfold tw; rw [g]; rfl
      rw [e]
      exact ⟨Nat.zero_le _, fun j h => absurd h (Nat.not_lt_zero _), fun _ => g⟩
    · have e : tw (a :: u) = a :: tw u := by
        unfold tw
        rw [List.takeWhile_cons, if_pos (by simp [g])]
      rw [e]
      refine ⟨?_, fun j h => ?_, fun h => ?_⟩
      · simp only [List.length_cons]; omega
      · cases j with
        | zero => exact ⟨rfl, g⟩
        | succ j =>
          simp only [List.length_cons] at h
          exact h2 j (by omega)
      · simp only [List.length_cons] at h
        exact h3 (by omega)
def sdP (u : List Nat) : Prop := (∀ j, (tw u).length < j → j < u.length → u.getD j 0 = 65535) ∧ u.length < (tw u).length + 13 ∧ nmP (tw u)
theorem qM_said {K m : Nat} {T : MS} {us : List Nat} (hK : 1000 ≤ K) (hs : T.v_size = nI us.length) (hm : us.length = 13 * m) (hl : m ≤ 20) (hb : bufR T.v_name us) (hu : ∀ u ∈ us, u < 65536) : f_Mo_said K T = some (b01 (sdP us), T.u_v_size (nI (tw us).length)) := by
  obtain ⟨t1, t2, t3⟩ := tw_pre us
  have hut : ∀ u ∈ tw us, u < 65536 := fun u h => hu u (List.takeWhile_subset _ h)
  -- from the place of the first 0 on
  have p36 : ∀ k j, (tw us).length < j → j ≤ us.length + 1 → us.length + 1 - j < k → f_Mo_said_36 K k (nI us.length) (nI j) (T.u_v_size (nI (tw us).length)) = some (b01 ((∀ i, j ≤ i → i < us.length → us.getD i 0 = 65535) ∧ us.length < (tw us).length + 13 ∧ nmP (tw us)), T.u_v_size (nI (tw us).length)) := by
    intro k
    induction k with
    | zero => intro j h1 h2 h3; omega
    | succ k ih =>
      intro j h1 h2 h3
      rw [f_Mo_said_36]
      by_cases g : us.length ≤ j
      · rw [if_pos (nI_le g (by omega))]
        have e : f_Mo_whole K (T.u_v_size (nI (tw us).length)).v_size 13 = some (nI (((tw us).length + 12) / 13)) := by
          show f_Mo_whole K (nI (tw us).length) 13 = _
          unfold f_Mo_whole
          rw [q_g (by decide), show (13 : Int32) = nI 13 from rfl, show (1 : Int32) = nI 1 from rfl, nI_add, pk_sub (by omega), pk_div (by omega) (by decide) (by decide)]
          rfl
        rw [e, q_b, show (13 : Int32) = nI 13 from rfl, pk_mul]
        by_cases g2 : us.length < (tw us).length + 13
        · have hnm := qM_isName (K := K) (T := T.u_v_size (nI (tw us).length)) (us := tw us) hK rfl (by omega) (fun j hj => by rw [show (T.u_v_size (nI (tw us).length)).v_name = T.v_name from rfl, hb j (by omega), (t2 j hj).1]) hut
          rw [if_pos (by congr 1; omega), b01_of hnm, q_c]
          unfold f_Mo_said_88
          by_cases g3 : nmP (tw us)
          · rw [b01_t g3, if_neg (by decide), b01_t ⟨fun i a b => by omega, g2, g3⟩]; rfl
          · rw [b01_f g3, if_pos (by decide), b01_f (fun z => g3 z.2.2)]; rfl
        · rw [if_neg (fun z => by have := (nI_eq (by omega) (by omega)).mp z; omega), b01_f (fun z => g2 z.2.1)]; rfl
      · rw [if_neg (nI_ge (by omega) (by omega)), q_g (q_in (by omega) (by decide)), nI_clamp (by omega), show (T.u_v_size (nI (tw us).length)).v_name = T.v_name from rfl, hb j (by omega)]
        have hlt : us.getD j 0 < 65536 := getD_lt hu (by decide)
        by_cases g2 : us.getD j 0 = 65535
        · rw [if_pos (by rw [g2]; rfl), q_l, nI_1, ih (j + 1) (by omega) (by omega) (by omega)]
          congr 2
          refine b01_iff ⟨fun z => ⟨fun i a b => ?_, z.2⟩, fun z => ⟨fun i a b => z.1 i (by omega) b, z.2⟩⟩
          rcases Nat.lt_or_ge j i with y | y
          · exact z.1 i y b
          · obtain rfl : i = j := by omega
            exact g2
        · rw [if_neg (fun z : nI (us.getD j 0) = 65535 => g2 ((nI_eq (b := 65535) (by omega) (by omega)).mp z)), b01_f (fun z => g2 (z.1 j (Nat.le_refl _) (by omega)))]; rfl
  have p27 : f_Mo_said_27 K (nI us.length) (nI (tw us).length) T = some (b01 (sdP us), T.u_v_size (nI (tw us).length)) := by
    unfold f_Mo_said_27
    rw [q_l, q_l, nI_1, p36 K ((tw us).length + 1) (by omega) (by omega) (by omega)]
    congr 2
  have p7 : ∀ k j, j ≤ (tw us).length → (tw us).length - j < k → f_Mo_said_7 K k (nI us.length) (nI j) T = some (b01 (sdP us), T.u_v_size (nI (tw us).length)) := by
    intro k
    induction k with
    | zero => intro j h1 h2; omega
    | succ k ih =>
      intro j h1 h2
      rw [f_Mo_said_7]
      by_cases g : us.length ≤ j
      · rw [if_pos (nI_le g (by omega)), show j = (tw us).length by omega, p27]
      · rw [if_neg (nI_ge (by omega) (by omega)), q_g (q_in (by omega) (by decide)), nI_clamp (by omega), hb j (by omega)]
        have hlt : us.getD j 0 < 65536 := getD_lt hu (by decide)
        by_cases g2 : j = (tw us).length
        · rw [if_pos (by rw [g2, t3 (by omega)]; rfl), g2, p27]
        · have := (t2 j (by omega)).2
          rw [if_neg (nI_ne0 (by omega) (by omega)), q_l, nI_1, ih (j + 1) (by omega) (by omega)]
  unfold f_Mo_said
  rw [hs, q_l, show (0 : Int32) = nI 0 from rfl, p7 K 0 (by omega) (by omega)]
