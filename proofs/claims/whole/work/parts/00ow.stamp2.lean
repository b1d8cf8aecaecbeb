theorem b01_c {P Q : Prop} (h : P ↔ Q) : b01 P = b01 Q := by rw [propext h]
theorem qC_would {K N p : Nat} {E : Nat → Int32} {G : CG} {S : CS} (hN : N ≤ 1024) (hG : G.n = N) (hD : S.w_Dk_bytes = E) (hp : p + 32 ≤ 512 * N) (b c d : Int32) : f_Da_wouldFit K G S (nI p) b c d = some (b01 (fitP E p b c d), S) := by
  have r : ∀ k, k < 31 → f_Dk_two K G S (nI (p + k)) = some (nI (o2 E (p + k)), S) := fun k hk => rV2 E hG hD hN (by omega)
  have r1 : f_Dk_one K G S (nI (p + 13)) = some (nI (o1 E (p + 13)), S) := rV1 E hG hD hN (by omega)
  unfold f_Da_wouldFit f_Da_wouldFit_67 f_Da_wouldFit_88 f_Da_wouldFit_123 f_Da_readFits f_Da_readFits_11
  rw [show (13 : Int32) = nI 13 from rfl, show (16 : Int32) = nI 16 from rfl, show (14 : Int32) = nI 14 from rfl, nI_add, nI_add, nI_add, d_day, d_time, day_b, time_b, r1, q_c]
  by_cases b0 : b = 0
  · subst b0
    rw [if_pos rfl, d_made, made_b, q_b, q_g (b01_01 _), b01_c fit0]
  rw [if_neg b0]
  by_cases b1 : b = 1
  · subst b1
    rw [if_pos rfl, b01_c fit1]
    by_cases w : c = 0
    · rw [if_pos w, q_b, if_neg (show ¬ (1 : Int32) = 0 by decide)]
      by_cases y : d = 0
      · rw [if_pos y, b01_t ⟨y, Or.inl w⟩]; rfl
      · rw [if_neg y, b01_f (fun q => y q.1)]; rfl
    · rw [if_neg w, q_b]
      by_cases y : dayP c
      · rw [b01_t y, if_neg (show ¬ nI 1 = 0 by decide), q_b, if_neg (show ¬ (1 : Int32) = 0 by decide)]
        by_cases y' : d = 0
        · rw [if_pos y', b01_t ⟨y', Or.inr y⟩]; rfl
        · rw [if_neg y', b01_f (fun q => y' q.1)]; rfl
      · rw [b01_f y, if_pos (show nI 0 = 0 from rfl), q_b, if_pos rfl, b01_f (fun q => q.2.elim w y)]; rfl
  rw [if_neg b1]
  by_cases b2 : b = 2
  · subst b2
    rw [if_pos rfl, b01_c fit2, q_b]
    by_cases y : dayP c
    · rw [b01_t y, if_neg (show ¬ nI 1 = 0 by decide), q_b]
      by_cases y' : timP d
      · rw [b01_t y', if_neg (show ¬ nI 1 = 0 by decide), b01_t ⟨y, y'⟩]; rfl
      · rw [b01_f y', if_pos (show nI 0 = 0 from rfl), b01_f (fun q => y' q.2)]; rfl
    · rw [b01_f y, if_pos (show nI 0 = 0 from rfl), b01_f (fun q => y q.1)]; rfl
  rw [if_neg b2]
  by_cases b3 : b = 3
  · subst b3
    rw [if_pos rfl, r 16 (by decide), q_c, r 14 (by decide), q_c, d_made, made_b, q_b, q_g (b01_01 _), b01_c fit3]
  rw [if_neg b3]
  by_cases b4 : b = 4
  · subst b4
    rw [if_pos rfl, b01_c fit4]
    by_cases y : d = 0
    · rw [if_pos y, b01_t (Or.inl y)]; rfl
    · rw [if_neg y]
      by_cases y' : d = 1
      · rw [if_pos y', b01_t (Or.inr y')]; rfl
      · rw [if_neg y', b01_f (fun q => q.elim y y')]; rfl
  rw [if_neg b4, b01_f (fit5 b0 b1 b2 b3 b4)]; rfl
theorem qM_stampR {K N p j : Nat} {D : Nat → Int32} {T : MS} (hN : N ≤ 1024) (hD : T.v_disk = D) (hj : j < 4200) (hat : T.v_at j = nI p) (hp : p + 32 ≤ 512 * N) (hx : T.v_thrown = 0) (a b c d : Int32) (hit : f_Mo_item K T a = some (nI j, T)) : f_Mo_stamp_25 K a b c d 0 T = f_Mo_stamp_176 K b c d (nI p) (b01 (fitP D p b c d)) T := by
  have r : ∀ k, k < 31 → f_Mo_two K T (nI (p + k)) = some (nI (o2 D (p + k)), T) := fun k hk => by rw [← hD]; exact qM_two T (by omega)
  have r1 : f_Mo_one K T (nI (p + 13)) = some (nI (o1 D (p + 13)), T) := by rw [← hD]; exact qM_one T (by omega)
  have f0 := qM_fails (K := K) T False 2 hx (by decide)
  rw [b01_f (fun y => y), cif_f (fun y => y)] at f0
  have f0 : f_Mo_fails K T 0 2 = some (0, T) := f0
  unfold f_Mo_stamp_25 f_Mo_stamp_88 f_Mo_stamp_92 f_Mo_stamp_120 f_Mo_stamp_171 f_Mo_stamp_175
  rw [f0, q_c, if_pos rfl, hit, q_c, q_g (q_in (by omega) (by decide)), nI_clamp (by omega), hat, q_l, show (13 : Int32) = nI 13 from rfl, show (16 : Int32) = nI 16 from rfl, show (14 : Int32) = nI 14 from rfl, nI_add, nI_add, nI_add, day_b, time_b, r1, q_c, made_b, q_b, q_b, q_b, r 16 (by decide), q_c, r 14 (by decide), q_c, made_b, q_b]
  by_cases b0 : b = 0
  · subst b0
    rw [if_pos rfl, b01_c fit0]
  rw [if_neg b0]
  by_cases b1 : b = 1
  · subst b1
    rw [if_pos rfl, b01_c fit1]
    by_cases y : d = 0
    · rw [if_pos y]
      by_cases w : c = 0
      · rw [if_pos w, b01_t ⟨y, Or.inl w⟩]; rfl
      · rw [if_neg w]
        by_cases y' : dayP c
        · rw [b01_t y', if_neg (show ¬ nI 1 = 0 by decide), b01_t ⟨y, Or.inr y'⟩]; rfl
        · rw [b01_f y', if_pos (show nI 0 = 0 from rfl), b01_f (fun q => q.2.elim w y')]; rfl
    · rw [if_neg y, b01_f (fun q => y q.1)]; rfl
  rw [if_neg b1]
  by_cases b2 : b = 2
  · subst b2
    rw [if_pos rfl, b01_c fit2]
    by_cases y : dayP c
    · rw [b01_t y, if_neg (show ¬ nI 1 = 0 by decide)]
      by_cases y' : timP d
      · rw [b01_t y', if_neg (show ¬ nI 1 = 0 by decide), b01_t ⟨y, y'⟩]; rfl
      · rw [b01_f y', if_pos (show nI 0 = 0 from rfl), b01_f (fun q => y' q.2)]; rfl
    · rw [b01_f y, if_pos (show nI 0 = 0 from rfl), b01_f (fun q => y q.1)]; rfl
  rw [if_neg b2]
  by_cases b3 : b = 3
  · subst b3
    rw [if_pos rfl, b01_c fit3, q_b]
  rw [if_neg b3]
  by_cases b4 : b = 4
  · subst b4
    rw [if_pos rfl, b01_c fit4]
    by_cases y : d = 0
    · rw [if_pos y, b01_t (Or.inl y)]; rfl
    · rw [if_neg y]
      by_cases y' : d = 1
      · rw [if_pos y', b01_t (Or.inr y')]; rfl
      · rw [if_neg y', b01_f (fun q => q.elim y y')]; rfl
  rw [if_neg b4, b01_f (fit5 b0 b1 b2 b3 b4)]; rfl
/-- what a stamp that fits puts -/
theorem stamp_put {K N p : Nat} {D E : Nat → Int32} {G : CG} {S : CS} {T : MS} (hK : 100 ≤ K) (hN1 : 256 ≤ N) (hN : N ≤ 1024) (hG : G.n = N) (hE : S.w_Dk_bytes = E) (hD : T.v_disk = D) (hp : p + 32 ≤ 512 * N) (hx : T.v_thrown = 0) (h11 : o1 E (p + 11) = o1 D (p + 11)) {b c d : Int32} (hf : fitP D p b c d) : ∃ F : (Nat → Int32) → Nat → Int32, f_Ed_putStamp K G S (nI p) b c d = some (S.u_w_Dk_bytes (F E)) ∧ f_Mo_stamp_189 K b c d (nI p) 0 T = some ((T.u_v_disk (F D)).u_v_looked 0) ∧ (∀ X Y q, o1 X q = o1 Y q → o1 (F X) q = o1 (F Y) q) ∧ ∀ X q, q < p + 11 ∨ p + 32 ≤ q → o1 (F X) q = o1 X q := by
  have f0 := qM_fails (K := K) T False 3 hx (by decide)
  rw [b01_f (fun y => y), cif_f (fun y => y)] at f0
  have f0 : f_Mo_fails K T 0 3 = some (0, T) := f0
  unfold f_Ed_putStamp f_Mo_stamp_189 f_Mo_stamp_226 f_Mo_stamp_233 f_Mo_stamp_242 f_Mo_stamp_256 f_Mo_stamp_264 f_Mo_stamp_282 f_Mo_stamp_314 f_Mo_changed
  rw [f0, q_c, if_pos rfl]
  have s2 : ∀ (T : MS) (k x : Nat), k < 31 → x < 65536 → f_Mo_set K T (nI p + nI k) 2 (nI x).toInt64 = some (T.u_v_disk (st T.v_disk (p + k) x 2)) := fun T k x hk hx => by
    rw [nI_add, nI_l (by omega), show (2 : Int32) = nI 2 from rfl, qM_set hK (by omega) (by omega) (by decide)]
  have s1 : ∀ (T : MS) (k x : Nat), k < 31 → x < 65536 → f_Mo_set K T (nI p + nI k) 1 (nI x).toInt64 = some (T.u_v_disk (st T.v_disk (p + k) x 1)) := fun T k x hk hx => by
    rw [nI_add, nI_l (by omega), show (1 : Int32) = nI 1 from rfl, qM_set hK (by omega) (by omega) (by decide)]
  have c2 : ∀ (S : CS) (k x : Nat), k < 31 → x < 65536 → f_Dk_putTwo K G S (nI p + nI k) (nI x) = some (S.u_w_Dk_bytes (st S.w_Dk_bytes (p + k) x 2)) := fun S k x hk hx => by
    rw [nI_add, qC_put2 hG hN1 hN (by omega) (by omega)]
  have c1 : ∀ (S : CS) (k x : Nat), k < 31 → x < 65536 → f_Dk_putOne K G S (nI p + nI k) (nI x) = some (S.u_w_Dk_bytes (st S.w_Dk_bytes (p + k) x 1)) := fun S k x hk hx => by
    rw [nI_add, qC_put1 hG hN1 hN (by omega)]
  rw [show (13 : Int32) = nI 13 from rfl, show (16 : Int32) = nI 16 from rfl, show (14 : Int32) = nI 14 from rfl, show (18 : Int32) = nI 18 from rfl, show (24 : Int32) = nI 24 from rfl, show (22 : Int32) = nI 22 from rfl, show (11 : Int32) = nI 11 from rfl]
  rcases hf with ⟨rfl, h⟩ | ⟨rfl, rfl, h⟩ | ⟨rfl, h, h'⟩ | ⟨rfl, h⟩ | ⟨rfl, h⟩
  · obtain ⟨⟨x, x1, rfl⟩, ⟨y, y1, rfl⟩, -⟩ := madP_n h
    refine ⟨fun X => st (st X (p + 16) x 2) (p + 14) y 2, ?_, ?_, fun X Y q hq => st_ag (st_ag hq), fun X q hq => by rw [st_out (by omega), st_out (by omega)]⟩
    · rw [if_pos rfl, c2 _ 16 x (by decide) x1, q_b, c2 _ 14 y (by decide) y1, q_b, hE]; rfl
    · rw [if_neg (show ¬ (3 : Int32) ≤ 0 by decide), if_pos rfl, s2 _ 16 x (by decide) x1, q_b, if_pos rfl, if_pos rfl, s2 _ 14 y (by decide) y1, q_b, if_neg (show ¬ (0 : Int32) = 3 by decide), if_neg (show ¬ (0 : Int32) = 4 by decide), q_l, q_b, hD]; rfl
  · obtain ⟨x, x1, rfl⟩ : ∃ x, x < 65536 ∧ c = nI x := by
      rcases h with h | h
      · exact ⟨0, by decide, h⟩
      · exact dayP_n h
    refine ⟨fun X => st X (p + 18) x 2, ?_, ?_, fun X Y q hq => st_ag hq, fun X q hq => by rw [st_out (by omega)]⟩
    · rw [if_neg (show ¬ (1 : Int32) = 0 by decide), if_pos rfl, c2 _ 18 x (by decide) x1, q_b, hE]
    · rw [if_neg (show ¬ (3 : Int32) ≤ 1 by decide), if_neg (show ¬ (1 : Int32) = 0 by decide), if_pos rfl, s2 _ 18 x (by decide) x1, q_b, if_neg (show ¬ (1 : Int32) = 0 by decide), if_neg (show ¬ (1 : Int32) = 2 by decide), if_neg (show ¬ (1 : Int32) = 3 by decide), if_neg (show ¬ (1 : Int32) = 4 by decide), q_l, q_b, hD]
  · obtain ⟨x, x1, rfl⟩ := dayP_n h
    obtain ⟨y, y1, rfl⟩ := timP_n h'
    refine ⟨fun X => st (st X (p + 24) x 2) (p + 22) y 2, ?_, ?_, fun X Y q hq => st_ag (st_ag hq), fun X q hq => by rw [st_out (by omega), st_out (by omega)]⟩
    · rw [if_neg (show ¬ (2 : Int32) = 0 by decide), if_neg (show ¬ (2 : Int32) = 1 by decide), if_pos rfl, c2 _ 24 x (by decide) x1, q_b, c2 _ 22 y (by decide) y1, q_b, hE]; rfl
    · rw [if_neg (show ¬ (3 : Int32) ≤ 2 by decide), if_neg (show ¬ (2 : Int32) = 0 by decide), if_neg (show ¬ (2 : Int32) = 1 by decide), s2 _ 24 x (by decide) x1, q_b, if_neg (show ¬ (2 : Int32) = 0 by decide), if_pos rfl, s2 _ 22 y (by decide) y1, q_b, if_neg (show ¬ (2 : Int32) = 3 by decide), if_neg (show ¬ (2 : Int32) = 4 by decide), q_l, q_b, hD]; rfl
  · obtain ⟨-, -, ⟨y, y1, rfl⟩⟩ := madP_n h
    refine ⟨fun X => st X (p + 13) y 1, ?_, ?_, fun X Y q hq => st_ag hq, fun X q hq => by rw [st_out (by omega)]⟩
    · rw [if_neg (show ¬ (3 : Int32) = 0 by decide), if_neg (show ¬ (3 : Int32) = 1 by decide), if_neg (show ¬ (3 : Int32) = 2 by decide), if_pos rfl, c1 _ 13 y (by decide) y1, q_b, hE]
    · rw [if_pos (show (3 : Int32) ≤ 3 by decide), if_neg (show ¬ (3 : Int32) = 0 by decide), if_neg (show ¬ (3 : Int32) = 2 by decide), if_pos rfl, s1 _ 13 y (by decide) y1, q_b, if_neg (show ¬ (3 : Int32) = 4 by decide), q_l, q_b, hD]
  · obtain ⟨y, y1, rfl⟩ : ∃ y, y < 2 ∧ d = nI y := by
      rcases h with h | h
      · exact ⟨0, by decide, h⟩
      · exact ⟨1, by decide, h⟩
    have hr := o1_lt D (p + 11)
    have eo : ∀ r, r < 256 → ∀ y, y < 2 → (nI r &&& 254) ||| nI y = nI (r - r % 2 + y) ∧ (nI r &&& -2) ||| nI y = nI (r - r % 2 + y) := by decide +kernel
    obtain ⟨e1, e2⟩ := eo _ hr y y1
    refine ⟨fun X => st X (p + 11) (o1 D (p + 11) - o1 D (p + 11) % 2 + y) 1, ?_, ?_, fun X Y q hq => st_ag hq, fun X q hq => by rw [st_out (by omega)]⟩
    · rw [if_neg (show ¬ (4 : Int32) = 0 by decide), if_neg (show ¬ (4 : Int32) = 1 by decide), if_neg (show ¬ (4 : Int32) = 2 by decide), if_neg (show ¬ (4 : Int32) = 3 by decide), nI_add, rV1 E hG hE hN (by omega), q_c, h11, e2, qC_put1 hG hN1 hN (by omega), q_b, hE]
    · rw [if_pos (show (3 : Int32) ≤ 4 by decide), if_neg (show ¬ (4 : Int32) = 0 by decide), if_neg (show ¬ (4 : Int32) = 2 by decide), if_neg (show ¬ (4 : Int32) = 3 by decide), if_pos rfl, nI_add, rM1 D hD (by omega), q_c, e1, nI_l (by omega), show (1 : Int32) = nI 1 from rfl, qM_set hK (by omega) (by omega) (by decide), q_b, q_l, q_b, hD]
