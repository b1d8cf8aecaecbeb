/-! What stands when the way is prepared, and when the power went before. -/
abbrev sec2 (D E : Nat → Int32) : Prop := ∀ q, 1024 ≤ q → q < 1536 → o1 E q = o1 D q
noncomputable def prR (N : Nat) (D : Nat → Int32) (fks : List Nat) (its : List It) (A H k P g0 r : Nat) (gl : Nat → Nat) : List Wr := kpS (rml A H (fxd A P r g0) (ent D) gl k) (sYs D) ++ (inW (rml A H (fxd A P r g0) (ent D) gl k) 3 (recL N D its A H gl (rml A H (fxd A P r g0) (ent D) gl k)) (indN (recL N D its A H gl (rml A H (fxd A P r g0) (ent D) gl k)).length) ++ owF N D fks its A H (3 + indN (rcB N D its A H)) gl (rml A H (fxd A P r g0) (ent D) gl k) its.length 0)
theorem prL_eq {N : Nat} {D : Nat → Int32} {fks : List Nat} {its : List It} {A H k P g0 r : Nat} {gl : Nat → Nat} : prL N D fks its A H k P r gl (rml A H (fxd A P r g0) (ent D) gl k) (sYc D A H) (sYs D) = (mvF A H gl (sYc D A H) k 2 ++ prR N D fks its A H k P g0 r gl) ++ [(7, mrkX P r)] := by
  unfold prL prR
  rw [List.append_assoc, List.append_assoc, List.append_assoc]
theorem prR_bl {N : Nat} {D : Nat → Int32} {fks : List Nat} {its : List It} {A H k B P g0 r to : Nat} {gl : Nat → Nat} (h : pPl N D fks its A H k B P g0 r to gl) : ∀ w ∈ prR N D fks its A H k P g0 r gl, ∃ s, s < (rml A H (fxd A P r g0) (ent D) gl k).length ∧ w.1 / 2 = (rml A H (fxd A P r g0) (ent D) gl k).getD s 0 := by
  obtain ⟨-, -, hu, -, -, -, -⟩ := h
  have hA := hu.1.1
  have hbd := hu.2.2.2.2.2.2
  rw [bd_sum] at hbd
  intro w hw
  unfold prR at hw
  rcases List.mem_append.mp hw with y | y
  · obtain ⟨s, s1, s2⟩ := kpS_bl w y
    exact ⟨s, by omega, s2⟩
  · rcases List.mem_append.mp y with z | z
    · rw [recL_len (by omega)] at z
      obtain ⟨s, s1, s2, s3⟩ := inW_bl w z
      exact ⟨s, by omega, s3⟩
    · obtain ⟨s, s1, s2⟩ := owF_bl hu.2.2.2.2.2.1 _ _ (by omega) z
      exact ⟨s, by omega, s2⟩
/-- where the writes go: clusters that are free -/
theorem pr_where {N : Nat} {D : Nat → Int32} {fks : List Nat} {its : List It} {A H k B P g0 r to : Nat} {gl : Nat → Nat} (h : pPl N D fks its A H k B P g0 r to gl) : (∀ w ∈ mvF A H gl (sYc D A H) k 2, ∃ c, 2 ≤ c ∧ c < k + 2 ∧ ent D c = 0 ∧ (∃ x, gl x = c) ∧ A + (c - 2) * H ≤ w.1 / 2 ∧ w.1 / 2 < A + (c - 2) * H + H) ∧ (∀ w ∈ prR N D fks its A H k P g0 r gl, ∃ c, 2 ≤ c ∧ c < k + 2 ∧ ent D c = 0 ∧ (∀ x, gl x ≠ c) ∧ A + (c - 2) * H ≤ w.1 / 2 ∧ w.1 / 2 < A + (c - 2) * H + H) := by
  have hh := h
  obtain ⟨-, -, hu, -, -, -, -⟩ := h
  obtain ⟨i1, i2, i3, i4, i5, i6⟩ := aimR_inv _ _ _ hu.2.2.1
  refine ⟨fun w hw => ?_, fun w hw => ?_⟩
  · obtain ⟨c, i, c1, c2, c3, c4, c5⟩ := (mvF_mem _ _).mp hw
    obtain ⟨y1, y2, y3, y4, y5, y6⟩ := i3 c c3
    refine ⟨gl c, y5, by omega, y4.1, ⟨c, rfl⟩, ?_⟩
    rw [c5]
    show _ ≤ (2 * A + (gl c - 2) * (2 * H) + i) / 2 ∧ (2 * A + (gl c - 2) * (2 * H) + i) / 2 < _
    rw [show (gl c - 2) * (2 * H) = 2 * ((gl c - 2) * H) from Nat.mul_left_comm _ _ _]
    omega
  · obtain ⟨s, s1, s2⟩ := prR_bl hh w hw
    obtain ⟨c, c1, c2, ⟨c3, c4⟩, i, j1, j2, -⟩ := (rml_mem k).mp (getD_mem s1)
    refine ⟨c, c1, c2, c3, c4, ?_⟩
    rw [s2, j2]
    omega
theorem pr_free {N : Nat} {D : Nat → Int32} {fks : List Nat} {its : List It} {A H k B P g0 r to : Nat} {gl : Nat → Nat} (h : pPl N D fks its A H k B P g0 r to gl) : ∀ w ∈ mvF A H gl (sYc D A H) k 2 ++ prR N D fks its A H k P g0 r gl, frQ D A H k w.1 := fun w hw => by
  rcases List.mem_append.mp hw with y | y
  · obtain ⟨c, c1, c2, c3, -, c4⟩ := (pr_where h).1 w y
    exact ⟨c, c1, c2, c3, c4⟩
  · obtain ⟨c, c1, c2, c3, -, c4⟩ := (pr_where h).2 w y
    exact ⟨c, c1, c2, c3, c4⟩
theorem pr_cons {N : Nat} {D : Nat → Int32} {fks : List Nat} {its : List It} {A H k B P g0 r to : Nat} {gl : Nat → Nat} {F : Nat → Int32} (h : pPl N D fks its A H k B P g0 r to gl) (hF : lyA N D fks its A H P g0 r gl (rml A H (fxd A P r g0) (ent D) gl k) F) : ∀ w ∈ (mvF A H gl (sYc D A H) k 2 ++ prR N D fks its A H k P g0 r gl) ++ [(7, mrkX P r)], ∀ v ∈ (mvF A H gl (sYc D A H) k 2 ++ prR N D fks its A H k P g0 r gl) ++ [(7, mrkX P r)], w.1 = v.1 → ∀ j, j < 512 → o1 w.2 j = o1 v.2 j := by
  have hh := h
  obtain ⟨q1, q3⟩ := pr_where h
  obtain ⟨-, ⟨hA2, hH2, -, -⟩, hu, -, -, -, -⟩ := h
  have hA := hu.1.1
  have hH : 1 ≤ H := by rcases hu.1.2.1 with y | y | y <;> omega
  obtain ⟨i1, i2, i3, i4, i5, i6⟩ := aimR_inv _ _ _ hu.2.2.1
  have agR : agW F (prR N D fks its A H k P g0 r gl ++ [(7, mrkX P r)]) := by
    unfold prR
    refine agW_app (agW_app hF.1 (agW_app hF.2.2.2.1 (owF_ag hF.2.2.2.2.1 hF.2.2.2.2.2.1 _ _ (by omega)))) (fun w hw j hj => ?_)
    rw [List.mem_singleton.mp hw]
    show o1 F (512 * 7 + j) = o1 (mrkX P r) j
    rw [hF.2.1 _ (by omega) (by omega), if_pos (by omega), show 512 * 7 + j - 3584 = j by omega]
  have mix : ∀ w ∈ mvF A H gl (sYc D A H) k 2, ∀ v ∈ prR N D fks its A H k P g0 r gl ++ [(7, mrkX P r)], w.1 ≠ v.1 := fun w hw v hv e => by
    obtain ⟨c, c1, c2, c3, ⟨x, c4⟩, c5, c6⟩ := q1 w hw
    rcases List.mem_append.mp hv with y | y
    · obtain ⟨d, d1, d2, d3, d4, d5, d6⟩ := q3 v y
      have a1 := cl_sec (p := 1024 * (w.1 / 2)) hA2 hH2 hH c1 (by omega) (by omega)
      have a2 := cl_sec (p := 1024 * (w.1 / 2)) hA2 hH2 hH d1 (by omega) (by omega)
      exact d4 x (by omega)
    · rw [List.mem_singleton.mp y] at e
      have e2 : w.1 = 7 := e
      omega
  intro w hw v hv e j hj
  rw [List.append_assoc] at hw hv
  rcases List.mem_append.mp hw with y | y
  · rcases List.mem_append.mp hv with z | z
    · obtain ⟨c, i, c1, c2, c3, c4, c5⟩ := (mvF_mem _ _).mp y
      obtain ⟨d, i', d1, d2, d3, d4, d5⟩ := (mvF_mem _ _).mp z
      obtain ⟨b, b1, b2, b3, b4, b5, b6⟩ := q1 w y
      rw [c5, d5] at e
      have e2 : 2 * A + (gl c - 2) * (2 * H) + i = 2 * A + (gl d - 2) * (2 * H) + i' := e
      have f1 := (i3 c c3).2.2.2.2.1
      have f2 := (i3 d d3).2.2.2.2.1
      rw [show (gl c - 2) * (2 * H) = 2 * ((gl c - 2) * H) from Nat.mul_left_comm _ _ _, show (gl d - 2) * (2 * H) = 2 * ((gl d - 2) * H) from Nat.mul_left_comm _ _ _] at e2
      have a1 := cl_sec (p := 1024 * ((2 * A + 2 * ((gl c - 2) * H) + i) / 2)) hA2 hH2 hH f1 (by omega) (by omega)
      have a2 := cl_sec (p := 1024 * ((2 * A + 2 * ((gl c - 2) * H) + i) / 2)) hA2 hH2 hH f2 (by omega) (by omega)
      have e3 := i6 c d c3 (by omega)
      rw [← e3] at e2 d5
      have e4 : i = i' := by omega
      rw [c5, d5, e4]
    · exact absurd e (mix w y v z)
  · rcases List.mem_append.mp hv with z | z
    · exact absurd e.symm (mix v z w y)
    · rw [← agR w y j hj, ← agR v z j hj, e]
