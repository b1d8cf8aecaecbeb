theorem la_len : ∀ L : Nat, L < 7 → Int32.ofNat L - 6 < 1 := by decide +kernel
theorem la_atS {args : Array Value} {s : State} (h1 : ∀ w ∈ lw_tbl, w.before args s = true) (h2 : (Jvm.Cond.and given_1 narrow_1).before args s = true) : ∀ a ∈ Bundle.ownAtoms "VolumeTurner" 314 "java/lang/IllegalStateException" x_n2, a.before args s = true := by
  have h3 := flat_of_before _ h2
  have hall : (Bundle.ownAtoms "VolumeTurner" 314 "java/lang/IllegalStateException" x_n2).all (fun a => decide (a ∈ lw_tbl) || decide (a ∈ flatC (Jvm.Cond.and given_1 narrow_1))) = true := by decide +kernel
  intro a ha
  have := List.all_eq_true.mp hall a ha
  simp only [Bool.or_eq_true, decide_eq_true_eq] at this
  exact this.elim (h1 a) (h3 a)
theorem la_atA {args : Array Value} {s : State} (h1 : ∀ w ∈ lw_tbl, w.before args s = true) (h2 : (Jvm.Cond.and given_1 narrow_1).before args s = true) : ∀ a ∈ Bundle.ownAtoms "VolumeTurner" 137 "java/lang/IllegalArgumentException" x_n2, a.before args s = true := by
  have h3 := flat_of_before _ h2
  have hall : (Bundle.ownAtoms "VolumeTurner" 137 "java/lang/IllegalArgumentException" x_n2).all (fun a => decide (a ∈ lw_tbl) || decide (a ∈ flatC (Jvm.Cond.and given_1 narrow_1))) = true := by decide +kernel
  intro a ha
  have := List.all_eq_true.mp hall a ha
  simp only [Bool.or_eq_true, decide_eq_true_eq] at this
  exact this.elim (h1 a) (h3 a)
theorem la_str {args : Array Value} {s : State} {own text : String} {k cur : Nat} (hcur : s.vm.findClass own = some cur) (h : (Cond.stringRef own k text).before args s = true) : ∃ q, vk_R own k text q s := by
  obtain ⟨-, -, -, a, -, -, -, -, -, hev⟩ := Cond.stringRef_spec hcur h
  exact ⟨a, vk_R.of h hev⟩
theorem la_s333 : (.stringRef "VolumeTurner" 333 "no tree") ∈ lw_tbl := lw_ck_in 5 _ (List.mem_of_getElem? (i := 211) rfl)
theorem la_s335 : (.stringRef "VolumeTurner" 335 "no sound table volume") ∈ lw_tbl := lw_ck_in 6 _ (List.mem_of_getElem? (i := 136) rfl)
theorem la_s312 : (.stringRef "VolumeTurner" 312 "no volume") ∈ lw_tbl := lw_ck_in 7 _ (List.mem_of_getElem? (i := 108) rfl)
theorem la_s135 : (.stringRef "VolumeTurner" 135 "no such volume or label") ∈ lw_tbl := lw_ck_in 4 _ (List.mem_of_getElem? (i := 129) rfl)
theorem la_n53 : (.methodLinkNest "VolumeTurner" 53 y_Tp_init "VolumeTurner") ∈ lw_tbl := lw_ck_in 0 _ (List.mem_of_getElem? (i := 71) rfl)
theorem la_n69 : (.methodLinkNest "VolumeTurner" 69 y_Tr_init "VolumeTurner") ∈ lw_tbl := lw_ck_in 0 _ (List.mem_of_getElem? (i := 134) rfl)
