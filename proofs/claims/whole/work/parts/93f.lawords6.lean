theorem in_V_J : ∀ w ∈ V_J, w ∈ lw_tbl := in_K_J
theorem in_V_Dk : ∀ w ∈ V_Dk, w ∈ lw_tbl := fun w h => (List.mem_append.mp h).elim (in_w_Dk w) (fun h => (List.mem_append.mp h).elim (in_K_Dk w) (in_V_J w))
theorem in_V_Wo : ∀ w ∈ V_Wo, w ∈ lw_tbl := fun w h => (List.mem_append.mp h).elim (in_w_Wo w) (fun h => (List.mem_append.mp h).elim (in_K_Wo w) (in_V_Dk w))
theorem in_V_Da : ∀ w ∈ V_Da, w ∈ lw_tbl := fun w h => (List.mem_append.mp h).elim (in_w_Da w) (fun h => (List.mem_append.mp h).elim (in_K_Da w) (in_V_Wo w))
theorem in_V_Tp : ∀ w ∈ V_Tp, w ∈ lw_tbl := fun w h => (List.mem_append.mp h).elim (in_w_Tp w) (fun h => (List.mem_append.mp h).elim (in_K_Tp w) (in_V_Da w))
theorem in_V_Tb : ∀ w ∈ V_Tb, w ∈ lw_tbl := fun w h => (List.mem_append.mp h).elim (in_w_Tb w) (fun h => (List.mem_append.mp h).elim (in_K_Tb w) (in_V_Tp w))
theorem in_V_Tr : ∀ w ∈ V_Tr, w ∈ lw_tbl := fun w h => (List.mem_append.mp h).elim (in_w_Tr w) (fun h => (List.mem_append.mp h).elim (in_K_Tr w) (in_V_Tb w))
theorem in_V_In : ∀ w ∈ V_In, w ∈ lw_tbl := fun w h => (List.mem_append.mp h).elim (in_w_In w) (fun h => (List.mem_append.mp h).elim (in_K_In w) (in_V_Tr w))
theorem in_V_Rd : ∀ w ∈ V_Rd, w ∈ lw_tbl := fun w h => (List.mem_append.mp h).elim (in_w_Rd w) (fun h => (List.mem_append.mp h).elim (in_K_Rd w) (in_V_In w))
theorem in_V_Ed : ∀ w ∈ V_Ed, w ∈ lw_tbl := fun w h => (List.mem_append.mp h).elim (in_w_Ed w) (fun h => (List.mem_append.mp h).elim (in_K_Ed w) (in_V_Rd w))
theorem in_V_Pl : ∀ w ∈ V_Pl, w ∈ lw_tbl := fun w h => (List.mem_append.mp h).elim (in_w_Pl w) (fun h => (List.mem_append.mp h).elim (in_K_Pl w) (in_V_Ed w))
theorem in_V_Tu : ∀ w ∈ V_Tu, w ∈ lw_tbl := fun w h => (List.mem_append.mp h).elim (in_w_Tu w) (fun h => (List.mem_append.mp h).elim (in_K_Tu w) (in_V_Pl w))
theorem in_V_Vt : ∀ w ∈ V_Vt, w ∈ lw_tbl := fun w h => (List.mem_append.mp h).elim (in_w_Vt w) (fun h => (List.mem_append.mp h).elim (in_K_Vt w) (in_V_Tu w))
theorem in_V_Mo : ∀ w ∈ V_Mo, w ∈ lw_tbl := fun w h => (List.mem_append.mp h).elim (in_w_Mo w) (fun h => (List.mem_append.mp h).elim (in_K_Mo w) (in_V_J w))
theorem in_V_La : ∀ w ∈ V_La, w ∈ lw_tbl := fun w h => (List.mem_append.mp h).elim (in_K_La w) (fun h => (List.mem_append.mp h).elim (in_V_Mo w) (in_V_Vt w))
theorem la_K {s : State} {args : Array Value} (hts : ∀ w ∈ V_La, w.before args s = true) : ∃ (dC : Nat → ClassId) (dI : Nat → Nat → Nat), va_K (dC, dI) classes [] s := by
  obtain ⟨cDk, iDk, hDk⟩ := u_known (C := R_Dk) (T := F_Dk) (N := 3) (n := 3) hts (fun w h => u_La_Dk w (i_Dk w h)) (hts _ (u_La_Dk _ k_Dk_1))
  obtain ⟨cTp, iTp, hTp⟩ := u_known (C := R_Tp) (T := F_Tp) (N := 3) (n := 3) hts (fun w h => u_La_Tp w (i_Tp w h)) (hts _ (u_La_Tp _ k_Tp_1))
  obtain ⟨cTb, iTb, hTb⟩ := u_known (C := R_Tb) (T := F_Tb) (N := 10) (n := 10) hts (fun w h => u_La_Tb w (i_Tb w h)) (hts _ (u_La_Tb _ k_Tb_2))
  obtain ⟨cTr, iTr, hTr⟩ := u_known (C := R_Tr) (T := F_Tr) (N := 18) (n := 18) hts (fun w h => u_La_Tr w (i_Tr w h)) (hts _ (u_La_Tr _ k_Tr_1))
  obtain ⟨cIn, iIn, hIn⟩ := u_known (C := R_In) (T := F_In) (N := 2) (n := 2) hts (fun w h => u_La_In w (i_In w h)) (hts _ (u_La_In _ k_In_1))
  obtain ⟨cRd, iRd, hRd⟩ := u_known (C := R_Rd) (T := F_Rd) (N := 10) (n := 10) hts (fun w h => u_La_Rd w (i_Rd w h)) (hts _ (u_La_Rd _ k_Rd_5))
  obtain ⟨cEd, iEd, hEd⟩ := u_known (C := R_Ed) (T := F_Ed) (N := 13) (n := 13) hts (fun w h => u_La_Ed w (i_Ed w h)) (hts _ (u_La_Ed _ k_Ed_2))
  obtain ⟨cPl, iPl, hPl⟩ := u_known (C := R_Pl) (T := F_Pl) (N := 17) (n := 17) hts (fun w h => u_La_Pl w (i_Pl w h)) (hts _ (u_La_Pl _ k_Pl_6))
  obtain ⟨cTu, iTu, hTu⟩ := u_known (C := R_Tu) (T := F_Tu) (N := 7) (n := 7) hts (fun w h => u_La_Tu w (i_Tu w h)) (hts _ (u_La_Tu _ k_Tu_13))
  obtain ⟨cVt, iVt, hVt⟩ := u_known (C := R_Vt) (T := F_Vt) (N := 16) (n := 16) hts (fun w h => u_La_Vt w (i_Vt w h)) (hts _ (u_La_Vt _ k_Vt_5))
  obtain ⟨cMo, iMo, hMo⟩ := u_known (C := R_Mo) (T := F_Mo) (N := 66) (n := 66) hts (fun w h => u_La_Mo w (i_Mo w h)) (hts _ (u_La_Mo _ k_Mo_1))
  refine ⟨fun k => [cDk, cDk, cDk, cTp, cTb, cTr, cIn, cRd, cEd, cPl, cTu, cVt, cMo].getD k 0, fun k => [iDk, iDk, iDk, iTp, iTb, iTr, iIn, iRd, iEd, iPl, iTu, iVt, iMo].getD k (fun _ => 0), fun c q hq => ?_, fun k q hk => ?_⟩
  · match c, hq with
    | 0, hq => have e := Option.some.inj (show some (R_Dk, F_Dk, 3) = some q from hq); subst e; exact hDk
    | 1, hq => have e := Option.some.inj (show some (R_Dk, F_Dk, 3) = some q from hq); subst e; exact hDk
    | 2, hq => have e := Option.some.inj (show some (R_Dk, F_Dk, 3) = some q from hq); subst e; exact hDk
    | 3, hq => have e := Option.some.inj (show some (R_Tp, F_Tp, 3) = some q from hq); subst e; exact hTp
    | 4, hq => have e := Option.some.inj (show some (R_Tb, F_Tb, 10) = some q from hq); subst e; exact hTb
    | 5, hq => have e := Option.some.inj (show some (R_Tr, F_Tr, 18) = some q from hq); subst e; exact hTr
    | 6, hq => have e := Option.some.inj (show some (R_In, F_In, 2) = some q from hq); subst e; exact hIn
    | 7, hq => have e := Option.some.inj (show some (R_Rd, F_Rd, 10) = some q from hq); subst e; exact hRd
    | 8, hq => have e := Option.some.inj (show some (R_Ed, F_Ed, 13) = some q from hq); subst e; exact hEd
    | 9, hq => have e := Option.some.inj (show some (R_Pl, F_Pl, 17) = some q from hq); subst e; exact hPl
    | 10, hq => have e := Option.some.inj (show some (R_Tu, F_Tu, 7) = some q from hq); subst e; exact hTu
    | 11, hq => have e := Option.some.inj (show some (R_Vt, F_Vt, 16) = some q from hq); subst e; exact hVt
    | 12, hq => have e := Option.some.inj (show some (R_Mo, F_Mo, 66) = some q from hq); subst e; exact hMo
    | (n + 13), hq => simp at hq
  · simp at hk
