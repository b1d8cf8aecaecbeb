/-! make: all that the reference lays. -/
def layM (D : Nat → Int32) (ch : List Nat) (b W e L : Nat) (nm : Nat → Nat) (us : List Nat) (dr o hcl : Nat) (X1 : Nat → Int32) : Nat → Int32 :=
  if dr = 0 then emF (enA (ptM (fun i => plS D ch (b + i)) W (smN nm 11) us (nmW (zrS (fun i => plS D ch (b + i)) X1 W) (plS D ch (b + W - 1)) nm 11) (W - 1)) (plS D ch (b + W - 1)) 32 o) (e ≤ b + W ∧ b + W < L) (plS D ch (b + W))
  else dtM (dtM (emF (enA (ptM (fun i => plS D ch (b + i)) W (smN nm 11) us (nmW (zrS (fun i => plS D ch (b + i)) X1 W) (plS D ch (b + W - 1)) nm 11) (W - 1)) (plS D ch (b + W - 1)) 48 o) (e ≤ b + W ∧ b + W < L) (plS D ch (b + W))) (plC D o) 0 o) (plC D o + 32) 1 hcl
theorem smN_lt (nm : Nat → Nat) (i : Nat) : smN nm i < 256 := by
  cases i with
  | zero => exact Nat.zero_lt_succ _
  | succ i => exact Nat.mod_lt _ (by decide)
theorem qM_lay {K N L L' e b W X o dr hcl : Nat} {D X0 : Nat → Int32} {nm : Nat → Nat} {us ch xs : List Nat} {l : List (Nat × Nat)} {T : MS} (hK : 20000 ≤ K) (h : hdOk N D) (hN : N ≤ 1024) (hTb : tabOk N D) (hdr : dr = 0 ∨ dr = 1) (hxs : xs.length = X) (htk : tkn N D xs l ch) (hlo : lsOk N D l) (ht : ∀ q, 512 * hv D ≤ q → q < 512 * ha D → o1 X0 q = o1 (lks D D l) q) (hM : mIs N D T) (hfo : T.v_folders = nI ch.length) (hc1 : 1 ≤ ch.length) (hfl : ∀ q, q < ch.length → T.v_folder q = nI (ch.getD q 0)) (hcl0 : ∀ y ∈ ch ++ xs, isCl N D y) (hnd : (ch ++ xs).Nodup) (hL : L = ch.length * 16 * hc D) (hL' : L' = (ch ++ xs).length * 16 * hc D) (he : e ≤ L) (hb : b ≤ L) (hW : 1 ≤ W) (hW2 : W ≤ 21) (hbW : b + W ≤ L') (ho : o < 2 ^ 28) (hod : dr = 1 → isCl N D o) (hs : T.v_size = nI us.length) (hbf : bufR T.v_name us) (hul : us.length ≤ 255) (hu : ∀ u ∈ us, u < 65536) (hnm : ∀ q, q < 11 → T.v_brief q = nI (nm q)) (hnl : ∀ q, q < 11 → nm q < 256) (hhe : T.v_here = nI hcl) (hh28 : hcl < 2 ^ 28) : ∃ f, f_Mo_make_305 K (nI dr) (nI W) (nI L) (nI e) (nI b) (nI X) (nI o) (T.u_v_disk X0) = f_Mo_make_755 K (nI W) (nI b) (((T.u_v_folder f).u_v_folders (nI (ch ++ xs).length)).u_v_disk (layM D (ch ++ xs) b W e L nm us dr o hcl (grN D (512 * ha D) xs X0 ch))) := by
  have hff := hd_facts h hN
  have hroom := cl_room h hN hnd hcl0
  have hcl1 : ∀ y ∈ ch, isCl N D y := fun y w => hcl0 y (List.mem_append_left _ w)
  have hlen : (ch ++ xs).length = ch.length + xs.length := List.length_append
  have hLL : L ≤ L' := by rw [hL, hL', hlen]; exact Nat.mul_le_mul_right _ (Nat.mul_le_mul_right _ (by omega))
  obtain ⟨f, e1, e2⟩ := qM_grF (K := K) (n := X) (by omega) h hN hTb (by omega) (nI dr) (nI W) (nI L) (nI e) (nI b) (nI o) xs 0 K ch l (T.u_v_disk X0) (by omega) (by omega) htk hlo ht hM.2.2.2.1 hM.2.2.2.2.1 hM.2.2.2.2.2.1 hM.2.2.1 hM.2.2.2.2.2.2.2.1 hfo hc1 (by omega) hfl hcl1
  refine ⟨f, ?_⟩
  have e1 : f_Mo_make_310 K K (nI dr) (nI W) (nI L) (nI e) (nI b) (nI X) (nI o) (nI 0) (T.u_v_disk X0) = f_Mo_make_374 K K (nI dr) (nI W) (nI L) (nI e) (nI b) (nI o) (nI b) (((T.u_v_folder f).u_v_folders (nI (ch ++ xs).length)).u_v_disk (grN D (512 * ha D) xs X0 ch)) := e1
  unfold f_Mo_make_305
  rw [show (0 : Int32) = nI 0 from rfl, e1]
  generalize hTT : (T.u_v_folder f).u_v_folders (nI (ch ++ xs).length) = TT
  generalize grN D (512 * ha D) xs X0 ch = X1
  have hsl : slM K N L' (plS D (ch ++ xs)) TT := fun s g hs => by
    refine ⟨qM_slotAtN (T := TT.u_v_disk g) (by rw [← hTT]; exact hM.2.2.1) (by rw [← hTT]; exact hM.2.2.2.2.2.2.2.1) h hN hcl0 hroom.2 (by rw [← hTT]; exact e2) (by rw [← hL']; exact hs), (plS_lt h hN hcl0 (by rw [← hL']; exact hs)).1⟩
  have hdis := slots_dis h hN hnd hcl0 (by rw [← hL']; exact hbW)
  have hsz : TT.v_size = nI us.length := by rw [← hTT]; exact hs
  have hbf2 : bufR TT.v_name us := by rw [← hTT]; exact hbf
  have hbr : ∀ q, q < 11 → TT.v_brief q = nI (nm q) := fun q hq => by rw [← hTT]; exact hnm q hq
  have hhe2 : TT.v_here = nI hcl := by rw [← hTT]; exact hhe
  have hpe : plS D (ch ++ xs) (b + W - 1) + 32 ≤ 512 * N := (plS_lt h hN hcl0 (by rw [← hL']; omega)).1
  have z1 := qM_zero374 (K := K) (b := b) (a1 := nI dr) (a3 := nI L) (a4 := nI e) (a7 := nI o) (by omega) hN hsl hW (by omega) hbW (by omega) W 0 K X1 (Nat.zero_add _) (by omega)
  have z1 : f_Mo_make_374 K K (nI dr) (nI W) (nI L) (nI e) (nI b) (nI o) (nI b) (TT.u_v_disk X1) = _ := z1
  have z2 := qM_name437 (K := K) (nm := nm) (T := TT) (a1 := nI dr) (a2 := nI W) (a3 := nI L) (a4 := nI e) (a6 := nI b) (a7 := nI o) hN hpe hbr 11 0 K (zrS (fun i => plS D (ch ++ xs) (b + i)) X1 W) rfl (by omega)
  have z2 : f_Mo_make_437 K K (nI dr) (nI W) (nI L) (nI e) (nI b) (nI o) (nI (plS D (ch ++ xs) (b + W - 1))) 0 (TT.u_v_disk (zrS (fun i => plS D (ch ++ xs) (b + i)) X1 W)) = _ := z2
  have z3 := qM_parts472 (K := K) (nm := nm) (us := us) (T := TT) (a1 := nI dr) (a3 := nI L) (a4 := nI e) (a7 := nI o) (by omega) hN hsl hW hW2 hbW (by omega) hsz hbf2 hul hu hdis (nmW (zrS (fun i => plS D (ch ++ xs) (b + i)) X1 W) (plS D (ch ++ xs) (b + W - 1)) nm 11) (fun i hi => nmW_at (hnl i hi) 11 hi) (smN_lt _ _) (W - 1) 0 K (by omega) (by omega)
  have z3 : f_Mo_make_472 K K (nI dr) (nI W) (nI L) (nI e) (nI b) (nI o) (nI (plS D (ch ++ xs) (b + W - 1))) (nI b) (TT.u_v_disk (nmW (zrS (fun i => plS D (ch ++ xs) (b + i)) X1 W) (plS D (ch ++ xs) (b + W - 1)) nm 11)) = _ := z3
  rw [z1, z2, z3]
  have z4 := fun a ha => qM_548 (K := K) (a1 := nI dr) (L := L) (L' := L') (e := e) (b := b) (W := W) (o := o) (pe := plS D (ch ++ xs) (b + W - 1)) (a := a) (P := plS D (ch ++ xs)) (T := TT.u_v_disk (ptM (fun i => plS D (ch ++ xs) (b + i)) W (smN nm 11) us (nmW (zrS (fun i => plS D (ch ++ xs) (b + i)) X1 W) (plS D (ch ++ xs) (b + W - 1)) nm 11) (W - 1))) (by omega) hN hsl hLL (by omega) he hW2 hb hpe ho ha
  unfold layM
  rcases hdr with rfl | rfl
  · rw [if_pos (show nI 0 = 0 from rfl), if_pos rfl]
    refine (z4 32 (by decide)).trans ?_
    exact qM_nodots (K := K) (o := o) (by omega)
  · rw [if_neg (show ¬ nI 1 = 0 by decide), if_neg (show ¬ 1 = 0 by omega)]
    have hoc := hod rfl
    have hp := plC_lt (j := 0) h hN hoc (by omega)
    have hp2 := plC_lt (j := 512 * hc D - 1) h hN hoc (by omega)
    have hva : TT.v_a = nI (ha D) := by rw [← hTT]; exact hM.2.2.2.2.2.2.2.1
    have hvc : TT.v_c = nI (hc D) := by rw [← hTT]; exact hM.2.2.1
    have hpl : ∀ f, f_Mo_place K (TT.u_v_disk f) (nI o) = some (nI (plC D o), TT.u_v_disk f) := fun f => by
      unfold f_Mo_place plC
      show some (512 * (TT.v_a + (nI o - 2) * TT.v_c), _) = _
      rw [hva, hvc, show (2 : Int32) = nI 2 from rfl, pk_sub hoc.1, pk_mul, nI_add, show (512 : Int32) = nI 512 from rfl, pk_mul]
    have dts : ∀ F2, f_Mo_make_626 K (nI 1) (nI W) (nI b) (nI o) (TT.u_v_disk F2) = f_Mo_make_755 K (nI W) (nI b) (TT.u_v_disk (dtM (dtM F2 (plC D o) 0 o) (plC D o + 32) 1 hcl)) := fun F2 => by
      have := qM_dts (K := K) (N := N) (W := W) (b := b) (h := hcl) (p := plC D o) (o := o) (a1 := nI 1) (T := TT.u_v_disk F2) (by omega) hN (show ¬ nI 1 = 0 by decide) (by omega) ho hh28 hpl hhe2
      exact this
    exact (z4 48 (by decide)).trans (dts _)
