/-! make: all that the class lays. -/
def layC (D : Nat → Int32) (ch : List Nat) (b W un L' : Nat) (nm : Nat → Nat) (us : List Nat) (dr o hcl : Nat) (X1 : Nat → Int32) : Nat → Int32 :=
  if dr = 0 then emF (ptC (fun i => plS D ch (b + i)) W (smN nm 11) us (enA (nmW (zr X1 (plS D ch (b + W - 1)) 32) (plS D ch (b + W - 1)) nm 11) (plS D ch (b + W - 1)) 32 o) (W - 1)) (un < b + W ∧ b + W < L') (plS D ch (b + W))
  else enA (nmW (enA (nmW (emF (ptC (fun i => plS D ch (b + i)) W (smN nm 11) us (enA (nmW (zr X1 (plS D ch (b + W - 1)) 32) (plS D ch (b + W - 1)) nm 11) (plS D ch (b + W - 1)) 48 o) (W - 1)) (un < b + W ∧ b + W < L') (plS D ch (b + W))) (plC D o) (dnm 0) 11) (plC D o) 16 o) (plC D o + 32) (dnm 1) 11) (plC D o + 32) 16 hcl
theorem qC_lay {K N L' b W X o dr hh hcl un : Nat} {D : Nat → Int32} {nm : Nat → Nat} {us ch xs : List Nat} {l : List (Nat × Nat)} {G : CG} {S : CS} (hK : 20000 ≤ K) (hN1 : 256 ≤ N) (h : hdOk N D) (hN : N ≤ 1024) (hG : G.n = N) (hdr : dr = 0 ∨ dr = 1) (hxs : xs.length = X) (htk : tkn N D xs l ch) (hlo : lsOk N D l) (hnx : nxR N D (fun y => lkV l y (ent D y)) G S) (hwa : S.v_Ed_wanted = nI X) (t1 : S.v_Tb_before = nI (hv D)) (t2 : S.v_Tb_copies = nI (hy D)) (t3 : S.v_Tb_length = nI (hz D)) (t4 : S.v_Tb_cluster = nI (hc D)) (t5 : S.v_Tb_start = nI (ha D)) (hrl : S.v_Ed_roadLength = nI ch.length) (hc1 : 1 ≤ ch.length) (hfl : ∀ q, q < ch.length → S.w_Ed_road q = nI (ch.getD q 0)) (hcl0 : ∀ y ∈ ch ++ xs, isCl N D y) (hnd : (ch ++ xs).Nodup) (hlt : (ch ++ xs).length < N / 2 + 2) (hL' : L' = (ch ++ xs).length * 16 * hc D) (hW : 1 ≤ W) (hW2 : W ≤ 21) (hbW : b + W ≤ L') (ho : o < 2 ^ 28) (hod : dr = 1 → isCl N D o) (hfs : S.v_Ed_firstSlot = nI b) (hsl0 : S.v_Ed_slots = nI W) (hun : S.v_Ed_unseen = nI un) (hun2 : un < 19000) (hs : S.v_Ed_unitCount = nI us.length) (hbf : bufR S.w_Ed_units us) (hul : us.length ≤ 255) (hu : ∀ u ∈ us, u < 65536) (hnm : ∀ q, q < 11 → S.w_Ed_shortName q = nI (nm q)) (hnl : ∀ q, q < 11 → nm q < 256) (hh28 : hcl < 2 ^ 28) (hhl : hh < 2 ^ 31) (hfst : (hh = 0 ∧ hcl = 0) ∨ (hh ≠ 0 ∧ ∀ g f n w, f_Tr_firstOf K G ((((S.u_w_Tb_next g).u_w_Ed_road f).u_v_Ed_roadLength n).u_w_Dk_bytes w) (nI hh) = some (nI hcl, (((S.u_w_Tb_next g).u_w_Ed_road f).u_v_Ed_roadLength n).u_w_Dk_bytes w))) : ∃ f g, f_Ed_addItem_27 K G (nI hh) (nI dr) (nI o) S = f_Ed_addItem_160 K G (nI hh) ((((S.u_w_Tb_next g).u_w_Ed_road f).u_v_Ed_roadLength (nI (ch ++ xs).length)).u_w_Dk_bytes (layC D (ch ++ xs) b W un L' nm us dr o hcl (grN D (512 * ha D) xs S.w_Dk_bytes ch))) := by
  have hff := hd_facts h hN
  have hroom := cl_room h hN hnd hcl0
  have hcl1 : ∀ y ∈ ch, isCl N D y := fun y w => hcl0 y (List.mem_append_left _ w)
  have hlen : (ch ++ xs).length = ch.length + xs.length := List.length_append
  obtain ⟨f, g, e1, e2⟩ := qC_grA (K := K) (n := X) (G := G) (by omega) hN1 h hN (by omega) (nI hh) (nI dr) (nI o) xs 0 K ch l S (by omega) (by omega) htk hlo hnx hc1 hwa t1 t2 t3 t4 t5 hrl (by omega) hfl hcl1
  refine ⟨f, g, ?_⟩
  have e1 : f_Ed_addItem_31 K G K (nI hh) (nI dr) (nI o) 0 S = adC K G (nI hh) (nI dr) (nI o) ((((S.u_w_Tb_next g).u_w_Ed_road f).u_v_Ed_roadLength (nI (ch ++ xs).length)).u_w_Dk_bytes (grN D (512 * ha D) xs S.w_Dk_bytes ch)) := e1
  unfold f_Ed_addItem_27
  rw [e1]
  have hfst2 : (hh = 0 ∧ hcl = 0) ∨ (hh ≠ 0 ∧ ∀ w, f_Tr_firstOf K G ((((S.u_w_Tb_next g).u_w_Ed_road f).u_v_Ed_roadLength (nI (ch ++ xs).length)).u_w_Dk_bytes w) (nI hh) = some (nI hcl, (((S.u_w_Tb_next g).u_w_Ed_road f).u_v_Ed_roadLength (nI (ch ++ xs).length)).u_w_Dk_bytes w)) := hfst.imp id (fun w => ⟨w.1, w.2 g f _⟩)
  clear hfst
  generalize hSS : ((S.u_w_Tb_next g).u_w_Ed_road f).u_v_Ed_roadLength (nI (ch ++ xs).length) = SS0 at *
  generalize grN D (512 * ha D) xs S.w_Dk_bytes ch = X1
  have k1 : SS0.v_Tb_cluster = nI (hc D) := by rw [← hSS]; exact t4
  have k2 : SS0.v_Tb_start = nI (ha D) := by rw [← hSS]; exact t5
  have k3 : SS0.v_Ed_roadLength = nI (ch ++ xs).length := by rw [← hSS]; rfl
  have k4 : ∀ q, q < (ch ++ xs).length → SS0.w_Ed_road q = nI ((ch ++ xs).getD q 0) := by rw [← hSS]; exact e2
  have k5 : SS0.v_Ed_firstSlot = nI b := by rw [← hSS]; exact hfs
  have k6 : SS0.v_Ed_slots = nI W := by rw [← hSS]; exact hsl0
  have k7 : SS0.v_Ed_unseen = nI un := by rw [← hSS]; exact hun
  have k8 : SS0.v_Ed_unitCount = nI us.length := by rw [← hSS]; exact hs
  have k9 : bufR SS0.w_Ed_units us := by rw [← hSS]; exact hbf
  have k10 : ∀ q, q < 11 → SS0.w_Ed_shortName q = nI (nm q) := fun q hq => by rw [← hSS]; exact hnm q hq
  have hsl : ∀ s g, s < L' → f_Ed_slotPlace K G (SS0.u_w_Dk_bytes g) (nI s) = some (nI (plS D (ch ++ xs) s), SS0.u_w_Dk_bytes g) ∧ plS D (ch ++ xs) s + 32 ≤ 512 * N := fun s g hs => ⟨qC_slotN (S := SS0.u_w_Dk_bytes g) hG k1 k2 h hN hcl0 hlt k3 k4 (by rw [← hL']; exact hs), (plS_lt h hN hcl0 (by rw [← hL']; exact hs)).1⟩
  have hsL : ∀ g, f_Ed_slotPlace K G (SS0.u_w_Dk_bytes g) (nI L') = some (-1, SS0.u_w_Dk_bytes g) := fun g => by
    unfold f_Ed_slotPlace f_Tb_slotsOfCluster
    show lf_c (some (SS0.v_Tb_cluster * 16, _)) _ = _
    rw [k1, show (16 : Int32) = nI 16 from rfl, pk_mul, q_c]
    show (if SS0.v_Ed_roadLength * nI (hc D * 16) ≤ nI L' then _ else _) = _
    rw [k3, pk_mul, show (ch ++ xs).length * (hc D * 16) = L' from by rw [hL', Nat.mul_comm (hc D) 16, Nat.mul_assoc], if_pos (Int32.le_refl _)]
  have hdis := slots_dis h hN hnd hcl0 (by rw [← hL']; exact hbW)
  have hpe := (hsl (b + W - 1) X1 (by omega)).2
  unfold adC
  show lf_c (f_Ed_slotPlace K G (SS0.u_w_Dk_bytes X1) (SS0.v_Ed_firstSlot + SS0.v_Ed_slots - 1)) _ = _
  rw [k5, k6, nI_add, show nI (b + W) - 1 = nI (b + W - 1) from pk_sub (b := 1) (by omega), (hsl (b + W - 1) X1 (by omega)).1, q_c, qC_putEntry (S := SS0.u_w_Dk_bytes X1) (nm := nm) (by omega) hG hN1 hN hpe k10 ho hdr, q_b]
  have z := fun a => qC_74 (K := K) (N := N) (L := L') (b := b) (W := W) (un := un) (P := plS D (ch ++ xs)) (nm := nm) (us := us) (G := G) (S := SS0) (y1 := nI hh) (y2 := nI dr) (y3 := nI o) (by omega) hG hN1 hN hsl hsL hW hW2 hbW (by omega) k5 k6 k7 hun2 k8 k9 hul hu hdis (enA (nmW (zr X1 (plS D (ch ++ xs) (b + W - 1)) 32) (plS D (ch ++ xs) (b + W - 1)) nm 11) (plS D (ch ++ xs) (b + W - 1)) a o) (fun i hi => by rw [enA_out (by omega)]; exact nmW_at (hnl i hi) 11 hi) (W - 1) 0 K (by omega) (by omega)
  unfold layC
  rcases hdr with rfl | rfl
  · rw [if_pos rfl, if_pos rfl]
    refine (z 32).trans ?_
    unfold f_Ed_addItem_150
    rw [if_pos (show nI 0 = 0 from rfl)]
  · rw [if_neg (show ¬ 1 = 0 by omega), if_neg (show ¬ 1 = 0 by omega)]
    refine (z 48).trans ?_
    have hoc := hod rfl
    have hp := plC_lt (j := 0) h hN hoc (by omega)
    have hp2 := plC_lt (j := 512 * hc D - 1) h hN hoc (by omega)
    have hpl : ∀ f, f_Tb_place K G (SS0.u_w_Dk_bytes f) (nI o) = some (nI (plC D o), SS0.u_w_Dk_bytes f) := fun f => by
      unfold f_Tb_place plC
      show some ((SS0.v_Tb_start + (nI o - 2) * SS0.v_Tb_cluster) * 512, _) = _
      rw [k1, k2, show (2 : Int32) = nI 2 from rfl, pk_sub hoc.1, pk_mul, nI_add, show (512 : Int32) = nI 512 from rfl, pk_mul, Nat.mul_comm]
    generalize emF (ptC (fun i => plS D (ch ++ xs) (b + i)) W (smN nm 11) us (enA (nmW (zr X1 (plS D (ch ++ xs) (b + W - 1)) 32) (plS D (ch ++ xs) (b + W - 1)) nm 11) (plS D (ch ++ xs) (b + W - 1)) 48 o) (W - 1)) (un < b + W ∧ b + W < L') (plS D (ch ++ xs) (b + W)) = F2
    unfold f_Ed_addItem_150
    rw [if_neg (show ¬ nI 1 = 0 by decide), qC_dts (K := K) (N := N) (h := hcl) (p := plC D o) (S := SS0.u_w_Dk_bytes F2) (by omega) hG hN1 hN (by omega) ho hh28 hhl hpl hfst2, q_b]
    rfl
