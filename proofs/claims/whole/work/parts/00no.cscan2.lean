/-! The scan of the class, whole. -/
def coK (S : CS) := ((S.w_Vt_failAsks, S.w_Vt_failWrites, S.v_Vt_fails, S.v_Vt_here, S.v_Vt_stale, S.v_Vt_lastFault, S.v_Vt_hasRun, S.v_Dk_sectors), (S.w_Dk_bytes, S.v_Dk_power, S.w_Tp_bytes, S.w_Tp_ready, S.v_Tp_used, S.w_Tb_goal, S.w_Ed_road, S.v_Ed_roadLength), (S.w_Ed_units, S.v_Ed_unitCount, S.w_Ed_shortName, S.v_Ed_plain, S.v_Ed_firstSlot, S.v_Ed_slots, S.v_Ed_unseen, S.v_Ed_wanted), (S.v_Pl_blocks, S.w_Pl_fixed, S.w_Pl_used, S.w_Pl_aimedAt, S.w_Pl_rooms, S.v_Pl_roomCount, S.w_Pl_list, S.v_Pl_listed), (S.v_Pl_size, S.v_Pl_groups, S.v_Pl_inodes, S.v_Pl_moves, S.v_Pl_built, S.v_Pl_free, S.w_Tu_block, S.v_In_seen))
theorem coK_w_Vt_failAsks {S S' : CS} (h : coK S' = coK S) : S'.w_Vt_failAsks = S.w_Vt_failAsks := congrArg (fun x => x.1.1) h
theorem coK_w_Vt_failWrites {S S' : CS} (h : coK S' = coK S) : S'.w_Vt_failWrites = S.w_Vt_failWrites := congrArg (fun x => x.1.2.1) h
theorem coK_v_Vt_fails {S S' : CS} (h : coK S' = coK S) : S'.v_Vt_fails = S.v_Vt_fails := congrArg (fun x => x.1.2.2.1) h
theorem coK_v_Vt_here {S S' : CS} (h : coK S' = coK S) : S'.v_Vt_here = S.v_Vt_here := congrArg (fun x => x.1.2.2.2.1) h
theorem coK_v_Vt_stale {S S' : CS} (h : coK S' = coK S) : S'.v_Vt_stale = S.v_Vt_stale := congrArg (fun x => x.1.2.2.2.2.1) h
theorem coK_v_Vt_lastFault {S S' : CS} (h : coK S' = coK S) : S'.v_Vt_lastFault = S.v_Vt_lastFault := congrArg (fun x => x.1.2.2.2.2.2.1) h
theorem coK_v_Vt_hasRun {S S' : CS} (h : coK S' = coK S) : S'.v_Vt_hasRun = S.v_Vt_hasRun := congrArg (fun x => x.1.2.2.2.2.2.2.1) h
theorem coK_v_Dk_sectors {S S' : CS} (h : coK S' = coK S) : S'.v_Dk_sectors = S.v_Dk_sectors := congrArg (fun x => x.1.2.2.2.2.2.2.2) h
theorem coK_w_Dk_bytes {S S' : CS} (h : coK S' = coK S) : S'.w_Dk_bytes = S.w_Dk_bytes := congrArg (fun x => x.2.1.1) h
theorem coK_v_Dk_power {S S' : CS} (h : coK S' = coK S) : S'.v_Dk_power = S.v_Dk_power := congrArg (fun x => x.2.1.2.1) h
theorem coK_w_Tp_bytes {S S' : CS} (h : coK S' = coK S) : S'.w_Tp_bytes = S.w_Tp_bytes := congrArg (fun x => x.2.1.2.2.1) h
theorem coK_w_Tp_ready {S S' : CS} (h : coK S' = coK S) : S'.w_Tp_ready = S.w_Tp_ready := congrArg (fun x => x.2.1.2.2.2.1) h
theorem coK_v_Tp_used {S S' : CS} (h : coK S' = coK S) : S'.v_Tp_used = S.v_Tp_used := congrArg (fun x => x.2.1.2.2.2.2.1) h
theorem coK_w_Tb_goal {S S' : CS} (h : coK S' = coK S) : S'.w_Tb_goal = S.w_Tb_goal := congrArg (fun x => x.2.1.2.2.2.2.2.1) h
theorem coK_w_Ed_road {S S' : CS} (h : coK S' = coK S) : S'.w_Ed_road = S.w_Ed_road := congrArg (fun x => x.2.1.2.2.2.2.2.2.1) h
theorem coK_v_Ed_roadLength {S S' : CS} (h : coK S' = coK S) : S'.v_Ed_roadLength = S.v_Ed_roadLength := congrArg (fun x => x.2.1.2.2.2.2.2.2.2) h
theorem coK_w_Ed_units {S S' : CS} (h : coK S' = coK S) : S'.w_Ed_units = S.w_Ed_units := congrArg (fun x => x.2.2.1.1) h
theorem coK_v_Ed_unitCount {S S' : CS} (h : coK S' = coK S) : S'.v_Ed_unitCount = S.v_Ed_unitCount := congrArg (fun x => x.2.2.1.2.1) h
theorem coK_w_Ed_shortName {S S' : CS} (h : coK S' = coK S) : S'.w_Ed_shortName = S.w_Ed_shortName := congrArg (fun x => x.2.2.1.2.2.1) h
theorem coK_v_Ed_plain {S S' : CS} (h : coK S' = coK S) : S'.v_Ed_plain = S.v_Ed_plain := congrArg (fun x => x.2.2.1.2.2.2.1) h
theorem coK_v_Ed_firstSlot {S S' : CS} (h : coK S' = coK S) : S'.v_Ed_firstSlot = S.v_Ed_firstSlot := congrArg (fun x => x.2.2.1.2.2.2.2.1) h
theorem coK_v_Ed_slots {S S' : CS} (h : coK S' = coK S) : S'.v_Ed_slots = S.v_Ed_slots := congrArg (fun x => x.2.2.1.2.2.2.2.2.1) h
theorem coK_v_Ed_unseen {S S' : CS} (h : coK S' = coK S) : S'.v_Ed_unseen = S.v_Ed_unseen := congrArg (fun x => x.2.2.1.2.2.2.2.2.2.1) h
theorem coK_v_Ed_wanted {S S' : CS} (h : coK S' = coK S) : S'.v_Ed_wanted = S.v_Ed_wanted := congrArg (fun x => x.2.2.1.2.2.2.2.2.2.2) h
theorem coK_v_Pl_blocks {S S' : CS} (h : coK S' = coK S) : S'.v_Pl_blocks = S.v_Pl_blocks := congrArg (fun x => x.2.2.2.1.1) h
theorem coK_w_Pl_fixed {S S' : CS} (h : coK S' = coK S) : S'.w_Pl_fixed = S.w_Pl_fixed := congrArg (fun x => x.2.2.2.1.2.1) h
theorem coK_w_Pl_used {S S' : CS} (h : coK S' = coK S) : S'.w_Pl_used = S.w_Pl_used := congrArg (fun x => x.2.2.2.1.2.2.1) h
theorem coK_w_Pl_aimedAt {S S' : CS} (h : coK S' = coK S) : S'.w_Pl_aimedAt = S.w_Pl_aimedAt := congrArg (fun x => x.2.2.2.1.2.2.2.1) h
theorem coK_w_Pl_rooms {S S' : CS} (h : coK S' = coK S) : S'.w_Pl_rooms = S.w_Pl_rooms := congrArg (fun x => x.2.2.2.1.2.2.2.2.1) h
theorem coK_v_Pl_roomCount {S S' : CS} (h : coK S' = coK S) : S'.v_Pl_roomCount = S.v_Pl_roomCount := congrArg (fun x => x.2.2.2.1.2.2.2.2.2.1) h
theorem coK_w_Pl_list {S S' : CS} (h : coK S' = coK S) : S'.w_Pl_list = S.w_Pl_list := congrArg (fun x => x.2.2.2.1.2.2.2.2.2.2.1) h
theorem coK_v_Pl_listed {S S' : CS} (h : coK S' = coK S) : S'.v_Pl_listed = S.v_Pl_listed := congrArg (fun x => x.2.2.2.1.2.2.2.2.2.2.2) h
theorem coK_v_Pl_size {S S' : CS} (h : coK S' = coK S) : S'.v_Pl_size = S.v_Pl_size := congrArg (fun x => x.2.2.2.2.1) h
theorem coK_v_Pl_groups {S S' : CS} (h : coK S' = coK S) : S'.v_Pl_groups = S.v_Pl_groups := congrArg (fun x => x.2.2.2.2.2.1) h
theorem coK_v_Pl_inodes {S S' : CS} (h : coK S' = coK S) : S'.v_Pl_inodes = S.v_Pl_inodes := congrArg (fun x => x.2.2.2.2.2.2.1) h
theorem coK_v_Pl_moves {S S' : CS} (h : coK S' = coK S) : S'.v_Pl_moves = S.v_Pl_moves := congrArg (fun x => x.2.2.2.2.2.2.2.1) h
theorem coK_v_Pl_built {S S' : CS} (h : coK S' = coK S) : S'.v_Pl_built = S.v_Pl_built := congrArg (fun x => x.2.2.2.2.2.2.2.2.1) h
theorem coK_v_Pl_free {S S' : CS} (h : coK S' = coK S) : S'.v_Pl_free = S.v_Pl_free := congrArg (fun x => x.2.2.2.2.2.2.2.2.2.1) h
theorem coK_w_Tu_block {S S' : CS} (h : coK S' = coK S) : S'.w_Tu_block = S.w_Tu_block := congrArg (fun x => x.2.2.2.2.2.2.2.2.2.2.1) h
theorem coK_v_In_seen {S S' : CS} (h : coK S' = coK S) : S'.v_In_seen = S.v_In_seen := congrArg (fun x => x.2.2.2.2.2.2.2.2.2.2.2) h
theorem coC_K {S S' : CS} (h : coC S' = coC S) : coK S' = coK S := by
  unfold coK
  rw [coC_w_Vt_failAsks h, coC_w_Vt_failWrites h, coC_v_Vt_fails h, coC_v_Vt_here h, coC_v_Vt_stale h, coC_v_Vt_lastFault h, coC_v_Vt_hasRun h, coC_v_Dk_sectors h, coC_w_Dk_bytes h, coC_v_Dk_power h, coC_w_Tp_bytes h, coC_w_Tp_ready h, coC_v_Tp_used h, coC_w_Tb_goal h, coC_w_Ed_road h, coC_v_Ed_roadLength h, coC_w_Ed_units h, coC_v_Ed_unitCount h, coC_w_Ed_shortName h, coC_v_Ed_plain h, coC_v_Ed_firstSlot h, coC_v_Ed_slots h, coC_v_Ed_unseen h, coC_v_Ed_wanted h, coC_v_Pl_blocks h, coC_w_Pl_fixed h, coC_w_Pl_used h, coC_w_Pl_aimedAt h, coC_w_Pl_rooms h, coC_v_Pl_roomCount h, coC_w_Pl_list h, coC_v_Pl_listed h, coC_v_Pl_size h, coC_v_Pl_groups h, coC_v_Pl_inodes h, coC_v_Pl_moves h, coC_v_Pl_built h, coC_v_Pl_free h, coC_w_Tu_block h, coC_v_In_seen h]
theorem ag0_2 {D E : Nat → Int32} (h : ∀ p, p < 512 → o1 E p = o1 D p) {p : Nat} (hp : p + 1 < 512) : o2 E p = o2 D p := by
  unfold o2
  rw [h p (by omega), h (p + 1) hp]
theorem ag0_4 {D E : Nat → Int32} (h : ∀ p, p < 512 → o1 E p = o1 D p) {p : Nat} (hp : p + 3 < 512) : o4 E p = o4 D p := by
  unfold o4
  rw [ag0_2 h (by omega), ag0_2 h (by omega)]
theorem ag0_ok {N : Nat} {D E : Nat → Int32} (h : ∀ p, p < 512 → o1 E p = o1 D p) : hdOk N E ↔ hdOk N D := by
  have e1 : hc E = hc D := h 13 (by decide)
  have e2 : hv E = hv D := ag0_2 h (by decide)
  have e3 : hy E = hy D := h 16 (by decide)
  have e4 : hz E = hz D := ag0_4 h (by decide)
  have e5 : hr E = hr D := ag0_4 h (by decide)
  have e6 : ha E = ha D := by unfold ha; rw [e2, e3, e4]
  have e7 : hk N E = hk N D := by unfold hk; rw [e1, e6]
  unfold hdOk hdA hdB
  rw [e1, e2, e3, e4, e5, e6, e7, ag0_2 h (p := 11) (by decide), ag0_2 h (p := 17) (by decide), ag0_2 h (p := 19) (by decide), ag0_2 h (p := 22) (by decide), ag0_4 h (p := 32) (by decide), ag0_2 h (p := 48) (by decide), ag0_2 h (p := 50) (by decide), ag0_2 h (p := 510) (by decide)]
theorem cT_is {N : Nat} {E : Nat → Int32} {G : CG} {S : CS} (hG : G.n = N) (hE : S.w_Dk_bytes = E) (hs : S.v_Dk_sectors = nI N) : cIs N E G (cT N E S) := by
  refine ⟨hG, hE, hs, rfl, rfl, rfl, rfl, rfl, rfl, rfl, fun x hx => ?_⟩
  show cNx N E S.w_Tb_next (N / 2 + 2) x = _
  unfold cNx
  rw [if_pos hx]
theorem cT_co {N : Nat} {E : Nat → Int32} {S : CS} : coK (cT N E S) = coK S := rfl
abbrev agA (N mv : Nat) (D E : Nat → Int32) (gl : Nat → Nat) : Prop := (∀ p, p < 512 → o1 E p = o1 D p) ∧ (hdOk N D → agH D E ∧ agC N D E (gF mv gl))
theorem begI_0 {D : Nat → Int32} {its : List It} : begI D its 0 = hr D := if_pos rfl
theorem qC_start {K N t m mv : Nat} {G : CG} {D E : Nat → Int32} {gl : Nat → Nat} {S : CS} (hS : cIs N E G S) (hH : agH D E) (hN1 : 256 ≤ N) (hG : gOk N G) (hlim : gLim t G) (htk : tkR N S.w_Rd_taken []) : ∃ G' S', f_Tr_startWith K G S S.v_Tb_root = some ((), G', S') ∧ coC S' = coC S ∧ cSc N t D E (mpP D (gF mv gl)) [] z0 G' S' := by
  unfold f_Tr_startWith
  rw [q_l, q_l, q_l]
  generalize hS1 : ((S.u_v_Tr_count 0).u_v_Tr_pooled 0).u_v_Tr_label (-1) = S1
  have a1 : coC S1 = coC S := by rw [← hS1]; rfl
  have a2 : S1.v_Tr_count = nI 0 := by rw [← hS1]; rfl
  have a3 : S1.v_Tr_pooled = nI 0 := by rw [← hS1]; rfl
  have a4 : S1.v_Tr_label = -1 := by rw [← hS1]; rfl
  have a5 : S1.w_Rd_taken = S.w_Rd_taken := by rw [← hS1]; rfl
  obtain ⟨G2, S2, q1, q2, q3, q4, q5, r1, r2, r3, r4, r5, r6, r7, r8, r9, r10, r11, r12, r13⟩ := qC_addItem (K := K) (t := t) (a := 0) (b := 16) hG a2 (by omega) (by omega) hlim
  rw [q1]
  show ∃ G' S', f_Tr_startWith_23 K S.v_Tb_root (nI 0) G2 S2 = _ ∧ _
  have hGG := q2
  obtain ⟨g0, ⟨g1, g2, g3, g4, g5, g6, -⟩, ga, gb, -⟩ := hGG
  have hin : ∀ m, m = G2.l_parent → lf_in (nI 0) m := fun m hm => by rw [hm]; exact q_in q3 (by omega)
  have hcl : (nI 0).toNatClampNeg = 0 := nI_clamp (by omega)
  have hroot : S.v_Tb_root = nI (hr D) := by rw [hS.2.2.2.2.2.2.2.1, (agH_n hH).2.2.2.2.1]
  have hplace : f_Tr_place K G2 S2 (nI 0) S.v_Tb_root 0 0 0 = some ((((S2.u_w_Tr_first (upd S2.w_Tr_first 0 S.v_Tb_root)).u_w_Tr_spot (upd S2.w_Tr_spot 0 0)).u_w_Tr_slot (upd S2.w_Tr_slot 0 0)).u_w_Tr_parts (upd S2.w_Tr_parts 0 0)) := by
    unfold f_Tr_place
    rw [qC_has r4 (by omega) (by omega), b01_t (by omega), q_c, if_neg (by decide), q_g (hin _ g1), q_l, q_g (hin _ g4), q_l, q_g (hin _ g5), q_l, q_g (hin _ g6), q_l, hcl]
    rfl
  unfold f_Tr_startWith_23
  rw [hplace, q_b]
  generalize hS3 : (((S2.u_w_Tr_first (upd S2.w_Tr_first 0 S.v_Tb_root)).u_w_Tr_spot (upd S2.w_Tr_spot 0 0)).u_w_Tr_slot (upd S2.w_Tr_slot 0 0)).u_w_Tr_parts (upd S2.w_Tr_parts 0 0) = S3
  refine ⟨G2, S3, rfl, ?_, ⟨?_, ?_, fun j hj => ?_, fun u hu => ?_⟩, ?_, ?_, fun j hj => ?_, ⟨q2, q5, ?_, Nat.zero_le _⟩, z0_ok hN1, z0_cin N D, fun j h1 h2 => ?_, fun q hq => by cases hq⟩
  · rw [← hS3]; exact r1.trans a1
  · rw [← hS3]; exact r4
  · rw [← hS3]; exact r2.2.1.trans a3
  · have hj : j < 1 := hj
    obtain rfl : j = 0 := by omega
    rw [← hS3]
    refine ⟨r6, ?_, r7, ?_, ?_, ?_, r11.trans a3, r12, r13, r8⟩
    · show upd S2.w_Tr_first 0 S.v_Tb_root 0 = _
      rw [pk_us, hroot, begI_0]
    · show upd S2.w_Tr_spot 0 0 0 = _
      rw [pk_us]; rfl
    · show upd S2.w_Tr_slot 0 0 0 = _
      rw [pk_us]; rfl
    · show upd S2.w_Tr_parts 0 0 0 = _
      rw [pk_us]; rfl
  · have hu : u < 0 := hu
    omega
  · rw [← hS3]
    show tkR N S2.w_Rd_taken []
    rw [r3.1, a5]; exact htk
  · rw [← hS3]; exact r2.1.trans a4
  · have hj : j < 1 := hj
    obtain rfl : j = 0 := by omega
    obtain ⟨k1, k2⟩ := ksD_0 (D := D) (its := sIt z0) (fks := []) (j := 0) (n := (sIt z0).length) (Nat.zero_le _)
    rw [← hS3, k1, k2]
    exact ⟨r9, r10⟩
  · show 1 ≤ _
    omega
  · have h2 : j < 1 := h2
    omega
theorem qC_scan {K N t m mv : Nat} {G : CG} {D E : Nat → Int32} {gl : Nat → Nat} {S : CS} (hK : 20000 ≤ K) (hN1 : 256 ≤ N) (hN : N ≤ 1024) (hcp : capOk N D m) (hm : m ≤ 4000) (hG : gOk N G) (hlim : gLim t G) (hE : S.w_Dk_bytes = E) (hs : S.v_Dk_sectors = nI N) (hag : agA N mv D E gl) (hmv : mv = 0 ∨ mv = 1) (hg : mv = 1 → ∀ c, c < N / 2 + 2 → S.w_Tb_goal c = nI (gl c)) (hgl : ∀ c, gl c < 2 ^ 31) : ∃ r G' S', f_Rd_scan K G S (nI mv) = some (nI r, G', S') ∧ coK S' = coK S ∧ gOk N G' ∧ gLim t G' ∧ (∀ fks z, trE N D = .ok (fks, z) → r = 0 ∧ cIs N E G' S' ∧ cSc N t D E (mpP D (gF mv gl)) fks z G' S' ∧ fks.length = (sIt z).length) ∧ (∀ e, trE N D = .error e → r = e ∧ (e ≠ 1 → cIs N E G' S')) := by
  obtain ⟨rd1, rd2⟩ := qV_read (K := K) (N := N) (G := G) (D := E) (S := S) (by omega) hG.1 hE hN1 hN hs
  unfold f_Rd_scan trE
  by_cases g1 : hdOk N D
  rotate_left
  · have g1' : ¬ hdOk N E := fun w => g1 ((ag0_ok hag.1).mp w)
    rw [rd2 g1', q_c, if_pos rfl, cif_f g1]
    refine ⟨1, G, S, rfl, rfl, hG, hlim, fun fks z e => (by cases e), fun e he => ?_⟩
    cases he
    exact ⟨rfl, fun w => absurd rfl w⟩
  obtain ⟨hH, hA⟩ := hag.2 g1
  have g1' : hdOk N E := (agH_ok hH).mpr g1
  rw [rd1 g1', q_c, if_neg (show ¬ (1 : Int32) = 0 by decide), cif_t g1]
  generalize hS1 : cT N E S = S1
  have a1 : coK S1 = coK S := by rw [← hS1]; rfl
  have aS : cIs N E G S1 := by rw [← hS1]; exact cT_is hG.1 hE hs
  obtain ⟨ef1, ef2⟩ := qV_fit (K := K) (by omega) aS g1' hN
  by_cases g2 : tabOk N D
  rotate_left
  · have g2' : ¬ tabOk N E := fun w => g2 ((agH_tab hH g1 hN).mp w)
    rw [ef2 g2', q_c, if_pos (show nI 0 = 0 from rfl), cif_f g2]
    refine ⟨2, G, S1, rfl, a1, hG, hlim, fun fks z e => (by cases e), fun e he => ?_⟩
    cases he
    exact ⟨rfl, fun _ => aS⟩
  have g2' : tabOk N E := (agH_tab hH g1 hN).mpr g2
  rw [ef1 g2', q_c, if_neg (show ¬ nI 1 = 0 by decide), cif_t g2]
  -- no cluster is taken
  have h26 : f_Rd_scan_26 K K (nI mv) 0 G S1 = lf_n (f_Tr_startWith K G (S1.u_w_Rd_taken (foF S1.w_Rd_taken (fun _ => nI 0) (N / 2 + 2))) S1.v_Tb_root) fun _ G_6 S_6 => f_Rd_scan_62 K (nI mv) G_6 S_6 := by
    have key := lp (F := fun k q T => f_Rd_scan_26 K k (nI mv) (nI q) G T) (Inv := fun q s => s = S1.u_w_Rd_taken (foF S1.w_Rd_taken (fun _ => nI 0) q)) (Post := fun r => r = lf_n (f_Tr_startWith K G (S1.u_w_Rd_taken (foF S1.w_Rd_taken (fun _ => nI 0) (N / 2 + 2))) S1.v_Tb_root) fun _ G_6 S_6 => f_Rd_scan_62 K (nI mv) G_6 S_6) (n := N / 2 + 2) ?_ ?_ (N / 2 + 2) 0 K S1 (by omega) (by omega) ?_
    · exact key
    · intro q s k hq hI
      left
      refine ⟨_, rfl, ?_⟩
      have e2 : s.w_Rd_taken = foF S1.w_Rd_taken (fun _ => nI 0) q := by rw [hI]; rfl
      rw [f_Rd_scan_26, hG.1, if_neg (nI_ge hq (by omega)), q_g (q_in hq (by omega)), q_l, q_l, nI_1, nI_clamp (by omega), e2, show vp_nar .boolean 0 = (fun _ => nI 0) q from rfl, foF_add, hI]
      rfl
    · intro s k hI
      rw [f_Rd_scan_26, hG.1, if_pos (Int32.le_refl _), hI]
      rfl
    · rw [foF_0]
      rfl
  rw [h26]
  generalize hS2 : S1.u_w_Rd_taken (foF S1.w_Rd_taken (fun _ => nI 0) (N / 2 + 2)) = S2
  have b1 : coC S2 = coC S1 := by rw [← hS2]; rfl
  have bS : cIs N E G S2 := cIs_co b1 rfl aS
  have br : S1.v_Tb_root = S2.v_Tb_root := (coC_v_Tb_root b1).symm
  have bt : tkR N S2.w_Rd_taken [] := by
    intro x hx
    rw [← hS2]
    show foF S1.w_Rd_taken (fun _ => nI 0) (N / 2 + 2) x = _
    unfold foF
    rw [if_pos hx, if_neg (fun w => by cases w)]
  obtain ⟨G3, S3, c1, c2, c3⟩ := qC_start (K := K) (t := t) (m := m) (mv := mv) (gl := gl) bS hH hN1 hG hlim bt
  rw [br, c1]
  show ∃ r G' S', f_Rd_scan_62 K (nI mv) G3 S3 = _ ∧ _
  have hgc := c3.2.2.2.2.1
  have cS : cIs N E G3 S3 := cIs_co c2 (hgc.1.1.trans hG.1.symm) bS
  have cK : coK S3 = coK S := (coC_K (c2.trans b1)).trans a1
  obtain ⟨q1, q2⟩ := qC_scan64 (K := K) (t := t) (S0 := S3) hK cS hH hA g1 hN hcp hm hmv (fun e c hc => by rw [coK_w_Tb_goal cK]; exact hg e c hc) hgl 5000 K [] z0 G3 S3 rfl (by omega) (by decide) rfl c3
  unfold f_Rd_scan_62 trS
  cases hsc : scL N D 5000 0 [] z0 with
  | error e1 =>
    obtain ⟨G4, S4, r1, r2, r3, r4⟩ := q2 e1 hsc
    rw [show (0 : Int32) = nI ([] : List Nat).length from rfl, r1, exb_e]
    refine ⟨e1, G4, S4, rfl, (coC_K r2).trans cK, r3, r4, fun fks z e => (by cases e), fun e he => ?_⟩
    cases he
    exact ⟨rfl, fun _ => cIs_co r2 (r3.1.trans hgc.1.1.symm) cS⟩
  | ok x =>
    obtain ⟨fks, z⟩ := x
    obtain ⟨G4, S4, r1, r2, r3, r4⟩ := q1 fks z hsc
    have dS := cIs_co r2 (r4.2.2.2.2.1.1.1.trans hgc.1.1.symm) cS
    rw [show (0 : Int32) = nI ([] : List Nat).length from rfl, r1, exb_o]
    unfold f_Rd_scan_115
    rw [qC_strays hK dS hH g1 hN r4.2.1, q_c]
    by_cases w : stray N D (sTk z)
    · rw [b01_t w, if_neg (by decide), cif_t w]
      refine ⟨6, G4, S4, rfl, (coC_K r2).trans cK, r4.2.2.2.2.1.1, r4.2.2.2.2.1.2.1, fun fks z e => (by cases e), fun e he => ?_⟩
      cases he
      exact ⟨rfl, fun _ => dS⟩
    · rw [b01_f w, if_pos (by decide), cif_f w]
      refine ⟨0, G4, S4, rfl, (coC_K r2).trans cK, r4.2.2.2.2.1.1, r4.2.2.2.2.1.2.1, fun fks' z' e => ?_, fun e he => (by cases he)⟩
      cases e
      exact ⟨rfl, dS, r4, r3⟩
