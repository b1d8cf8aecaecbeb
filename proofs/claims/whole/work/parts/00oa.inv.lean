/-! What both hold between calls, while there is no inode volume. -/
def coV (S : CS) := ((S.w_Vt_failAsks, S.w_Vt_failWrites, S.v_Vt_fails, S.v_Vt_here, S.v_Vt_hasRun, S.v_Dk_sectors, S.w_Dk_bytes, S.v_Dk_power), (S.w_Tp_bytes, S.w_Tp_ready, S.v_Tp_used, S.w_Tb_goal, S.w_Ed_road, S.v_Ed_roadLength, S.w_Ed_units, S.v_Ed_unitCount), (S.w_Ed_shortName, S.v_Ed_plain, S.v_Ed_firstSlot, S.v_Ed_slots, S.v_Ed_unseen, S.v_Ed_wanted, S.v_Pl_blocks, S.w_Pl_fixed), (S.w_Pl_used, S.w_Pl_aimedAt, S.w_Pl_rooms, S.v_Pl_roomCount, S.w_Pl_list, S.v_Pl_listed, S.v_Pl_size, S.v_Pl_groups), (S.v_Pl_inodes, S.v_Pl_moves, S.v_Pl_built, S.v_Pl_free, S.w_Tu_block, S.v_In_seen))
theorem coV_w_Vt_failAsks {S S' : CS} (h : coV S' = coV S) : S'.w_Vt_failAsks = S.w_Vt_failAsks := congrArg (fun x => x.1.1) h
theorem coV_w_Vt_failWrites {S S' : CS} (h : coV S' = coV S) : S'.w_Vt_failWrites = S.w_Vt_failWrites := congrArg (fun x => x.1.2.1) h
theorem coV_v_Vt_fails {S S' : CS} (h : coV S' = coV S) : S'.v_Vt_fails = S.v_Vt_fails := congrArg (fun x => x.1.2.2.1) h
theorem coV_v_Vt_here {S S' : CS} (h : coV S' = coV S) : S'.v_Vt_here = S.v_Vt_here := congrArg (fun x => x.1.2.2.2.1) h
theorem coV_v_Vt_hasRun {S S' : CS} (h : coV S' = coV S) : S'.v_Vt_hasRun = S.v_Vt_hasRun := congrArg (fun x => x.1.2.2.2.2.1) h
theorem coV_v_Dk_sectors {S S' : CS} (h : coV S' = coV S) : S'.v_Dk_sectors = S.v_Dk_sectors := congrArg (fun x => x.1.2.2.2.2.2.1) h
theorem coV_w_Dk_bytes {S S' : CS} (h : coV S' = coV S) : S'.w_Dk_bytes = S.w_Dk_bytes := congrArg (fun x => x.1.2.2.2.2.2.2.1) h
theorem coV_v_Dk_power {S S' : CS} (h : coV S' = coV S) : S'.v_Dk_power = S.v_Dk_power := congrArg (fun x => x.1.2.2.2.2.2.2.2) h
theorem coV_w_Tp_bytes {S S' : CS} (h : coV S' = coV S) : S'.w_Tp_bytes = S.w_Tp_bytes := congrArg (fun x => x.2.1.1) h
theorem coV_w_Tp_ready {S S' : CS} (h : coV S' = coV S) : S'.w_Tp_ready = S.w_Tp_ready := congrArg (fun x => x.2.1.2.1) h
theorem coV_v_Tp_used {S S' : CS} (h : coV S' = coV S) : S'.v_Tp_used = S.v_Tp_used := congrArg (fun x => x.2.1.2.2.1) h
theorem coV_w_Tb_goal {S S' : CS} (h : coV S' = coV S) : S'.w_Tb_goal = S.w_Tb_goal := congrArg (fun x => x.2.1.2.2.2.1) h
theorem coV_w_Ed_road {S S' : CS} (h : coV S' = coV S) : S'.w_Ed_road = S.w_Ed_road := congrArg (fun x => x.2.1.2.2.2.2.1) h
theorem coV_v_Ed_roadLength {S S' : CS} (h : coV S' = coV S) : S'.v_Ed_roadLength = S.v_Ed_roadLength := congrArg (fun x => x.2.1.2.2.2.2.2.1) h
theorem coV_w_Ed_units {S S' : CS} (h : coV S' = coV S) : S'.w_Ed_units = S.w_Ed_units := congrArg (fun x => x.2.1.2.2.2.2.2.2.1) h
theorem coV_v_Ed_unitCount {S S' : CS} (h : coV S' = coV S) : S'.v_Ed_unitCount = S.v_Ed_unitCount := congrArg (fun x => x.2.1.2.2.2.2.2.2.2) h
theorem coV_w_Ed_shortName {S S' : CS} (h : coV S' = coV S) : S'.w_Ed_shortName = S.w_Ed_shortName := congrArg (fun x => x.2.2.1.1) h
theorem coV_v_Ed_plain {S S' : CS} (h : coV S' = coV S) : S'.v_Ed_plain = S.v_Ed_plain := congrArg (fun x => x.2.2.1.2.1) h
theorem coV_v_Ed_firstSlot {S S' : CS} (h : coV S' = coV S) : S'.v_Ed_firstSlot = S.v_Ed_firstSlot := congrArg (fun x => x.2.2.1.2.2.1) h
theorem coV_v_Ed_slots {S S' : CS} (h : coV S' = coV S) : S'.v_Ed_slots = S.v_Ed_slots := congrArg (fun x => x.2.2.1.2.2.2.1) h
theorem coV_v_Ed_unseen {S S' : CS} (h : coV S' = coV S) : S'.v_Ed_unseen = S.v_Ed_unseen := congrArg (fun x => x.2.2.1.2.2.2.2.1) h
theorem coV_v_Ed_wanted {S S' : CS} (h : coV S' = coV S) : S'.v_Ed_wanted = S.v_Ed_wanted := congrArg (fun x => x.2.2.1.2.2.2.2.2.1) h
theorem coV_v_Pl_blocks {S S' : CS} (h : coV S' = coV S) : S'.v_Pl_blocks = S.v_Pl_blocks := congrArg (fun x => x.2.2.1.2.2.2.2.2.2.1) h
theorem coV_w_Pl_fixed {S S' : CS} (h : coV S' = coV S) : S'.w_Pl_fixed = S.w_Pl_fixed := congrArg (fun x => x.2.2.1.2.2.2.2.2.2.2) h
theorem coV_w_Pl_used {S S' : CS} (h : coV S' = coV S) : S'.w_Pl_used = S.w_Pl_used := congrArg (fun x => x.2.2.2.1.1) h
theorem coV_w_Pl_aimedAt {S S' : CS} (h : coV S' = coV S) : S'.w_Pl_aimedAt = S.w_Pl_aimedAt := congrArg (fun x => x.2.2.2.1.2.1) h
theorem coV_w_Pl_rooms {S S' : CS} (h : coV S' = coV S) : S'.w_Pl_rooms = S.w_Pl_rooms := congrArg (fun x => x.2.2.2.1.2.2.1) h
theorem coV_v_Pl_roomCount {S S' : CS} (h : coV S' = coV S) : S'.v_Pl_roomCount = S.v_Pl_roomCount := congrArg (fun x => x.2.2.2.1.2.2.2.1) h
theorem coV_w_Pl_list {S S' : CS} (h : coV S' = coV S) : S'.w_Pl_list = S.w_Pl_list := congrArg (fun x => x.2.2.2.1.2.2.2.2.1) h
theorem coV_v_Pl_listed {S S' : CS} (h : coV S' = coV S) : S'.v_Pl_listed = S.v_Pl_listed := congrArg (fun x => x.2.2.2.1.2.2.2.2.2.1) h
theorem coV_v_Pl_size {S S' : CS} (h : coV S' = coV S) : S'.v_Pl_size = S.v_Pl_size := congrArg (fun x => x.2.2.2.1.2.2.2.2.2.2.1) h
theorem coV_v_Pl_groups {S S' : CS} (h : coV S' = coV S) : S'.v_Pl_groups = S.v_Pl_groups := congrArg (fun x => x.2.2.2.1.2.2.2.2.2.2.2) h
theorem coV_v_Pl_inodes {S S' : CS} (h : coV S' = coV S) : S'.v_Pl_inodes = S.v_Pl_inodes := congrArg (fun x => x.2.2.2.2.1) h
theorem coV_v_Pl_moves {S S' : CS} (h : coV S' = coV S) : S'.v_Pl_moves = S.v_Pl_moves := congrArg (fun x => x.2.2.2.2.2.1) h
theorem coV_v_Pl_built {S S' : CS} (h : coV S' = coV S) : S'.v_Pl_built = S.v_Pl_built := congrArg (fun x => x.2.2.2.2.2.2.1) h
theorem coV_v_Pl_free {S S' : CS} (h : coV S' = coV S) : S'.v_Pl_free = S.v_Pl_free := congrArg (fun x => x.2.2.2.2.2.2.2.1) h
theorem coV_w_Tu_block {S S' : CS} (h : coV S' = coV S) : S'.w_Tu_block = S.w_Tu_block := congrArg (fun x => x.2.2.2.2.2.2.2.2.1) h
theorem coV_v_In_seen {S S' : CS} (h : coV S' = coV S) : S'.v_In_seen = S.v_In_seen := congrArg (fun x => x.2.2.2.2.2.2.2.2.2) h
theorem coK_V {S S' : CS} (h : coK S' = coK S) : coV S' = coV S := by
  unfold coV
  rw [coK_w_Vt_failAsks h, coK_w_Vt_failWrites h, coK_v_Vt_fails h, coK_v_Vt_here h, coK_v_Vt_hasRun h, coK_v_Dk_sectors h, coK_w_Dk_bytes h, coK_v_Dk_power h, coK_w_Tp_bytes h, coK_w_Tp_ready h, coK_v_Tp_used h, coK_w_Tb_goal h, coK_w_Ed_road h, coK_v_Ed_roadLength h, coK_w_Ed_units h, coK_v_Ed_unitCount h, coK_w_Ed_shortName h, coK_v_Ed_plain h, coK_v_Ed_firstSlot h, coK_v_Ed_slots h, coK_v_Ed_unseen h, coK_v_Ed_wanted h, coK_v_Pl_blocks h, coK_w_Pl_fixed h, coK_w_Pl_used h, coK_w_Pl_aimedAt h, coK_w_Pl_rooms h, coK_v_Pl_roomCount h, coK_w_Pl_list h, coK_v_Pl_listed h, coK_v_Pl_size h, coK_v_Pl_groups h, coK_v_Pl_inodes h, coK_v_Pl_moves h, coK_v_Pl_built h, coK_v_Pl_free h, coK_w_Tu_block h, coK_v_In_seen h]
theorem coL_v_n {T T' : MS} (h : coL T' = coL T) : T'.v_n = T.v_n := congrArg (fun x => x.1.1) h
theorem coL_v_disk {T T' : MS} (h : coL T' = coL T) : T'.v_disk = T.v_disk := congrArg (fun x => x.1.2.1) h
theorem coL_v_fresh {T T' : MS} (h : coL T' = coL T) : T'.v_fresh = T.v_fresh := congrArg (fun x => x.1.2.2.1) h
theorem coL_v_tape {T T' : MS} (h : coL T' = coL T) : T'.v_tape = T.v_tape := congrArg (fun x => x.1.2.2.2.1) h
theorem coL_v_ready {T T' : MS} (h : coL T' = coL T) : T'.v_ready = T.v_ready := congrArg (fun x => x.1.2.2.2.2.1) h
theorem coL_v_taped {T T' : MS} (h : coL T' = coL T) : T'.v_taped = T.v_taped := congrArg (fun x => x.1.2.2.2.2.2.1) h
theorem coL_v_thrown {T T' : MS} (h : coL T' = coL T) : T'.v_thrown = T.v_thrown := congrArg (fun x => x.1.2.2.2.2.2.2.1) h
theorem coL_v_told {T T' : MS} (h : coL T' = coL T) : T'.v_told = T.v_told := congrArg (fun x => x.1.2.2.2.2.2.2.2) h
theorem coL_v_fed {T T' : MS} (h : coL T' = coL T) : T'.v_fed = T.v_fed := congrArg (fun x => x.2.1.1) h
theorem coL_v_turned {T T' : MS} (h : coL T' = coL T) : T'.v_turned = T.v_turned := congrArg (fun x => x.2.1.2.1) h
theorem coL_v_ran {T T' : MS} (h : coL T' = coL T) : T'.v_ran = T.v_ran := congrArg (fun x => x.2.1.2.2.1) h
theorem coL_v_here {T T' : MS} (h : coL T' = coL T) : T'.v_here = T.v_here := congrArg (fun x => x.2.1.2.2.2) h
theorem coL_v_brief {T T' : MS} (h : coL T' = coL T) : T'.v_brief = T.v_brief := congrArg (fun x => x.2.2.1.1) h
theorem coL_v_stem {T T' : MS} (h : coL T' = coL T) : T'.v_stem = T.v_stem := congrArg (fun x => x.2.2.1.2.1) h
theorem coL_v_tail {T T' : MS} (h : coL T' = coL T) : T'.v_tail = T.v_tail := congrArg (fun x => x.2.2.1.2.2) h
theorem coL_v_groups {T T' : MS} (h : coL T' = coL T) : T'.v_groups = T.v_groups := congrArg (fun x => x.2.2.2.1.1) h
theorem coL_v_per {T T' : MS} (h : coL T' = coL T) : T'.v_per = T.v_per := congrArg (fun x => x.2.2.2.1.2.1) h
theorem coL_v_inodes {T T' : MS} (h : coL T' = coL T) : T'.v_inodes = T.v_inodes := congrArg (fun x => x.2.2.2.1.2.2.1) h
theorem coL_v_rows {T T' : MS} (h : coL T' = coL T) : T'.v_rows = T.v_rows := congrArg (fun x => x.2.2.2.1.2.2.2.1) h
theorem coL_v_blocks {T T' : MS} (h : coL T' = coL T) : T'.v_blocks = T.v_blocks := congrArg (fun x => x.2.2.2.1.2.2.2.2.1) h
theorem coL_v_fixed {T T' : MS} (h : coL T' = coL T) : T'.v_fixed = T.v_fixed := congrArg (fun x => x.2.2.2.1.2.2.2.2.2.1) h
theorem coL_v_used {T T' : MS} (h : coL T' = coL T) : T'.v_used = T.v_used := congrArg (fun x => x.2.2.2.1.2.2.2.2.2.2.1) h
theorem coL_v_moved {T T' : MS} (h : coL T' = coL T) : T'.v_moved = T.v_moved := congrArg (fun x => x.2.2.2.1.2.2.2.2.2.2.2.1) h
theorem coL_v_aimed {T T' : MS} (h : coL T' = coL T) : T'.v_aimed = T.v_aimed := congrArg (fun x => x.2.2.2.1.2.2.2.2.2.2.2.2.1) h
theorem coL_v_built {T T' : MS} (h : coL T' = coL T) : T'.v_built = T.v_built := congrArg (fun x => x.2.2.2.1.2.2.2.2.2.2.2.2.2) h
theorem coL_v_fixedBlocks {T T' : MS} (h : coL T' = coL T) : T'.v_fixedBlocks = T.v_fixedBlocks := congrArg (fun x => x.2.2.2.2.1.1) h
theorem coL_v_moves {T T' : MS} (h : coL T' = coL T) : T'.v_moves = T.v_moves := congrArg (fun x => x.2.2.2.2.1.2.1) h
theorem coL_v_builds {T T' : MS} (h : coL T' = coL T) : T'.v_builds = T.v_builds := congrArg (fun x => x.2.2.2.2.1.2.2.1) h
theorem coL_v_kept {T T' : MS} (h : coL T' = coL T) : T'.v_kept = T.v_kept := congrArg (fun x => x.2.2.2.2.1.2.2.2.1) h
theorem coL_v_next {T T' : MS} (h : coL T' = coL T) : T'.v_next = T.v_next := congrArg (fun x => x.2.2.2.2.1.2.2.2.2.1) h
theorem coL_v_record {T T' : MS} (h : coL T' = coL T) : T'.v_record = T.v_record := congrArg (fun x => x.2.2.2.2.1.2.2.2.2.2.1) h
theorem coL_v_list {T T' : MS} (h : coL T' = coL T) : T'.v_list = T.v_list := congrArg (fun x => x.2.2.2.2.1.2.2.2.2.2.2.1) h
theorem coL_v_spot {T T' : MS} (h : coL T' = coL T) : T'.v_spot = T.v_spot := congrArg (fun x => x.2.2.2.2.1.2.2.2.2.2.2.2.1) h
theorem coL_v_filled {T T' : MS} (h : coL T' = coL T) : T'.v_filled = T.v_filled := congrArg (fun x => x.2.2.2.2.1.2.2.2.2.2.2.2.2.1) h
theorem coL_v_latest {T T' : MS} (h : coL T' = coL T) : T'.v_latest = T.v_latest := congrArg (fun x => x.2.2.2.2.1.2.2.2.2.2.2.2.2.2) h
theorem coL_p0 {T T' : MS} (h : coL T' = coL T) : T'.v_parent 0 = T.v_parent 0 := congrArg (fun x => x.2.2.2.2.2) h
noncomputable def flt (N : Nat) (D : Nat → Int32) : Nat := match trE N D with
  | .ok _ => 0
  | .error e => e
def mp0 (D : Nat → Int32) : Nat → Nat := mpP D (gF 0 (fun _ => 0))
theorem gF_0 (gl : Nat → Nat) (c : Nat) : gF 0 gl c = c := if_neg (fun w => by have := w.1; omega)
theorem mp0_id {N : Nat} {D : Nat → Int32} (h : hdOk N D) (hN : N ≤ 1024) {p : Nat} (hp : 512 * ha D ≤ p) : mp0 D p = p := by
  have hC := (hd_facts h hN).1
  unfold mp0 mpP plC clOf
  rw [gF_0, Nat.add_sub_cancel]
  obtain ⟨q, rfl⟩ : ∃ q, p = 512 * ha D + q := ⟨p - 512 * ha D, by omega⟩
  rw [Nat.add_sub_cancel_left, show (512 * ha D + q) / 512 - ha D = q / 512 by omega, Nat.div_div_eq_div_mul]
  have := Nat.div_add_mod q (512 * hc D)
  rw [Nat.mul_add, Nat.mul_comm (q / (512 * hc D)) (hc D), ← Nat.mul_assoc, Nat.add_assoc, this]
abbrev sec27 (D : Nat → Int32) : Prop := ∀ p, (1024 ≤ p ∧ p < 1536) ∨ (3584 ≤ p ∧ p < 4096) → o1 D p = 0
def shn (N : Nat) (D : Nat → Int32) (p : Nat) : Prop := p < 512 * ha D ∨ (isCl N D (clOf D p) ∧ ent D (clOf D p) ≠ 0)
/-- the class's disk E while the reference's is D -/
abbrev agF (N : Nat) (ran : Int32) (D E : Nat → Int32) : Prop := (∀ p, p < 512 * N → o1 E p = o1 D p) ∨ (ran = 1 ∧ hdOk N D ∧ ∀ p, p < 512 * N → shn N D p → o1 E p = o1 D p)
theorem plC_cl {D : Nat → Int32} {c j : Nat} (hC : hc D = 2 ∨ hc D = 4 ∨ hc D = 8) (h2 : 2 ≤ c) (hj : j < 512 * hc D) : clOf D (plC D c + j) = c := by
  unfold clOf plC
  have e : (512 * (ha D + (c - 2) * hc D) + j) / 512 - ha D = (c - 2) * hc D + j / 512 := by omega
  have hq : j / 512 < hc D := by omega
  rw [e, Nat.mul_comm, Nat.mul_add_div (by omega), Nat.div_eq_of_lt hq]
  omega
theorem plC_lt {N : Nat} {D : Nat → Int32} {c j : Nat} (h : hdOk N D) (hN : N ≤ 1024) (hc0 : isCl N D c) (hj : j < 512 * hc D) : 512 * ha D ≤ plC D c + j ∧ plC D c + j < 512 * N := by
  obtain ⟨hC, v1, v2, hY, z1, z2, a1, a2, a3, k1, k2, r1, r2, k3, k4, k5⟩ := hd_facts h hN
  unfold plC
  have e : (c - 2) * hc D + hc D ≤ hk N D * hc D := by
    have := Nat.mul_le_mul_right (hc D) (show c - 2 + 1 ≤ hk N D by omega)
    rw [Nat.add_mul, Nat.one_mul] at this
    exact this
  generalize (c - 2) * hc D = x at *
  generalize hk N D * hc D = y at *
  omega
theorem agF_A {N : Nat} {ran : Int32} {D E : Nat → Int32} (hN1 : 256 ≤ N) (hN : N ≤ 1024) (h : agF N ran D E) : agA N 0 D E (fun _ => 0) := by
  rcases h with h | ⟨-, ho, h⟩
  · refine ⟨fun p hp => h p (by omega), fun ho => ⟨⟨fun p hp => h p (by omega), fun p h1 h2 => h p ?_⟩, fun c hc0 _ => ?_⟩⟩
    · have := (hd_facts ho hN).2.2.2.2.2.2.2.2.1
      omega
    · rw [gF_0]
      exact ⟨hc0, fun j hj => h _ (plC_lt ho hN hc0 hj).2⟩
  · have hf := hd_facts ho hN
    refine ⟨fun p hp => h p (by omega) (Or.inl (by omega)), fun ho => ⟨⟨fun p hp => h p (by omega) (Or.inl (by omega)), fun p h1 h2 => h p (by omega) (Or.inl h2)⟩, fun c hc0 hne => ?_⟩⟩
    rw [gF_0]
    refine ⟨hc0, fun j hj => h _ (plC_lt ho hN hc0 hj).2 (Or.inr ?_)⟩
    rw [plC_cl hf.1 hc0.1 hj]
    exact ⟨hc0, hne⟩
/-- how the class holds what it has read -/
abbrev lkC (N : Nat) (D E : Nat → Int32) (G : CG) (S : CS) : Prop := (∀ fks z, trE N D = .ok (fks, z) → S.v_Vt_lastFault = nI 0 ∧ cIs N E G S ∧ (∃ t, cSc N t D E (mp0 D) fks z G S) ∧ fks.length = (sIt z).length) ∧ (∀ e, trE N D = .error e → S.v_Vt_lastFault = nI e ∧ (e ≠ 1 → cIs N E G S))
abbrev flR (S : CS) (T : MS) : Prop := ∃ f, f ≤ 16 ∧ S.v_Vt_fails = nI f ∧ T.v_told = nI f ∧ ∀ j, j < f → (S.w_Vt_failAsks j = nI 0 ∨ S.w_Vt_failAsks j = nI 1) ∧ ∃ w, w < 2 ^ 31 ∧ S.w_Vt_failWrites j = nI w
abbrev heR (N : Nat) (D : Nat → Int32) (S : CS) (T : MS) : Prop := ∀ fks z, trE N D = .ok (fks, z) → ∃ h, h < (sIt z).length ∧ isDr D (sIt z) h ∧ S.v_Vt_here = nI h ∧ T.v_here = nI (if h = 0 then 0 else begI D (sIt z) h)
/-- what does not speak of what has been read -/
abbrev baA (N m : Nat) (D E : Nat → Int32) (S : CS) (T : MS) : Prop := (256 ≤ N ∧ N ≤ 1024 ∧ N % 2 = 0) ∧ (T.v_n = nI N ∧ S.v_Dk_sectors = nI N ∧ S.v_Pl_blocks = nI (N / 2)) ∧ (T.v_disk = D ∧ S.w_Dk_bytes = E) ∧ iv_tape S T ∧ flR S T ∧ (T.v_turned = 0 ∧ S.v_Vt_hasRun = T.v_ran ∧ (T.v_ran = 0 ∨ T.v_ran = 1)) ∧ (agF N T.v_ran D E ∧ sec27 D ∧ capOk N D m ∧ m ≤ 4000) ∧ heR N D S T ∧ T.v_parent 0 = 0
abbrev ivA (N t m : Nat) (D E : Nat → Int32) (G : CG) (S : CS) (T : MS) : Prop := baA N m D E S T ∧ (gOk N G ∧ gLim t G) ∧ (T.v_looked = 0 ∨ lkR N D T) ∧ (S.v_Vt_stale = 1 ∨ (S.v_Vt_stale = 0 ∧ lkC N D E G S))
theorem baA_co {N m : Nat} {D E : Nat → Int32} {S S' : CS} {T T' : MS} (h : baA N m D E S T) (hS : coV S' = coV S) (hT : coL T' = coL T) : baA N m D E S' T' := by
  obtain ⟨h0, ⟨h1, h2, h2'⟩, ⟨h3, h4⟩, h5, h6, ⟨h7, h8, h9⟩, h10, h11, h12⟩ := h
  refine ⟨h0, ⟨(coL_v_n hT).trans h1, (coV_v_Dk_sectors hS).trans h2, (coV_v_Pl_blocks hS).trans h2'⟩, ⟨(coL_v_disk hT).trans h3, (coV_w_Dk_bytes hS).trans h4⟩, ?_, ?_, ⟨(coL_v_turned hT).trans h7, ?_, ?_⟩, ?_, ?_, (coL_p0 hT).trans h12⟩
  · unfold iv_tape at *
    rw [coV_v_Tp_used hS, coV_w_Tp_bytes hS, coV_w_Tp_ready hS, coL_v_taped hT, coL_v_tape hT, coL_v_fed hT, coL_v_ready hT]
    exact h5
  · unfold flR at *
    rw [coV_v_Vt_fails hS, coL_v_told hT, coV_w_Vt_failAsks hS, coV_w_Vt_failWrites hS]
    exact h6
  · rw [coV_v_Vt_hasRun hS, coL_v_ran hT]; exact h8
  · rw [coL_v_ran hT]; exact h9
  · rw [coL_v_ran hT]; exact h10
  · unfold heR at *
    rw [coV_v_Vt_here hS, coL_v_here hT]
    exact h11
theorem sec7_E {N m : Nat} {D E : Nat → Int32} {S : CS} {T : MS} (h : baA N m D E S T) : ∀ p, (1024 ≤ p ∧ p < 1536) ∨ (3584 ≤ p ∧ p < 4096) → o1 E p = 0 := by
  obtain ⟨h0, -, -, -, -, -, ⟨h10, h11, -⟩, -⟩ := h
  intro p hp
  rw [← h11 p hp]
  rcases h10 with g | ⟨-, ho, g⟩
  · exact g p (by omega)
  · have hf := hd_facts ho h0.2.1
    exact g p (by omega) (Or.inl (by omega))
theorem qC_notThere {K N : Nat} {G : CG} {E : Nat → Int32} {S : CS} (hG : G.n = N) (hE : S.w_Dk_bytes = E) (hN1 : 256 ≤ N) (hN : N ≤ 1024) (h7 : ∀ p, 3584 ≤ p → p < 4096 → o1 E p = 0) : f_In_isThere K G S = some (0, S) ∧ f_In_isMarked K G S = some (0, S) := by
  have e4 : o4 E 3584 = 0 := by
    unfold o4 o2
    rw [h7 3584 (by decide) (by decide), h7 (3584 + 1) (by decide) (by decide), h7 (3584 + 2) (by decide) (by decide), h7 (3584 + 2 + 1) (by decide) (by decide)]
  have em : f_In_isMarked K G S = some (0, S) := by
    unfold f_In_isMarked
    rw [show (3584 : Int32) = nI 3584 from rfl, rV4 E hG hE hN (by omega), q_c, e4, if_neg (by decide)]
  refine ⟨?_, em⟩
  unfold f_In_isThere f_In_isThere_26
  rw [em, q_c, if_pos rfl]
theorem flt_ok {N : Nat} {D : Nat → Int32} {x : List Nat × SS} (h : trE N D = .ok x) : flt N D = 0 := by unfold flt; rw [h]
theorem flt_er {N e : Nat} {D : Nat → Int32} (h : trE N D = .error e) : flt N D = e := by unfold flt; rw [h]
theorem dirS_err {N i e : Nat} {D : Nat → Int32} {z : SS} (hd : dirS N D i z = .error e) : 3 ≤ e ∧ e ≤ 5 := by
  unfold dirS at hd
  split at hd
  · cases hd; omega
  · unfold dirC at hd
    cases hx : dirL N D i (sIt z).length _ _ 0 _ with
    | error e2 => rw [hx] at hd; cases hd; exact dirL_err _ _ _ _ hx
    | ok x =>
      rw [hx, exb_o] at hd
      unfold dirE at hd
      by_cases y : pM (sPe x.2) = 0 ∧ (i = 0 ∨ 2 ≤ x.1)
      · rw [cif_t y] at hd; cases hd
      · rw [cif_f y] at hd; cases hd; omega
theorem scL_err {N : Nat} {D : Nat → Int32} : ∀ (m i : Nat) (fks : List Nat) (z : SS) (e : Nat), scL N D m i fks z = .error e → 3 ≤ e ∧ e ≤ 5 := by
  intro m
  induction m with
  | zero => intro i fks z e h; rw [scL] at h; cases h
  | succ m ih =>
    intro i fks z e h
    rw [scL] at h
    by_cases g : i < (sIt z).length
    · rw [if_pos g] at h
      by_cases w : isDr D (sIt z) i
      · rw [cif_t w] at h
        cases hd : dirS N D i z with
        | error e1 => rw [hd] at h; cases h; exact dirS_err hd
        | ok z1 => rw [hd] at h; exact ih _ _ _ _ h
      · rw [cif_f w] at h
        exact ih _ _ _ _ h
    · rw [if_neg g] at h; cases h
theorem trE_err {N e : Nat} {D : Nat → Int32} (h : trE N D = .error e) : 1 ≤ e ∧ e ≤ 6 := by
  unfold trE at h
  by_cases g1 : hdOk N D
  · rw [cif_t g1] at h
    by_cases g2 : tabOk N D
    · rw [cif_t g2] at h
      unfold trS at h
      cases hs : scL N D 5000 0 [] z0 with
      | error e1 => rw [hs] at h; cases h; have := scL_err _ _ _ _ _ hs; omega
      | ok x =>
        rw [hs, exb_o] at h
        by_cases w : stray N D (sTk x.2)
        · rw [cif_t w] at h; cases h; omega
        · rw [cif_f w] at h; cases h
    · rw [cif_f g2] at h; cases h; omega
  · rw [cif_f g1] at h; cases h; omega
theorem flt_le (N : Nat) (D : Nat → Int32) : flt N D ≤ 6 := by
  cases e : trE N D with
  | ok x => rw [flt_ok e]; omega
  | error x => rw [flt_er e]; exact (trE_err e).2
theorem lkR_f {N : Nat} {D : Nat → Int32} {T : MS} (h : lkR N D T) : T.v_fault = nI (flt N D) ∧ flt N D ≤ 6 ∧ (flt N D ≠ 1 → mIs N D T) := by
  obtain ⟨h1, h2, h3⟩ := h
  cases e : trE N D with
  | ok x =>
    obtain ⟨fks, z⟩ := x
    rw [flt_ok e]
    exact ⟨(h2 fks z e).1, by omega, fun _ => (h2 fks z e).2.1⟩
  | error x =>
    rw [flt_er e]
    obtain ⟨a, b, c, d⟩ := h3 x e
    exact ⟨a, c, d⟩
theorem lkC_f {N : Nat} {D E : Nat → Int32} {G : CG} {S : CS} (h : lkC N D E G S) : S.v_Vt_lastFault = nI (flt N D) ∧ (flt N D ≠ 1 → cIs N E G S) := by
  obtain ⟨h2, h3⟩ := h
  cases e : trE N D with
  | ok x =>
    obtain ⟨fks, z⟩ := x
    rw [flt_ok e]
    exact ⟨(h2 fks z e).1, fun _ => (h2 fks z e).2.1⟩
  | error x =>
    rw [flt_er e]
    exact h3 x e
theorem ivA_lookM {K N t m : Nat} {D E : Nat → Int32} {G : CG} {S : CS} {T : MS} (hK : 20000 ≤ K) (h : ivA N t m D E G S T) : ∃ T', f_Mo_look K T = some T' ∧ coL T' = coL T ∧ lkR N D T' := by
  obtain ⟨hb, -, hl, -⟩ := h
  obtain ⟨h0, ⟨h1, -, -⟩, ⟨h3, -⟩, -, -, -, ⟨-, -, hcp, hm⟩, -, -⟩ := hb
  rcases hl with hl | hl
  · exact qM_look hK h0.1 h0.2.1 hcp hm h3 h1 hl
  · refine ⟨T, ?_, rfl, hl⟩
    unfold f_Mo_look
    rw [if_neg (show ¬ T.v_looked = 0 by rw [hl.1]; decide)]
theorem ivA_lookC {K N t m : Nat} {D E : Nat → Int32} {G : CG} {S : CS} {T : MS} (hK : 20000 ≤ K) (h : ivA N t m D E G S T) : ∃ G' S', f_Vt_look K G S = some (nI (if flt N D = 1 then 0 else 1), G', S') ∧ coV S' = coV S ∧ gOk N G' ∧ gLim t G' ∧ S'.v_Vt_stale = 0 ∧ lkC N D E G' S' := by
  obtain ⟨hb, ⟨hG, hL⟩, -, hl⟩ := h
  have h7 := sec7_E hb
  obtain ⟨h0, ⟨h1, h2, -⟩, ⟨h3, h4⟩, -, -, -, ⟨hag, -, hcp, hm⟩, -, -⟩ := hb
  unfold f_Vt_look f_Vt_look_28 f_Vt_look_36
  rw [(qC_notThere hG.1 h4 h0.1 h0.2.1 (fun p a b => h7 p (Or.inr ⟨a, b⟩))).1, q_c, if_pos rfl]
  have fin : ∀ (G' : CG) (S' : CS), lkC N D E G' S' → (if S'.v_Vt_lastFault = 1 then some ((0 : Int32), G', S') else some (1, G', S')) = some (nI (if flt N D = 1 then 0 else 1), G', S') := by
    intro G' S' hc
    obtain ⟨a, -⟩ := lkC_f hc
    have hb6 := flt_le N D
    rw [a]
    by_cases w : flt N D = 1
    · rw [if_pos w, w, if_pos (show nI 1 = 1 from rfl)]; rfl
    · rw [if_neg w, if_neg (fun y : nI (flt N D) = 1 => w ((nI_eq (b := 1) (by omega) (by decide)).mp y))]; rfl
  rcases hl with hl | ⟨hl, hc⟩
  · rw [hl, if_neg (by decide)]
    obtain ⟨r, G1, S1, q1, q2, q3, q4, q5, q6⟩ := qC_scan (K := K) (t := t) (m := m) (mv := 0) (gl := fun _ => 0) (S := S) hK h0.1 h0.2.1 hcp hm hG hL h4 h2 (agF_A h0.1 h0.2.1 hag) (Or.inl rfl) (fun w => absurd w (by decide)) (fun _ => by decide)
    rw [show (0 : Int32) = nI 0 from rfl, q1]
    have hr : nI r = nI (flt N D) := by
      cases e : trE N D with
      | ok x => rw [flt_ok e, (q5 x.1 x.2 e).1]
      | error x => rw [flt_er e, (q6 x e).1]
    generalize hS2 : (S1.u_v_Vt_lastFault (nI r)).u_v_Vt_stale 0 = S2
    have c1 : coV S2 = coV S := by rw [← hS2]; exact (show coV ((S1.u_v_Vt_lastFault (nI r)).u_v_Vt_stale 0) = coV S1 from rfl).trans (coK_V q2)
    have c2 : coC S2 = coC ((S1.u_v_Vt_lastFault (nI r)).u_v_Vt_stale 0) := by rw [hS2]
    have cc : lkC N D E G1 S2 := by
      refine ⟨fun fks z e => ?_, fun e he => ?_⟩
      · obtain ⟨a1, a2, a3, a4⟩ := q5 fks z e
        refine ⟨?_, ?_, ⟨t, ?_⟩, a4⟩
        · rw [← hS2]; show nI r = nI 0; rw [a1]
        · rw [← hS2]; exact a2
        · rw [← hS2]; exact a3
      · obtain ⟨a1, a2⟩ := q6 e he
        refine ⟨?_, fun w => ?_⟩
        · rw [← hS2]; show nI r = nI e; rw [a1]
        · rw [← hS2]; exact a2 w
    refine ⟨G1, S2, ?_, c1, q3, q4, by rw [← hS2]; rfl, cc⟩
    have := fin G1 S2 cc
    rw [← this, ← hS2]
    rfl
  · rw [hl, if_pos rfl]
    exact ⟨G, S, fin G S hc, rfl, hG, hL, hl, hc⟩
