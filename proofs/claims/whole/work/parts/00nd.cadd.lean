/-! What stays in the class. -/
def coC (S : CS) := ((S.w_Vt_failAsks, S.w_Vt_failWrites, S.v_Vt_fails, S.v_Vt_here, S.v_Vt_stale, S.v_Vt_lastFault, S.v_Vt_hasRun, S.v_Dk_sectors), (S.w_Dk_bytes, S.v_Dk_power, S.w_Tp_bytes, S.w_Tp_ready, S.v_Tp_used, S.v_Tb_cluster, S.v_Tb_before, S.v_Tb_copies), (S.v_Tb_length, S.v_Tb_root, S.v_Tb_start, S.v_Tb_clusters, S.w_Tb_next, S.w_Tb_goal, S.w_Ed_road, S.v_Ed_roadLength), (S.w_Ed_units, S.v_Ed_unitCount, S.w_Ed_shortName, S.v_Ed_plain, S.v_Ed_firstSlot, S.v_Ed_slots, S.v_Ed_unseen, S.v_Ed_wanted), (S.v_Pl_blocks, S.w_Pl_fixed, S.w_Pl_used, S.w_Pl_aimedAt, S.w_Pl_rooms, S.v_Pl_roomCount, S.w_Pl_list, S.v_Pl_listed), (S.v_Pl_size, S.v_Pl_groups, S.v_Pl_inodes, S.v_Pl_moves, S.v_Pl_built, S.v_Pl_free, S.w_Tu_block, S.v_In_seen))
def coT (S : CS) := ((S.w_Vt_failAsks, S.w_Vt_failWrites, S.v_Vt_fails, S.v_Vt_here, S.v_Vt_stale, S.v_Vt_lastFault, S.v_Vt_hasRun, S.v_Dk_sectors), (S.w_Dk_bytes, S.v_Dk_power, S.w_Tp_bytes, S.w_Tp_ready, S.v_Tp_used, S.v_Tb_cluster, S.v_Tb_before, S.v_Tb_copies), (S.v_Tb_length, S.v_Tb_root, S.v_Tb_start, S.v_Tb_clusters, S.w_Tb_next, S.w_Tb_goal, S.v_Tr_count, S.v_Tr_label), (S.w_Tr_pool, S.v_Tr_pooled, S.w_Rd_taken, S.w_Rd_road, S.w_Rd_fileRoad, S.w_Rd_units, S.v_Rd_parts, S.v_Rd_toCome), (S.v_Rd_sum, S.w_Ed_road, S.v_Ed_roadLength, S.w_Ed_units, S.v_Ed_unitCount, S.w_Ed_shortName, S.v_Ed_plain, S.v_Ed_firstSlot), (S.v_Ed_slots, S.v_Ed_unseen, S.v_Ed_wanted, S.v_Pl_blocks, S.w_Pl_fixed, S.w_Pl_used, S.w_Pl_aimedAt, S.w_Pl_rooms), (S.v_Pl_roomCount, S.w_Pl_list, S.v_Pl_listed, S.v_Pl_size, S.v_Pl_groups, S.v_Pl_inodes, S.v_Pl_moves, S.v_Pl_built), (S.v_Pl_free, S.w_Tu_block, S.v_In_seen))
theorem coC_w_Vt_failAsks {S S' : CS} (h : coC S' = coC S) : S'.w_Vt_failAsks = S.w_Vt_failAsks := congrArg (fun x => x.1.1) h
theorem coC_w_Vt_failWrites {S S' : CS} (h : coC S' = coC S) : S'.w_Vt_failWrites = S.w_Vt_failWrites := congrArg (fun x => x.1.2.1) h
theorem coC_v_Vt_fails {S S' : CS} (h : coC S' = coC S) : S'.v_Vt_fails = S.v_Vt_fails := congrArg (fun x => x.1.2.2.1) h
theorem coC_v_Vt_here {S S' : CS} (h : coC S' = coC S) : S'.v_Vt_here = S.v_Vt_here := congrArg (fun x => x.1.2.2.2.1) h
theorem coC_v_Vt_stale {S S' : CS} (h : coC S' = coC S) : S'.v_Vt_stale = S.v_Vt_stale := congrArg (fun x => x.1.2.2.2.2.1) h
theorem coC_v_Vt_lastFault {S S' : CS} (h : coC S' = coC S) : S'.v_Vt_lastFault = S.v_Vt_lastFault := congrArg (fun x => x.1.2.2.2.2.2.1) h
theorem coC_v_Vt_hasRun {S S' : CS} (h : coC S' = coC S) : S'.v_Vt_hasRun = S.v_Vt_hasRun := congrArg (fun x => x.1.2.2.2.2.2.2.1) h
theorem coC_v_Dk_sectors {S S' : CS} (h : coC S' = coC S) : S'.v_Dk_sectors = S.v_Dk_sectors := congrArg (fun x => x.1.2.2.2.2.2.2.2) h
theorem coC_w_Dk_bytes {S S' : CS} (h : coC S' = coC S) : S'.w_Dk_bytes = S.w_Dk_bytes := congrArg (fun x => x.2.1.1) h
theorem coC_v_Dk_power {S S' : CS} (h : coC S' = coC S) : S'.v_Dk_power = S.v_Dk_power := congrArg (fun x => x.2.1.2.1) h
theorem coC_w_Tp_bytes {S S' : CS} (h : coC S' = coC S) : S'.w_Tp_bytes = S.w_Tp_bytes := congrArg (fun x => x.2.1.2.2.1) h
theorem coC_w_Tp_ready {S S' : CS} (h : coC S' = coC S) : S'.w_Tp_ready = S.w_Tp_ready := congrArg (fun x => x.2.1.2.2.2.1) h
theorem coC_v_Tp_used {S S' : CS} (h : coC S' = coC S) : S'.v_Tp_used = S.v_Tp_used := congrArg (fun x => x.2.1.2.2.2.2.1) h
theorem coC_v_Tb_cluster {S S' : CS} (h : coC S' = coC S) : S'.v_Tb_cluster = S.v_Tb_cluster := congrArg (fun x => x.2.1.2.2.2.2.2.1) h
theorem coC_v_Tb_before {S S' : CS} (h : coC S' = coC S) : S'.v_Tb_before = S.v_Tb_before := congrArg (fun x => x.2.1.2.2.2.2.2.2.1) h
theorem coC_v_Tb_copies {S S' : CS} (h : coC S' = coC S) : S'.v_Tb_copies = S.v_Tb_copies := congrArg (fun x => x.2.1.2.2.2.2.2.2.2) h
theorem coC_v_Tb_length {S S' : CS} (h : coC S' = coC S) : S'.v_Tb_length = S.v_Tb_length := congrArg (fun x => x.2.2.1.1) h
theorem coC_v_Tb_root {S S' : CS} (h : coC S' = coC S) : S'.v_Tb_root = S.v_Tb_root := congrArg (fun x => x.2.2.1.2.1) h
theorem coC_v_Tb_start {S S' : CS} (h : coC S' = coC S) : S'.v_Tb_start = S.v_Tb_start := congrArg (fun x => x.2.2.1.2.2.1) h
theorem coC_v_Tb_clusters {S S' : CS} (h : coC S' = coC S) : S'.v_Tb_clusters = S.v_Tb_clusters := congrArg (fun x => x.2.2.1.2.2.2.1) h
theorem coC_w_Tb_next {S S' : CS} (h : coC S' = coC S) : S'.w_Tb_next = S.w_Tb_next := congrArg (fun x => x.2.2.1.2.2.2.2.1) h
theorem coC_w_Tb_goal {S S' : CS} (h : coC S' = coC S) : S'.w_Tb_goal = S.w_Tb_goal := congrArg (fun x => x.2.2.1.2.2.2.2.2.1) h
theorem coC_w_Ed_road {S S' : CS} (h : coC S' = coC S) : S'.w_Ed_road = S.w_Ed_road := congrArg (fun x => x.2.2.1.2.2.2.2.2.2.1) h
theorem coC_v_Ed_roadLength {S S' : CS} (h : coC S' = coC S) : S'.v_Ed_roadLength = S.v_Ed_roadLength := congrArg (fun x => x.2.2.1.2.2.2.2.2.2.2) h
theorem coC_w_Ed_units {S S' : CS} (h : coC S' = coC S) : S'.w_Ed_units = S.w_Ed_units := congrArg (fun x => x.2.2.2.1.1) h
theorem coC_v_Ed_unitCount {S S' : CS} (h : coC S' = coC S) : S'.v_Ed_unitCount = S.v_Ed_unitCount := congrArg (fun x => x.2.2.2.1.2.1) h
theorem coC_w_Ed_shortName {S S' : CS} (h : coC S' = coC S) : S'.w_Ed_shortName = S.w_Ed_shortName := congrArg (fun x => x.2.2.2.1.2.2.1) h
theorem coC_v_Ed_plain {S S' : CS} (h : coC S' = coC S) : S'.v_Ed_plain = S.v_Ed_plain := congrArg (fun x => x.2.2.2.1.2.2.2.1) h
theorem coC_v_Ed_firstSlot {S S' : CS} (h : coC S' = coC S) : S'.v_Ed_firstSlot = S.v_Ed_firstSlot := congrArg (fun x => x.2.2.2.1.2.2.2.2.1) h
theorem coC_v_Ed_slots {S S' : CS} (h : coC S' = coC S) : S'.v_Ed_slots = S.v_Ed_slots := congrArg (fun x => x.2.2.2.1.2.2.2.2.2.1) h
theorem coC_v_Ed_unseen {S S' : CS} (h : coC S' = coC S) : S'.v_Ed_unseen = S.v_Ed_unseen := congrArg (fun x => x.2.2.2.1.2.2.2.2.2.2.1) h
theorem coC_v_Ed_wanted {S S' : CS} (h : coC S' = coC S) : S'.v_Ed_wanted = S.v_Ed_wanted := congrArg (fun x => x.2.2.2.1.2.2.2.2.2.2.2) h
theorem coC_v_Pl_blocks {S S' : CS} (h : coC S' = coC S) : S'.v_Pl_blocks = S.v_Pl_blocks := congrArg (fun x => x.2.2.2.2.1.1) h
theorem coC_w_Pl_fixed {S S' : CS} (h : coC S' = coC S) : S'.w_Pl_fixed = S.w_Pl_fixed := congrArg (fun x => x.2.2.2.2.1.2.1) h
theorem coC_w_Pl_used {S S' : CS} (h : coC S' = coC S) : S'.w_Pl_used = S.w_Pl_used := congrArg (fun x => x.2.2.2.2.1.2.2.1) h
theorem coC_w_Pl_aimedAt {S S' : CS} (h : coC S' = coC S) : S'.w_Pl_aimedAt = S.w_Pl_aimedAt := congrArg (fun x => x.2.2.2.2.1.2.2.2.1) h
theorem coC_w_Pl_rooms {S S' : CS} (h : coC S' = coC S) : S'.w_Pl_rooms = S.w_Pl_rooms := congrArg (fun x => x.2.2.2.2.1.2.2.2.2.1) h
theorem coC_v_Pl_roomCount {S S' : CS} (h : coC S' = coC S) : S'.v_Pl_roomCount = S.v_Pl_roomCount := congrArg (fun x => x.2.2.2.2.1.2.2.2.2.2.1) h
theorem coC_w_Pl_list {S S' : CS} (h : coC S' = coC S) : S'.w_Pl_list = S.w_Pl_list := congrArg (fun x => x.2.2.2.2.1.2.2.2.2.2.2.1) h
theorem coC_v_Pl_listed {S S' : CS} (h : coC S' = coC S) : S'.v_Pl_listed = S.v_Pl_listed := congrArg (fun x => x.2.2.2.2.1.2.2.2.2.2.2.2) h
theorem coC_v_Pl_size {S S' : CS} (h : coC S' = coC S) : S'.v_Pl_size = S.v_Pl_size := congrArg (fun x => x.2.2.2.2.2.1) h
theorem coC_v_Pl_groups {S S' : CS} (h : coC S' = coC S) : S'.v_Pl_groups = S.v_Pl_groups := congrArg (fun x => x.2.2.2.2.2.2.1) h
theorem coC_v_Pl_inodes {S S' : CS} (h : coC S' = coC S) : S'.v_Pl_inodes = S.v_Pl_inodes := congrArg (fun x => x.2.2.2.2.2.2.2.1) h
theorem coC_v_Pl_moves {S S' : CS} (h : coC S' = coC S) : S'.v_Pl_moves = S.v_Pl_moves := congrArg (fun x => x.2.2.2.2.2.2.2.2.1) h
theorem coC_v_Pl_built {S S' : CS} (h : coC S' = coC S) : S'.v_Pl_built = S.v_Pl_built := congrArg (fun x => x.2.2.2.2.2.2.2.2.2.1) h
theorem coC_v_Pl_free {S S' : CS} (h : coC S' = coC S) : S'.v_Pl_free = S.v_Pl_free := congrArg (fun x => x.2.2.2.2.2.2.2.2.2.2.1) h
theorem coC_w_Tu_block {S S' : CS} (h : coC S' = coC S) : S'.w_Tu_block = S.w_Tu_block := congrArg (fun x => x.2.2.2.2.2.2.2.2.2.2.2.1) h
theorem coC_v_In_seen {S S' : CS} (h : coC S' = coC S) : S'.v_In_seen = S.v_In_seen := congrArg (fun x => x.2.2.2.2.2.2.2.2.2.2.2.2) h
theorem coT_w_Vt_failAsks {S S' : CS} (h : coT S' = coT S) : S'.w_Vt_failAsks = S.w_Vt_failAsks := congrArg (fun x => x.1.1) h
theorem coT_w_Vt_failWrites {S S' : CS} (h : coT S' = coT S) : S'.w_Vt_failWrites = S.w_Vt_failWrites := congrArg (fun x => x.1.2.1) h
theorem coT_v_Vt_fails {S S' : CS} (h : coT S' = coT S) : S'.v_Vt_fails = S.v_Vt_fails := congrArg (fun x => x.1.2.2.1) h
theorem coT_v_Vt_here {S S' : CS} (h : coT S' = coT S) : S'.v_Vt_here = S.v_Vt_here := congrArg (fun x => x.1.2.2.2.1) h
theorem coT_v_Vt_stale {S S' : CS} (h : coT S' = coT S) : S'.v_Vt_stale = S.v_Vt_stale := congrArg (fun x => x.1.2.2.2.2.1) h
theorem coT_v_Vt_lastFault {S S' : CS} (h : coT S' = coT S) : S'.v_Vt_lastFault = S.v_Vt_lastFault := congrArg (fun x => x.1.2.2.2.2.2.1) h
theorem coT_v_Vt_hasRun {S S' : CS} (h : coT S' = coT S) : S'.v_Vt_hasRun = S.v_Vt_hasRun := congrArg (fun x => x.1.2.2.2.2.2.2.1) h
theorem coT_v_Dk_sectors {S S' : CS} (h : coT S' = coT S) : S'.v_Dk_sectors = S.v_Dk_sectors := congrArg (fun x => x.1.2.2.2.2.2.2.2) h
theorem coT_w_Dk_bytes {S S' : CS} (h : coT S' = coT S) : S'.w_Dk_bytes = S.w_Dk_bytes := congrArg (fun x => x.2.1.1) h
theorem coT_v_Dk_power {S S' : CS} (h : coT S' = coT S) : S'.v_Dk_power = S.v_Dk_power := congrArg (fun x => x.2.1.2.1) h
theorem coT_w_Tp_bytes {S S' : CS} (h : coT S' = coT S) : S'.w_Tp_bytes = S.w_Tp_bytes := congrArg (fun x => x.2.1.2.2.1) h
theorem coT_w_Tp_ready {S S' : CS} (h : coT S' = coT S) : S'.w_Tp_ready = S.w_Tp_ready := congrArg (fun x => x.2.1.2.2.2.1) h
theorem coT_v_Tp_used {S S' : CS} (h : coT S' = coT S) : S'.v_Tp_used = S.v_Tp_used := congrArg (fun x => x.2.1.2.2.2.2.1) h
theorem coT_v_Tb_cluster {S S' : CS} (h : coT S' = coT S) : S'.v_Tb_cluster = S.v_Tb_cluster := congrArg (fun x => x.2.1.2.2.2.2.2.1) h
theorem coT_v_Tb_before {S S' : CS} (h : coT S' = coT S) : S'.v_Tb_before = S.v_Tb_before := congrArg (fun x => x.2.1.2.2.2.2.2.2.1) h
theorem coT_v_Tb_copies {S S' : CS} (h : coT S' = coT S) : S'.v_Tb_copies = S.v_Tb_copies := congrArg (fun x => x.2.1.2.2.2.2.2.2.2) h
theorem coT_v_Tb_length {S S' : CS} (h : coT S' = coT S) : S'.v_Tb_length = S.v_Tb_length := congrArg (fun x => x.2.2.1.1) h
theorem coT_v_Tb_root {S S' : CS} (h : coT S' = coT S) : S'.v_Tb_root = S.v_Tb_root := congrArg (fun x => x.2.2.1.2.1) h
theorem coT_v_Tb_start {S S' : CS} (h : coT S' = coT S) : S'.v_Tb_start = S.v_Tb_start := congrArg (fun x => x.2.2.1.2.2.1) h
theorem coT_v_Tb_clusters {S S' : CS} (h : coT S' = coT S) : S'.v_Tb_clusters = S.v_Tb_clusters := congrArg (fun x => x.2.2.1.2.2.2.1) h
theorem coT_w_Tb_next {S S' : CS} (h : coT S' = coT S) : S'.w_Tb_next = S.w_Tb_next := congrArg (fun x => x.2.2.1.2.2.2.2.1) h
theorem coT_w_Tb_goal {S S' : CS} (h : coT S' = coT S) : S'.w_Tb_goal = S.w_Tb_goal := congrArg (fun x => x.2.2.1.2.2.2.2.2.1) h
theorem coT_v_Tr_count {S S' : CS} (h : coT S' = coT S) : S'.v_Tr_count = S.v_Tr_count := congrArg (fun x => x.2.2.1.2.2.2.2.2.2.1) h
theorem coT_v_Tr_label {S S' : CS} (h : coT S' = coT S) : S'.v_Tr_label = S.v_Tr_label := congrArg (fun x => x.2.2.1.2.2.2.2.2.2.2) h
theorem coT_w_Tr_pool {S S' : CS} (h : coT S' = coT S) : S'.w_Tr_pool = S.w_Tr_pool := congrArg (fun x => x.2.2.2.1.1) h
theorem coT_v_Tr_pooled {S S' : CS} (h : coT S' = coT S) : S'.v_Tr_pooled = S.v_Tr_pooled := congrArg (fun x => x.2.2.2.1.2.1) h
theorem coT_w_Rd_taken {S S' : CS} (h : coT S' = coT S) : S'.w_Rd_taken = S.w_Rd_taken := congrArg (fun x => x.2.2.2.1.2.2.1) h
theorem coT_w_Rd_road {S S' : CS} (h : coT S' = coT S) : S'.w_Rd_road = S.w_Rd_road := congrArg (fun x => x.2.2.2.1.2.2.2.1) h
theorem coT_w_Rd_fileRoad {S S' : CS} (h : coT S' = coT S) : S'.w_Rd_fileRoad = S.w_Rd_fileRoad := congrArg (fun x => x.2.2.2.1.2.2.2.2.1) h
theorem coT_w_Rd_units {S S' : CS} (h : coT S' = coT S) : S'.w_Rd_units = S.w_Rd_units := congrArg (fun x => x.2.2.2.1.2.2.2.2.2.1) h
theorem coT_v_Rd_parts {S S' : CS} (h : coT S' = coT S) : S'.v_Rd_parts = S.v_Rd_parts := congrArg (fun x => x.2.2.2.1.2.2.2.2.2.2.1) h
theorem coT_v_Rd_toCome {S S' : CS} (h : coT S' = coT S) : S'.v_Rd_toCome = S.v_Rd_toCome := congrArg (fun x => x.2.2.2.1.2.2.2.2.2.2.2) h
theorem coT_v_Rd_sum {S S' : CS} (h : coT S' = coT S) : S'.v_Rd_sum = S.v_Rd_sum := congrArg (fun x => x.2.2.2.2.1.1) h
theorem coT_w_Ed_road {S S' : CS} (h : coT S' = coT S) : S'.w_Ed_road = S.w_Ed_road := congrArg (fun x => x.2.2.2.2.1.2.1) h
theorem coT_v_Ed_roadLength {S S' : CS} (h : coT S' = coT S) : S'.v_Ed_roadLength = S.v_Ed_roadLength := congrArg (fun x => x.2.2.2.2.1.2.2.1) h
theorem coT_w_Ed_units {S S' : CS} (h : coT S' = coT S) : S'.w_Ed_units = S.w_Ed_units := congrArg (fun x => x.2.2.2.2.1.2.2.2.1) h
theorem coT_v_Ed_unitCount {S S' : CS} (h : coT S' = coT S) : S'.v_Ed_unitCount = S.v_Ed_unitCount := congrArg (fun x => x.2.2.2.2.1.2.2.2.2.1) h
theorem coT_w_Ed_shortName {S S' : CS} (h : coT S' = coT S) : S'.w_Ed_shortName = S.w_Ed_shortName := congrArg (fun x => x.2.2.2.2.1.2.2.2.2.2.1) h
theorem coT_v_Ed_plain {S S' : CS} (h : coT S' = coT S) : S'.v_Ed_plain = S.v_Ed_plain := congrArg (fun x => x.2.2.2.2.1.2.2.2.2.2.2.1) h
theorem coT_v_Ed_firstSlot {S S' : CS} (h : coT S' = coT S) : S'.v_Ed_firstSlot = S.v_Ed_firstSlot := congrArg (fun x => x.2.2.2.2.1.2.2.2.2.2.2.2) h
theorem coT_v_Ed_slots {S S' : CS} (h : coT S' = coT S) : S'.v_Ed_slots = S.v_Ed_slots := congrArg (fun x => x.2.2.2.2.2.1.1) h
theorem coT_v_Ed_unseen {S S' : CS} (h : coT S' = coT S) : S'.v_Ed_unseen = S.v_Ed_unseen := congrArg (fun x => x.2.2.2.2.2.1.2.1) h
theorem coT_v_Ed_wanted {S S' : CS} (h : coT S' = coT S) : S'.v_Ed_wanted = S.v_Ed_wanted := congrArg (fun x => x.2.2.2.2.2.1.2.2.1) h
theorem coT_v_Pl_blocks {S S' : CS} (h : coT S' = coT S) : S'.v_Pl_blocks = S.v_Pl_blocks := congrArg (fun x => x.2.2.2.2.2.1.2.2.2.1) h
theorem coT_w_Pl_fixed {S S' : CS} (h : coT S' = coT S) : S'.w_Pl_fixed = S.w_Pl_fixed := congrArg (fun x => x.2.2.2.2.2.1.2.2.2.2.1) h
theorem coT_w_Pl_used {S S' : CS} (h : coT S' = coT S) : S'.w_Pl_used = S.w_Pl_used := congrArg (fun x => x.2.2.2.2.2.1.2.2.2.2.2.1) h
theorem coT_w_Pl_aimedAt {S S' : CS} (h : coT S' = coT S) : S'.w_Pl_aimedAt = S.w_Pl_aimedAt := congrArg (fun x => x.2.2.2.2.2.1.2.2.2.2.2.2.1) h
theorem coT_w_Pl_rooms {S S' : CS} (h : coT S' = coT S) : S'.w_Pl_rooms = S.w_Pl_rooms := congrArg (fun x => x.2.2.2.2.2.1.2.2.2.2.2.2.2) h
theorem coT_v_Pl_roomCount {S S' : CS} (h : coT S' = coT S) : S'.v_Pl_roomCount = S.v_Pl_roomCount := congrArg (fun x => x.2.2.2.2.2.2.1.1) h
theorem coT_w_Pl_list {S S' : CS} (h : coT S' = coT S) : S'.w_Pl_list = S.w_Pl_list := congrArg (fun x => x.2.2.2.2.2.2.1.2.1) h
theorem coT_v_Pl_listed {S S' : CS} (h : coT S' = coT S) : S'.v_Pl_listed = S.v_Pl_listed := congrArg (fun x => x.2.2.2.2.2.2.1.2.2.1) h
theorem coT_v_Pl_size {S S' : CS} (h : coT S' = coT S) : S'.v_Pl_size = S.v_Pl_size := congrArg (fun x => x.2.2.2.2.2.2.1.2.2.2.1) h
theorem coT_v_Pl_groups {S S' : CS} (h : coT S' = coT S) : S'.v_Pl_groups = S.v_Pl_groups := congrArg (fun x => x.2.2.2.2.2.2.1.2.2.2.2.1) h
theorem coT_v_Pl_inodes {S S' : CS} (h : coT S' = coT S) : S'.v_Pl_inodes = S.v_Pl_inodes := congrArg (fun x => x.2.2.2.2.2.2.1.2.2.2.2.2.1) h
theorem coT_v_Pl_moves {S S' : CS} (h : coT S' = coT S) : S'.v_Pl_moves = S.v_Pl_moves := congrArg (fun x => x.2.2.2.2.2.2.1.2.2.2.2.2.2.1) h
theorem coT_v_Pl_built {S S' : CS} (h : coT S' = coT S) : S'.v_Pl_built = S.v_Pl_built := congrArg (fun x => x.2.2.2.2.2.2.1.2.2.2.2.2.2.2) h
theorem coT_v_Pl_free {S S' : CS} (h : coT S' = coT S) : S'.v_Pl_free = S.v_Pl_free := congrArg (fun x => x.2.2.2.2.2.2.2.1) h
theorem coT_w_Tu_block {S S' : CS} (h : coT S' = coT S) : S'.w_Tu_block = S.w_Tu_block := congrArg (fun x => x.2.2.2.2.2.2.2.2.1) h
theorem coT_v_In_seen {S S' : CS} (h : coT S' = coT S) : S'.v_In_seen = S.v_In_seen := congrArg (fun x => x.2.2.2.2.2.2.2.2.2) h
theorem coT_C {S S' : CS} (h : coT S' = coT S) : coC S' = coC S := by
  unfold coC
  rw [coT_w_Vt_failAsks h, coT_w_Vt_failWrites h, coT_v_Vt_fails h, coT_v_Vt_here h, coT_v_Vt_stale h, coT_v_Vt_lastFault h, coT_v_Vt_hasRun h, coT_v_Dk_sectors h, coT_w_Dk_bytes h, coT_v_Dk_power h, coT_w_Tp_bytes h, coT_w_Tp_ready h, coT_v_Tp_used h, coT_v_Tb_cluster h, coT_v_Tb_before h, coT_v_Tb_copies h, coT_v_Tb_length h, coT_v_Tb_root h, coT_v_Tb_start h, coT_v_Tb_clusters h, coT_w_Tb_next h, coT_w_Tb_goal h, coT_w_Ed_road h, coT_v_Ed_roadLength h, coT_w_Ed_units h, coT_v_Ed_unitCount h, coT_w_Ed_shortName h, coT_v_Ed_plain h, coT_v_Ed_firstSlot h, coT_v_Ed_slots h, coT_v_Ed_unseen h, coT_v_Ed_wanted h, coT_v_Pl_blocks h, coT_w_Pl_fixed h, coT_w_Pl_used h, coT_w_Pl_aimedAt h, coT_w_Pl_rooms h, coT_v_Pl_roomCount h, coT_w_Pl_list h, coT_v_Pl_listed h, coT_v_Pl_size h, coT_v_Pl_groups h, coT_v_Pl_inodes h, coT_v_Pl_moves h, coT_v_Pl_built h, coT_v_Pl_free h, coT_w_Tu_block h, coT_v_In_seen h]
abbrev aEq (n : Nat) (S S' : CS) : Prop := coT S' = coT S ∧ ∀ j, j < n → S'.w_Tr_parent j = S.w_Tr_parent j ∧ S'.w_Tr_first j = S.w_Tr_first j ∧ S'.w_Tr_size j = S.w_Tr_size j ∧ S'.w_Tr_bits j = S.w_Tr_bits j ∧ S'.w_Tr_spot j = S.w_Tr_spot j ∧ S'.w_Tr_slot j = S.w_Tr_slot j ∧ S'.w_Tr_parts j = S.w_Tr_parts j ∧ S'.w_Tr_kids j = S.w_Tr_kids j ∧ S'.w_Tr_kidCount j = S.w_Tr_kidCount j ∧ S'.w_Tr_nameAt j = S.w_Tr_nameAt j ∧ S'.w_Tr_nameLength j = S.w_Tr_nameLength j ∧ S'.w_Tr_nameBytes j = S.w_Tr_nameBytes j ∧ S'.w_Tr_built j = S.w_Tr_built j ∧ S'.w_Tr_builtBlocks j = S.w_Tr_builtBlocks j
abbrev wIv (L n k : Nat) (G0 : CG) (S0 : CS) (a0 a1 a2 a3 a4 a5 a6 a7 a8 a9 a10 a11 a12 a13 : Nat) (G : CG) (S : CS) : Prop := aEq L S0 S ∧ G.n = G0.n ∧ G.gc = G0.gc + k ∧ G.gs = G0.gs + k * n ∧ G.l_pool = G0.l_pool ∧ G.l_parent = a0 ∧ G.l_first = a1 ∧ G.l_size = a2 ∧ G.l_bits = a3 ∧ G.l_spot = a4 ∧ G.l_slot = a5 ∧ G.l_parts = a6 ∧ G.l_kids = a7 ∧ G.l_kidCount = a8 ∧ G.l_nameAt = a9 ∧ G.l_nameLength = a10 ∧ G.l_nameBytes = a11 ∧ G.l_built = a12 ∧ G.l_builtBlocks = a13
theorem wst_parent {L n k a0 a1 a2 a3 a4 a5 a6 a7 a8 a9 a10 a11 a12 a13 : Nat} {G0 G : CG} {S0 S : CS} (h : wIv L n k G0 S0 a0 a1 a2 a3 a4 a5 a6 a7 a8 a9 a10 a11 a12 a13 G S) (hx : a0 = L) (hL : L ≤ n) : wIv L n (k + 1) G0 S0 n a1 a2 a3 a4 a5 a6 a7 a8 a9 a10 a11 a12 a13 ((G.u_l_parent n).made 1 n) (S.u_w_Tr_parent (va_cpy S.w_Tr_parent (fun _ => (0 : Int32)) 0 0 (min G.l_parent n))) := by
  obtain ⟨⟨c1, c2⟩, d1, d2, d3, d4, e0, e1, e2, e3, e4, e5, e6, e7, e8, e9, e10, e11, e12, e13⟩ := h
  refine ⟨⟨c1, fun j hj => ?_⟩, d1, ?_, ?_, d4, rfl, e1, e2, e3, e4, e5, e6, e7, e8, e9, e10, e11, e12, e13⟩
  · obtain ⟨f0, f1, f2, f3, f4, f5, f6, f7, f8, f9, f10, f11, f12, f13⟩ := c2 j hj
    refine ⟨?_, f1, f2, f3, f4, f5, f6, f7, f8, f9, f10, f11, f12, f13⟩
    show va_cpy S.w_Tr_parent (fun _ => (0 : Int32)) 0 0 (min G.l_parent n) j = _
    rw [e0, hx, Nat.min_eq_left hL, pk_cpy_in (Nat.zero_le _) (by omega), Nat.sub_zero, Nat.zero_add]
    exact f0
  · show G.gc + 1 = _
    rw [d2]; omega
  · show G.gs + n = _
    rw [d3, Nat.add_mul]; omega
theorem wst_first {L n k a0 a1 a2 a3 a4 a5 a6 a7 a8 a9 a10 a11 a12 a13 : Nat} {G0 G : CG} {S0 S : CS} (h : wIv L n k G0 S0 a0 a1 a2 a3 a4 a5 a6 a7 a8 a9 a10 a11 a12 a13 G S) (hx : a1 = L) (hL : L ≤ n) : wIv L n (k + 1) G0 S0 a0 n a2 a3 a4 a5 a6 a7 a8 a9 a10 a11 a12 a13 ((G.u_l_first n).made 1 n) (S.u_w_Tr_first (va_cpy S.w_Tr_first (fun _ => (0 : Int32)) 0 0 (min G.l_first n))) := by
  obtain ⟨⟨c1, c2⟩, d1, d2, d3, d4, e0, e1, e2, e3, e4, e5, e6, e7, e8, e9, e10, e11, e12, e13⟩ := h
  refine ⟨⟨c1, fun j hj => ?_⟩, d1, ?_, ?_, d4, e0, rfl, e2, e3, e4, e5, e6, e7, e8, e9, e10, e11, e12, e13⟩
  · obtain ⟨f0, f1, f2, f3, f4, f5, f6, f7, f8, f9, f10, f11, f12, f13⟩ := c2 j hj
    refine ⟨f0, ?_, f2, f3, f4, f5, f6, f7, f8, f9, f10, f11, f12, f13⟩
    show va_cpy S.w_Tr_first (fun _ => (0 : Int32)) 0 0 (min G.l_first n) j = _
    rw [e1, hx, Nat.min_eq_left hL, pk_cpy_in (Nat.zero_le _) (by omega), Nat.sub_zero, Nat.zero_add]
    exact f1
  · show G.gc + 1 = _
    rw [d2]; omega
  · show G.gs + n = _
    rw [d3, Nat.add_mul]; omega
theorem wst_size {L n k a0 a1 a2 a3 a4 a5 a6 a7 a8 a9 a10 a11 a12 a13 : Nat} {G0 G : CG} {S0 S : CS} (h : wIv L n k G0 S0 a0 a1 a2 a3 a4 a5 a6 a7 a8 a9 a10 a11 a12 a13 G S) (hx : a2 = L) (hL : L ≤ n) : wIv L n (k + 1) G0 S0 a0 a1 n a3 a4 a5 a6 a7 a8 a9 a10 a11 a12 a13 ((G.u_l_size n).made 1 n) (S.u_w_Tr_size (va_cpy S.w_Tr_size (fun _ => (0 : Int32)) 0 0 (min G.l_size n))) := by
  obtain ⟨⟨c1, c2⟩, d1, d2, d3, d4, e0, e1, e2, e3, e4, e5, e6, e7, e8, e9, e10, e11, e12, e13⟩ := h
  refine ⟨⟨c1, fun j hj => ?_⟩, d1, ?_, ?_, d4, e0, e1, rfl, e3, e4, e5, e6, e7, e8, e9, e10, e11, e12, e13⟩
  · obtain ⟨f0, f1, f2, f3, f4, f5, f6, f7, f8, f9, f10, f11, f12, f13⟩ := c2 j hj
    refine ⟨f0, f1, ?_, f3, f4, f5, f6, f7, f8, f9, f10, f11, f12, f13⟩
    show va_cpy S.w_Tr_size (fun _ => (0 : Int32)) 0 0 (min G.l_size n) j = _
    rw [e2, hx, Nat.min_eq_left hL, pk_cpy_in (Nat.zero_le _) (by omega), Nat.sub_zero, Nat.zero_add]
    exact f2
  · show G.gc + 1 = _
    rw [d2]; omega
  · show G.gs + n = _
    rw [d3, Nat.add_mul]; omega
theorem wst_bits {L n k a0 a1 a2 a3 a4 a5 a6 a7 a8 a9 a10 a11 a12 a13 : Nat} {G0 G : CG} {S0 S : CS} (h : wIv L n k G0 S0 a0 a1 a2 a3 a4 a5 a6 a7 a8 a9 a10 a11 a12 a13 G S) (hx : a3 = L) (hL : L ≤ n) : wIv L n (k + 1) G0 S0 a0 a1 a2 n a4 a5 a6 a7 a8 a9 a10 a11 a12 a13 ((G.u_l_bits n).made 1 n) (S.u_w_Tr_bits (va_cpy S.w_Tr_bits (fun _ => (0 : Int32)) 0 0 (min G.l_bits n))) := by
  obtain ⟨⟨c1, c2⟩, d1, d2, d3, d4, e0, e1, e2, e3, e4, e5, e6, e7, e8, e9, e10, e11, e12, e13⟩ := h
  refine ⟨⟨c1, fun j hj => ?_⟩, d1, ?_, ?_, d4, e0, e1, e2, rfl, e4, e5, e6, e7, e8, e9, e10, e11, e12, e13⟩
  · obtain ⟨f0, f1, f2, f3, f4, f5, f6, f7, f8, f9, f10, f11, f12, f13⟩ := c2 j hj
    refine ⟨f0, f1, f2, ?_, f4, f5, f6, f7, f8, f9, f10, f11, f12, f13⟩
    show va_cpy S.w_Tr_bits (fun _ => (0 : Int32)) 0 0 (min G.l_bits n) j = _
    rw [e3, hx, Nat.min_eq_left hL, pk_cpy_in (Nat.zero_le _) (by omega), Nat.sub_zero, Nat.zero_add]
    exact f3
  · show G.gc + 1 = _
    rw [d2]; omega
  · show G.gs + n = _
    rw [d3, Nat.add_mul]; omega
theorem wst_spot {L n k a0 a1 a2 a3 a4 a5 a6 a7 a8 a9 a10 a11 a12 a13 : Nat} {G0 G : CG} {S0 S : CS} (h : wIv L n k G0 S0 a0 a1 a2 a3 a4 a5 a6 a7 a8 a9 a10 a11 a12 a13 G S) (hx : a4 = L) (hL : L ≤ n) : wIv L n (k + 1) G0 S0 a0 a1 a2 a3 n a5 a6 a7 a8 a9 a10 a11 a12 a13 ((G.u_l_spot n).made 1 n) (S.u_w_Tr_spot (va_cpy S.w_Tr_spot (fun _ => (0 : Int32)) 0 0 (min G.l_spot n))) := by
  obtain ⟨⟨c1, c2⟩, d1, d2, d3, d4, e0, e1, e2, e3, e4, e5, e6, e7, e8, e9, e10, e11, e12, e13⟩ := h
  refine ⟨⟨c1, fun j hj => ?_⟩, d1, ?_, ?_, d4, e0, e1, e2, e3, rfl, e5, e6, e7, e8, e9, e10, e11, e12, e13⟩
  · obtain ⟨f0, f1, f2, f3, f4, f5, f6, f7, f8, f9, f10, f11, f12, f13⟩ := c2 j hj
    refine ⟨f0, f1, f2, f3, ?_, f5, f6, f7, f8, f9, f10, f11, f12, f13⟩
    show va_cpy S.w_Tr_spot (fun _ => (0 : Int32)) 0 0 (min G.l_spot n) j = _
    rw [e4, hx, Nat.min_eq_left hL, pk_cpy_in (Nat.zero_le _) (by omega), Nat.sub_zero, Nat.zero_add]
    exact f4
  · show G.gc + 1 = _
    rw [d2]; omega
  · show G.gs + n = _
    rw [d3, Nat.add_mul]; omega
theorem wst_slot {L n k a0 a1 a2 a3 a4 a5 a6 a7 a8 a9 a10 a11 a12 a13 : Nat} {G0 G : CG} {S0 S : CS} (h : wIv L n k G0 S0 a0 a1 a2 a3 a4 a5 a6 a7 a8 a9 a10 a11 a12 a13 G S) (hx : a5 = L) (hL : L ≤ n) : wIv L n (k + 1) G0 S0 a0 a1 a2 a3 a4 n a6 a7 a8 a9 a10 a11 a12 a13 ((G.u_l_slot n).made 1 n) (S.u_w_Tr_slot (va_cpy S.w_Tr_slot (fun _ => (0 : Int32)) 0 0 (min G.l_slot n))) := by
  obtain ⟨⟨c1, c2⟩, d1, d2, d3, d4, e0, e1, e2, e3, e4, e5, e6, e7, e8, e9, e10, e11, e12, e13⟩ := h
  refine ⟨⟨c1, fun j hj => ?_⟩, d1, ?_, ?_, d4, e0, e1, e2, e3, e4, rfl, e6, e7, e8, e9, e10, e11, e12, e13⟩
  · obtain ⟨f0, f1, f2, f3, f4, f5, f6, f7, f8, f9, f10, f11, f12, f13⟩ := c2 j hj
    refine ⟨f0, f1, f2, f3, f4, ?_, f6, f7, f8, f9, f10, f11, f12, f13⟩
    show va_cpy S.w_Tr_slot (fun _ => (0 : Int32)) 0 0 (min G.l_slot n) j = _
    rw [e5, hx, Nat.min_eq_left hL, pk_cpy_in (Nat.zero_le _) (by omega), Nat.sub_zero, Nat.zero_add]
    exact f5
  · show G.gc + 1 = _
    rw [d2]; omega
  · show G.gs + n = _
    rw [d3, Nat.add_mul]; omega
theorem wst_parts {L n k a0 a1 a2 a3 a4 a5 a6 a7 a8 a9 a10 a11 a12 a13 : Nat} {G0 G : CG} {S0 S : CS} (h : wIv L n k G0 S0 a0 a1 a2 a3 a4 a5 a6 a7 a8 a9 a10 a11 a12 a13 G S) (hx : a6 = L) (hL : L ≤ n) : wIv L n (k + 1) G0 S0 a0 a1 a2 a3 a4 a5 n a7 a8 a9 a10 a11 a12 a13 ((G.u_l_parts n).made 1 n) (S.u_w_Tr_parts (va_cpy S.w_Tr_parts (fun _ => (0 : Int32)) 0 0 (min G.l_parts n))) := by
  obtain ⟨⟨c1, c2⟩, d1, d2, d3, d4, e0, e1, e2, e3, e4, e5, e6, e7, e8, e9, e10, e11, e12, e13⟩ := h
  refine ⟨⟨c1, fun j hj => ?_⟩, d1, ?_, ?_, d4, e0, e1, e2, e3, e4, e5, rfl, e7, e8, e9, e10, e11, e12, e13⟩
  · obtain ⟨f0, f1, f2, f3, f4, f5, f6, f7, f8, f9, f10, f11, f12, f13⟩ := c2 j hj
    refine ⟨f0, f1, f2, f3, f4, f5, ?_, f7, f8, f9, f10, f11, f12, f13⟩
    show va_cpy S.w_Tr_parts (fun _ => (0 : Int32)) 0 0 (min G.l_parts n) j = _
    rw [e6, hx, Nat.min_eq_left hL, pk_cpy_in (Nat.zero_le _) (by omega), Nat.sub_zero, Nat.zero_add]
    exact f6
  · show G.gc + 1 = _
    rw [d2]; omega
  · show G.gs + n = _
    rw [d3, Nat.add_mul]; omega
theorem wst_kids {L n k a0 a1 a2 a3 a4 a5 a6 a7 a8 a9 a10 a11 a12 a13 : Nat} {G0 G : CG} {S0 S : CS} (h : wIv L n k G0 S0 a0 a1 a2 a3 a4 a5 a6 a7 a8 a9 a10 a11 a12 a13 G S) (hx : a7 = L) (hL : L ≤ n) : wIv L n (k + 1) G0 S0 a0 a1 a2 a3 a4 a5 a6 n a8 a9 a10 a11 a12 a13 ((G.u_l_kids n).made 1 n) (S.u_w_Tr_kids (va_cpy S.w_Tr_kids (fun _ => (0 : Int32)) 0 0 (min G.l_kids n))) := by
  obtain ⟨⟨c1, c2⟩, d1, d2, d3, d4, e0, e1, e2, e3, e4, e5, e6, e7, e8, e9, e10, e11, e12, e13⟩ := h
  refine ⟨⟨c1, fun j hj => ?_⟩, d1, ?_, ?_, d4, e0, e1, e2, e3, e4, e5, e6, rfl, e8, e9, e10, e11, e12, e13⟩
  · obtain ⟨f0, f1, f2, f3, f4, f5, f6, f7, f8, f9, f10, f11, f12, f13⟩ := c2 j hj
    refine ⟨f0, f1, f2, f3, f4, f5, f6, ?_, f8, f9, f10, f11, f12, f13⟩
    show va_cpy S.w_Tr_kids (fun _ => (0 : Int32)) 0 0 (min G.l_kids n) j = _
    rw [e7, hx, Nat.min_eq_left hL, pk_cpy_in (Nat.zero_le _) (by omega), Nat.sub_zero, Nat.zero_add]
    exact f7
  · show G.gc + 1 = _
    rw [d2]; omega
  · show G.gs + n = _
    rw [d3, Nat.add_mul]; omega
theorem wst_kidCount {L n k a0 a1 a2 a3 a4 a5 a6 a7 a8 a9 a10 a11 a12 a13 : Nat} {G0 G : CG} {S0 S : CS} (h : wIv L n k G0 S0 a0 a1 a2 a3 a4 a5 a6 a7 a8 a9 a10 a11 a12 a13 G S) (hx : a8 = L) (hL : L ≤ n) : wIv L n (k + 1) G0 S0 a0 a1 a2 a3 a4 a5 a6 a7 n a9 a10 a11 a12 a13 ((G.u_l_kidCount n).made 1 n) (S.u_w_Tr_kidCount (va_cpy S.w_Tr_kidCount (fun _ => (0 : Int32)) 0 0 (min G.l_kidCount n))) := by
  obtain ⟨⟨c1, c2⟩, d1, d2, d3, d4, e0, e1, e2, e3, e4, e5, e6, e7, e8, e9, e10, e11, e12, e13⟩ := h
  refine ⟨⟨c1, fun j hj => ?_⟩, d1, ?_, ?_, d4, e0, e1, e2, e3, e4, e5, e6, e7, rfl, e9, e10, e11, e12, e13⟩
  · obtain ⟨f0, f1, f2, f3, f4, f5, f6, f7, f8, f9, f10, f11, f12, f13⟩ := c2 j hj
    refine ⟨f0, f1, f2, f3, f4, f5, f6, f7, ?_, f9, f10, f11, f12, f13⟩
    show va_cpy S.w_Tr_kidCount (fun _ => (0 : Int32)) 0 0 (min G.l_kidCount n) j = _
    rw [e8, hx, Nat.min_eq_left hL, pk_cpy_in (Nat.zero_le _) (by omega), Nat.sub_zero, Nat.zero_add]
    exact f8
  · show G.gc + 1 = _
    rw [d2]; omega
  · show G.gs + n = _
    rw [d3, Nat.add_mul]; omega
theorem wst_nameAt {L n k a0 a1 a2 a3 a4 a5 a6 a7 a8 a9 a10 a11 a12 a13 : Nat} {G0 G : CG} {S0 S : CS} (h : wIv L n k G0 S0 a0 a1 a2 a3 a4 a5 a6 a7 a8 a9 a10 a11 a12 a13 G S) (hx : a9 = L) (hL : L ≤ n) : wIv L n (k + 1) G0 S0 a0 a1 a2 a3 a4 a5 a6 a7 a8 n a10 a11 a12 a13 ((G.u_l_nameAt n).made 1 n) (S.u_w_Tr_nameAt (va_cpy S.w_Tr_nameAt (fun _ => (0 : Int32)) 0 0 (min G.l_nameAt n))) := by
  obtain ⟨⟨c1, c2⟩, d1, d2, d3, d4, e0, e1, e2, e3, e4, e5, e6, e7, e8, e9, e10, e11, e12, e13⟩ := h
  refine ⟨⟨c1, fun j hj => ?_⟩, d1, ?_, ?_, d4, e0, e1, e2, e3, e4, e5, e6, e7, e8, rfl, e10, e11, e12, e13⟩
  · obtain ⟨f0, f1, f2, f3, f4, f5, f6, f7, f8, f9, f10, f11, f12, f13⟩ := c2 j hj
    refine ⟨f0, f1, f2, f3, f4, f5, f6, f7, f8, ?_, f10, f11, f12, f13⟩
    show va_cpy S.w_Tr_nameAt (fun _ => (0 : Int32)) 0 0 (min G.l_nameAt n) j = _
    rw [e9, hx, Nat.min_eq_left hL, pk_cpy_in (Nat.zero_le _) (by omega), Nat.sub_zero, Nat.zero_add]
    exact f9
  · show G.gc + 1 = _
    rw [d2]; omega
  · show G.gs + n = _
    rw [d3, Nat.add_mul]; omega
theorem wst_nameLength {L n k a0 a1 a2 a3 a4 a5 a6 a7 a8 a9 a10 a11 a12 a13 : Nat} {G0 G : CG} {S0 S : CS} (h : wIv L n k G0 S0 a0 a1 a2 a3 a4 a5 a6 a7 a8 a9 a10 a11 a12 a13 G S) (hx : a10 = L) (hL : L ≤ n) : wIv L n (k + 1) G0 S0 a0 a1 a2 a3 a4 a5 a6 a7 a8 a9 n a11 a12 a13 ((G.u_l_nameLength n).made 1 n) (S.u_w_Tr_nameLength (va_cpy S.w_Tr_nameLength (fun _ => (0 : Int32)) 0 0 (min G.l_nameLength n))) := by
  obtain ⟨⟨c1, c2⟩, d1, d2, d3, d4, e0, e1, e2, e3, e4, e5, e6, e7, e8, e9, e10, e11, e12, e13⟩ := h
  refine ⟨⟨c1, fun j hj => ?_⟩, d1, ?_, ?_, d4, e0, e1, e2, e3, e4, e5, e6, e7, e8, e9, rfl, e11, e12, e13⟩
  · obtain ⟨f0, f1, f2, f3, f4, f5, f6, f7, f8, f9, f10, f11, f12, f13⟩ := c2 j hj
    refine ⟨f0, f1, f2, f3, f4, f5, f6, f7, f8, f9, ?_, f11, f12, f13⟩
    show va_cpy S.w_Tr_nameLength (fun _ => (0 : Int32)) 0 0 (min G.l_nameLength n) j = _
    rw [e10, hx, Nat.min_eq_left hL, pk_cpy_in (Nat.zero_le _) (by omega), Nat.sub_zero, Nat.zero_add]
    exact f10
  · show G.gc + 1 = _
    rw [d2]; omega
  · show G.gs + n = _
    rw [d3, Nat.add_mul]; omega
theorem wst_nameBytes {L n k a0 a1 a2 a3 a4 a5 a6 a7 a8 a9 a10 a11 a12 a13 : Nat} {G0 G : CG} {S0 S : CS} (h : wIv L n k G0 S0 a0 a1 a2 a3 a4 a5 a6 a7 a8 a9 a10 a11 a12 a13 G S) (hx : a11 = L) (hL : L ≤ n) : wIv L n (k + 1) G0 S0 a0 a1 a2 a3 a4 a5 a6 a7 a8 a9 a10 n a12 a13 ((G.u_l_nameBytes n).made 1 n) (S.u_w_Tr_nameBytes (va_cpy S.w_Tr_nameBytes (fun _ => (0 : Int32)) 0 0 (min G.l_nameBytes n))) := by
  obtain ⟨⟨c1, c2⟩, d1, d2, d3, d4, e0, e1, e2, e3, e4, e5, e6, e7, e8, e9, e10, e11, e12, e13⟩ := h
  refine ⟨⟨c1, fun j hj => ?_⟩, d1, ?_, ?_, d4, e0, e1, e2, e3, e4, e5, e6, e7, e8, e9, e10, rfl, e12, e13⟩
  · obtain ⟨f0, f1, f2, f3, f4, f5, f6, f7, f8, f9, f10, f11, f12, f13⟩ := c2 j hj
    refine ⟨f0, f1, f2, f3, f4, f5, f6, f7, f8, f9, f10, ?_, f12, f13⟩
    show va_cpy S.w_Tr_nameBytes (fun _ => (0 : Int32)) 0 0 (min G.l_nameBytes n) j = _
    rw [e11, hx, Nat.min_eq_left hL, pk_cpy_in (Nat.zero_le _) (by omega), Nat.sub_zero, Nat.zero_add]
    exact f11
  · show G.gc + 1 = _
    rw [d2]; omega
  · show G.gs + n = _
    rw [d3, Nat.add_mul]; omega
theorem wst_built {L n k a0 a1 a2 a3 a4 a5 a6 a7 a8 a9 a10 a11 a12 a13 : Nat} {G0 G : CG} {S0 S : CS} (h : wIv L n k G0 S0 a0 a1 a2 a3 a4 a5 a6 a7 a8 a9 a10 a11 a12 a13 G S) (hx : a12 = L) (hL : L ≤ n) : wIv L n (k + 1) G0 S0 a0 a1 a2 a3 a4 a5 a6 a7 a8 a9 a10 a11 n a13 ((G.u_l_built n).made 1 n) (S.u_w_Tr_built (va_cpy S.w_Tr_built (fun _ => (0 : Int32)) 0 0 (min G.l_built n))) := by
  obtain ⟨⟨c1, c2⟩, d1, d2, d3, d4, e0, e1, e2, e3, e4, e5, e6, e7, e8, e9, e10, e11, e12, e13⟩ := h
  refine ⟨⟨c1, fun j hj => ?_⟩, d1, ?_, ?_, d4, e0, e1, e2, e3, e4, e5, e6, e7, e8, e9, e10, e11, rfl, e13⟩
  · obtain ⟨f0, f1, f2, f3, f4, f5, f6, f7, f8, f9, f10, f11, f12, f13⟩ := c2 j hj
    refine ⟨f0, f1, f2, f3, f4, f5, f6, f7, f8, f9, f10, f11, ?_, f13⟩
    show va_cpy S.w_Tr_built (fun _ => (0 : Int32)) 0 0 (min G.l_built n) j = _
    rw [e12, hx, Nat.min_eq_left hL, pk_cpy_in (Nat.zero_le _) (by omega), Nat.sub_zero, Nat.zero_add]
    exact f12
  · show G.gc + 1 = _
    rw [d2]; omega
  · show G.gs + n = _
    rw [d3, Nat.add_mul]; omega
theorem wst_builtBlocks {L n k a0 a1 a2 a3 a4 a5 a6 a7 a8 a9 a10 a11 a12 a13 : Nat} {G0 G : CG} {S0 S : CS} (h : wIv L n k G0 S0 a0 a1 a2 a3 a4 a5 a6 a7 a8 a9 a10 a11 a12 a13 G S) (hx : a13 = L) (hL : L ≤ n) : wIv L n (k + 1) G0 S0 a0 a1 a2 a3 a4 a5 a6 a7 a8 a9 a10 a11 a12 n ((G.u_l_builtBlocks n).made 1 n) (S.u_w_Tr_builtBlocks (va_cpy S.w_Tr_builtBlocks (fun _ => (0 : Int32)) 0 0 (min G.l_builtBlocks n))) := by
  obtain ⟨⟨c1, c2⟩, d1, d2, d3, d4, e0, e1, e2, e3, e4, e5, e6, e7, e8, e9, e10, e11, e12, e13⟩ := h
  refine ⟨⟨c1, fun j hj => ?_⟩, d1, ?_, ?_, d4, e0, e1, e2, e3, e4, e5, e6, e7, e8, e9, e10, e11, e12, rfl⟩
  · obtain ⟨f0, f1, f2, f3, f4, f5, f6, f7, f8, f9, f10, f11, f12, f13⟩ := c2 j hj
    refine ⟨f0, f1, f2, f3, f4, f5, f6, f7, f8, f9, f10, f11, f12, ?_⟩
    show va_cpy S.w_Tr_builtBlocks (fun _ => (0 : Int32)) 0 0 (min G.l_builtBlocks n) j = _
    rw [e13, hx, Nat.min_eq_left hL, pk_cpy_in (Nat.zero_le _) (by omega), Nat.sub_zero, Nat.zero_add]
    exact f13
  · show G.gc + 1 = _
    rw [d2]; omega
  · show G.gs + n = _
    rw [d3, Nat.add_mul]; omega
theorem qC_widen {K N n : Nat} {G : CG} {S : CS} (hG : gOk N G) (hn : G.l_parent < n) (hn2 : n ≤ 100000) : ∃ G' S', f_Tr_widen K G S (nI n) = some ((), G', S') ∧ wIv G.l_parent n 14 G S n n n n n n n n n n n n n n G' S' := by
  obtain ⟨g0, ⟨g1, g2, g3, g4, g5, g6, g7, g8, g9, g10, g11, g12, g13⟩, ga, gb, -⟩ := hG
  have hcl : (nI n).toNatClampNeg = n := nI_clamp (by omega)
  have hg : ∀ m, m = G.l_parent → (¬ nI n < 0 ∧ (nI n).toNatClampNeg * 4 ≤ 536870912 ∧ ¬ (nI n).toNatClampNeg = m ∧ m < 2 ^ 31) := fun m hm => by
    rw [hcl, hm]
    exact ⟨nI_pos (by omega), by omega, by omega, by omega⟩
  have i0 : wIv G.l_parent n 0 G S G.l_parent G.l_parent G.l_parent G.l_parent G.l_parent G.l_parent G.l_parent G.l_parent G.l_parent G.l_parent G.l_parent G.l_parent G.l_parent G.l_parent G S := ⟨⟨rfl, fun j hj => ⟨rfl, rfl, rfl, rfl, rfl, rfl, rfl, rfl, rfl, rfl, rfl, rfl, rfl, rfl⟩⟩, rfl, rfl, by omega, rfl, rfl, g1, g2, g3, g4, g5, g6, g7, g8, g9, g10, g11, g12, g13⟩
  have key : wp (f_Tr_widen K G S (nI n)) (fun r => wIv G.l_parent n 14 G S n n n n n n n n n n n n n n r.2.1 r.2.2) := by
    have hLn : G.l_parent ≤ n := Nat.le_of_lt hn
    generalize hL : G.l_parent = L at *
    clear hn hn2 ga gb
    unfold f_Tr_widen
    refine wp_g (hg _ i0.2.2.2.2.2.1) (wp_L (fun G1 hG1 => wp_L (fun S1 hS1 => ?_)))
    have i1 := wst_parent i0 rfl hLn
    rw [hcl] at hG1 hS1
    rw [← hG1, ← hS1] at i1
    clear hG1 hS1
    unfold f_Tr_widen_12
    refine wp_g (hg _ i1.2.2.2.2.2.2.1) (wp_L (fun G2 hG2 => wp_L (fun S2 hS2 => ?_)))
    have i2 := wst_first i1 rfl hLn
    rw [hcl] at hG2 hS2
    rw [← hG2, ← hS2] at i2
    clear hG2 hS2
    unfold f_Tr_widen_24
    refine wp_g (hg _ i2.2.2.2.2.2.2.2.1) (wp_L (fun G3 hG3 => wp_L (fun S3 hS3 => ?_)))
    have i3 := wst_size i2 rfl hLn
    rw [hcl] at hG3 hS3
    rw [← hG3, ← hS3] at i3
    clear hG3 hS3
    unfold f_Tr_widen_36
    refine wp_g (hg _ i3.2.2.2.2.2.2.2.2.1) (wp_L (fun G4 hG4 => wp_L (fun S4 hS4 => ?_)))
    have i4 := wst_bits i3 rfl hLn
    rw [hcl] at hG4 hS4
    rw [← hG4, ← hS4] at i4
    clear hG4 hS4
    unfold f_Tr_widen_48
    refine wp_g (hg _ i4.2.2.2.2.2.2.2.2.2.1) (wp_L (fun G5 hG5 => wp_L (fun S5 hS5 => ?_)))
    have i5 := wst_spot i4 rfl hLn
    rw [hcl] at hG5 hS5
    rw [← hG5, ← hS5] at i5
    clear hG5 hS5
    unfold f_Tr_widen_60
    refine wp_g (hg _ i5.2.2.2.2.2.2.2.2.2.2.1) (wp_L (fun G6 hG6 => wp_L (fun S6 hS6 => ?_)))
    have i6 := wst_slot i5 rfl hLn
    rw [hcl] at hG6 hS6
    rw [← hG6, ← hS6] at i6
    clear hG6 hS6
    unfold f_Tr_widen_72
    refine wp_g (hg _ i6.2.2.2.2.2.2.2.2.2.2.2.1) (wp_L (fun G7 hG7 => wp_L (fun S7 hS7 => ?_)))
    have i7 := wst_parts i6 rfl hLn
    rw [hcl] at hG7 hS7
    rw [← hG7, ← hS7] at i7
    clear hG7 hS7
    unfold f_Tr_widen_84
    refine wp_g (hg _ i7.2.2.2.2.2.2.2.2.2.2.2.2.1) (wp_L (fun G8 hG8 => wp_L (fun S8 hS8 => ?_)))
    have i8 := wst_kids i7 rfl hLn
    rw [hcl] at hG8 hS8
    rw [← hG8, ← hS8] at i8
    clear hG8 hS8
    unfold f_Tr_widen_96
    refine wp_g (hg _ i8.2.2.2.2.2.2.2.2.2.2.2.2.2.1) (wp_L (fun G9 hG9 => wp_L (fun S9 hS9 => ?_)))
    have i9 := wst_kidCount i8 rfl hLn
    rw [hcl] at hG9 hS9
    rw [← hG9, ← hS9] at i9
    clear hG9 hS9
    unfold f_Tr_widen_108
    refine wp_g (hg _ i9.2.2.2.2.2.2.2.2.2.2.2.2.2.2.1) (wp_L (fun G10 hG10 => wp_L (fun S10 hS10 => ?_)))
    have i10 := wst_nameAt i9 rfl hLn
    rw [hcl] at hG10 hS10
    rw [← hG10, ← hS10] at i10
    clear hG10 hS10
    unfold f_Tr_widen_120
    refine wp_g (hg _ i10.2.2.2.2.2.2.2.2.2.2.2.2.2.2.2.1) (wp_L (fun G11 hG11 => wp_L (fun S11 hS11 => ?_)))
    have i11 := wst_nameLength i10 rfl hLn
    rw [hcl] at hG11 hS11
    rw [← hG11, ← hS11] at i11
    clear hG11 hS11
    unfold f_Tr_widen_132
    refine wp_g (hg _ i11.2.2.2.2.2.2.2.2.2.2.2.2.2.2.2.2.1) (wp_L (fun G12 hG12 => wp_L (fun S12 hS12 => ?_)))
    have i12 := wst_nameBytes i11 rfl hLn
    rw [hcl] at hG12 hS12
    rw [← hG12, ← hS12] at i12
    clear hG12 hS12
    unfold f_Tr_widen_144
    refine wp_g (hg _ i12.2.2.2.2.2.2.2.2.2.2.2.2.2.2.2.2.2.1) (wp_L (fun G13 hG13 => wp_L (fun S13 hS13 => ?_)))
    have i13 := wst_built i12 rfl hLn
    rw [hcl] at hG13 hS13
    rw [← hG13, ← hS13] at i13
    clear hG13 hS13
    unfold f_Tr_widen_156
    refine wp_g (hg _ i13.2.2.2.2.2.2.2.2.2.2.2.2.2.2.2.2.2.2) (wp_L (fun G14 hG14 => wp_L (fun S14 hS14 => ?_)))
    have i14 := wst_builtBlocks i13 rfl hLn
    rw [hcl] at hG14 hS14
    rw [← hG14, ← hS14] at i14
    clear hG14 hS14
    unfold f_Tr_widen_168
    exact wp_i i14
  obtain ⟨⟨u, G', S'⟩, e, h⟩ := key
  exact ⟨G', S', e, h⟩
