theorem dX9_no_0 : decode cX9_no 0 = .ok (.aload_n 0, 1) := by decide +kernel
theorem dX9_no_1 : decode cX9_no 1 = .ok (.getfield 7, 3) := by decide +kernel
theorem dX9_no_4 : decode cX9_no 4 = .ok (.iload_n 1, 1) := by decide +kernel
theorem dX9_no_5 : decode cX9_no 5 = .ok (.ineg, 1) := by decide +kernel
theorem dX9_no_6 : decode cX9_no 6 = .ok (.dup2, 1) := by decide +kernel
theorem dX9_no_7 : decode cX9_no 7 = .ok (.iaload, 1) := by decide +kernel
theorem dX9_no_8 : decode cX9_no 8 = .ok (.iconst 1, 1) := by decide +kernel
theorem dX9_no_9 : decode cX9_no 9 = .ok (.iadd, 1) := by decide +kernel
theorem dX9_no_10 : decode cX9_no 10 = .ok (.iastore, 1) := by decide +kernel
theorem dX9_no_11 : decode cX9_no 11 = .ok (.iload_n 1, 1) := by decide +kernel
theorem dX9_no_12 : decode cX9_no 12 = .ok (.ireturn, 1) := by decide +kernel
def gX9_no (m : Mem) (a1 : Int32) : Option (Int32 × Mem) := chk (inb (-a1) 7) (chk (inb (-a1) 7) (lete (mu m 44 (Int32.toNatClampNeg (-a1)) ((m.1 44 (Int32.toNatClampNeg (-a1))) + 1)) (fun m3 => some (a1, m3))))
set_option maxHeartbeats 4000000 in
set_option maxRecDepth 20000 in
theorem LX9_no {n : Nat} {m : Mem} {a1 : Int32} {r : Int32 × Mem} (hn64 : 64 ≤ n) (hg : gX9_no m a1 = some r) : MX yX9_no cX9_no 2 (some .int) { frames := 0, cells := 0, slots := 0, locals := 0 } n [.ref 43, .int a1] m (some (.int r.1)) r.2 := by
  refine MX_of (by decide) (Nat.le_of_ble_eq_true rfl) (Or.inr (Or.inl ⟨rfl, _, rfl⟩)) (fun K hC hk hL hR => ?_)
  replace hn64 : 64 ≤ kn K := hk.symm ▸ hn64
  show RX K 0 [(0, .ref 43), (1, .int a1)] [] m
  rw [gX9_no] at hg
  refine R_aload_n (pc := 0) hC 0 dX9_no_0 rfl rfl ?_
  refine gf_X9_7 (pc := 1) hC hn64 dX9_no_1 ?_
  refine R_iload_n (pc := 4) hC 1 dX9_no_4 rfl rfl ?_
  refine R_ineg (pc := 5) hC dX9_no_5 ?_
  refine R_dup2 (pc := 6) hC dX9_no_6 rfl rfl ?_
  obtain ⟨c1, hg⟩ := chk_some hg
  refine R_iaload (pc := 7) hC 44 (jx hn64 rfl) ly44 (inb_vp c1) dX9_no_7 ?_
  refine R_iconst (pc := 8) hC dX9_no_8 ki_1 ?_
  refine R_iadd (pc := 9) hC dX9_no_9 ?_
  obtain ⟨c2, hg⟩ := chk_some hg
  obtain ⟨m3, hm3, hg⟩ := lete_some hg
  refine R_iastore (pc := 10) hC 44 (jx hn64 rfl) ly44 (inb_vp c2) dX9_no_10 ?_
  refine R_mem hm3 ?_
  refine R_iload_n (pc := 11) hC 1 dX9_no_11 rfl rfl ?_
  have h9 := gxIM hg
  exact R_ireturn (pc := 12) hC dX9_no_12 h9
theorem dX9_lowest_0 : decode cX9_lowest 0 = .ok (.aload_n 0, 1) := by decide +kernel
theorem dX9_lowest_1 : decode cX9_lowest 1 = .ok (.getfield 7, 3) := by decide +kernel
theorem dX9_lowest_4 : decode cX9_lowest 4 = .ok (.iload_n 1, 1) := by decide +kernel
theorem dX9_lowest_5 : decode cX9_lowest 5 = .ok (.ineg, 1) := by decide +kernel
theorem dX9_lowest_6 : decode cX9_lowest 6 = .ok (.dup2, 1) := by decide +kernel
theorem dX9_lowest_7 : decode cX9_lowest 7 = .ok (.iaload, 1) := by decide +kernel
theorem dX9_lowest_8 : decode cX9_lowest 8 = .ok (.iconst 1, 1) := by decide +kernel
theorem dX9_lowest_9 : decode cX9_lowest 9 = .ok (.iadd, 1) := by decide +kernel
theorem dX9_lowest_10 : decode cX9_lowest 10 = .ok (.iastore, 1) := by decide +kernel
theorem dX9_lowest_11 : decode cX9_lowest 11 = .ok (.ldc2_w 75, 3) := by decide +kernel
theorem dX9_lowest_14 : decode cX9_lowest 14 = .ok (.iload_n 1, 1) := by decide +kernel
theorem dX9_lowest_15 : decode cX9_lowest 15 = .ok (.i2l, 1) := by decide +kernel
theorem dX9_lowest_16 : decode cX9_lowest 16 = .ok (.lsub, 1) := by decide +kernel
theorem dX9_lowest_17 : decode cX9_lowest 17 = .ok (.lreturn, 1) := by decide +kernel
def gX9_lowest (m : Mem) (a1 : Int32) : Option (Int64 × Mem) := chk (inb (-a1) 7) (chk (inb (-a1) 7) (lete (mu m 44 (Int32.toNatClampNeg (-a1)) ((m.1 44 (Int32.toNatClampNeg (-a1))) + 1)) (fun m3 => some (4000000000000000000 - (Int32.toInt64 a1), m3))))
set_option maxHeartbeats 4000000 in
set_option maxRecDepth 20000 in
theorem LX9_lowest {n : Nat} {m : Mem} {a1 : Int32} {r : Int64 × Mem} (hn64 : 64 ≤ n) (hg : gX9_lowest m a1 = some r) : MX yX9_lowest cX9_lowest 2 (some .long) { frames := 0, cells := 0, slots := 0, locals := 0 } n [.ref 43, .int a1] m (some (.long r.1)) r.2 := by
  refine MX_of (by decide) (Nat.le_of_ble_eq_true rfl) (Or.inr (Or.inr (Or.inl ⟨rfl, _, rfl⟩))) (fun K hC hk hL hR => ?_)
  replace hn64 : 64 ≤ kn K := hk.symm ▸ hn64
  show RX K 0 [(0, .ref 43), (1, .int a1)] [] m
  rw [gX9_lowest] at hg
  refine R_aload_n (pc := 0) hC 0 dX9_lowest_0 rfl rfl ?_
  refine gf_X9_7 (pc := 1) hC hn64 dX9_lowest_1 ?_
  refine R_iload_n (pc := 4) hC 1 dX9_lowest_4 rfl rfl ?_
  refine R_ineg (pc := 5) hC dX9_lowest_5 ?_
  refine R_dup2 (pc := 6) hC dX9_lowest_6 rfl rfl ?_
  obtain ⟨c1, hg⟩ := chk_some hg
  refine R_iaload (pc := 7) hC 44 (jx hn64 rfl) ly44 (inb_vp c1) dX9_lowest_7 ?_
  refine R_iconst (pc := 8) hC dX9_lowest_8 ki_1 ?_
  refine R_iadd (pc := 9) hC dX9_lowest_9 ?_
  obtain ⟨c2, hg⟩ := chk_some hg
  obtain ⟨m3, hm3, hg⟩ := lete_some hg
  refine R_iastore (pc := 10) hC 44 (jx hn64 rfl) ly44 (inb_vp c2) dX9_lowest_10 ?_
  refine R_mem hm3 ?_
  refine R_ldc2 (pc := 11) hC wc_X9_75 dX9_lowest_11 ?_
  refine R_iload_n (pc := 14) hC 1 dX9_lowest_14 rfl rfl ?_
  refine R_i2l (pc := 15) hC dX9_lowest_15 ?_
  refine R_lsub (pc := 16) hC dX9_lowest_16 ?_
  have h9 := gxJM hg
  exact R_lreturn (pc := 17) hC dX9_lowest_17 h9
theorem dX9_isIn_0 : decode cX9_isIn 0 = .ok (.iload_n 0, 1) := by decide +kernel
theorem dX9_isIn_1 : decode cX9_isIn 1 = .ok (.iload_n 1, 1) := by decide +kernel
theorem dX9_isIn_2 : decode cX9_isIn 2 = .ok (.if_icmp .lt 12, 3) := by decide +kernel
theorem dX9_isIn_5 : decode cX9_isIn 5 = .ok (.iload_n 0, 1) := by decide +kernel
theorem dX9_isIn_6 : decode cX9_isIn 6 = .ok (.iload_n 2, 1) := by decide +kernel
theorem dX9_isIn_7 : decode cX9_isIn 7 = .ok (.if_icmp .gt 7, 3) := by decide +kernel
theorem dX9_isIn_10 : decode cX9_isIn 10 = .ok (.iconst 1, 1) := by decide +kernel
theorem dX9_isIn_11 : decode cX9_isIn 11 = .ok (.goto 4, 3) := by decide +kernel
theorem dX9_isIn_14 : decode cX9_isIn 14 = .ok (.iconst 0, 1) := by decide +kernel
theorem dX9_isIn_15 : decode cX9_isIn 15 = .ok (.ireturn, 1) := by decide +kernel
def gX9_isIn (a1 : Int32) (a2 : Int32) (a3 : Int32) : Option (Bool) := (if a1 < a2 then some false else (if a3 < a1 then some false else some true))
set_option maxHeartbeats 4000000 in
set_option maxRecDepth 20000 in
theorem LX9_isIn {n : Nat} {m : Mem} {a1 : Int32} {a2 : Int32} {a3 : Int32} {r : Bool} (hn64 : 64 ≤ n) (hg : gX9_isIn a1 a2 a3 = some r) : MX yX9_isIn cX9_isIn 3 (some .boolean) { frames := 0, cells := 0, slots := 0, locals := 0 } n [.int a1, .int a2, .int a3] m (some (.int (b2i r))) m := by
  refine MX_of (by decide) (Nat.le_of_ble_eq_true rfl) (Or.inr (Or.inr (Or.inr ⟨rfl, _, rfl⟩))) (fun K hC hk hL hR => ?_)
  replace hn64 : 64 ≤ kn K := hk.symm ▸ hn64
  show RX K 0 [(0, .int a1), (1, .int a2), (2, .int a3)] [] m
  rw [gX9_isIn] at hg
  refine R_iload_n (pc := 0) hC 0 dX9_isIn_0 rfl rfl ?_
  refine R_iload_n (pc := 1) hC 1 dX9_isIn_1 rfl rfl ?_
  refine R_icmp_lt (tgt := 14) (pc := 2) hC dX9_isIn_2 (by decide) (fun c => ?_) (fun c => ?_)
  · replace hg := (if_pos c).symm.trans hg
    refine R_iconst (pc := 14) hC dX9_isIn_14 ki_0 ?_
    have h9 := gxZ (m := m) hg
    exact R_ireturn (pc := 15) hC dX9_isIn_15 h9
  · replace hg := (if_neg c).symm.trans hg
    refine R_iload_n (pc := 5) hC 0 dX9_isIn_5 rfl rfl ?_
    refine R_iload_n (pc := 6) hC 2 dX9_isIn_6 rfl rfl ?_
    refine R_icmp_gt (tgt := 14) (pc := 7) hC dX9_isIn_7 (by decide) (fun c => ?_) (fun c => ?_)
    · replace hg := (if_pos c).symm.trans hg
      refine R_iconst (pc := 14) hC dX9_isIn_14 ki_0 ?_
      have h9 := gxZ (m := m) hg
      exact R_ireturn (pc := 15) hC dX9_isIn_15 h9
    · replace hg := (if_neg c).symm.trans hg
      refine R_iconst (pc := 10) hC dX9_isIn_10 ki_1 ?_
      refine R_goto (tgt := 15) (pc := 11) hC dX9_isIn_11 (by decide) ?_
      have h9 := gxZ (m := m) hg
      exact R_ireturn (pc := 15) hC dX9_isIn_15 h9
theorem dX9_bound_0 : decode cX9_bound 0 = .ok (.iload_n 0, 1) := by decide +kernel
theorem dX9_bound_1 : decode cX9_bound 1 = .ok (.iload_n 1, 1) := by decide +kernel
theorem dX9_bound_2 : decode cX9_bound 2 = .ok (.if_icmp .ge 8, 3) := by decide +kernel
theorem dX9_bound_5 : decode cX9_bound 5 = .ok (.bipush (-4), 2) := by decide +kernel
theorem dX9_bound_7 : decode cX9_bound 7 = .ok (.goto 14, 3) := by decide +kernel
theorem dX9_bound_10 : decode cX9_bound 10 = .ok (.iload_n 0, 1) := by decide +kernel
theorem dX9_bound_11 : decode cX9_bound 11 = .ok (.iload_n 2, 1) := by decide +kernel
theorem dX9_bound_12 : decode cX9_bound 12 = .ok (.if_icmp .le 8, 3) := by decide +kernel
theorem dX9_bound_15 : decode cX9_bound 15 = .ok (.bipush (-6), 2) := by decide +kernel
theorem dX9_bound_17 : decode cX9_bound 17 = .ok (.goto 4, 3) := by decide +kernel
theorem dX9_bound_20 : decode cX9_bound 20 = .ok (.iconst 0, 1) := by decide +kernel
theorem dX9_bound_21 : decode cX9_bound 21 = .ok (.ireturn, 1) := by decide +kernel
def gX9_bound (a1 : Int32) (a2 : Int32) (a3 : Int32) : Option (Int32) := (if a2 ≤ a1 then (if a1 ≤ a3 then some 0 else some (-6)) else some (-4))
set_option maxHeartbeats 4000000 in
set_option maxRecDepth 20000 in
theorem LX9_bound {n : Nat} {m : Mem} {a1 : Int32} {a2 : Int32} {a3 : Int32} {r : Int32} (hn64 : 64 ≤ n) (hg : gX9_bound a1 a2 a3 = some r) : MX yX9_bound cX9_bound 3 (some .int) { frames := 0, cells := 0, slots := 0, locals := 0 } n [.int a1, .int a2, .int a3] m (some (.int r)) m := by
  refine MX_of (by decide) (Nat.le_of_ble_eq_true rfl) (Or.inr (Or.inl ⟨rfl, _, rfl⟩)) (fun K hC hk hL hR => ?_)
  replace hn64 : 64 ≤ kn K := hk.symm ▸ hn64
  show RX K 0 [(0, .int a1), (1, .int a2), (2, .int a3)] [] m
  rw [gX9_bound] at hg
  refine R_iload_n (pc := 0) hC 0 dX9_bound_0 rfl rfl ?_
  refine R_iload_n (pc := 1) hC 1 dX9_bound_1 rfl rfl ?_
  refine R_icmp_ge (tgt := 10) (pc := 2) hC dX9_bound_2 (by decide) (fun c => ?_) (fun c => ?_)
  · replace hg := (if_pos c).symm.trans hg
    refine R_iload_n (pc := 10) hC 0 dX9_bound_10 rfl rfl ?_
    refine R_iload_n (pc := 11) hC 2 dX9_bound_11 rfl rfl ?_
    refine R_icmp_le (tgt := 20) (pc := 12) hC dX9_bound_12 (by decide) (fun c => ?_) (fun c => ?_)
    · replace hg := (if_pos c).symm.trans hg
      refine R_iconst (pc := 20) hC dX9_bound_20 ki_0 ?_
      have h9 := gxI (m := m) hg
      exact R_ireturn (pc := 21) hC dX9_bound_21 h9
    · replace hg := (if_neg c).symm.trans hg
      refine R_bipush (pc := 15) hC dX9_bound_15 kb_m6 ?_
      refine R_goto (tgt := 21) (pc := 17) hC dX9_bound_17 (by decide) ?_
      have h9 := gxI (m := m) hg
      exact R_ireturn (pc := 21) hC dX9_bound_21 h9
  · replace hg := (if_neg c).symm.trans hg
    refine R_bipush (pc := 5) hC dX9_bound_5 kb_m4 ?_
    refine R_goto (tgt := 21) (pc := 7) hC dX9_bound_7 (by decide) ?_
    have h9 := gxI (m := m) hg
    exact R_ireturn (pc := 21) hC dX9_bound_21 h9
theorem dX9_isHouse_0 : decode cX9_isHouse 0 = .ok (.iload_n 1, 1) := by decide +kernel
theorem dX9_isHouse_1 : decode cX9_isHouse 1 = .ok (.ifCond .lt 15, 3) := by decide +kernel
theorem dX9_isHouse_4 : decode cX9_isHouse 4 = .ok (.iload_n 1, 1) := by decide +kernel
theorem dX9_isHouse_5 : decode cX9_isHouse 5 = .ok (.aload_n 0, 1) := by decide +kernel
theorem dX9_isHouse_6 : decode cX9_isHouse 6 = .ok (.getfield 34, 3) := by decide +kernel
theorem dX9_isHouse_9 : decode cX9_isHouse 9 = .ok (.if_icmp .ge 7, 3) := by decide +kernel
theorem dX9_isHouse_12 : decode cX9_isHouse 12 = .ok (.iconst 1, 1) := by decide +kernel
theorem dX9_isHouse_13 : decode cX9_isHouse 13 = .ok (.goto 4, 3) := by decide +kernel
theorem dX9_isHouse_16 : decode cX9_isHouse 16 = .ok (.iconst 0, 1) := by decide +kernel
theorem dX9_isHouse_17 : decode cX9_isHouse 17 = .ok (.ireturn, 1) := by decide +kernel
def gX9_isHouse (m : Mem) (a1 : Int32) : Option (Bool) := (if a1 < 0 then some false else (if (m.1 43 8) ≤ a1 then some false else some true))
set_option maxHeartbeats 4000000 in
set_option maxRecDepth 20000 in
theorem LX9_isHouse {n : Nat} {m : Mem} {a1 : Int32} {r : Bool} (hn64 : 64 ≤ n) (hg : gX9_isHouse m a1 = some r) : MX yX9_isHouse cX9_isHouse 2 (some .boolean) { frames := 0, cells := 0, slots := 0, locals := 0 } n [.ref 43, .int a1] m (some (.int (b2i r))) m := by
  refine MX_of (by decide) (Nat.le_of_ble_eq_true rfl) (Or.inr (Or.inr (Or.inr ⟨rfl, _, rfl⟩))) (fun K hC hk hL hR => ?_)
  replace hn64 : 64 ≤ kn K := hk.symm ▸ hn64
  show RX K 0 [(0, .ref 43), (1, .int a1)] [] m
  rw [gX9_isHouse] at hg
  refine R_iload_n (pc := 0) hC 1 dX9_isHouse_0 rfl rfl ?_
  refine R_if_lt (tgt := 16) (pc := 1) hC dX9_isHouse_1 (by decide) (fun c => ?_) (fun c => ?_)
  · replace hg := (if_pos c).symm.trans hg
    refine R_iconst (pc := 16) hC dX9_isHouse_16 ki_0 ?_
    have h9 := gxZ (m := m) hg
    exact R_ireturn (pc := 17) hC dX9_isHouse_17 h9
  · replace hg := (if_neg c).symm.trans hg
    refine R_iload_n (pc := 4) hC 1 dX9_isHouse_4 rfl rfl ?_
    refine R_aload_n (pc := 5) hC 0 dX9_isHouse_5 rfl rfl ?_
    refine gf_X9_34 (pc := 6) hC hn64 dX9_isHouse_6 ?_
    refine R_icmp_ge (tgt := 16) (pc := 9) hC dX9_isHouse_9 (by decide) (fun c => ?_) (fun c => ?_)
    · replace hg := (if_pos c).symm.trans hg
      refine R_iconst (pc := 16) hC dX9_isHouse_16 ki_0 ?_
      have h9 := gxZ (m := m) hg
      exact R_ireturn (pc := 17) hC dX9_isHouse_17 h9
    · replace hg := (if_neg c).symm.trans hg
      refine R_iconst (pc := 12) hC dX9_isHouse_12 ki_1 ?_
      refine R_goto (tgt := 17) (pc := 13) hC dX9_isHouse_13 (by decide) ?_
      have h9 := gxZ (m := m) hg
      exact R_ireturn (pc := 17) hC dX9_isHouse_17 h9
theorem dX9_isLane_0 : decode cX9_isLane 0 = .ok (.iload_n 1, 1) := by decide +kernel
theorem dX9_isLane_1 : decode cX9_isLane 1 = .ok (.ifCond .lt 15, 3) := by decide +kernel
theorem dX9_isLane_4 : decode cX9_isLane 4 = .ok (.iload_n 1, 1) := by decide +kernel
theorem dX9_isLane_5 : decode cX9_isLane 5 = .ok (.aload_n 0, 1) := by decide +kernel
theorem dX9_isLane_6 : decode cX9_isLane 6 = .ok (.getfield 77, 3) := by decide +kernel
theorem dX9_isLane_9 : decode cX9_isLane 9 = .ok (.if_icmp .ge 7, 3) := by decide +kernel
theorem dX9_isLane_12 : decode cX9_isLane 12 = .ok (.iconst 1, 1) := by decide +kernel
theorem dX9_isLane_13 : decode cX9_isLane 13 = .ok (.goto 4, 3) := by decide +kernel
theorem dX9_isLane_16 : decode cX9_isLane 16 = .ok (.iconst 0, 1) := by decide +kernel
theorem dX9_isLane_17 : decode cX9_isLane 17 = .ok (.ireturn, 1) := by decide +kernel
def gX9_isLane (m : Mem) (a1 : Int32) : Option (Bool) := (if a1 < 0 then some false else (if (m.1 43 9) ≤ a1 then some false else some true))
set_option maxHeartbeats 4000000 in
set_option maxRecDepth 20000 in
theorem LX9_isLane {n : Nat} {m : Mem} {a1 : Int32} {r : Bool} (hn64 : 64 ≤ n) (hg : gX9_isLane m a1 = some r) : MX yX9_isLane cX9_isLane 2 (some .boolean) { frames := 0, cells := 0, slots := 0, locals := 0 } n [.ref 43, .int a1] m (some (.int (b2i r))) m := by
  refine MX_of (by decide) (Nat.le_of_ble_eq_true rfl) (Or.inr (Or.inr (Or.inr ⟨rfl, _, rfl⟩))) (fun K hC hk hL hR => ?_)
  replace hn64 : 64 ≤ kn K := hk.symm ▸ hn64
  show RX K 0 [(0, .ref 43), (1, .int a1)] [] m
  rw [gX9_isLane] at hg
  refine R_iload_n (pc := 0) hC 1 dX9_isLane_0 rfl rfl ?_
  refine R_if_lt (tgt := 16) (pc := 1) hC dX9_isLane_1 (by decide) (fun c => ?_) (fun c => ?_)
  · replace hg := (if_pos c).symm.trans hg
    refine R_iconst (pc := 16) hC dX9_isLane_16 ki_0 ?_
    have h9 := gxZ (m := m) hg
    exact R_ireturn (pc := 17) hC dX9_isLane_17 h9
  · replace hg := (if_neg c).symm.trans hg
    refine R_iload_n (pc := 4) hC 1 dX9_isLane_4 rfl rfl ?_
    refine R_aload_n (pc := 5) hC 0 dX9_isLane_5 rfl rfl ?_
    refine gf_X9_77 (pc := 6) hC hn64 dX9_isLane_6 ?_
    refine R_icmp_ge (tgt := 16) (pc := 9) hC dX9_isLane_9 (by decide) (fun c => ?_) (fun c => ?_)
    · replace hg := (if_pos c).symm.trans hg
      refine R_iconst (pc := 16) hC dX9_isLane_16 ki_0 ?_
      have h9 := gxZ (m := m) hg
      exact R_ireturn (pc := 17) hC dX9_isLane_17 h9
    · replace hg := (if_neg c).symm.trans hg
      refine R_iconst (pc := 12) hC dX9_isLane_12 ki_1 ?_
      refine R_goto (tgt := 17) (pc := 13) hC dX9_isLane_13 (by decide) ?_
      have h9 := gxZ (m := m) hg
      exact R_ireturn (pc := 17) hC dX9_isLane_17 h9
theorem dX9_feed_0 : decode cX9_feed 0 = .ok (.iload_n 1, 1) := by decide +kernel
theorem dX9_feed_1 : decode cX9_feed 1 = .ok (.iconst 0, 1) := by decide +kernel
theorem dX9_feed_2 : decode cX9_feed 2 = .ok (.sipush 255, 3) := by decide +kernel
theorem dX9_feed_5 : decode cX9_feed 5 = .ok (.invokestatic 80, 3) := by decide +kernel
theorem dX9_feed_8 : decode cX9_feed 8 = .ok (.istore_n 2, 1) := by decide +kernel
theorem dX9_feed_9 : decode cX9_feed 9 = .ok (.iload_n 2, 1) := by decide +kernel
theorem dX9_feed_10 : decode cX9_feed 10 = .ok (.ifCond .ne 15, 3) := by decide +kernel
theorem dX9_feed_13 : decode cX9_feed 13 = .ok (.aload_n 0, 1) := by decide +kernel
theorem dX9_feed_14 : decode cX9_feed 14 = .ok (.getfield 84, 3) := by decide +kernel
theorem dX9_feed_17 : decode cX9_feed 17 = .ok (.bipush 72, 2) := by decide +kernel
theorem dX9_feed_19 : decode cX9_feed 19 = .ok (.if_icmp .ne 6, 3) := by decide +kernel
theorem dX9_feed_22 : decode cX9_feed 22 = .ok (.bipush (-6), 2) := by decide +kernel
theorem dX9_feed_24 : decode cX9_feed 24 = .ok (.istore_n 2, 1) := by decide +kernel
theorem dX9_feed_25 : decode cX9_feed 25 = .ok (.iload_n 2, 1) := by decide +kernel
theorem dX9_feed_26 : decode cX9_feed 26 = .ok (.ifCond .eq 9, 3) := by decide +kernel
theorem dX9_feed_29 : decode cX9_feed 29 = .ok (.aload_n 0, 1) := by decide +kernel
theorem dX9_feed_30 : decode cX9_feed 30 = .ok (.iload_n 2, 1) := by decide +kernel
theorem dX9_feed_31 : decode cX9_feed 31 = .ok (.invokevirtual 87, 3) := by decide +kernel
theorem dX9_feed_34 : decode cX9_feed 34 = .ok (.ireturn, 1) := by decide +kernel
theorem dX9_feed_35 : decode cX9_feed 35 = .ok (.aload_n 0, 1) := by decide +kernel
theorem dX9_feed_36 : decode cX9_feed 36 = .ok (.getfield 38, 3) := by decide +kernel
theorem dX9_feed_39 : decode cX9_feed 39 = .ok (.aload_n 0, 1) := by decide +kernel
theorem dX9_feed_40 : decode cX9_feed 40 = .ok (.getfield 84, 3) := by decide +kernel
theorem dX9_feed_43 : decode cX9_feed 43 = .ok (.iload_n 1, 1) := by decide +kernel
theorem dX9_feed_44 : decode cX9_feed 44 = .ok (.iastore, 1) := by decide +kernel
theorem dX9_feed_45 : decode cX9_feed 45 = .ok (.aload_n 0, 1) := by decide +kernel
theorem dX9_feed_46 : decode cX9_feed 46 = .ok (.dup, 1) := by decide +kernel
theorem dX9_feed_47 : decode cX9_feed 47 = .ok (.getfield 84, 3) := by decide +kernel
theorem dX9_feed_50 : decode cX9_feed 50 = .ok (.iconst 1, 1) := by decide +kernel
theorem dX9_feed_51 : decode cX9_feed 51 = .ok (.iadd, 1) := by decide +kernel
theorem dX9_feed_52 : decode cX9_feed 52 = .ok (.putfield 84, 3) := by decide +kernel
theorem dX9_feed_55 : decode cX9_feed 55 = .ok (.aload_n 0, 1) := by decide +kernel
theorem dX9_feed_56 : decode cX9_feed 56 = .ok (.getfield 84, 3) := by decide +kernel
theorem dX9_feed_59 : decode cX9_feed 59 = .ok (.ireturn, 1) := by decide +kernel
def gX9_feed (m : Mem) (a1 : Int32) : Option (Int32 × Mem) := (gX9_bound a1 0 255).bind (fun x1 => (if x1 = 0 then (if (m.1 43 14) = 72 then (gX9_no m (-6)).bind (fun q10 => some (q10.1, q10.2)) else (if x1 = 0 then chk (inb (m.1 43 14) 72) (lete (mu m 52 (Int32.toNatClampNeg (m.1 43 14)) a1) (fun m7 => lete (mu m7 43 14 ((m7.1 43 14) + 1)) (fun m8 => some (m8.1 43 14, m8)))) else (gX9_no m x1).bind (fun q9 => some (q9.1, q9.2)))) else (if x1 = 0 then chk (inb (m.1 43 14) 72) (lete (mu m 52 (Int32.toNatClampNeg (m.1 43 14)) a1) (fun m3 => lete (mu m3 43 14 ((m3.1 43 14) + 1)) (fun m4 => some (m4.1 43 14, m4)))) else (gX9_no m x1).bind (fun q5 => some (q5.1, q5.2)))))
set_option maxHeartbeats 4000000 in
set_option maxRecDepth 20000 in
theorem LX9_feed {n : Nat} {m : Mem} {a1 : Int32} {r : Int32 × Mem} (hn64 : 64 ≤ n) (hg : gX9_feed m a1 = some r) : MX yX9_feed cX9_feed 3 (some .int) { frames := 1, cells := 0, slots := 0, locals := 22 } n [.ref 43, .int a1] m (some (.int r.1)) r.2 := by
  refine MX_of (by decide) (Nat.le_of_ble_eq_true rfl) (Or.inr (Or.inl ⟨rfl, _, rfl⟩)) (fun K hC hk hL hR => ?_)
  replace hn64 : 64 ≤ kn K := hk.symm ▸ hn64
  show RX K 0 [(0, .ref 43), (1, .int a1)] [] m
  rw [gX9_feed] at hg
  refine R_iload_n (pc := 0) hC 1 dX9_feed_0 rfl rfl ?_
  refine R_iconst (pc := 1) hC dX9_feed_1 ki_0 ?_
  refine R_sipush (pc := 2) hC dX9_feed_2 ks_255 ?_
  obtain ⟨x1, hx1, hg⟩ := bind_some hg
  refine R_callS (pc := 5) (av := [.int a1, .int 0, .int 255]) (rest := []) hC hR mf_X9_bound wm_X9_80 (LX9_bound hn64 hx1) rfl rfl rfl (Nat.le_of_ble_eq_true rfl) dX9_feed_5 rfl ?_
  show RX K 8 [(0, .ref 43), (1, .int a1)] [.int x1] m
  refine R_istore_n (pc := 8) hC dX9_feed_8 rfl hL rfl (show _ = [(2, .int x1), (0, .ref 43), (1, .int a1)] from rfl) ?_
  refine R_iload_n (pc := 9) hC 0 dX9_feed_9 rfl rfl ?_
  refine R_if_ne (tgt := 25) (pc := 10) hC dX9_feed_10 (by decide) (fun c => ?_) (fun c => ?_)
  · replace hg := (if_neg c).symm.trans hg
    refine R_iload_n (pc := 25) hC 0 dX9_feed_25 rfl rfl ?_
    refine R_if_eq (tgt := 35) (pc := 26) hC dX9_feed_26 (by decide) (fun c => ?_) (fun c => ?_)
    · replace hg := (if_pos c).symm.trans hg
      refine R_aload_n (pc := 35) hC 1 dX9_feed_35 rfl rfl ?_
      refine gf_X9_38 (pc := 36) hC hn64 dX9_feed_36 ?_
      refine R_aload_n (pc := 39) hC 1 dX9_feed_39 rfl rfl ?_
      refine gf_X9_84 (pc := 40) hC hn64 dX9_feed_40 ?_
      refine R_iload_n (pc := 43) hC 2 dX9_feed_43 rfl rfl ?_
      obtain ⟨c2, hg⟩ := chk_some hg
      obtain ⟨m3, hm3, hg⟩ := lete_some hg
      refine R_iastore (pc := 44) hC 52 (jx hn64 rfl) ly52 (inb_vp c2) dX9_feed_44 ?_
      refine R_mem hm3 ?_
      refine R_aload_n (pc := 45) hC 1 dX9_feed_45 rfl rfl ?_
      refine R_dup (pc := 46) hC dX9_feed_46 rfl ?_
      refine gf_X9_84 (pc := 47) hC hn64 dX9_feed_47 ?_
      refine R_iconst (pc := 50) hC dX9_feed_50 ki_1 ?_
      refine R_iadd (pc := 51) hC dX9_feed_51 ?_
      obtain ⟨m4, hm4, hg⟩ := lete_some hg
      refine pf_X9_84 (pc := 52) hC hn64 dX9_feed_52 ?_
      refine R_mem hm4 ?_
      refine R_aload_n (pc := 55) hC 1 dX9_feed_55 rfl rfl ?_
      refine gf_X9_84 (pc := 56) hC hn64 dX9_feed_56 ?_
      have h9 := gxIM hg
      exact R_ireturn (pc := 59) hC dX9_feed_59 h9
    · replace hg := (if_neg c).symm.trans hg
      refine R_aload_n (pc := 29) hC 1 dX9_feed_29 rfl rfl ?_
      refine R_iload_n (pc := 30) hC 0 dX9_feed_30 rfl rfl ?_
      obtain ⟨q5, hq5, hg⟩ := bind_some hg
      refine R_callV (pc := 31) (av := [.int x1]) (rest := []) hC hR 43 (jx hn64 rfl) ly43 rfl mf_X9_no wm_X9_87 (LX9_no hn64 hq5) rfl rfl rfl (Nat.le_of_ble_eq_true rfl) dX9_feed_31 rfl ?_
      show RX K 34 [(2, .int x1), (0, .ref 43), (1, .int a1)] [.int q5.1] q5.2
      have h9 := gxIM hg
      exact R_ireturn (pc := 34) hC dX9_feed_34 h9
  · replace hg := (if_pos c).symm.trans hg
    refine R_aload_n (pc := 13) hC 1 dX9_feed_13 rfl rfl ?_
    refine gf_X9_84 (pc := 14) hC hn64 dX9_feed_14 ?_
    refine R_bipush (pc := 17) hC dX9_feed_17 kb_72 ?_
    refine R_icmp_ne (tgt := 25) (pc := 19) hC dX9_feed_19 (by decide) (fun c => ?_) (fun c => ?_)
    · replace hg := (if_neg c).symm.trans hg
      refine R_iload_n (pc := 25) hC 0 dX9_feed_25 rfl rfl ?_
      refine R_if_eq (tgt := 35) (pc := 26) hC dX9_feed_26 (by decide) (fun c => ?_) (fun c => ?_)
      · replace hg := (if_pos c).symm.trans hg
        refine R_aload_n (pc := 35) hC 1 dX9_feed_35 rfl rfl ?_
        refine gf_X9_38 (pc := 36) hC hn64 dX9_feed_36 ?_
        refine R_aload_n (pc := 39) hC 1 dX9_feed_39 rfl rfl ?_
        refine gf_X9_84 (pc := 40) hC hn64 dX9_feed_40 ?_
        refine R_iload_n (pc := 43) hC 2 dX9_feed_43 rfl rfl ?_
        obtain ⟨c6, hg⟩ := chk_some hg
        obtain ⟨m7, hm7, hg⟩ := lete_some hg
        refine R_iastore (pc := 44) hC 52 (jx hn64 rfl) ly52 (inb_vp c6) dX9_feed_44 ?_
        refine R_mem hm7 ?_
        refine R_aload_n (pc := 45) hC 1 dX9_feed_45 rfl rfl ?_
        refine R_dup (pc := 46) hC dX9_feed_46 rfl ?_
        refine gf_X9_84 (pc := 47) hC hn64 dX9_feed_47 ?_
        refine R_iconst (pc := 50) hC dX9_feed_50 ki_1 ?_
        refine R_iadd (pc := 51) hC dX9_feed_51 ?_
        obtain ⟨m8, hm8, hg⟩ := lete_some hg
        refine pf_X9_84 (pc := 52) hC hn64 dX9_feed_52 ?_
        refine R_mem hm8 ?_
        refine R_aload_n (pc := 55) hC 1 dX9_feed_55 rfl rfl ?_
        refine gf_X9_84 (pc := 56) hC hn64 dX9_feed_56 ?_
        have h9 := gxIM hg
        exact R_ireturn (pc := 59) hC dX9_feed_59 h9
      · replace hg := (if_neg c).symm.trans hg
        refine R_aload_n (pc := 29) hC 1 dX9_feed_29 rfl rfl ?_
        refine R_iload_n (pc := 30) hC 0 dX9_feed_30 rfl rfl ?_
        obtain ⟨q9, hq9, hg⟩ := bind_some hg
        refine R_callV (pc := 31) (av := [.int x1]) (rest := []) hC hR 43 (jx hn64 rfl) ly43 rfl mf_X9_no wm_X9_87 (LX9_no hn64 hq9) rfl rfl rfl (Nat.le_of_ble_eq_true rfl) dX9_feed_31 rfl ?_
        show RX K 34 [(2, .int x1), (0, .ref 43), (1, .int a1)] [.int q9.1] q9.2
        have h9 := gxIM hg
        exact R_ireturn (pc := 34) hC dX9_feed_34 h9
    · replace hg := (if_pos c).symm.trans hg
      refine R_bipush (pc := 22) hC dX9_feed_22 kb_m6 ?_
      refine R_istore_n (pc := 24) hC dX9_feed_24 rfl hL rfl (show _ = [(2, .int (-6)), (0, .ref 43), (1, .int a1)] from rfl) ?_
      refine R_iload_n (pc := 25) hC 0 dX9_feed_25 rfl rfl ?_
      refine R_if_eq (tgt := 35) (pc := 26) hC dX9_feed_26 (by decide) (fun c => absurd c (by decide)) (fun c => ?_)
      refine R_aload_n (pc := 29) hC 1 dX9_feed_29 rfl rfl ?_
      refine R_iload_n (pc := 30) hC 0 dX9_feed_30 rfl rfl ?_
      obtain ⟨q10, hq10, hg⟩ := bind_some hg
      refine R_callV (pc := 31) (av := [.int (-6)]) (rest := []) hC hR 43 (jx hn64 rfl) ly43 rfl mf_X9_no wm_X9_87 (LX9_no hn64 hq10) rfl rfl rfl (Nat.le_of_ble_eq_true rfl) dX9_feed_31 rfl ?_
      show RX K 34 [(2, .int (-6)), (0, .ref 43), (1, .int a1)] [.int q10.1] q10.2
      have h9 := gxIM hg
      exact R_ireturn (pc := 34) hC dX9_feed_34 h9
theorem dX9_next_0 : decode cX9_next 0 = .ok (.aload_n 0, 1) := by decide +kernel
theorem dX9_next_1 : decode cX9_next 1 = .ok (.getfield 91, 3) := by decide +kernel
theorem dX9_next_4 : decode cX9_next 4 = .ok (.aload_n 0, 1) := by decide +kernel
theorem dX9_next_5 : decode cX9_next 5 = .ok (.getfield 84, 3) := by decide +kernel
theorem dX9_next_8 : decode cX9_next 8 = .ok (.if_icmp .ge 15, 3) := by decide +kernel
theorem dX9_next_11 : decode cX9_next 11 = .ok (.aload_n 0, 1) := by decide +kernel
theorem dX9_next_12 : decode cX9_next 12 = .ok (.getfield 38, 3) := by decide +kernel
theorem dX9_next_15 : decode cX9_next 15 = .ok (.aload_n 0, 1) := by decide +kernel
theorem dX9_next_16 : decode cX9_next 16 = .ok (.getfield 91, 3) := by decide +kernel
theorem dX9_next_19 : decode cX9_next 19 = .ok (.iaload, 1) := by decide +kernel
theorem dX9_next_20 : decode cX9_next 20 = .ok (.goto 4, 3) := by decide +kernel
theorem dX9_next_23 : decode cX9_next 23 = .ok (.iconst (-1), 1) := by decide +kernel
theorem dX9_next_24 : decode cX9_next 24 = .ok (.ireturn, 1) := by decide +kernel
def gX9_next (m : Mem) : Option (Int32) := (if (m.1 43 14) ≤ (m.1 43 15) then some (-1) else chk (inb (m.1 43 15) 72) (some (m.1 52 (Int32.toNatClampNeg (m.1 43 15)))))
set_option maxHeartbeats 4000000 in
set_option maxRecDepth 20000 in
theorem LX9_next {n : Nat} {m : Mem} {r : Int32} (hn64 : 64 ≤ n) (hg : gX9_next m  = some r) : MX yX9_next cX9_next 1 (some .int) { frames := 0, cells := 0, slots := 0, locals := 0 } n [.ref 43] m (some (.int r)) m := by
  refine MX_of (by decide) (Nat.le_of_ble_eq_true rfl) (Or.inr (Or.inl ⟨rfl, _, rfl⟩)) (fun K hC hk hL hR => ?_)
  replace hn64 : 64 ≤ kn K := hk.symm ▸ hn64
  show RX K 0 [(0, .ref 43)] [] m
  rw [gX9_next] at hg
  refine R_aload_n (pc := 0) hC 0 dX9_next_0 rfl rfl ?_
  refine gf_X9_91 (pc := 1) hC hn64 dX9_next_1 ?_
  refine R_aload_n (pc := 4) hC 0 dX9_next_4 rfl rfl ?_
  refine gf_X9_84 (pc := 5) hC hn64 dX9_next_5 ?_
  refine R_icmp_ge (tgt := 23) (pc := 8) hC dX9_next_8 (by decide) (fun c => ?_) (fun c => ?_)
  · replace hg := (if_pos c).symm.trans hg
    refine R_iconst (pc := 23) hC dX9_next_23 ki_m1 ?_
    have h9 := gxI (m := m) hg
    exact R_ireturn (pc := 24) hC dX9_next_24 h9
  · replace hg := (if_neg c).symm.trans hg
    refine R_aload_n (pc := 11) hC 0 dX9_next_11 rfl rfl ?_
    refine gf_X9_38 (pc := 12) hC hn64 dX9_next_12 ?_
    refine R_aload_n (pc := 15) hC 0 dX9_next_15 rfl rfl ?_
    refine gf_X9_91 (pc := 16) hC hn64 dX9_next_16 ?_
    obtain ⟨c1, hg⟩ := chk_some hg
    refine R_iaload (pc := 19) hC 52 (jx hn64 rfl) ly52 (inb_vp c1) dX9_next_19 ?_
    refine R_goto (tgt := 24) (pc := 20) hC dX9_next_20 (by decide) ?_
    have h9 := gxI (m := m) hg
    exact R_ireturn (pc := 24) hC dX9_next_24 h9
theorem dX9_isNext_0 : decode cX9_isNext 0 = .ok (.aload_n 0, 1) := by decide +kernel
theorem dX9_isNext_1 : decode cX9_isNext 1 = .ok (.invokevirtual 94, 3) := by decide +kernel
theorem dX9_isNext_4 : decode cX9_isNext 4 = .ok (.iload_n 1, 1) := by decide +kernel
theorem dX9_isNext_5 : decode cX9_isNext 5 = .ok (.if_icmp .eq 5, 3) := by decide +kernel
theorem dX9_isNext_8 : decode cX9_isNext 8 = .ok (.iconst 0, 1) := by decide +kernel
theorem dX9_isNext_9 : decode cX9_isNext 9 = .ok (.ireturn, 1) := by decide +kernel
theorem dX9_isNext_10 : decode cX9_isNext 10 = .ok (.aload_n 0, 1) := by decide +kernel
theorem dX9_isNext_11 : decode cX9_isNext 11 = .ok (.dup, 1) := by decide +kernel
theorem dX9_isNext_12 : decode cX9_isNext 12 = .ok (.getfield 91, 3) := by decide +kernel
theorem dX9_isNext_15 : decode cX9_isNext 15 = .ok (.iconst 1, 1) := by decide +kernel
theorem dX9_isNext_16 : decode cX9_isNext 16 = .ok (.iadd, 1) := by decide +kernel
theorem dX9_isNext_17 : decode cX9_isNext 17 = .ok (.putfield 91, 3) := by decide +kernel
theorem dX9_isNext_20 : decode cX9_isNext 20 = .ok (.iconst 1, 1) := by decide +kernel
theorem dX9_isNext_21 : decode cX9_isNext 21 = .ok (.ireturn, 1) := by decide +kernel
def gX9_isNext (m : Mem) (a1 : Int32) : Option (Bool × Mem) := (gX9_next m).bind (fun x1 => (if x1 = a1 then lete (mu m 43 15 ((m.1 43 15) + 1)) (fun m2 => some (true, m2)) else some (false, m)))
set_option maxHeartbeats 4000000 in
set_option maxRecDepth 20000 in
theorem LX9_isNext {n : Nat} {m : Mem} {a1 : Int32} {r : Bool × Mem} (hn64 : 64 ≤ n) (hg : gX9_isNext m a1 = some r) : MX yX9_isNext cX9_isNext 2 (some .boolean) { frames := 1, cells := 0, slots := 0, locals := 20 } n [.ref 43, .int a1] m (some (.int (b2i r.1))) r.2 := by
  refine MX_of (by decide) (Nat.le_of_ble_eq_true rfl) (Or.inr (Or.inr (Or.inr ⟨rfl, _, rfl⟩))) (fun K hC hk hL hR => ?_)
  replace hn64 : 64 ≤ kn K := hk.symm ▸ hn64
  show RX K 0 [(0, .ref 43), (1, .int a1)] [] m
  rw [gX9_isNext] at hg
  refine R_aload_n (pc := 0) hC 0 dX9_isNext_0 rfl rfl ?_
  obtain ⟨x1, hx1, hg⟩ := bind_some hg
  refine R_callV (pc := 1) (av := []) (rest := []) hC hR 43 (jx hn64 rfl) ly43 rfl mf_X9_next wm_X9_94 (LX9_next hn64 hx1) rfl rfl rfl (Nat.le_of_ble_eq_true rfl) dX9_isNext_1 rfl ?_
  show RX K 4 [(0, .ref 43), (1, .int a1)] [.int x1] m
  refine R_iload_n (pc := 4) hC 1 dX9_isNext_4 rfl rfl ?_
  refine R_icmp_eq (tgt := 10) (pc := 5) hC dX9_isNext_5 (by decide) (fun c => ?_) (fun c => ?_)
  · replace hg := (if_pos c).symm.trans hg
    refine R_aload_n (pc := 10) hC 0 dX9_isNext_10 rfl rfl ?_
    refine R_dup (pc := 11) hC dX9_isNext_11 rfl ?_
    refine gf_X9_91 (pc := 12) hC hn64 dX9_isNext_12 ?_
    refine R_iconst (pc := 15) hC dX9_isNext_15 ki_1 ?_
    refine R_iadd (pc := 16) hC dX9_isNext_16 ?_
    obtain ⟨m2, hm2, hg⟩ := lete_some hg
    refine pf_X9_91 (pc := 17) hC hn64 dX9_isNext_17 ?_
    refine R_mem hm2 ?_
    refine R_iconst (pc := 20) hC dX9_isNext_20 ki_1 ?_
    have h9 := gxZM hg
    exact R_ireturn (pc := 21) hC dX9_isNext_21 h9
  · replace hg := (if_neg c).symm.trans hg
    refine R_iconst (pc := 8) hC dX9_isNext_8 ki_0 ?_
    have h9 := gxZM hg
    exact R_ireturn (pc := 9) hC dX9_isNext_9 h9
theorem dX9_reads_0 : decode cX9_reads 0 = .ok (.aload_n 0, 1) := by decide +kernel
theorem dX9_reads_1 : decode cX9_reads 1 = .ok (.invokevirtual 94, 3) := by decide +kernel
theorem dX9_reads_4 : decode cX9_reads 4 = .ok (.bipush 48, 2) := by decide +kernel
theorem dX9_reads_6 : decode cX9_reads 6 = .ok (.bipush 57, 2) := by decide +kernel
theorem dX9_reads_8 : decode cX9_reads 8 = .ok (.invokestatic 98, 3) := by decide +kernel
theorem dX9_reads_11 : decode cX9_reads 11 = .ok (.ifCond .ne 5, 3) := by decide +kernel
theorem dX9_reads_14 : decode cX9_reads 14 = .ok (.iconst 0, 1) := by decide +kernel
theorem dX9_reads_15 : decode cX9_reads 15 = .ok (.ireturn, 1) := by decide +kernel
theorem dX9_reads_16 : decode cX9_reads 16 = .ok (.iconst 0, 1) := by decide +kernel
theorem dX9_reads_17 : decode cX9_reads 17 = .ok (.istore_n 3, 1) := by decide +kernel
theorem dX9_reads_18 : decode cX9_reads 18 = .ok (.iconst 0, 1) := by decide +kernel
theorem dX9_reads_19 : decode cX9_reads 19 = .ok (.istore 4, 2) := by decide +kernel
theorem dX9_reads_21 : decode cX9_reads 21 = .ok (.iload 4, 2) := by decide +kernel
theorem dX9_reads_23 : decode cX9_reads 23 = .ok (.iload_n 2, 1) := by decide +kernel
theorem dX9_reads_24 : decode cX9_reads 24 = .ok (.if_icmp .ge 46, 3) := by decide +kernel
theorem dX9_reads_27 : decode cX9_reads 27 = .ok (.aload_n 0, 1) := by decide +kernel
theorem dX9_reads_28 : decode cX9_reads 28 = .ok (.invokevirtual 94, 3) := by decide +kernel
theorem dX9_reads_31 : decode cX9_reads 31 = .ok (.bipush 48, 2) := by decide +kernel
theorem dX9_reads_33 : decode cX9_reads 33 = .ok (.bipush 57, 2) := by decide +kernel
theorem dX9_reads_35 : decode cX9_reads 35 = .ok (.invokestatic 98, 3) := by decide +kernel
theorem dX9_reads_38 : decode cX9_reads 38 = .ok (.ifCond .eq 32, 3) := by decide +kernel
theorem dX9_reads_41 : decode cX9_reads 41 = .ok (.bipush 10, 2) := by decide +kernel
theorem dX9_reads_43 : decode cX9_reads 43 = .ok (.iload_n 3, 1) := by decide +kernel
theorem dX9_reads_44 : decode cX9_reads 44 = .ok (.imul, 1) := by decide +kernel
theorem dX9_reads_45 : decode cX9_reads 45 = .ok (.aload_n 0, 1) := by decide +kernel
theorem dX9_reads_46 : decode cX9_reads 46 = .ok (.invokevirtual 94, 3) := by decide +kernel
theorem dX9_reads_49 : decode cX9_reads 49 = .ok (.iadd, 1) := by decide +kernel
theorem dX9_reads_50 : decode cX9_reads 50 = .ok (.bipush 48, 2) := by decide +kernel
theorem dX9_reads_52 : decode cX9_reads 52 = .ok (.isub, 1) := by decide +kernel
theorem dX9_reads_53 : decode cX9_reads 53 = .ok (.istore_n 3, 1) := by decide +kernel
theorem dX9_reads_54 : decode cX9_reads 54 = .ok (.aload_n 0, 1) := by decide +kernel
theorem dX9_reads_55 : decode cX9_reads 55 = .ok (.dup, 1) := by decide +kernel
theorem dX9_reads_56 : decode cX9_reads 56 = .ok (.getfield 91, 3) := by decide +kernel
theorem dX9_reads_59 : decode cX9_reads 59 = .ok (.iconst 1, 1) := by decide +kernel
theorem dX9_reads_60 : decode cX9_reads 60 = .ok (.iadd, 1) := by decide +kernel
theorem dX9_reads_61 : decode cX9_reads 61 = .ok (.putfield 91, 3) := by decide +kernel
theorem dX9_reads_64 : decode cX9_reads 64 = .ok (.iinc 4 1, 3) := by decide +kernel
theorem dX9_reads_67 : decode cX9_reads 67 = .ok (.goto (-46), 3) := by decide +kernel
theorem dX9_reads_70 : decode cX9_reads 70 = .ok (.aload_n 0, 1) := by decide +kernel
theorem dX9_reads_71 : decode cX9_reads 71 = .ok (.getfield 47, 3) := by decide +kernel
theorem dX9_reads_74 : decode cX9_reads 74 = .ok (.iload_n 1, 1) := by decide +kernel
theorem dX9_reads_75 : decode cX9_reads 75 = .ok (.iload_n 3, 1) := by decide +kernel
theorem dX9_reads_76 : decode cX9_reads 76 = .ok (.iastore, 1) := by decide +kernel
theorem dX9_reads_77 : decode cX9_reads 77 = .ok (.iconst 1, 1) := by decide +kernel
theorem dX9_reads_78 : decode cX9_reads 78 = .ok (.ireturn, 1) := by decide +kernel
def bX9_reads_21 (a2 : Int32) : (Int32 × Int32 × Mem) → Option ((Int32 × Int32 × Mem) ⊕ (Int32 × Int32 × Mem))
  | (y3, y4, m5) => (if a2 ≤ y4 then some (.inr (y3, y4, m5)) else (gX9_next m5).bind (fun x6 => (gX9_isIn x6 48 57).bind (fun x7 => (if x7 = true then (gX9_next m5).bind (fun x8 => lete (((10 * y3) + x8) - 48) (fun x9 => lete (mu m5 43 15 ((m5.1 43 15) + 1)) (fun m10 => some (.inl (x9, y4 + 1, m10))))) else some (.inr (y3, y4, m5))))))
def gX9_reads (F : Nat) (m : Mem) (a1 : Int32) (a2 : Int32) : Option (Bool × Mem) := (gX9_next m).bind (fun x1 => (gX9_isIn x1 48 57).bind (fun x2 => (if x2 = true then (iter F (bX9_reads_21 a2) (0, 0, m)).bind (fun e11 => chk (inb a1 216) (lete (mu e11.2.2 55 (Int32.toNatClampNeg a1) e11.1) (fun m14 => some (true, m14)))) else some (false, m))))
set_option maxHeartbeats 4000000 in
set_option maxRecDepth 20000 in
theorem LX9_reads {n : Nat} {F : Nat} {m : Mem} {a1 : Int32} {a2 : Int32} {r : Bool × Mem} (hn64 : 64 ≤ n) (hg : gX9_reads F m a1 a2 = some r) : MX yX9_reads cX9_reads 5 (some .boolean) { frames := 1, cells := 0, slots := 0, locals := 22 } n [.ref 43, .int a1, .int a2] m (some (.int (b2i r.1))) r.2 := by
  refine MX_of (by decide) (Nat.le_of_ble_eq_true rfl) (Or.inr (Or.inr (Or.inr ⟨rfl, _, rfl⟩))) (fun K hC hk hL hR => ?_)
  replace hn64 : 64 ≤ kn K := hk.symm ▸ hn64
  show RX K 0 [(0, .ref 43), (1, .int a1), (2, .int a2)] [] m
  rw [gX9_reads] at hg
  refine R_aload_n (pc := 0) hC 0 dX9_reads_0 rfl rfl ?_
  obtain ⟨x1, hx1, hg⟩ := bind_some hg
  refine R_callV (pc := 1) (av := []) (rest := []) hC hR 43 (jx hn64 rfl) ly43 rfl mf_X9_next wm_X9_94 (LX9_next hn64 hx1) rfl rfl rfl (Nat.le_of_ble_eq_true rfl) dX9_reads_1 rfl ?_
  show RX K 4 [(0, .ref 43), (1, .int a1), (2, .int a2)] [.int x1] m
  refine R_bipush (pc := 4) hC dX9_reads_4 kb_48 ?_
  refine R_bipush (pc := 6) hC dX9_reads_6 kb_57 ?_
  obtain ⟨x2, hx2, hg⟩ := bind_some hg
  refine R_callS (pc := 8) (av := [.int x1, .int 48, .int 57]) (rest := []) hC hR mf_X9_isIn wm_X9_98 (LX9_isIn hn64 hx2) rfl rfl rfl (Nat.le_of_ble_eq_true rfl) dX9_reads_8 rfl ?_
  show RX K 11 [(0, .ref 43), (1, .int a1), (2, .int a2)] [.int (b2i x2)] m
  refine R_ifB_ne (tgt := 16) (pc := 11) hC dX9_reads_11 (by decide) (fun c => ?_) (fun c => ?_)
  · replace hg := (if_pos c).symm.trans hg
    refine R_iconst (pc := 16) hC dX9_reads_16 ki_0 ?_
    refine R_istore_n (pc := 17) hC dX9_reads_17 rfl hL rfl (show _ = [(3, .int 0), (0, .ref 43), (1, .int a1), (2, .int a2)] from rfl) ?_
    refine R_iconst (pc := 18) hC dX9_reads_18 ki_0 ?_
    refine R_istore (pc := 19) hC dX9_reads_19 hL rfl (show _ = [(4, .int 0), (3, .int 0), (0, .ref 43), (1, .int a1), (2, .int a2)] from rfl) ?_
    refine R_pick [2, 3, 4, 1, 0] (ls' := [(0, .ref 43), (1, .int a1), (2, .int a2), (3, .int 0), (4, .int 0)]) rfl ?_
    obtain ⟨e11, he11, hg⟩ := bind_some hg
    refine iter_walk (P := fun s : (Int32 × Int32 × Mem) => RX K 21 [(0, .ref 43), (1, .int a1), (2, .int a2), (3, .int s.1), (4, .int s.2.1)] [] s.2.2) (Qe := fun s : (Int32 × Int32 × Mem) => RX K 70 [(0, .ref 43), (1, .int a1), (2, .int a2), (3, .int s.1), (4, .int s.2.1)] [] s.2.2) (fun s12 o hg kL21 kE21 => ?_) _ _ _ he11 ?_
    · obtain ⟨y3, y4, m5⟩ := s12
      rw [bX9_reads_21] at hg
      show RX K 21 [(0, .ref 43), (1, .int a1), (2, .int a2), (3, .int y3), (4, .int y4)] [] m5
      refine R_iload (pc := 21) hC 4 dX9_reads_21 rfl ?_
      refine R_iload_n (pc := 23) hC 2 dX9_reads_23 rfl rfl ?_
      refine R_icmp_ge (tgt := 70) (pc := 24) hC dX9_reads_24 (by decide) (fun c => ?_) (fun c => ?_)
      · replace hg := (if_pos c).symm.trans hg
        refine R_pick [0, 1, 2, 3, 4] (ls' := [(0, .ref 43), (1, .int a1), (2, .int a2), (3, .int y3), (4, .int y4)]) rfl ?_
        have h9 := kE21 _ (Option.some.inj hg).symm
        exact h9
      · replace hg := (if_neg c).symm.trans hg
        refine R_aload_n (pc := 27) hC 0 dX9_reads_27 rfl rfl ?_
        obtain ⟨x6, hx6, hg⟩ := bind_some hg
        refine R_callV (pc := 28) (av := []) (rest := []) hC hR 43 (jx hn64 rfl) ly43 rfl mf_X9_next wm_X9_94 (LX9_next hn64 hx6) rfl rfl rfl (Nat.le_of_ble_eq_true rfl) dX9_reads_28 rfl ?_
        show RX K 31 [(0, .ref 43), (1, .int a1), (2, .int a2), (3, .int y3), (4, .int y4)] [.int x6] m5
        refine R_bipush (pc := 31) hC dX9_reads_31 kb_48 ?_
        refine R_bipush (pc := 33) hC dX9_reads_33 kb_57 ?_
        obtain ⟨x7, hx7, hg⟩ := bind_some hg
        refine R_callS (pc := 35) (av := [.int x6, .int 48, .int 57]) (rest := []) hC hR mf_X9_isIn wm_X9_98 (LX9_isIn hn64 hx7) rfl rfl rfl (Nat.le_of_ble_eq_true rfl) dX9_reads_35 rfl ?_
        show RX K 38 [(0, .ref 43), (1, .int a1), (2, .int a2), (3, .int y3), (4, .int y4)] [.int (b2i x7)] m5
        refine R_ifB_eq (tgt := 70) (pc := 38) hC dX9_reads_38 (by decide) (fun c => ?_) (fun c => ?_)
        · replace hg := (if_neg c).symm.trans hg
          refine R_pick [0, 1, 2, 3, 4] (ls' := [(0, .ref 43), (1, .int a1), (2, .int a2), (3, .int y3), (4, .int y4)]) rfl ?_
          have h9 := kE21 _ (Option.some.inj hg).symm
          exact h9
        · replace hg := (if_pos c).symm.trans hg
          refine R_bipush (pc := 41) hC dX9_reads_41 kb_10 ?_
          refine R_iload_n (pc := 43) hC 3 dX9_reads_43 rfl rfl ?_
          refine R_imul (pc := 44) hC dX9_reads_44 ?_
          refine R_aload_n (pc := 45) hC 0 dX9_reads_45 rfl rfl ?_
          obtain ⟨x8, hx8, hg⟩ := bind_some hg
          refine R_callV (pc := 46) (av := []) (rest := [.int (10 * y3)]) hC hR 43 (jx hn64 rfl) ly43 rfl mf_X9_next wm_X9_94 (LX9_next hn64 hx8) rfl rfl rfl (Nat.le_of_ble_eq_true rfl) dX9_reads_46 rfl ?_
          show RX K 49 [(0, .ref 43), (1, .int a1), (2, .int a2), (3, .int y3), (4, .int y4)] [.int x8, .int (10 * y3)] m5
          refine R_iadd (pc := 49) hC dX9_reads_49 ?_
          refine R_bipush (pc := 50) hC dX9_reads_50 kb_48 ?_
          refine R_isub (pc := 52) hC dX9_reads_52 ?_
          obtain ⟨x9, hx9, hg⟩ := lete_some hg
          refine R_top hx9 ?_
          refine R_istore_n (pc := 53) hC dX9_reads_53 rfl hL rfl (show _ = [(3, .int x9), (0, .ref 43), (1, .int a1), (2, .int a2), (4, .int y4)] from rfl) ?_
          refine R_aload_n (pc := 54) hC 1 dX9_reads_54 rfl rfl ?_
          refine R_dup (pc := 55) hC dX9_reads_55 rfl ?_
          refine gf_X9_91 (pc := 56) hC hn64 dX9_reads_56 ?_
          refine R_iconst (pc := 59) hC dX9_reads_59 ki_1 ?_
          refine R_iadd (pc := 60) hC dX9_reads_60 ?_
          obtain ⟨m10, hm10, hg⟩ := lete_some hg
          refine pf_X9_91 (pc := 61) hC hn64 dX9_reads_61 ?_
          refine R_mem hm10 ?_
          refine R_iinc (pc := 64) hC 4 dX9_reads_64 rfl (iv ki_1) hL rfl (show _ = [(4, .int (y4 + 1)), (3, .int x9), (0, .ref 43), (1, .int a1), (2, .int a2)] from rfl) ?_
          refine R_goto (tgt := 21) (pc := 67) hC dX9_reads_67 (by decide) ?_
          refine R_pick [2, 3, 4, 1, 0] (ls' := [(0, .ref 43), (1, .int a1), (2, .int a2), (3, .int x9), (4, .int (y4 + 1))]) rfl ?_
          have h9 := kL21 _ (Option.some.inj hg).symm
          exact h9
    · show RX K 70 [(0, .ref 43), (1, .int a1), (2, .int a2), (3, .int e11.1), (4, .int e11.2.1)] [] e11.2.2
      refine R_aload_n (pc := 70) hC 0 dX9_reads_70 rfl rfl ?_
      refine gf_X9_47 (pc := 71) hC hn64 dX9_reads_71 ?_
      refine R_iload_n (pc := 74) hC 1 dX9_reads_74 rfl rfl ?_
      refine R_iload_n (pc := 75) hC 3 dX9_reads_75 rfl rfl ?_
      obtain ⟨c13, hg⟩ := chk_some hg
      obtain ⟨m14, hm14, hg⟩ := lete_some hg
      refine R_iastore (pc := 76) hC 55 (jx hn64 rfl) ly55 (inb_vp c13) dX9_reads_76 ?_
      refine R_mem hm14 ?_
      refine R_iconst (pc := 77) hC dX9_reads_77 ki_1 ?_
      have h9 := gxZM hg
      exact R_ireturn (pc := 78) hC dX9_reads_78 h9
  · replace hg := (if_neg c).symm.trans hg
    refine R_iconst (pc := 14) hC dX9_reads_14 ki_0 ?_
    have h9 := gxZM hg
    exact R_ireturn (pc := 15) hC dX9_reads_15 h9
theorem dX9_statement_0 : decode cX9_statement 0 = .ok (.aload_n 0, 1) := by decide +kernel
theorem dX9_statement_1 : decode cX9_statement 1 = .ok (.invokevirtual 94, 3) := by decide +kernel
theorem dX9_statement_4 : decode cX9_statement 4 = .ok (.istore_n 1, 1) := by decide +kernel
theorem dX9_statement_5 : decode cX9_statement 5 = .ok (.iload_n 1, 1) := by decide +kernel
theorem dX9_statement_6 : decode cX9_statement 6 = .ok (.bipush 104, 2) := by decide +kernel
theorem dX9_statement_8 : decode cX9_statement 8 = .ok (.if_icmp .eq 29, 3) := by decide +kernel
theorem dX9_statement_11 : decode cX9_statement 11 = .ok (.iload_n 1, 1) := by decide +kernel
theorem dX9_statement_12 : decode cX9_statement 12 = .ok (.bipush 108, 2) := by decide +kernel
theorem dX9_statement_14 : decode cX9_statement 14 = .ok (.if_icmp .eq 23, 3) := by decide +kernel
theorem dX9_statement_17 : decode cX9_statement 17 = .ok (.iload_n 1, 1) := by decide +kernel
theorem dX9_statement_18 : decode cX9_statement 18 = .ok (.bipush 107, 2) := by decide +kernel
theorem dX9_statement_20 : decode cX9_statement 20 = .ok (.if_icmp .eq 17, 3) := by decide +kernel
theorem dX9_statement_23 : decode cX9_statement 23 = .ok (.iload_n 1, 1) := by decide +kernel
theorem dX9_statement_24 : decode cX9_statement 24 = .ok (.bipush 120, 2) := by decide +kernel
theorem dX9_statement_26 : decode cX9_statement 26 = .ok (.if_icmp .eq 11, 3) := by decide +kernel
theorem dX9_statement_29 : decode cX9_statement 29 = .ok (.iload_n 1, 1) := by decide +kernel
theorem dX9_statement_30 : decode cX9_statement 30 = .ok (.bipush 102, 2) := by decide +kernel
theorem dX9_statement_32 : decode cX9_statement 32 = .ok (.if_icmp .eq 5, 3) := by decide +kernel
theorem dX9_statement_35 : decode cX9_statement 35 = .ok (.iconst 0, 1) := by decide +kernel
theorem dX9_statement_36 : decode cX9_statement 36 = .ok (.ireturn, 1) := by decide +kernel
theorem dX9_statement_37 : decode cX9_statement 37 = .ok (.aload_n 0, 1) := by decide +kernel
theorem dX9_statement_38 : decode cX9_statement 38 = .ok (.getfield 41, 3) := by decide +kernel
theorem dX9_statement_41 : decode cX9_statement 41 = .ok (.aload_n 0, 1) := by decide +kernel
theorem dX9_statement_42 : decode cX9_statement 42 = .ok (.getfield 102, 3) := by decide +kernel
theorem dX9_statement_45 : decode cX9_statement 45 = .ok (.iload_n 1, 1) := by decide +kernel
theorem dX9_statement_46 : decode cX9_statement 46 = .ok (.iastore, 1) := by decide +kernel
theorem dX9_statement_47 : decode cX9_statement 47 = .ok (.aload_n 0, 1) := by decide +kernel
theorem dX9_statement_48 : decode cX9_statement 48 = .ok (.getfield 44, 3) := by decide +kernel
theorem dX9_statement_51 : decode cX9_statement 51 = .ok (.aload_n 0, 1) := by decide +kernel
theorem dX9_statement_52 : decode cX9_statement 52 = .ok (.getfield 102, 3) := by decide +kernel
theorem dX9_statement_55 : decode cX9_statement 55 = .ok (.aload_n 0, 1) := by decide +kernel
theorem dX9_statement_56 : decode cX9_statement 56 = .ok (.getfield 91, 3) := by decide +kernel
theorem dX9_statement_59 : decode cX9_statement 59 = .ok (.iastore, 1) := by decide +kernel
theorem dX9_statement_60 : decode cX9_statement 60 = .ok (.aload_n 0, 1) := by decide +kernel
theorem dX9_statement_61 : decode cX9_statement 61 = .ok (.dup, 1) := by decide +kernel
theorem dX9_statement_62 : decode cX9_statement 62 = .ok (.getfield 91, 3) := by decide +kernel
theorem dX9_statement_65 : decode cX9_statement 65 = .ok (.iconst 1, 1) := by decide +kernel
theorem dX9_statement_66 : decode cX9_statement 66 = .ok (.iadd, 1) := by decide +kernel
theorem dX9_statement_67 : decode cX9_statement 67 = .ok (.putfield 91, 3) := by decide +kernel
theorem dX9_statement_70 : decode cX9_statement 70 = .ok (.bipush 6, 2) := by decide +kernel
theorem dX9_statement_72 : decode cX9_statement 72 = .ok (.aload_n 0, 1) := by decide +kernel
theorem dX9_statement_73 : decode cX9_statement 73 = .ok (.getfield 102, 3) := by decide +kernel
theorem dX9_statement_76 : decode cX9_statement 76 = .ok (.imul, 1) := by decide +kernel
theorem dX9_statement_77 : decode cX9_statement 77 = .ok (.istore_n 2, 1) := by decide +kernel
theorem dX9_statement_78 : decode cX9_statement 78 = .ok (.aload_n 0, 1) := by decide +kernel
theorem dX9_statement_79 : decode cX9_statement 79 = .ok (.iload_n 2, 1) := by decide +kernel
theorem dX9_statement_80 : decode cX9_statement 80 = .ok (.iconst 1, 1) := by decide +kernel
theorem dX9_statement_81 : decode cX9_statement 81 = .ok (.invokevirtual 105, 3) := by decide +kernel
theorem dX9_statement_84 : decode cX9_statement 84 = .ok (.ifCond .ne 5, 3) := by decide +kernel
theorem dX9_statement_87 : decode cX9_statement 87 = .ok (.iconst 0, 1) := by decide +kernel
theorem dX9_statement_88 : decode cX9_statement 88 = .ok (.ireturn, 1) := by decide +kernel
theorem dX9_statement_89 : decode cX9_statement 89 = .ok (.iload_n 1, 1) := by decide +kernel
theorem dX9_statement_90 : decode cX9_statement 90 = .ok (.bipush 108, 2) := by decide +kernel
theorem dX9_statement_92 : decode cX9_statement 92 = .ok (.if_icmp .ne 62, 3) := by decide +kernel
theorem dX9_statement_95 : decode cX9_statement 95 = .ok (.iconst 1, 1) := by decide +kernel
theorem dX9_statement_96 : decode cX9_statement 96 = .ok (.istore_n 3, 1) := by decide +kernel
theorem dX9_statement_97 : decode cX9_statement 97 = .ok (.iload_n 3, 1) := by decide +kernel
theorem dX9_statement_98 : decode cX9_statement 98 = .ok (.iconst 4, 1) := by decide +kernel
theorem dX9_statement_99 : decode cX9_statement 99 = .ok (.if_icmp .ge 22, 3) := by decide +kernel
theorem dX9_statement_102 : decode cX9_statement 102 = .ok (.aload_n 0, 1) := by decide +kernel
theorem dX9_statement_103 : decode cX9_statement 103 = .ok (.iload_n 2, 1) := by decide +kernel
theorem dX9_statement_104 : decode cX9_statement 104 = .ok (.iload_n 3, 1) := by decide +kernel
theorem dX9_statement_105 : decode cX9_statement 105 = .ok (.iadd, 1) := by decide +kernel
theorem dX9_statement_106 : decode cX9_statement 106 = .ok (.iconst 1, 1) := by decide +kernel
theorem dX9_statement_107 : decode cX9_statement 107 = .ok (.invokevirtual 105, 3) := by decide +kernel
theorem dX9_statement_110 : decode cX9_statement 110 = .ok (.ifCond .ne 5, 3) := by decide +kernel
theorem dX9_statement_113 : decode cX9_statement 113 = .ok (.iconst 0, 1) := by decide +kernel
theorem dX9_statement_114 : decode cX9_statement 114 = .ok (.ireturn, 1) := by decide +kernel
theorem dX9_statement_115 : decode cX9_statement 115 = .ok (.iinc 3 1, 3) := by decide +kernel
theorem dX9_statement_118 : decode cX9_statement 118 = .ok (.goto (-21), 3) := by decide +kernel
theorem dX9_statement_121 : decode cX9_statement 121 = .ok (.aload_n 0, 1) := by decide +kernel
theorem dX9_statement_122 : decode cX9_statement 122 = .ok (.iload_n 2, 1) := by decide +kernel
theorem dX9_statement_123 : decode cX9_statement 123 = .ok (.iconst 4, 1) := by decide +kernel
theorem dX9_statement_124 : decode cX9_statement 124 = .ok (.iadd, 1) := by decide +kernel
theorem dX9_statement_125 : decode cX9_statement 125 = .ok (.iconst 2, 1) := by decide +kernel
theorem dX9_statement_126 : decode cX9_statement 126 = .ok (.invokevirtual 105, 3) := by decide +kernel
theorem dX9_statement_129 : decode cX9_statement 129 = .ok (.ifCond .eq 23, 3) := by decide +kernel
theorem dX9_statement_132 : decode cX9_statement 132 = .ok (.aload_n 0, 1) := by decide +kernel
theorem dX9_statement_133 : decode cX9_statement 133 = .ok (.bipush 44, 2) := by decide +kernel
theorem dX9_statement_135 : decode cX9_statement 135 = .ok (.invokevirtual 109, 3) := by decide +kernel
theorem dX9_statement_138 : decode cX9_statement 138 = .ok (.ifCond .eq 14, 3) := by decide +kernel
theorem dX9_statement_141 : decode cX9_statement 141 = .ok (.aload_n 0, 1) := by decide +kernel
theorem dX9_statement_142 : decode cX9_statement 142 = .ok (.iload_n 2, 1) := by decide +kernel
theorem dX9_statement_143 : decode cX9_statement 143 = .ok (.iconst 5, 1) := by decide +kernel
theorem dX9_statement_144 : decode cX9_statement 144 = .ok (.iadd, 1) := by decide +kernel
theorem dX9_statement_145 : decode cX9_statement 145 = .ok (.iconst 2, 1) := by decide +kernel
theorem dX9_statement_146 : decode cX9_statement 146 = .ok (.invokevirtual 105, 3) := by decide +kernel
theorem dX9_statement_149 : decode cX9_statement 149 = .ok (.ifCond .ne 5, 3) := by decide +kernel
theorem dX9_statement_152 : decode cX9_statement 152 = .ok (.iconst 0, 1) := by decide +kernel
theorem dX9_statement_153 : decode cX9_statement 153 = .ok (.ireturn, 1) := by decide +kernel
theorem dX9_statement_154 : decode cX9_statement 154 = .ok (.aload_n 0, 1) := by decide +kernel
theorem dX9_statement_155 : decode cX9_statement 155 = .ok (.bipush 59, 2) := by decide +kernel
theorem dX9_statement_157 : decode cX9_statement 157 = .ok (.invokevirtual 109, 3) := by decide +kernel
theorem dX9_statement_160 : decode cX9_statement 160 = .ok (.ireturn, 1) := by decide +kernel
def bX9_statement_97 (F : Nat) (x7 : Int32) : (Int32 × Mem) → Option ((Int32 × Mem) ⊕ ((Int32 × Mem) ⊕ (Bool × Mem)))
  | (y10, m11) => (if 4 ≤ y10 then some (.inr (.inl (y10, m11))) else (gX9_reads F m11 (x7 + y10) 1).bind (fun q12 => (if q12.1 = true then some (.inl (y10 + 1, q12.2)) else some (.inr (.inr (false, q12.2))))))
def bX9_statement_97_30 (F : Nat) (x25 : Int32) : (Int32 × Mem) → Option ((Int32 × Mem) ⊕ ((Int32 × Mem) ⊕ (Bool × Mem)))
  | (y28, m29) => (if 4 ≤ y28 then some (.inr (.inl (y28, m29))) else (gX9_reads F m29 (x25 + y28) 1).bind (fun q30 => (if q30.1 = true then some (.inl (y28 + 1, q30.2)) else some (.inr (.inr (false, q30.2))))))
def bX9_statement_97_48 (F : Nat) (x43 : Int32) : (Int32 × Mem) → Option ((Int32 × Mem) ⊕ ((Int32 × Mem) ⊕ (Bool × Mem)))
  | (y46, m47) => (if 4 ≤ y46 then some (.inr (.inl (y46, m47))) else (gX9_reads F m47 (x43 + y46) 1).bind (fun q48 => (if q48.1 = true then some (.inl (y46 + 1, q48.2)) else some (.inr (.inr (false, q48.2))))))
def bX9_statement_97_66 (F : Nat) (x61 : Int32) : (Int32 × Mem) → Option ((Int32 × Mem) ⊕ ((Int32 × Mem) ⊕ (Bool × Mem)))
  | (y64, m65) => (if 4 ≤ y64 then some (.inr (.inl (y64, m65))) else (gX9_reads F m65 (x61 + y64) 1).bind (fun q66 => (if q66.1 = true then some (.inl (y64 + 1, q66.2)) else some (.inr (.inr (false, q66.2))))))
def bX9_statement_97_84 (F : Nat) (x79 : Int32) : (Int32 × Mem) → Option ((Int32 × Mem) ⊕ ((Int32 × Mem) ⊕ (Bool × Mem)))
  | (y82, m83) => (if 4 ≤ y82 then some (.inr (.inl (y82, m83))) else (gX9_reads F m83 (x79 + y82) 1).bind (fun q84 => (if q84.1 = true then some (.inl (y82 + 1, q84.2)) else some (.inr (.inr (false, q84.2))))))
def gX9_statement (F : Nat) (m : Mem) : Option (Bool × Mem) := (gX9_next m).bind (fun x1 => (if x1 = 104 then chk (inb (m.1 43 16) 36) (lete (mu m 53 (Int32.toNatClampNeg (m.1 43 16)) x1) (fun m3 => chk (inb (m3.1 43 16) 36) (lete (mu m3 54 (Int32.toNatClampNeg (m3.1 43 16)) (m3.1 43 15)) (fun m5 => lete (mu m5 43 15 ((m5.1 43 15) + 1)) (fun m6 => lete (6 * (m6.1 43 16)) (fun x7 => (gX9_reads F m6 x7 1).bind (fun q8 => (if q8.1 = true then (if x1 = 108 then (iter F (bX9_statement_97 F x7) (1, q8.2)).bind (fun e13 => Sum.elim (fun s15 => (gX9_reads F s15.2 (x7 + 4) 2).bind (fun q16 => (if q16.1 = true then (gX9_isNext q16.2 44).bind (fun q17 => (if q17.1 = true then (gX9_reads F q17.2 (x7 + 5) 2).bind (fun q18 => (if q18.1 = true then (gX9_isNext q18.2 59).bind (fun q19 => some (q19.1, q19.2)) else some (false, q18.2))) else some (false, q17.2))) else some (false, q16.2)))) (fun q => some q) e13) else (gX9_isNext q8.2 59).bind (fun q9 => some (q9.1, q9.2))) else some (false, q8.2))))))))) else (if x1 = 108 then chk (inb (m.1 43 16) 36) (lete (mu m 53 (Int32.toNatClampNeg (m.1 43 16)) x1) (fun m21 => chk (inb (m21.1 43 16) 36) (lete (mu m21 54 (Int32.toNatClampNeg (m21.1 43 16)) (m21.1 43 15)) (fun m23 => lete (mu m23 43 15 ((m23.1 43 15) + 1)) (fun m24 => lete (6 * (m24.1 43 16)) (fun x25 => (gX9_reads F m24 x25 1).bind (fun q26 => (if q26.1 = true then (if x1 = 108 then (iter F (bX9_statement_97_30 F x25) (1, q26.2)).bind (fun e31 => Sum.elim (fun s33 => (gX9_reads F s33.2 (x25 + 4) 2).bind (fun q34 => (if q34.1 = true then (gX9_isNext q34.2 44).bind (fun q35 => (if q35.1 = true then (gX9_reads F q35.2 (x25 + 5) 2).bind (fun q36 => (if q36.1 = true then (gX9_isNext q36.2 59).bind (fun q37 => some (q37.1, q37.2)) else some (false, q36.2))) else some (false, q35.2))) else some (false, q34.2)))) (fun q => some q) e31) else (gX9_isNext q26.2 59).bind (fun q27 => some (q27.1, q27.2))) else some (false, q26.2))))))))) else (if x1 = 107 then chk (inb (m.1 43 16) 36) (lete (mu m 53 (Int32.toNatClampNeg (m.1 43 16)) x1) (fun m39 => chk (inb (m39.1 43 16) 36) (lete (mu m39 54 (Int32.toNatClampNeg (m39.1 43 16)) (m39.1 43 15)) (fun m41 => lete (mu m41 43 15 ((m41.1 43 15) + 1)) (fun m42 => lete (6 * (m42.1 43 16)) (fun x43 => (gX9_reads F m42 x43 1).bind (fun q44 => (if q44.1 = true then (if x1 = 108 then (iter F (bX9_statement_97_48 F x43) (1, q44.2)).bind (fun e49 => Sum.elim (fun s51 => (gX9_reads F s51.2 (x43 + 4) 2).bind (fun q52 => (if q52.1 = true then (gX9_isNext q52.2 44).bind (fun q53 => (if q53.1 = true then (gX9_reads F q53.2 (x43 + 5) 2).bind (fun q54 => (if q54.1 = true then (gX9_isNext q54.2 59).bind (fun q55 => some (q55.1, q55.2)) else some (false, q54.2))) else some (false, q53.2))) else some (false, q52.2)))) (fun q => some q) e49) else (gX9_isNext q44.2 59).bind (fun q45 => some (q45.1, q45.2))) else some (false, q44.2))))))))) else (if x1 = 120 then chk (inb (m.1 43 16) 36) (lete (mu m 53 (Int32.toNatClampNeg (m.1 43 16)) x1) (fun m57 => chk (inb (m57.1 43 16) 36) (lete (mu m57 54 (Int32.toNatClampNeg (m57.1 43 16)) (m57.1 43 15)) (fun m59 => lete (mu m59 43 15 ((m59.1 43 15) + 1)) (fun m60 => lete (6 * (m60.1 43 16)) (fun x61 => (gX9_reads F m60 x61 1).bind (fun q62 => (if q62.1 = true then (if x1 = 108 then (iter F (bX9_statement_97_66 F x61) (1, q62.2)).bind (fun e67 => Sum.elim (fun s69 => (gX9_reads F s69.2 (x61 + 4) 2).bind (fun q70 => (if q70.1 = true then (gX9_isNext q70.2 44).bind (fun q71 => (if q71.1 = true then (gX9_reads F q71.2 (x61 + 5) 2).bind (fun q72 => (if q72.1 = true then (gX9_isNext q72.2 59).bind (fun q73 => some (q73.1, q73.2)) else some (false, q72.2))) else some (false, q71.2))) else some (false, q70.2)))) (fun q => some q) e67) else (gX9_isNext q62.2 59).bind (fun q63 => some (q63.1, q63.2))) else some (false, q62.2))))))))) else (if x1 = 102 then chk (inb (m.1 43 16) 36) (lete (mu m 53 (Int32.toNatClampNeg (m.1 43 16)) x1) (fun m75 => chk (inb (m75.1 43 16) 36) (lete (mu m75 54 (Int32.toNatClampNeg (m75.1 43 16)) (m75.1 43 15)) (fun m77 => lete (mu m77 43 15 ((m77.1 43 15) + 1)) (fun m78 => lete (6 * (m78.1 43 16)) (fun x79 => (gX9_reads F m78 x79 1).bind (fun q80 => (if q80.1 = true then (if x1 = 108 then (iter F (bX9_statement_97_84 F x79) (1, q80.2)).bind (fun e85 => Sum.elim (fun s87 => (gX9_reads F s87.2 (x79 + 4) 2).bind (fun q88 => (if q88.1 = true then (gX9_isNext q88.2 44).bind (fun q89 => (if q89.1 = true then (gX9_reads F q89.2 (x79 + 5) 2).bind (fun q90 => (if q90.1 = true then (gX9_isNext q90.2 59).bind (fun q91 => some (q91.1, q91.2)) else some (false, q90.2))) else some (false, q89.2))) else some (false, q88.2)))) (fun q => some q) e85) else (gX9_isNext q80.2 59).bind (fun q81 => some (q81.1, q81.2))) else some (false, q80.2))))))))) else some (false, m)))))))
set_option maxHeartbeats 4000000 in
set_option maxRecDepth 20000 in
theorem LX9_statement {n : Nat} {F : Nat} {m : Mem} {r : Bool × Mem} (hn64 : 64 ≤ n) (hg : gX9_statement F m  = some r) : MX yX9_statement cX9_statement 4 (some .boolean) { frames := 2, cells := 0, slots := 0, locals := 46 } n [.ref 43] m (some (.int (b2i r.1))) r.2 := by
  refine MX_of (by decide) (Nat.le_of_ble_eq_true rfl) (Or.inr (Or.inr (Or.inr ⟨rfl, _, rfl⟩))) (fun K hC hk hL hR => ?_)
  replace hn64 : 64 ≤ kn K := hk.symm ▸ hn64
  show RX K 0 [(0, .ref 43)] [] m
  rw [gX9_statement] at hg
  refine R_aload_n (pc := 0) hC 0 dX9_statement_0 rfl rfl ?_
  obtain ⟨x1, hx1, hg⟩ := bind_some hg
  refine R_callV (pc := 1) (av := []) (rest := []) hC hR 43 (jx hn64 rfl) ly43 rfl mf_X9_next wm_X9_94 (LX9_next hn64 hx1) rfl rfl rfl (Nat.le_of_ble_eq_true rfl) dX9_statement_1 rfl ?_
  show RX K 4 [(0, .ref 43)] [.int x1] m
  refine R_istore_n (pc := 4) hC dX9_statement_4 rfl hL rfl (show _ = [(1, .int x1), (0, .ref 43)] from rfl) ?_
  refine R_iload_n (pc := 5) hC 0 dX9_statement_5 rfl rfl ?_
  refine R_bipush (pc := 6) hC dX9_statement_6 kb_104 ?_
  refine R_icmp_eq (tgt := 37) (pc := 8) hC dX9_statement_8 (by decide) (fun c => ?_) (fun c => ?_)
  · replace hg := (if_pos c).symm.trans hg
    refine R_aload_n (pc := 37) hC 1 dX9_statement_37 rfl rfl ?_
    refine gf_X9_41 (pc := 38) hC hn64 dX9_statement_38 ?_
    refine R_aload_n (pc := 41) hC 1 dX9_statement_41 rfl rfl ?_
    refine gf_X9_102 (pc := 42) hC hn64 dX9_statement_42 ?_
    refine R_iload_n (pc := 45) hC 0 dX9_statement_45 rfl rfl ?_
    obtain ⟨c2, hg⟩ := chk_some hg
    obtain ⟨m3, hm3, hg⟩ := lete_some hg
    refine R_iastore (pc := 46) hC 53 (jx hn64 rfl) ly53 (inb_vp c2) dX9_statement_46 ?_
    refine R_mem hm3 ?_
    refine R_aload_n (pc := 47) hC 1 dX9_statement_47 rfl rfl ?_
    refine gf_X9_44 (pc := 48) hC hn64 dX9_statement_48 ?_
    refine R_aload_n (pc := 51) hC 1 dX9_statement_51 rfl rfl ?_
    refine gf_X9_102 (pc := 52) hC hn64 dX9_statement_52 ?_
    refine R_aload_n (pc := 55) hC 1 dX9_statement_55 rfl rfl ?_
    refine gf_X9_91 (pc := 56) hC hn64 dX9_statement_56 ?_
    obtain ⟨c4, hg⟩ := chk_some hg
    obtain ⟨m5, hm5, hg⟩ := lete_some hg
    refine R_iastore (pc := 59) hC 54 (jx hn64 rfl) ly54 (inb_vp c4) dX9_statement_59 ?_
    refine R_mem hm5 ?_
    refine R_aload_n (pc := 60) hC 1 dX9_statement_60 rfl rfl ?_
    refine R_dup (pc := 61) hC dX9_statement_61 rfl ?_
    refine gf_X9_91 (pc := 62) hC hn64 dX9_statement_62 ?_
    refine R_iconst (pc := 65) hC dX9_statement_65 ki_1 ?_
    refine R_iadd (pc := 66) hC dX9_statement_66 ?_
    obtain ⟨m6, hm6, hg⟩ := lete_some hg
    refine pf_X9_91 (pc := 67) hC hn64 dX9_statement_67 ?_
    refine R_mem hm6 ?_
    refine R_bipush (pc := 70) hC dX9_statement_70 kb_6 ?_
    refine R_aload_n (pc := 72) hC 1 dX9_statement_72 rfl rfl ?_
    refine gf_X9_102 (pc := 73) hC hn64 dX9_statement_73 ?_
    refine R_imul (pc := 76) hC dX9_statement_76 ?_
    obtain ⟨x7, hx7, hg⟩ := lete_some hg
    refine R_top hx7 ?_
    refine R_istore_n (pc := 77) hC dX9_statement_77 rfl hL rfl (show _ = [(2, .int x7), (1, .int x1), (0, .ref 43)] from rfl) ?_
    refine R_aload_n (pc := 78) hC 2 dX9_statement_78 rfl rfl ?_
    refine R_iload_n (pc := 79) hC 0 dX9_statement_79 rfl rfl ?_
    refine R_iconst (pc := 80) hC dX9_statement_80 ki_1 ?_
    obtain ⟨q8, hq8, hg⟩ := bind_some hg
    refine R_callV (pc := 81) (av := [.int x7, .int 1]) (rest := []) hC hR 43 (jx hn64 rfl) ly43 rfl mf_X9_reads wm_X9_105 (LX9_reads hn64 hq8) rfl rfl rfl (Nat.le_of_ble_eq_true rfl) dX9_statement_81 rfl ?_
    show RX K 84 [(2, .int x7), (1, .int x1), (0, .ref 43)] [.int (b2i q8.1)] q8.2
    refine R_ifB_ne (tgt := 89) (pc := 84) hC dX9_statement_84 (by decide) (fun c => ?_) (fun c => ?_)
    · replace hg := (if_pos c).symm.trans hg
      refine R_iload_n (pc := 89) hC 1 dX9_statement_89 rfl rfl ?_
      refine R_bipush (pc := 90) hC dX9_statement_90 kb_108 ?_
      refine R_icmp_ne (tgt := 154) (pc := 92) hC dX9_statement_92 (by decide) (fun c => ?_) (fun c => ?_)
      · replace hg := (if_neg c).symm.trans hg
        refine R_aload_n (pc := 154) hC 2 dX9_statement_154 rfl rfl ?_
        refine R_bipush (pc := 155) hC dX9_statement_155 kb_59 ?_
        obtain ⟨q9, hq9, hg⟩ := bind_some hg
        refine R_callV (pc := 157) (av := [.int 59]) (rest := []) hC hR 43 (jx hn64 rfl) ly43 rfl mf_X9_isNext wm_X9_109 (LX9_isNext hn64 hq9) rfl rfl rfl (Nat.le_of_ble_eq_true rfl) dX9_statement_157 rfl ?_
        show RX K 160 [(2, .int x7), (1, .int x1), (0, .ref 43)] [.int (b2i q9.1)] q9.2
        have h9 := gxZM hg
        exact R_ireturn (pc := 160) hC dX9_statement_160 h9
      · replace hg := (if_pos c).symm.trans hg
        refine R_iconst (pc := 95) hC dX9_statement_95 ki_1 ?_
        refine R_istore_n (pc := 96) hC dX9_statement_96 rfl hL rfl (show _ = [(3, .int 1), (2, .int x7), (1, .int x1), (0, .ref 43)] from rfl) ?_
        refine R_pick [3, 2, 1, 0] (ls' := [(0, .ref 43), (1, .int x1), (2, .int x7), (3, .int 1)]) rfl ?_
        obtain ⟨e13, he13, hg⟩ := bind_some hg
        refine iter_walk (P := fun s : (Int32 × Mem) => RX K 97 [(0, .ref 43), (1, .int x1), (2, .int x7), (3, .int s.1)] [] s.2) (Qe := Sum.elim (fun s : (Int32 × Mem) => RX K 121 [(0, .ref 43), (1, .int x1), (2, .int x7), (3, .int s.1)] [] s.2) (fun q : Bool × Mem => GX (some (.int (b2i r.1))) r.2 (some (.int (b2i q.1))) q.2)) (fun s14 o hg kL97 kE97 => ?_) _ _ _ he13 ?_
        · obtain ⟨y10, m11⟩ := s14
          rw [bX9_statement_97] at hg
          show RX K 97 [(0, .ref 43), (1, .int x1), (2, .int x7), (3, .int y10)] [] m11
          refine R_iload_n (pc := 97) hC 3 dX9_statement_97 rfl rfl ?_
          refine R_iconst (pc := 98) hC dX9_statement_98 ki_4 ?_
          refine R_icmp_ge (tgt := 121) (pc := 99) hC dX9_statement_99 (by decide) (fun c => ?_) (fun c => ?_)
          · replace hg := (if_pos c).symm.trans hg
            refine R_pick [0, 1, 2, 3] (ls' := [(0, .ref 43), (1, .int x1), (2, .int x7), (3, .int y10)]) rfl ?_
            have h9 := kE97 _ (Option.some.inj hg).symm
            exact h9
          · replace hg := (if_neg c).symm.trans hg
            refine R_aload_n (pc := 102) hC 0 dX9_statement_102 rfl rfl ?_
            refine R_iload_n (pc := 103) hC 2 dX9_statement_103 rfl rfl ?_
            refine R_iload_n (pc := 104) hC 3 dX9_statement_104 rfl rfl ?_
            refine R_iadd (pc := 105) hC dX9_statement_105 ?_
            refine R_iconst (pc := 106) hC dX9_statement_106 ki_1 ?_
            obtain ⟨q12, hq12, hg⟩ := bind_some hg
            refine R_callV (pc := 107) (av := [.int (x7 + y10), .int 1]) (rest := []) hC hR 43 (jx hn64 rfl) ly43 rfl mf_X9_reads wm_X9_105 (LX9_reads hn64 hq12) rfl rfl rfl (Nat.le_of_ble_eq_true rfl) dX9_statement_107 rfl ?_
            show RX K 110 [(0, .ref 43), (1, .int x1), (2, .int x7), (3, .int y10)] [.int (b2i q12.1)] q12.2
            refine R_ifB_ne (tgt := 115) (pc := 110) hC dX9_statement_110 (by decide) (fun c => ?_) (fun c => ?_)
            · replace hg := (if_pos c).symm.trans hg
              refine R_iinc (pc := 115) hC 3 dX9_statement_115 rfl (iv ki_1) hL rfl (show _ = [(3, .int (y10 + 1)), (0, .ref 43), (1, .int x1), (2, .int x7)] from rfl) ?_
              refine R_goto (tgt := 97) (pc := 118) hC dX9_statement_118 (by decide) ?_
              refine R_pick [1, 2, 3, 0] (ls' := [(0, .ref 43), (1, .int x1), (2, .int x7), (3, .int (y10 + 1))]) rfl ?_
              have h9 := kL97 _ (Option.some.inj hg).symm
              exact h9
            · replace hg := (if_neg c).symm.trans hg
              refine R_iconst (pc := 113) hC dX9_statement_113 ki_0 ?_
              have h9 := kE97 _ (Option.some.inj hg).symm
              exact R_ireturn (pc := 114) hC dX9_statement_114 h9
        · rcases e13 with s15 | q
          · replace hg := (Sum.elim_inl _ _ _).symm.trans hg
            show RX K 121 [(0, .ref 43), (1, .int x1), (2, .int x7), (3, .int s15.1)] [] s15.2
            refine R_aload_n (pc := 121) hC 0 dX9_statement_121 rfl rfl ?_
            refine R_iload_n (pc := 122) hC 2 dX9_statement_122 rfl rfl ?_
            refine R_iconst (pc := 123) hC dX9_statement_123 ki_4 ?_
            refine R_iadd (pc := 124) hC dX9_statement_124 ?_
            refine R_iconst (pc := 125) hC dX9_statement_125 ki_2 ?_
            obtain ⟨q16, hq16, hg⟩ := bind_some hg
            refine R_callV (pc := 126) (av := [.int (x7 + 4), .int 2]) (rest := []) hC hR 43 (jx hn64 rfl) ly43 rfl mf_X9_reads wm_X9_105 (LX9_reads hn64 hq16) rfl rfl rfl (Nat.le_of_ble_eq_true rfl) dX9_statement_126 rfl ?_
            show RX K 129 [(0, .ref 43), (1, .int x1), (2, .int x7), (3, .int s15.1)] [.int (b2i q16.1)] q16.2
            refine R_ifB_eq (tgt := 152) (pc := 129) hC dX9_statement_129 (by decide) (fun c => ?_) (fun c => ?_)
            · replace hg := (if_neg c).symm.trans hg
              refine R_iconst (pc := 152) hC dX9_statement_152 ki_0 ?_
              have h9 := gxZM hg
              exact R_ireturn (pc := 153) hC dX9_statement_153 h9
            · replace hg := (if_pos c).symm.trans hg
              refine R_aload_n (pc := 132) hC 0 dX9_statement_132 rfl rfl ?_
              refine R_bipush (pc := 133) hC dX9_statement_133 kb_44 ?_
              obtain ⟨q17, hq17, hg⟩ := bind_some hg
              refine R_callV (pc := 135) (av := [.int 44]) (rest := []) hC hR 43 (jx hn64 rfl) ly43 rfl mf_X9_isNext wm_X9_109 (LX9_isNext hn64 hq17) rfl rfl rfl (Nat.le_of_ble_eq_true rfl) dX9_statement_135 rfl ?_
              show RX K 138 [(0, .ref 43), (1, .int x1), (2, .int x7), (3, .int s15.1)] [.int (b2i q17.1)] q17.2
              refine R_ifB_eq (tgt := 152) (pc := 138) hC dX9_statement_138 (by decide) (fun c => ?_) (fun c => ?_)
              · replace hg := (if_neg c).symm.trans hg
                refine R_iconst (pc := 152) hC dX9_statement_152 ki_0 ?_
                have h9 := gxZM hg
                exact R_ireturn (pc := 153) hC dX9_statement_153 h9
              · replace hg := (if_pos c).symm.trans hg
                refine R_aload_n (pc := 141) hC 0 dX9_statement_141 rfl rfl ?_
                refine R_iload_n (pc := 142) hC 2 dX9_statement_142 rfl rfl ?_
                refine R_iconst (pc := 143) hC dX9_statement_143 ki_5 ?_
                refine R_iadd (pc := 144) hC dX9_statement_144 ?_
                refine R_iconst (pc := 145) hC dX9_statement_145 ki_2 ?_
                obtain ⟨q18, hq18, hg⟩ := bind_some hg
                refine R_callV (pc := 146) (av := [.int (x7 + 5), .int 2]) (rest := []) hC hR 43 (jx hn64 rfl) ly43 rfl mf_X9_reads wm_X9_105 (LX9_reads hn64 hq18) rfl rfl rfl (Nat.le_of_ble_eq_true rfl) dX9_statement_146 rfl ?_
                show RX K 149 [(0, .ref 43), (1, .int x1), (2, .int x7), (3, .int s15.1)] [.int (b2i q18.1)] q18.2
                refine R_ifB_ne (tgt := 154) (pc := 149) hC dX9_statement_149 (by decide) (fun c => ?_) (fun c => ?_)
                · replace hg := (if_pos c).symm.trans hg
                  refine R_aload_n (pc := 154) hC 0 dX9_statement_154 rfl rfl ?_
                  refine R_bipush (pc := 155) hC dX9_statement_155 kb_59 ?_
                  obtain ⟨q19, hq19, hg⟩ := bind_some hg
                  refine R_callV (pc := 157) (av := [.int 59]) (rest := []) hC hR 43 (jx hn64 rfl) ly43 rfl mf_X9_isNext wm_X9_109 (LX9_isNext hn64 hq19) rfl rfl rfl (Nat.le_of_ble_eq_true rfl) dX9_statement_157 rfl ?_
                  show RX K 160 [(0, .ref 43), (1, .int x1), (2, .int x7), (3, .int s15.1)] [.int (b2i q19.1)] q19.2
                  have h9 := gxZM hg
                  exact R_ireturn (pc := 160) hC dX9_statement_160 h9
                · replace hg := (if_neg c).symm.trans hg
                  refine R_iconst (pc := 152) hC dX9_statement_152 ki_0 ?_
                  have h9 := gxZM hg
                  exact R_ireturn (pc := 153) hC dX9_statement_153 h9
          · replace hg := (Sum.elim_inr _ _ _).symm.trans hg
            exact gxZM hg
    · replace hg := (if_neg c).symm.trans hg
      refine R_iconst (pc := 87) hC dX9_statement_87 ki_0 ?_
      have h9 := gxZM hg
      exact R_ireturn (pc := 88) hC dX9_statement_88 h9
  · replace hg := (if_neg c).symm.trans hg
    refine R_iload_n (pc := 11) hC 0 dX9_statement_11 rfl rfl ?_
    refine R_bipush (pc := 12) hC dX9_statement_12 kb_108 ?_
    refine R_icmp_eq (tgt := 37) (pc := 14) hC dX9_statement_14 (by decide) (fun c => ?_) (fun c => ?_)
    · replace hg := (if_pos c).symm.trans hg
      refine R_aload_n (pc := 37) hC 1 dX9_statement_37 rfl rfl ?_
      refine gf_X9_41 (pc := 38) hC hn64 dX9_statement_38 ?_
      refine R_aload_n (pc := 41) hC 1 dX9_statement_41 rfl rfl ?_
      refine gf_X9_102 (pc := 42) hC hn64 dX9_statement_42 ?_
      refine R_iload_n (pc := 45) hC 0 dX9_statement_45 rfl rfl ?_
      obtain ⟨c20, hg⟩ := chk_some hg
      obtain ⟨m21, hm21, hg⟩ := lete_some hg
      refine R_iastore (pc := 46) hC 53 (jx hn64 rfl) ly53 (inb_vp c20) dX9_statement_46 ?_
      refine R_mem hm21 ?_
      refine R_aload_n (pc := 47) hC 1 dX9_statement_47 rfl rfl ?_
      refine gf_X9_44 (pc := 48) hC hn64 dX9_statement_48 ?_
      refine R_aload_n (pc := 51) hC 1 dX9_statement_51 rfl rfl ?_
      refine gf_X9_102 (pc := 52) hC hn64 dX9_statement_52 ?_
      refine R_aload_n (pc := 55) hC 1 dX9_statement_55 rfl rfl ?_
      refine gf_X9_91 (pc := 56) hC hn64 dX9_statement_56 ?_
      obtain ⟨c22, hg⟩ := chk_some hg
      obtain ⟨m23, hm23, hg⟩ := lete_some hg
      refine R_iastore (pc := 59) hC 54 (jx hn64 rfl) ly54 (inb_vp c22) dX9_statement_59 ?_
      refine R_mem hm23 ?_
      refine R_aload_n (pc := 60) hC 1 dX9_statement_60 rfl rfl ?_
      refine R_dup (pc := 61) hC dX9_statement_61 rfl ?_
      refine gf_X9_91 (pc := 62) hC hn64 dX9_statement_62 ?_
      refine R_iconst (pc := 65) hC dX9_statement_65 ki_1 ?_
      refine R_iadd (pc := 66) hC dX9_statement_66 ?_
      obtain ⟨m24, hm24, hg⟩ := lete_some hg
      refine pf_X9_91 (pc := 67) hC hn64 dX9_statement_67 ?_
      refine R_mem hm24 ?_
      refine R_bipush (pc := 70) hC dX9_statement_70 kb_6 ?_
      refine R_aload_n (pc := 72) hC 1 dX9_statement_72 rfl rfl ?_
      refine gf_X9_102 (pc := 73) hC hn64 dX9_statement_73 ?_
      refine R_imul (pc := 76) hC dX9_statement_76 ?_
      obtain ⟨x25, hx25, hg⟩ := lete_some hg
      refine R_top hx25 ?_
      refine R_istore_n (pc := 77) hC dX9_statement_77 rfl hL rfl (show _ = [(2, .int x25), (1, .int x1), (0, .ref 43)] from rfl) ?_
      refine R_aload_n (pc := 78) hC 2 dX9_statement_78 rfl rfl ?_
      refine R_iload_n (pc := 79) hC 0 dX9_statement_79 rfl rfl ?_
      refine R_iconst (pc := 80) hC dX9_statement_80 ki_1 ?_
      obtain ⟨q26, hq26, hg⟩ := bind_some hg
      refine R_callV (pc := 81) (av := [.int x25, .int 1]) (rest := []) hC hR 43 (jx hn64 rfl) ly43 rfl mf_X9_reads wm_X9_105 (LX9_reads hn64 hq26) rfl rfl rfl (Nat.le_of_ble_eq_true rfl) dX9_statement_81 rfl ?_
      show RX K 84 [(2, .int x25), (1, .int x1), (0, .ref 43)] [.int (b2i q26.1)] q26.2
      refine R_ifB_ne (tgt := 89) (pc := 84) hC dX9_statement_84 (by decide) (fun c => ?_) (fun c => ?_)
      · replace hg := (if_pos c).symm.trans hg
        refine R_iload_n (pc := 89) hC 1 dX9_statement_89 rfl rfl ?_
        refine R_bipush (pc := 90) hC dX9_statement_90 kb_108 ?_
        refine R_icmp_ne (tgt := 154) (pc := 92) hC dX9_statement_92 (by decide) (fun c => ?_) (fun c => ?_)
        · replace hg := (if_neg c).symm.trans hg
          refine R_aload_n (pc := 154) hC 2 dX9_statement_154 rfl rfl ?_
          refine R_bipush (pc := 155) hC dX9_statement_155 kb_59 ?_
          obtain ⟨q27, hq27, hg⟩ := bind_some hg
          refine R_callV (pc := 157) (av := [.int 59]) (rest := []) hC hR 43 (jx hn64 rfl) ly43 rfl mf_X9_isNext wm_X9_109 (LX9_isNext hn64 hq27) rfl rfl rfl (Nat.le_of_ble_eq_true rfl) dX9_statement_157 rfl ?_
          show RX K 160 [(2, .int x25), (1, .int x1), (0, .ref 43)] [.int (b2i q27.1)] q27.2
          have h9 := gxZM hg
          exact R_ireturn (pc := 160) hC dX9_statement_160 h9
        · replace hg := (if_pos c).symm.trans hg
          refine R_iconst (pc := 95) hC dX9_statement_95 ki_1 ?_
          refine R_istore_n (pc := 96) hC dX9_statement_96 rfl hL rfl (show _ = [(3, .int 1), (2, .int x25), (1, .int x1), (0, .ref 43)] from rfl) ?_
          refine R_pick [3, 2, 1, 0] (ls' := [(0, .ref 43), (1, .int x1), (2, .int x25), (3, .int 1)]) rfl ?_
          obtain ⟨e31, he31, hg⟩ := bind_some hg
          refine iter_walk (P := fun s : (Int32 × Mem) => RX K 97 [(0, .ref 43), (1, .int x1), (2, .int x25), (3, .int s.1)] [] s.2) (Qe := Sum.elim (fun s : (Int32 × Mem) => RX K 121 [(0, .ref 43), (1, .int x1), (2, .int x25), (3, .int s.1)] [] s.2) (fun q : Bool × Mem => GX (some (.int (b2i r.1))) r.2 (some (.int (b2i q.1))) q.2)) (fun s32 o hg kL97 kE97 => ?_) _ _ _ he31 ?_
          · obtain ⟨y28, m29⟩ := s32
            rw [bX9_statement_97_30] at hg
            show RX K 97 [(0, .ref 43), (1, .int x1), (2, .int x25), (3, .int y28)] [] m29
            refine R_iload_n (pc := 97) hC 3 dX9_statement_97 rfl rfl ?_
            refine R_iconst (pc := 98) hC dX9_statement_98 ki_4 ?_
            refine R_icmp_ge (tgt := 121) (pc := 99) hC dX9_statement_99 (by decide) (fun c => ?_) (fun c => ?_)
            · replace hg := (if_pos c).symm.trans hg
              refine R_pick [0, 1, 2, 3] (ls' := [(0, .ref 43), (1, .int x1), (2, .int x25), (3, .int y28)]) rfl ?_
              have h9 := kE97 _ (Option.some.inj hg).symm
              exact h9
            · replace hg := (if_neg c).symm.trans hg
              refine R_aload_n (pc := 102) hC 0 dX9_statement_102 rfl rfl ?_
              refine R_iload_n (pc := 103) hC 2 dX9_statement_103 rfl rfl ?_
              refine R_iload_n (pc := 104) hC 3 dX9_statement_104 rfl rfl ?_
              refine R_iadd (pc := 105) hC dX9_statement_105 ?_
              refine R_iconst (pc := 106) hC dX9_statement_106 ki_1 ?_
              obtain ⟨q30, hq30, hg⟩ := bind_some hg
              refine R_callV (pc := 107) (av := [.int (x25 + y28), .int 1]) (rest := []) hC hR 43 (jx hn64 rfl) ly43 rfl mf_X9_reads wm_X9_105 (LX9_reads hn64 hq30) rfl rfl rfl (Nat.le_of_ble_eq_true rfl) dX9_statement_107 rfl ?_
              show RX K 110 [(0, .ref 43), (1, .int x1), (2, .int x25), (3, .int y28)] [.int (b2i q30.1)] q30.2
              refine R_ifB_ne (tgt := 115) (pc := 110) hC dX9_statement_110 (by decide) (fun c => ?_) (fun c => ?_)
              · replace hg := (if_pos c).symm.trans hg
                refine R_iinc (pc := 115) hC 3 dX9_statement_115 rfl (iv ki_1) hL rfl (show _ = [(3, .int (y28 + 1)), (0, .ref 43), (1, .int x1), (2, .int x25)] from rfl) ?_
                refine R_goto (tgt := 97) (pc := 118) hC dX9_statement_118 (by decide) ?_
                refine R_pick [1, 2, 3, 0] (ls' := [(0, .ref 43), (1, .int x1), (2, .int x25), (3, .int (y28 + 1))]) rfl ?_
                have h9 := kL97 _ (Option.some.inj hg).symm
                exact h9
              · replace hg := (if_neg c).symm.trans hg
                refine R_iconst (pc := 113) hC dX9_statement_113 ki_0 ?_
                have h9 := kE97 _ (Option.some.inj hg).symm
                exact R_ireturn (pc := 114) hC dX9_statement_114 h9
          · rcases e31 with s33 | q
            · replace hg := (Sum.elim_inl _ _ _).symm.trans hg
              show RX K 121 [(0, .ref 43), (1, .int x1), (2, .int x25), (3, .int s33.1)] [] s33.2
              refine R_aload_n (pc := 121) hC 0 dX9_statement_121 rfl rfl ?_
              refine R_iload_n (pc := 122) hC 2 dX9_statement_122 rfl rfl ?_
              refine R_iconst (pc := 123) hC dX9_statement_123 ki_4 ?_
              refine R_iadd (pc := 124) hC dX9_statement_124 ?_
              refine R_iconst (pc := 125) hC dX9_statement_125 ki_2 ?_
              obtain ⟨q34, hq34, hg⟩ := bind_some hg
              refine R_callV (pc := 126) (av := [.int (x25 + 4), .int 2]) (rest := []) hC hR 43 (jx hn64 rfl) ly43 rfl mf_X9_reads wm_X9_105 (LX9_reads hn64 hq34) rfl rfl rfl (Nat.le_of_ble_eq_true rfl) dX9_statement_126 rfl ?_
              show RX K 129 [(0, .ref 43), (1, .int x1), (2, .int x25), (3, .int s33.1)] [.int (b2i q34.1)] q34.2
              refine R_ifB_eq (tgt := 152) (pc := 129) hC dX9_statement_129 (by decide) (fun c => ?_) (fun c => ?_)
              · replace hg := (if_neg c).symm.trans hg
                refine R_iconst (pc := 152) hC dX9_statement_152 ki_0 ?_
                have h9 := gxZM hg
                exact R_ireturn (pc := 153) hC dX9_statement_153 h9
              · replace hg := (if_pos c).symm.trans hg
                refine R_aload_n (pc := 132) hC 0 dX9_statement_132 rfl rfl ?_
                refine R_bipush (pc := 133) hC dX9_statement_133 kb_44 ?_
                obtain ⟨q35, hq35, hg⟩ := bind_some hg
                refine R_callV (pc := 135) (av := [.int 44]) (rest := []) hC hR 43 (jx hn64 rfl) ly43 rfl mf_X9_isNext wm_X9_109 (LX9_isNext hn64 hq35) rfl rfl rfl (Nat.le_of_ble_eq_true rfl) dX9_statement_135 rfl ?_
                show RX K 138 [(0, .ref 43), (1, .int x1), (2, .int x25), (3, .int s33.1)] [.int (b2i q35.1)] q35.2
                refine R_ifB_eq (tgt := 152) (pc := 138) hC dX9_statement_138 (by decide) (fun c => ?_) (fun c => ?_)
                · replace hg := (if_neg c).symm.trans hg
                  refine R_iconst (pc := 152) hC dX9_statement_152 ki_0 ?_
                  have h9 := gxZM hg
                  exact R_ireturn (pc := 153) hC dX9_statement_153 h9
                · replace hg := (if_pos c).symm.trans hg
                  refine R_aload_n (pc := 141) hC 0 dX9_statement_141 rfl rfl ?_
                  refine R_iload_n (pc := 142) hC 2 dX9_statement_142 rfl rfl ?_
                  refine R_iconst (pc := 143) hC dX9_statement_143 ki_5 ?_
                  refine R_iadd (pc := 144) hC dX9_statement_144 ?_
                  refine R_iconst (pc := 145) hC dX9_statement_145 ki_2 ?_
                  obtain ⟨q36, hq36, hg⟩ := bind_some hg
                  refine R_callV (pc := 146) (av := [.int (x25 + 5), .int 2]) (rest := []) hC hR 43 (jx hn64 rfl) ly43 rfl mf_X9_reads wm_X9_105 (LX9_reads hn64 hq36) rfl rfl rfl (Nat.le_of_ble_eq_true rfl) dX9_statement_146 rfl ?_
                  show RX K 149 [(0, .ref 43), (1, .int x1), (2, .int x25), (3, .int s33.1)] [.int (b2i q36.1)] q36.2
                  refine R_ifB_ne (tgt := 154) (pc := 149) hC dX9_statement_149 (by decide) (fun c => ?_) (fun c => ?_)
                  · replace hg := (if_pos c).symm.trans hg
                    refine R_aload_n (pc := 154) hC 0 dX9_statement_154 rfl rfl ?_
                    refine R_bipush (pc := 155) hC dX9_statement_155 kb_59 ?_
                    obtain ⟨q37, hq37, hg⟩ := bind_some hg
                    refine R_callV (pc := 157) (av := [.int 59]) (rest := []) hC hR 43 (jx hn64 rfl) ly43 rfl mf_X9_isNext wm_X9_109 (LX9_isNext hn64 hq37) rfl rfl rfl (Nat.le_of_ble_eq_true rfl) dX9_statement_157 rfl ?_
                    show RX K 160 [(0, .ref 43), (1, .int x1), (2, .int x25), (3, .int s33.1)] [.int (b2i q37.1)] q37.2
                    have h9 := gxZM hg
                    exact R_ireturn (pc := 160) hC dX9_statement_160 h9
                  · replace hg := (if_neg c).symm.trans hg
                    refine R_iconst (pc := 152) hC dX9_statement_152 ki_0 ?_
                    have h9 := gxZM hg
                    exact R_ireturn (pc := 153) hC dX9_statement_153 h9
            · replace hg := (Sum.elim_inr _ _ _).symm.trans hg
              exact gxZM hg
      · replace hg := (if_neg c).symm.trans hg
        refine R_iconst (pc := 87) hC dX9_statement_87 ki_0 ?_
        have h9 := gxZM hg
        exact R_ireturn (pc := 88) hC dX9_statement_88 h9
    · replace hg := (if_neg c).symm.trans hg
      refine R_iload_n (pc := 17) hC 0 dX9_statement_17 rfl rfl ?_
      refine R_bipush (pc := 18) hC dX9_statement_18 kb_107 ?_
      refine R_icmp_eq (tgt := 37) (pc := 20) hC dX9_statement_20 (by decide) (fun c => ?_) (fun c => ?_)
      · replace hg := (if_pos c).symm.trans hg
        refine R_aload_n (pc := 37) hC 1 dX9_statement_37 rfl rfl ?_
        refine gf_X9_41 (pc := 38) hC hn64 dX9_statement_38 ?_
        refine R_aload_n (pc := 41) hC 1 dX9_statement_41 rfl rfl ?_
        refine gf_X9_102 (pc := 42) hC hn64 dX9_statement_42 ?_
        refine R_iload_n (pc := 45) hC 0 dX9_statement_45 rfl rfl ?_
        obtain ⟨c38, hg⟩ := chk_some hg
        obtain ⟨m39, hm39, hg⟩ := lete_some hg
        refine R_iastore (pc := 46) hC 53 (jx hn64 rfl) ly53 (inb_vp c38) dX9_statement_46 ?_
        refine R_mem hm39 ?_
        refine R_aload_n (pc := 47) hC 1 dX9_statement_47 rfl rfl ?_
        refine gf_X9_44 (pc := 48) hC hn64 dX9_statement_48 ?_
        refine R_aload_n (pc := 51) hC 1 dX9_statement_51 rfl rfl ?_
        refine gf_X9_102 (pc := 52) hC hn64 dX9_statement_52 ?_
        refine R_aload_n (pc := 55) hC 1 dX9_statement_55 rfl rfl ?_
        refine gf_X9_91 (pc := 56) hC hn64 dX9_statement_56 ?_
        obtain ⟨c40, hg⟩ := chk_some hg
        obtain ⟨m41, hm41, hg⟩ := lete_some hg
        refine R_iastore (pc := 59) hC 54 (jx hn64 rfl) ly54 (inb_vp c40) dX9_statement_59 ?_
        refine R_mem hm41 ?_
        refine R_aload_n (pc := 60) hC 1 dX9_statement_60 rfl rfl ?_
        refine R_dup (pc := 61) hC dX9_statement_61 rfl ?_
        refine gf_X9_91 (pc := 62) hC hn64 dX9_statement_62 ?_
        refine R_iconst (pc := 65) hC dX9_statement_65 ki_1 ?_
        refine R_iadd (pc := 66) hC dX9_statement_66 ?_
        obtain ⟨m42, hm42, hg⟩ := lete_some hg
        refine pf_X9_91 (pc := 67) hC hn64 dX9_statement_67 ?_
        refine R_mem hm42 ?_
        refine R_bipush (pc := 70) hC dX9_statement_70 kb_6 ?_
        refine R_aload_n (pc := 72) hC 1 dX9_statement_72 rfl rfl ?_
        refine gf_X9_102 (pc := 73) hC hn64 dX9_statement_73 ?_
        refine R_imul (pc := 76) hC dX9_statement_76 ?_
        obtain ⟨x43, hx43, hg⟩ := lete_some hg
        refine R_top hx43 ?_
        refine R_istore_n (pc := 77) hC dX9_statement_77 rfl hL rfl (show _ = [(2, .int x43), (1, .int x1), (0, .ref 43)] from rfl) ?_
        refine R_aload_n (pc := 78) hC 2 dX9_statement_78 rfl rfl ?_
        refine R_iload_n (pc := 79) hC 0 dX9_statement_79 rfl rfl ?_
        refine R_iconst (pc := 80) hC dX9_statement_80 ki_1 ?_
        obtain ⟨q44, hq44, hg⟩ := bind_some hg
        refine R_callV (pc := 81) (av := [.int x43, .int 1]) (rest := []) hC hR 43 (jx hn64 rfl) ly43 rfl mf_X9_reads wm_X9_105 (LX9_reads hn64 hq44) rfl rfl rfl (Nat.le_of_ble_eq_true rfl) dX9_statement_81 rfl ?_
        show RX K 84 [(2, .int x43), (1, .int x1), (0, .ref 43)] [.int (b2i q44.1)] q44.2
        refine R_ifB_ne (tgt := 89) (pc := 84) hC dX9_statement_84 (by decide) (fun c => ?_) (fun c => ?_)
        · replace hg := (if_pos c).symm.trans hg
          refine R_iload_n (pc := 89) hC 1 dX9_statement_89 rfl rfl ?_
          refine R_bipush (pc := 90) hC dX9_statement_90 kb_108 ?_
          refine R_icmp_ne (tgt := 154) (pc := 92) hC dX9_statement_92 (by decide) (fun c => ?_) (fun c => ?_)
          · replace hg := (if_neg c).symm.trans hg
            refine R_aload_n (pc := 154) hC 2 dX9_statement_154 rfl rfl ?_
            refine R_bipush (pc := 155) hC dX9_statement_155 kb_59 ?_
            obtain ⟨q45, hq45, hg⟩ := bind_some hg
            refine R_callV (pc := 157) (av := [.int 59]) (rest := []) hC hR 43 (jx hn64 rfl) ly43 rfl mf_X9_isNext wm_X9_109 (LX9_isNext hn64 hq45) rfl rfl rfl (Nat.le_of_ble_eq_true rfl) dX9_statement_157 rfl ?_
            show RX K 160 [(2, .int x43), (1, .int x1), (0, .ref 43)] [.int (b2i q45.1)] q45.2
            have h9 := gxZM hg
            exact R_ireturn (pc := 160) hC dX9_statement_160 h9
          · replace hg := (if_pos c).symm.trans hg
            refine R_iconst (pc := 95) hC dX9_statement_95 ki_1 ?_
            refine R_istore_n (pc := 96) hC dX9_statement_96 rfl hL rfl (show _ = [(3, .int 1), (2, .int x43), (1, .int x1), (0, .ref 43)] from rfl) ?_
            refine R_pick [3, 2, 1, 0] (ls' := [(0, .ref 43), (1, .int x1), (2, .int x43), (3, .int 1)]) rfl ?_
            obtain ⟨e49, he49, hg⟩ := bind_some hg
            refine iter_walk (P := fun s : (Int32 × Mem) => RX K 97 [(0, .ref 43), (1, .int x1), (2, .int x43), (3, .int s.1)] [] s.2) (Qe := Sum.elim (fun s : (Int32 × Mem) => RX K 121 [(0, .ref 43), (1, .int x1), (2, .int x43), (3, .int s.1)] [] s.2) (fun q : Bool × Mem => GX (some (.int (b2i r.1))) r.2 (some (.int (b2i q.1))) q.2)) (fun s50 o hg kL97 kE97 => ?_) _ _ _ he49 ?_
            · obtain ⟨y46, m47⟩ := s50
              rw [bX9_statement_97_48] at hg
              show RX K 97 [(0, .ref 43), (1, .int x1), (2, .int x43), (3, .int y46)] [] m47
              refine R_iload_n (pc := 97) hC 3 dX9_statement_97 rfl rfl ?_
              refine R_iconst (pc := 98) hC dX9_statement_98 ki_4 ?_
              refine R_icmp_ge (tgt := 121) (pc := 99) hC dX9_statement_99 (by decide) (fun c => ?_) (fun c => ?_)
              · replace hg := (if_pos c).symm.trans hg
                refine R_pick [0, 1, 2, 3] (ls' := [(0, .ref 43), (1, .int x1), (2, .int x43), (3, .int y46)]) rfl ?_
                have h9 := kE97 _ (Option.some.inj hg).symm
                exact h9
              · replace hg := (if_neg c).symm.trans hg
                refine R_aload_n (pc := 102) hC 0 dX9_statement_102 rfl rfl ?_
                refine R_iload_n (pc := 103) hC 2 dX9_statement_103 rfl rfl ?_
                refine R_iload_n (pc := 104) hC 3 dX9_statement_104 rfl rfl ?_
                refine R_iadd (pc := 105) hC dX9_statement_105 ?_
                refine R_iconst (pc := 106) hC dX9_statement_106 ki_1 ?_
                obtain ⟨q48, hq48, hg⟩ := bind_some hg
                refine R_callV (pc := 107) (av := [.int (x43 + y46), .int 1]) (rest := []) hC hR 43 (jx hn64 rfl) ly43 rfl mf_X9_reads wm_X9_105 (LX9_reads hn64 hq48) rfl rfl rfl (Nat.le_of_ble_eq_true rfl) dX9_statement_107 rfl ?_
                show RX K 110 [(0, .ref 43), (1, .int x1), (2, .int x43), (3, .int y46)] [.int (b2i q48.1)] q48.2
                refine R_ifB_ne (tgt := 115) (pc := 110) hC dX9_statement_110 (by decide) (fun c => ?_) (fun c => ?_)
                · replace hg := (if_pos c).symm.trans hg
                  refine R_iinc (pc := 115) hC 3 dX9_statement_115 rfl (iv ki_1) hL rfl (show _ = [(3, .int (y46 + 1)), (0, .ref 43), (1, .int x1), (2, .int x43)] from rfl) ?_
                  refine R_goto (tgt := 97) (pc := 118) hC dX9_statement_118 (by decide) ?_
                  refine R_pick [1, 2, 3, 0] (ls' := [(0, .ref 43), (1, .int x1), (2, .int x43), (3, .int (y46 + 1))]) rfl ?_
                  have h9 := kL97 _ (Option.some.inj hg).symm
                  exact h9
                · replace hg := (if_neg c).symm.trans hg
                  refine R_iconst (pc := 113) hC dX9_statement_113 ki_0 ?_
                  have h9 := kE97 _ (Option.some.inj hg).symm
                  exact R_ireturn (pc := 114) hC dX9_statement_114 h9
            · rcases e49 with s51 | q
              · replace hg := (Sum.elim_inl _ _ _).symm.trans hg
                show RX K 121 [(0, .ref 43), (1, .int x1), (2, .int x43), (3, .int s51.1)] [] s51.2
                refine R_aload_n (pc := 121) hC 0 dX9_statement_121 rfl rfl ?_
                refine R_iload_n (pc := 122) hC 2 dX9_statement_122 rfl rfl ?_
                refine R_iconst (pc := 123) hC dX9_statement_123 ki_4 ?_
                refine R_iadd (pc := 124) hC dX9_statement_124 ?_
                refine R_iconst (pc := 125) hC dX9_statement_125 ki_2 ?_
                obtain ⟨q52, hq52, hg⟩ := bind_some hg
                refine R_callV (pc := 126) (av := [.int (x43 + 4), .int 2]) (rest := []) hC hR 43 (jx hn64 rfl) ly43 rfl mf_X9_reads wm_X9_105 (LX9_reads hn64 hq52) rfl rfl rfl (Nat.le_of_ble_eq_true rfl) dX9_statement_126 rfl ?_
                show RX K 129 [(0, .ref 43), (1, .int x1), (2, .int x43), (3, .int s51.1)] [.int (b2i q52.1)] q52.2
                refine R_ifB_eq (tgt := 152) (pc := 129) hC dX9_statement_129 (by decide) (fun c => ?_) (fun c => ?_)
                · replace hg := (if_neg c).symm.trans hg
                  refine R_iconst (pc := 152) hC dX9_statement_152 ki_0 ?_
                  have h9 := gxZM hg
                  exact R_ireturn (pc := 153) hC dX9_statement_153 h9
                · replace hg := (if_pos c).symm.trans hg
                  refine R_aload_n (pc := 132) hC 0 dX9_statement_132 rfl rfl ?_
                  refine R_bipush (pc := 133) hC dX9_statement_133 kb_44 ?_
                  obtain ⟨q53, hq53, hg⟩ := bind_some hg
                  refine R_callV (pc := 135) (av := [.int 44]) (rest := []) hC hR 43 (jx hn64 rfl) ly43 rfl mf_X9_isNext wm_X9_109 (LX9_isNext hn64 hq53) rfl rfl rfl (Nat.le_of_ble_eq_true rfl) dX9_statement_135 rfl ?_
                  show RX K 138 [(0, .ref 43), (1, .int x1), (2, .int x43), (3, .int s51.1)] [.int (b2i q53.1)] q53.2
                  refine R_ifB_eq (tgt := 152) (pc := 138) hC dX9_statement_138 (by decide) (fun c => ?_) (fun c => ?_)
                  · replace hg := (if_neg c).symm.trans hg
                    refine R_iconst (pc := 152) hC dX9_statement_152 ki_0 ?_
                    have h9 := gxZM hg
                    exact R_ireturn (pc := 153) hC dX9_statement_153 h9
                  · replace hg := (if_pos c).symm.trans hg
                    refine R_aload_n (pc := 141) hC 0 dX9_statement_141 rfl rfl ?_
                    refine R_iload_n (pc := 142) hC 2 dX9_statement_142 rfl rfl ?_
                    refine R_iconst (pc := 143) hC dX9_statement_143 ki_5 ?_
                    refine R_iadd (pc := 144) hC dX9_statement_144 ?_
                    refine R_iconst (pc := 145) hC dX9_statement_145 ki_2 ?_
                    obtain ⟨q54, hq54, hg⟩ := bind_some hg
                    refine R_callV (pc := 146) (av := [.int (x43 + 5), .int 2]) (rest := []) hC hR 43 (jx hn64 rfl) ly43 rfl mf_X9_reads wm_X9_105 (LX9_reads hn64 hq54) rfl rfl rfl (Nat.le_of_ble_eq_true rfl) dX9_statement_146 rfl ?_
                    show RX K 149 [(0, .ref 43), (1, .int x1), (2, .int x43), (3, .int s51.1)] [.int (b2i q54.1)] q54.2
                    refine R_ifB_ne (tgt := 154) (pc := 149) hC dX9_statement_149 (by decide) (fun c => ?_) (fun c => ?_)
                    · replace hg := (if_pos c).symm.trans hg
                      refine R_aload_n (pc := 154) hC 0 dX9_statement_154 rfl rfl ?_
                      refine R_bipush (pc := 155) hC dX9_statement_155 kb_59 ?_
                      obtain ⟨q55, hq55, hg⟩ := bind_some hg
                      refine R_callV (pc := 157) (av := [.int 59]) (rest := []) hC hR 43 (jx hn64 rfl) ly43 rfl mf_X9_isNext wm_X9_109 (LX9_isNext hn64 hq55) rfl rfl rfl (Nat.le_of_ble_eq_true rfl) dX9_statement_157 rfl ?_
                      show RX K 160 [(0, .ref 43), (1, .int x1), (2, .int x43), (3, .int s51.1)] [.int (b2i q55.1)] q55.2
                      have h9 := gxZM hg
                      exact R_ireturn (pc := 160) hC dX9_statement_160 h9
                    · replace hg := (if_neg c).symm.trans hg
                      refine R_iconst (pc := 152) hC dX9_statement_152 ki_0 ?_
                      have h9 := gxZM hg
                      exact R_ireturn (pc := 153) hC dX9_statement_153 h9
              · replace hg := (Sum.elim_inr _ _ _).symm.trans hg
                exact gxZM hg
        · replace hg := (if_neg c).symm.trans hg
          refine R_iconst (pc := 87) hC dX9_statement_87 ki_0 ?_
          have h9 := gxZM hg
          exact R_ireturn (pc := 88) hC dX9_statement_88 h9
      · replace hg := (if_neg c).symm.trans hg
        refine R_iload_n (pc := 23) hC 0 dX9_statement_23 rfl rfl ?_
        refine R_bipush (pc := 24) hC dX9_statement_24 kb_120 ?_
        refine R_icmp_eq (tgt := 37) (pc := 26) hC dX9_statement_26 (by decide) (fun c => ?_) (fun c => ?_)
        · replace hg := (if_pos c).symm.trans hg
          refine R_aload_n (pc := 37) hC 1 dX9_statement_37 rfl rfl ?_
          refine gf_X9_41 (pc := 38) hC hn64 dX9_statement_38 ?_
          refine R_aload_n (pc := 41) hC 1 dX9_statement_41 rfl rfl ?_
          refine gf_X9_102 (pc := 42) hC hn64 dX9_statement_42 ?_
          refine R_iload_n (pc := 45) hC 0 dX9_statement_45 rfl rfl ?_
          obtain ⟨c56, hg⟩ := chk_some hg
          obtain ⟨m57, hm57, hg⟩ := lete_some hg
          refine R_iastore (pc := 46) hC 53 (jx hn64 rfl) ly53 (inb_vp c56) dX9_statement_46 ?_
          refine R_mem hm57 ?_
          refine R_aload_n (pc := 47) hC 1 dX9_statement_47 rfl rfl ?_
          refine gf_X9_44 (pc := 48) hC hn64 dX9_statement_48 ?_
          refine R_aload_n (pc := 51) hC 1 dX9_statement_51 rfl rfl ?_
          refine gf_X9_102 (pc := 52) hC hn64 dX9_statement_52 ?_
          refine R_aload_n (pc := 55) hC 1 dX9_statement_55 rfl rfl ?_
          refine gf_X9_91 (pc := 56) hC hn64 dX9_statement_56 ?_
          obtain ⟨c58, hg⟩ := chk_some hg
          obtain ⟨m59, hm59, hg⟩ := lete_some hg
          refine R_iastore (pc := 59) hC 54 (jx hn64 rfl) ly54 (inb_vp c58) dX9_statement_59 ?_
          refine R_mem hm59 ?_
          refine R_aload_n (pc := 60) hC 1 dX9_statement_60 rfl rfl ?_
          refine R_dup (pc := 61) hC dX9_statement_61 rfl ?_
          refine gf_X9_91 (pc := 62) hC hn64 dX9_statement_62 ?_
          refine R_iconst (pc := 65) hC dX9_statement_65 ki_1 ?_
          refine R_iadd (pc := 66) hC dX9_statement_66 ?_
          obtain ⟨m60, hm60, hg⟩ := lete_some hg
          refine pf_X9_91 (pc := 67) hC hn64 dX9_statement_67 ?_
          refine R_mem hm60 ?_
          refine R_bipush (pc := 70) hC dX9_statement_70 kb_6 ?_
          refine R_aload_n (pc := 72) hC 1 dX9_statement_72 rfl rfl ?_
          refine gf_X9_102 (pc := 73) hC hn64 dX9_statement_73 ?_
          refine R_imul (pc := 76) hC dX9_statement_76 ?_
          obtain ⟨x61, hx61, hg⟩ := lete_some hg
          refine R_top hx61 ?_
          refine R_istore_n (pc := 77) hC dX9_statement_77 rfl hL rfl (show _ = [(2, .int x61), (1, .int x1), (0, .ref 43)] from rfl) ?_
          refine R_aload_n (pc := 78) hC 2 dX9_statement_78 rfl rfl ?_
          refine R_iload_n (pc := 79) hC 0 dX9_statement_79 rfl rfl ?_
          refine R_iconst (pc := 80) hC dX9_statement_80 ki_1 ?_
          obtain ⟨q62, hq62, hg⟩ := bind_some hg
          refine R_callV (pc := 81) (av := [.int x61, .int 1]) (rest := []) hC hR 43 (jx hn64 rfl) ly43 rfl mf_X9_reads wm_X9_105 (LX9_reads hn64 hq62) rfl rfl rfl (Nat.le_of_ble_eq_true rfl) dX9_statement_81 rfl ?_
          show RX K 84 [(2, .int x61), (1, .int x1), (0, .ref 43)] [.int (b2i q62.1)] q62.2
          refine R_ifB_ne (tgt := 89) (pc := 84) hC dX9_statement_84 (by decide) (fun c => ?_) (fun c => ?_)
          · replace hg := (if_pos c).symm.trans hg
            refine R_iload_n (pc := 89) hC 1 dX9_statement_89 rfl rfl ?_
            refine R_bipush (pc := 90) hC dX9_statement_90 kb_108 ?_
            refine R_icmp_ne (tgt := 154) (pc := 92) hC dX9_statement_92 (by decide) (fun c => ?_) (fun c => ?_)
            · replace hg := (if_neg c).symm.trans hg
              refine R_aload_n (pc := 154) hC 2 dX9_statement_154 rfl rfl ?_
              refine R_bipush (pc := 155) hC dX9_statement_155 kb_59 ?_
              obtain ⟨q63, hq63, hg⟩ := bind_some hg
              refine R_callV (pc := 157) (av := [.int 59]) (rest := []) hC hR 43 (jx hn64 rfl) ly43 rfl mf_X9_isNext wm_X9_109 (LX9_isNext hn64 hq63) rfl rfl rfl (Nat.le_of_ble_eq_true rfl) dX9_statement_157 rfl ?_
              show RX K 160 [(2, .int x61), (1, .int x1), (0, .ref 43)] [.int (b2i q63.1)] q63.2
              have h9 := gxZM hg
              exact R_ireturn (pc := 160) hC dX9_statement_160 h9
            · replace hg := (if_pos c).symm.trans hg
              refine R_iconst (pc := 95) hC dX9_statement_95 ki_1 ?_
              refine R_istore_n (pc := 96) hC dX9_statement_96 rfl hL rfl (show _ = [(3, .int 1), (2, .int x61), (1, .int x1), (0, .ref 43)] from rfl) ?_
              refine R_pick [3, 2, 1, 0] (ls' := [(0, .ref 43), (1, .int x1), (2, .int x61), (3, .int 1)]) rfl ?_
              obtain ⟨e67, he67, hg⟩ := bind_some hg
              refine iter_walk (P := fun s : (Int32 × Mem) => RX K 97 [(0, .ref 43), (1, .int x1), (2, .int x61), (3, .int s.1)] [] s.2) (Qe := Sum.elim (fun s : (Int32 × Mem) => RX K 121 [(0, .ref 43), (1, .int x1), (2, .int x61), (3, .int s.1)] [] s.2) (fun q : Bool × Mem => GX (some (.int (b2i r.1))) r.2 (some (.int (b2i q.1))) q.2)) (fun s68 o hg kL97 kE97 => ?_) _ _ _ he67 ?_
              · obtain ⟨y64, m65⟩ := s68
                rw [bX9_statement_97_66] at hg
                show RX K 97 [(0, .ref 43), (1, .int x1), (2, .int x61), (3, .int y64)] [] m65
                refine R_iload_n (pc := 97) hC 3 dX9_statement_97 rfl rfl ?_
                refine R_iconst (pc := 98) hC dX9_statement_98 ki_4 ?_
                refine R_icmp_ge (tgt := 121) (pc := 99) hC dX9_statement_99 (by decide) (fun c => ?_) (fun c => ?_)
                · replace hg := (if_pos c).symm.trans hg
                  refine R_pick [0, 1, 2, 3] (ls' := [(0, .ref 43), (1, .int x1), (2, .int x61), (3, .int y64)]) rfl ?_
                  have h9 := kE97 _ (Option.some.inj hg).symm
                  exact h9
                · replace hg := (if_neg c).symm.trans hg
                  refine R_aload_n (pc := 102) hC 0 dX9_statement_102 rfl rfl ?_
                  refine R_iload_n (pc := 103) hC 2 dX9_statement_103 rfl rfl ?_
                  refine R_iload_n (pc := 104) hC 3 dX9_statement_104 rfl rfl ?_
                  refine R_iadd (pc := 105) hC dX9_statement_105 ?_
                  refine R_iconst (pc := 106) hC dX9_statement_106 ki_1 ?_
                  obtain ⟨q66, hq66, hg⟩ := bind_some hg
                  refine R_callV (pc := 107) (av := [.int (x61 + y64), .int 1]) (rest := []) hC hR 43 (jx hn64 rfl) ly43 rfl mf_X9_reads wm_X9_105 (LX9_reads hn64 hq66) rfl rfl rfl (Nat.le_of_ble_eq_true rfl) dX9_statement_107 rfl ?_
                  show RX K 110 [(0, .ref 43), (1, .int x1), (2, .int x61), (3, .int y64)] [.int (b2i q66.1)] q66.2
                  refine R_ifB_ne (tgt := 115) (pc := 110) hC dX9_statement_110 (by decide) (fun c => ?_) (fun c => ?_)
                  · replace hg := (if_pos c).symm.trans hg
                    refine R_iinc (pc := 115) hC 3 dX9_statement_115 rfl (iv ki_1) hL rfl (show _ = [(3, .int (y64 + 1)), (0, .ref 43), (1, .int x1), (2, .int x61)] from rfl) ?_
                    refine R_goto (tgt := 97) (pc := 118) hC dX9_statement_118 (by decide) ?_
                    refine R_pick [1, 2, 3, 0] (ls' := [(0, .ref 43), (1, .int x1), (2, .int x61), (3, .int (y64 + 1))]) rfl ?_
                    have h9 := kL97 _ (Option.some.inj hg).symm
                    exact h9
                  · replace hg := (if_neg c).symm.trans hg
                    refine R_iconst (pc := 113) hC dX9_statement_113 ki_0 ?_
                    have h9 := kE97 _ (Option.some.inj hg).symm
                    exact R_ireturn (pc := 114) hC dX9_statement_114 h9
              · rcases e67 with s69 | q
                · replace hg := (Sum.elim_inl _ _ _).symm.trans hg
                  show RX K 121 [(0, .ref 43), (1, .int x1), (2, .int x61), (3, .int s69.1)] [] s69.2
                  refine R_aload_n (pc := 121) hC 0 dX9_statement_121 rfl rfl ?_
                  refine R_iload_n (pc := 122) hC 2 dX9_statement_122 rfl rfl ?_
                  refine R_iconst (pc := 123) hC dX9_statement_123 ki_4 ?_
                  refine R_iadd (pc := 124) hC dX9_statement_124 ?_
                  refine R_iconst (pc := 125) hC dX9_statement_125 ki_2 ?_
                  obtain ⟨q70, hq70, hg⟩ := bind_some hg
                  refine R_callV (pc := 126) (av := [.int (x61 + 4), .int 2]) (rest := []) hC hR 43 (jx hn64 rfl) ly43 rfl mf_X9_reads wm_X9_105 (LX9_reads hn64 hq70) rfl rfl rfl (Nat.le_of_ble_eq_true rfl) dX9_statement_126 rfl ?_
                  show RX K 129 [(0, .ref 43), (1, .int x1), (2, .int x61), (3, .int s69.1)] [.int (b2i q70.1)] q70.2
                  refine R_ifB_eq (tgt := 152) (pc := 129) hC dX9_statement_129 (by decide) (fun c => ?_) (fun c => ?_)
                  · replace hg := (if_neg c).symm.trans hg
                    refine R_iconst (pc := 152) hC dX9_statement_152 ki_0 ?_
                    have h9 := gxZM hg
                    exact R_ireturn (pc := 153) hC dX9_statement_153 h9
                  · replace hg := (if_pos c).symm.trans hg
                    refine R_aload_n (pc := 132) hC 0 dX9_statement_132 rfl rfl ?_
                    refine R_bipush (pc := 133) hC dX9_statement_133 kb_44 ?_
                    obtain ⟨q71, hq71, hg⟩ := bind_some hg
                    refine R_callV (pc := 135) (av := [.int 44]) (rest := []) hC hR 43 (jx hn64 rfl) ly43 rfl mf_X9_isNext wm_X9_109 (LX9_isNext hn64 hq71) rfl rfl rfl (Nat.le_of_ble_eq_true rfl) dX9_statement_135 rfl ?_
                    show RX K 138 [(0, .ref 43), (1, .int x1), (2, .int x61), (3, .int s69.1)] [.int (b2i q71.1)] q71.2
                    refine R_ifB_eq (tgt := 152) (pc := 138) hC dX9_statement_138 (by decide) (fun c => ?_) (fun c => ?_)
                    · replace hg := (if_neg c).symm.trans hg
                      refine R_iconst (pc := 152) hC dX9_statement_152 ki_0 ?_
                      have h9 := gxZM hg
                      exact R_ireturn (pc := 153) hC dX9_statement_153 h9
                    · replace hg := (if_pos c).symm.trans hg
                      refine R_aload_n (pc := 141) hC 0 dX9_statement_141 rfl rfl ?_
                      refine R_iload_n (pc := 142) hC 2 dX9_statement_142 rfl rfl ?_
                      refine R_iconst (pc := 143) hC dX9_statement_143 ki_5 ?_
                      refine R_iadd (pc := 144) hC dX9_statement_144 ?_
                      refine R_iconst (pc := 145) hC dX9_statement_145 ki_2 ?_
                      obtain ⟨q72, hq72, hg⟩ := bind_some hg
                      refine R_callV (pc := 146) (av := [.int (x61 + 5), .int 2]) (rest := []) hC hR 43 (jx hn64 rfl) ly43 rfl mf_X9_reads wm_X9_105 (LX9_reads hn64 hq72) rfl rfl rfl (Nat.le_of_ble_eq_true rfl) dX9_statement_146 rfl ?_
                      show RX K 149 [(0, .ref 43), (1, .int x1), (2, .int x61), (3, .int s69.1)] [.int (b2i q72.1)] q72.2
                      refine R_ifB_ne (tgt := 154) (pc := 149) hC dX9_statement_149 (by decide) (fun c => ?_) (fun c => ?_)
                      · replace hg := (if_pos c).symm.trans hg
                        refine R_aload_n (pc := 154) hC 0 dX9_statement_154 rfl rfl ?_
                        refine R_bipush (pc := 155) hC dX9_statement_155 kb_59 ?_
                        obtain ⟨q73, hq73, hg⟩ := bind_some hg
                        refine R_callV (pc := 157) (av := [.int 59]) (rest := []) hC hR 43 (jx hn64 rfl) ly43 rfl mf_X9_isNext wm_X9_109 (LX9_isNext hn64 hq73) rfl rfl rfl (Nat.le_of_ble_eq_true rfl) dX9_statement_157 rfl ?_
                        show RX K 160 [(0, .ref 43), (1, .int x1), (2, .int x61), (3, .int s69.1)] [.int (b2i q73.1)] q73.2
                        have h9 := gxZM hg
                        exact R_ireturn (pc := 160) hC dX9_statement_160 h9
                      · replace hg := (if_neg c).symm.trans hg
                        refine R_iconst (pc := 152) hC dX9_statement_152 ki_0 ?_
                        have h9 := gxZM hg
                        exact R_ireturn (pc := 153) hC dX9_statement_153 h9
                · replace hg := (Sum.elim_inr _ _ _).symm.trans hg
                  exact gxZM hg
          · replace hg := (if_neg c).symm.trans hg
            refine R_iconst (pc := 87) hC dX9_statement_87 ki_0 ?_
            have h9 := gxZM hg
            exact R_ireturn (pc := 88) hC dX9_statement_88 h9
        · replace hg := (if_neg c).symm.trans hg
          refine R_iload_n (pc := 29) hC 0 dX9_statement_29 rfl rfl ?_
          refine R_bipush (pc := 30) hC dX9_statement_30 kb_102 ?_
          refine R_icmp_eq (tgt := 37) (pc := 32) hC dX9_statement_32 (by decide) (fun c => ?_) (fun c => ?_)
          · replace hg := (if_pos c).symm.trans hg
            refine R_aload_n (pc := 37) hC 1 dX9_statement_37 rfl rfl ?_
            refine gf_X9_41 (pc := 38) hC hn64 dX9_statement_38 ?_
            refine R_aload_n (pc := 41) hC 1 dX9_statement_41 rfl rfl ?_
            refine gf_X9_102 (pc := 42) hC hn64 dX9_statement_42 ?_
            refine R_iload_n (pc := 45) hC 0 dX9_statement_45 rfl rfl ?_
            obtain ⟨c74, hg⟩ := chk_some hg
            obtain ⟨m75, hm75, hg⟩ := lete_some hg
            refine R_iastore (pc := 46) hC 53 (jx hn64 rfl) ly53 (inb_vp c74) dX9_statement_46 ?_
            refine R_mem hm75 ?_
            refine R_aload_n (pc := 47) hC 1 dX9_statement_47 rfl rfl ?_
            refine gf_X9_44 (pc := 48) hC hn64 dX9_statement_48 ?_
            refine R_aload_n (pc := 51) hC 1 dX9_statement_51 rfl rfl ?_
            refine gf_X9_102 (pc := 52) hC hn64 dX9_statement_52 ?_
            refine R_aload_n (pc := 55) hC 1 dX9_statement_55 rfl rfl ?_
            refine gf_X9_91 (pc := 56) hC hn64 dX9_statement_56 ?_
            obtain ⟨c76, hg⟩ := chk_some hg
            obtain ⟨m77, hm77, hg⟩ := lete_some hg
            refine R_iastore (pc := 59) hC 54 (jx hn64 rfl) ly54 (inb_vp c76) dX9_statement_59 ?_
            refine R_mem hm77 ?_
            refine R_aload_n (pc := 60) hC 1 dX9_statement_60 rfl rfl ?_
            refine R_dup (pc := 61) hC dX9_statement_61 rfl ?_
            refine gf_X9_91 (pc := 62) hC hn64 dX9_statement_62 ?_
            refine R_iconst (pc := 65) hC dX9_statement_65 ki_1 ?_
            refine R_iadd (pc := 66) hC dX9_statement_66 ?_
            obtain ⟨m78, hm78, hg⟩ := lete_some hg
            refine pf_X9_91 (pc := 67) hC hn64 dX9_statement_67 ?_
            refine R_mem hm78 ?_
            refine R_bipush (pc := 70) hC dX9_statement_70 kb_6 ?_
            refine R_aload_n (pc := 72) hC 1 dX9_statement_72 rfl rfl ?_
            refine gf_X9_102 (pc := 73) hC hn64 dX9_statement_73 ?_
            refine R_imul (pc := 76) hC dX9_statement_76 ?_
            obtain ⟨x79, hx79, hg⟩ := lete_some hg
            refine R_top hx79 ?_
            refine R_istore_n (pc := 77) hC dX9_statement_77 rfl hL rfl (show _ = [(2, .int x79), (1, .int x1), (0, .ref 43)] from rfl) ?_
            refine R_aload_n (pc := 78) hC 2 dX9_statement_78 rfl rfl ?_
            refine R_iload_n (pc := 79) hC 0 dX9_statement_79 rfl rfl ?_
            refine R_iconst (pc := 80) hC dX9_statement_80 ki_1 ?_
            obtain ⟨q80, hq80, hg⟩ := bind_some hg
            refine R_callV (pc := 81) (av := [.int x79, .int 1]) (rest := []) hC hR 43 (jx hn64 rfl) ly43 rfl mf_X9_reads wm_X9_105 (LX9_reads hn64 hq80) rfl rfl rfl (Nat.le_of_ble_eq_true rfl) dX9_statement_81 rfl ?_
            show RX K 84 [(2, .int x79), (1, .int x1), (0, .ref 43)] [.int (b2i q80.1)] q80.2
            refine R_ifB_ne (tgt := 89) (pc := 84) hC dX9_statement_84 (by decide) (fun c => ?_) (fun c => ?_)
            · replace hg := (if_pos c).symm.trans hg
              refine R_iload_n (pc := 89) hC 1 dX9_statement_89 rfl rfl ?_
              refine R_bipush (pc := 90) hC dX9_statement_90 kb_108 ?_
              refine R_icmp_ne (tgt := 154) (pc := 92) hC dX9_statement_92 (by decide) (fun c => ?_) (fun c => ?_)
              · replace hg := (if_neg c).symm.trans hg
                refine R_aload_n (pc := 154) hC 2 dX9_statement_154 rfl rfl ?_
                refine R_bipush (pc := 155) hC dX9_statement_155 kb_59 ?_
                obtain ⟨q81, hq81, hg⟩ := bind_some hg
                refine R_callV (pc := 157) (av := [.int 59]) (rest := []) hC hR 43 (jx hn64 rfl) ly43 rfl mf_X9_isNext wm_X9_109 (LX9_isNext hn64 hq81) rfl rfl rfl (Nat.le_of_ble_eq_true rfl) dX9_statement_157 rfl ?_
                show RX K 160 [(2, .int x79), (1, .int x1), (0, .ref 43)] [.int (b2i q81.1)] q81.2
                have h9 := gxZM hg
                exact R_ireturn (pc := 160) hC dX9_statement_160 h9
              · replace hg := (if_pos c).symm.trans hg
                refine R_iconst (pc := 95) hC dX9_statement_95 ki_1 ?_
                refine R_istore_n (pc := 96) hC dX9_statement_96 rfl hL rfl (show _ = [(3, .int 1), (2, .int x79), (1, .int x1), (0, .ref 43)] from rfl) ?_
                refine R_pick [3, 2, 1, 0] (ls' := [(0, .ref 43), (1, .int x1), (2, .int x79), (3, .int 1)]) rfl ?_
                obtain ⟨e85, he85, hg⟩ := bind_some hg
                refine iter_walk (P := fun s : (Int32 × Mem) => RX K 97 [(0, .ref 43), (1, .int x1), (2, .int x79), (3, .int s.1)] [] s.2) (Qe := Sum.elim (fun s : (Int32 × Mem) => RX K 121 [(0, .ref 43), (1, .int x1), (2, .int x79), (3, .int s.1)] [] s.2) (fun q : Bool × Mem => GX (some (.int (b2i r.1))) r.2 (some (.int (b2i q.1))) q.2)) (fun s86 o hg kL97 kE97 => ?_) _ _ _ he85 ?_
                · obtain ⟨y82, m83⟩ := s86
                  rw [bX9_statement_97_84] at hg
                  show RX K 97 [(0, .ref 43), (1, .int x1), (2, .int x79), (3, .int y82)] [] m83
                  refine R_iload_n (pc := 97) hC 3 dX9_statement_97 rfl rfl ?_
                  refine R_iconst (pc := 98) hC dX9_statement_98 ki_4 ?_
                  refine R_icmp_ge (tgt := 121) (pc := 99) hC dX9_statement_99 (by decide) (fun c => ?_) (fun c => ?_)
                  · replace hg := (if_pos c).symm.trans hg
                    refine R_pick [0, 1, 2, 3] (ls' := [(0, .ref 43), (1, .int x1), (2, .int x79), (3, .int y82)]) rfl ?_
                    have h9 := kE97 _ (Option.some.inj hg).symm
                    exact h9
                  · replace hg := (if_neg c).symm.trans hg
                    refine R_aload_n (pc := 102) hC 0 dX9_statement_102 rfl rfl ?_
                    refine R_iload_n (pc := 103) hC 2 dX9_statement_103 rfl rfl ?_
                    refine R_iload_n (pc := 104) hC 3 dX9_statement_104 rfl rfl ?_
                    refine R_iadd (pc := 105) hC dX9_statement_105 ?_
                    refine R_iconst (pc := 106) hC dX9_statement_106 ki_1 ?_
                    obtain ⟨q84, hq84, hg⟩ := bind_some hg
                    refine R_callV (pc := 107) (av := [.int (x79 + y82), .int 1]) (rest := []) hC hR 43 (jx hn64 rfl) ly43 rfl mf_X9_reads wm_X9_105 (LX9_reads hn64 hq84) rfl rfl rfl (Nat.le_of_ble_eq_true rfl) dX9_statement_107 rfl ?_
                    show RX K 110 [(0, .ref 43), (1, .int x1), (2, .int x79), (3, .int y82)] [.int (b2i q84.1)] q84.2
                    refine R_ifB_ne (tgt := 115) (pc := 110) hC dX9_statement_110 (by decide) (fun c => ?_) (fun c => ?_)
                    · replace hg := (if_pos c).symm.trans hg
                      refine R_iinc (pc := 115) hC 3 dX9_statement_115 rfl (iv ki_1) hL rfl (show _ = [(3, .int (y82 + 1)), (0, .ref 43), (1, .int x1), (2, .int x79)] from rfl) ?_
                      refine R_goto (tgt := 97) (pc := 118) hC dX9_statement_118 (by decide) ?_
                      refine R_pick [1, 2, 3, 0] (ls' := [(0, .ref 43), (1, .int x1), (2, .int x79), (3, .int (y82 + 1))]) rfl ?_
                      have h9 := kL97 _ (Option.some.inj hg).symm
                      exact h9
                    · replace hg := (if_neg c).symm.trans hg
                      refine R_iconst (pc := 113) hC dX9_statement_113 ki_0 ?_
                      have h9 := kE97 _ (Option.some.inj hg).symm
                      exact R_ireturn (pc := 114) hC dX9_statement_114 h9
                · rcases e85 with s87 | q
                  · replace hg := (Sum.elim_inl _ _ _).symm.trans hg
                    show RX K 121 [(0, .ref 43), (1, .int x1), (2, .int x79), (3, .int s87.1)] [] s87.2
                    refine R_aload_n (pc := 121) hC 0 dX9_statement_121 rfl rfl ?_
                    refine R_iload_n (pc := 122) hC 2 dX9_statement_122 rfl rfl ?_
                    refine R_iconst (pc := 123) hC dX9_statement_123 ki_4 ?_
                    refine R_iadd (pc := 124) hC dX9_statement_124 ?_
                    refine R_iconst (pc := 125) hC dX9_statement_125 ki_2 ?_
                    obtain ⟨q88, hq88, hg⟩ := bind_some hg
                    refine R_callV (pc := 126) (av := [.int (x79 + 4), .int 2]) (rest := []) hC hR 43 (jx hn64 rfl) ly43 rfl mf_X9_reads wm_X9_105 (LX9_reads hn64 hq88) rfl rfl rfl (Nat.le_of_ble_eq_true rfl) dX9_statement_126 rfl ?_
                    show RX K 129 [(0, .ref 43), (1, .int x1), (2, .int x79), (3, .int s87.1)] [.int (b2i q88.1)] q88.2
                    refine R_ifB_eq (tgt := 152) (pc := 129) hC dX9_statement_129 (by decide) (fun c => ?_) (fun c => ?_)
                    · replace hg := (if_neg c).symm.trans hg
                      refine R_iconst (pc := 152) hC dX9_statement_152 ki_0 ?_
                      have h9 := gxZM hg
                      exact R_ireturn (pc := 153) hC dX9_statement_153 h9
                    · replace hg := (if_pos c).symm.trans hg
                      refine R_aload_n (pc := 132) hC 0 dX9_statement_132 rfl rfl ?_
                      refine R_bipush (pc := 133) hC dX9_statement_133 kb_44 ?_
                      obtain ⟨q89, hq89, hg⟩ := bind_some hg
                      refine R_callV (pc := 135) (av := [.int 44]) (rest := []) hC hR 43 (jx hn64 rfl) ly43 rfl mf_X9_isNext wm_X9_109 (LX9_isNext hn64 hq89) rfl rfl rfl (Nat.le_of_ble_eq_true rfl) dX9_statement_135 rfl ?_
                      show RX K 138 [(0, .ref 43), (1, .int x1), (2, .int x79), (3, .int s87.1)] [.int (b2i q89.1)] q89.2
                      refine R_ifB_eq (tgt := 152) (pc := 138) hC dX9_statement_138 (by decide) (fun c => ?_) (fun c => ?_)
                      · replace hg := (if_neg c).symm.trans hg
                        refine R_iconst (pc := 152) hC dX9_statement_152 ki_0 ?_
                        have h9 := gxZM hg
                        exact R_ireturn (pc := 153) hC dX9_statement_153 h9
                      · replace hg := (if_pos c).symm.trans hg
                        refine R_aload_n (pc := 141) hC 0 dX9_statement_141 rfl rfl ?_
                        refine R_iload_n (pc := 142) hC 2 dX9_statement_142 rfl rfl ?_
                        refine R_iconst (pc := 143) hC dX9_statement_143 ki_5 ?_
                        refine R_iadd (pc := 144) hC dX9_statement_144 ?_
                        refine R_iconst (pc := 145) hC dX9_statement_145 ki_2 ?_
                        obtain ⟨q90, hq90, hg⟩ := bind_some hg
                        refine R_callV (pc := 146) (av := [.int (x79 + 5), .int 2]) (rest := []) hC hR 43 (jx hn64 rfl) ly43 rfl mf_X9_reads wm_X9_105 (LX9_reads hn64 hq90) rfl rfl rfl (Nat.le_of_ble_eq_true rfl) dX9_statement_146 rfl ?_
                        show RX K 149 [(0, .ref 43), (1, .int x1), (2, .int x79), (3, .int s87.1)] [.int (b2i q90.1)] q90.2
                        refine R_ifB_ne (tgt := 154) (pc := 149) hC dX9_statement_149 (by decide) (fun c => ?_) (fun c => ?_)
                        · replace hg := (if_pos c).symm.trans hg
                          refine R_aload_n (pc := 154) hC 0 dX9_statement_154 rfl rfl ?_
                          refine R_bipush (pc := 155) hC dX9_statement_155 kb_59 ?_
                          obtain ⟨q91, hq91, hg⟩ := bind_some hg
                          refine R_callV (pc := 157) (av := [.int 59]) (rest := []) hC hR 43 (jx hn64 rfl) ly43 rfl mf_X9_isNext wm_X9_109 (LX9_isNext hn64 hq91) rfl rfl rfl (Nat.le_of_ble_eq_true rfl) dX9_statement_157 rfl ?_
                          show RX K 160 [(0, .ref 43), (1, .int x1), (2, .int x79), (3, .int s87.1)] [.int (b2i q91.1)] q91.2
                          have h9 := gxZM hg
                          exact R_ireturn (pc := 160) hC dX9_statement_160 h9
                        · replace hg := (if_neg c).symm.trans hg
                          refine R_iconst (pc := 152) hC dX9_statement_152 ki_0 ?_
                          have h9 := gxZM hg
                          exact R_ireturn (pc := 153) hC dX9_statement_153 h9
                  · replace hg := (Sum.elim_inr _ _ _).symm.trans hg
                    exact gxZM hg
            · replace hg := (if_neg c).symm.trans hg
              refine R_iconst (pc := 87) hC dX9_statement_87 ki_0 ?_
              have h9 := gxZM hg
              exact R_ireturn (pc := 88) hC dX9_statement_88 h9
          · replace hg := (if_neg c).symm.trans hg
            refine R_iconst (pc := 35) hC dX9_statement_35 ki_0 ?_
            have h9 := gxZM hg
            exact R_ireturn (pc := 36) hC dX9_statement_36 h9
theorem dX9_toldHouses_0 : decode cX9_toldHouses 0 = .ok (.iconst 2, 1) := by decide +kernel
theorem dX9_toldHouses_1 : decode cX9_toldHouses 1 = .ok (.istore_n 1, 1) := by decide +kernel
theorem dX9_toldHouses_2 : decode cX9_toldHouses 2 = .ok (.iconst 0, 1) := by decide +kernel
theorem dX9_toldHouses_3 : decode cX9_toldHouses 3 = .ok (.istore_n 2, 1) := by decide +kernel
theorem dX9_toldHouses_4 : decode cX9_toldHouses 4 = .ok (.iload_n 2, 1) := by decide +kernel
theorem dX9_toldHouses_5 : decode cX9_toldHouses 5 = .ok (.aload_n 0, 1) := by decide +kernel
theorem dX9_toldHouses_6 : decode cX9_toldHouses 6 = .ok (.getfield 77, 3) := by decide +kernel
theorem dX9_toldHouses_9 : decode cX9_toldHouses 9 = .ok (.if_icmp .ge 55, 3) := by decide +kernel
theorem dX9_toldHouses_12 : decode cX9_toldHouses 12 = .ok (.aload_n 0, 1) := by decide +kernel
theorem dX9_toldHouses_13 : decode cX9_toldHouses 13 = .ok (.getfield 16, 3) := by decide +kernel
theorem dX9_toldHouses_16 : decode cX9_toldHouses 16 = .ok (.iload_n 2, 1) := by decide +kernel
theorem dX9_toldHouses_17 : decode cX9_toldHouses 17 = .ok (.iaload, 1) := by decide +kernel
theorem dX9_toldHouses_18 : decode cX9_toldHouses 18 = .ok (.iload_n 1, 1) := by decide +kernel
theorem dX9_toldHouses_19 : decode cX9_toldHouses 19 = .ok (.if_icmp .lt 14, 3) := by decide +kernel
theorem dX9_toldHouses_22 : decode cX9_toldHouses 22 = .ok (.aload_n 0, 1) := by decide +kernel
theorem dX9_toldHouses_23 : decode cX9_toldHouses 23 = .ok (.getfield 16, 3) := by decide +kernel
theorem dX9_toldHouses_26 : decode cX9_toldHouses 26 = .ok (.iload_n 2, 1) := by decide +kernel
theorem dX9_toldHouses_27 : decode cX9_toldHouses 27 = .ok (.iaload, 1) := by decide +kernel
theorem dX9_toldHouses_28 : decode cX9_toldHouses 28 = .ok (.iconst 1, 1) := by decide +kernel
theorem dX9_toldHouses_29 : decode cX9_toldHouses 29 = .ok (.iadd, 1) := by decide +kernel
theorem dX9_toldHouses_30 : decode cX9_toldHouses 30 = .ok (.goto 4, 3) := by decide +kernel
theorem dX9_toldHouses_33 : decode cX9_toldHouses 33 = .ok (.iload_n 1, 1) := by decide +kernel
theorem dX9_toldHouses_34 : decode cX9_toldHouses 34 = .ok (.istore_n 1, 1) := by decide +kernel
theorem dX9_toldHouses_35 : decode cX9_toldHouses 35 = .ok (.aload_n 0, 1) := by decide +kernel
theorem dX9_toldHouses_36 : decode cX9_toldHouses 36 = .ok (.getfield 19, 3) := by decide +kernel
theorem dX9_toldHouses_39 : decode cX9_toldHouses 39 = .ok (.iload_n 2, 1) := by decide +kernel
theorem dX9_toldHouses_40 : decode cX9_toldHouses 40 = .ok (.iaload, 1) := by decide +kernel
theorem dX9_toldHouses_41 : decode cX9_toldHouses 41 = .ok (.iload_n 1, 1) := by decide +kernel
theorem dX9_toldHouses_42 : decode cX9_toldHouses 42 = .ok (.if_icmp .lt 14, 3) := by decide +kernel
theorem dX9_toldHouses_45 : decode cX9_toldHouses 45 = .ok (.aload_n 0, 1) := by decide +kernel
theorem dX9_toldHouses_46 : decode cX9_toldHouses 46 = .ok (.getfield 19, 3) := by decide +kernel
theorem dX9_toldHouses_49 : decode cX9_toldHouses 49 = .ok (.iload_n 2, 1) := by decide +kernel
theorem dX9_toldHouses_50 : decode cX9_toldHouses 50 = .ok (.iaload, 1) := by decide +kernel
theorem dX9_toldHouses_51 : decode cX9_toldHouses 51 = .ok (.iconst 1, 1) := by decide +kernel
theorem dX9_toldHouses_52 : decode cX9_toldHouses 52 = .ok (.iadd, 1) := by decide +kernel
theorem dX9_toldHouses_53 : decode cX9_toldHouses 53 = .ok (.goto 4, 3) := by decide +kernel
theorem dX9_toldHouses_56 : decode cX9_toldHouses 56 = .ok (.iload_n 1, 1) := by decide +kernel
theorem dX9_toldHouses_57 : decode cX9_toldHouses 57 = .ok (.istore_n 1, 1) := by decide +kernel
theorem dX9_toldHouses_58 : decode cX9_toldHouses 58 = .ok (.iinc 2 1, 3) := by decide +kernel
theorem dX9_toldHouses_61 : decode cX9_toldHouses 61 = .ok (.goto (-57), 3) := by decide +kernel
theorem dX9_toldHouses_64 : decode cX9_toldHouses 64 = .ok (.iload_n 1, 1) := by decide +kernel
theorem dX9_toldHouses_65 : decode cX9_toldHouses 65 = .ok (.ireturn, 1) := by decide +kernel
def bX9_toldHouses_4 (m : Mem) : (Int32 × Int32) → Option ((Int32 × Int32) ⊕ (Int32 × Int32))
  | (y1, y2) => (if (m.1 43 9) ≤ y2 then some (.inr (y1, y2)) else chk (inb y2 11) ((if (m.1 46 (Int32.toNatClampNeg y2)) < y1 then chk (inb y2 11) ((if (m.1 47 (Int32.toNatClampNeg y2)) < y1 then some (.inl (y1, y2 + 1)) else chk (inb y2 11) (lete ((m.1 47 (Int32.toNatClampNeg y2)) + 1) (fun x6 => some (.inl (x6, y2 + 1)))))) else chk (inb y2 11) (lete ((m.1 46 (Int32.toNatClampNeg y2)) + 1) (fun x8 => chk (inb y2 11) ((if (m.1 47 (Int32.toNatClampNeg y2)) < x8 then some (.inl (x8, y2 + 1)) else chk (inb y2 11) (lete ((m.1 47 (Int32.toNatClampNeg y2)) + 1) (fun x11 => some (.inl (x11, y2 + 1)))))))))))
def gX9_toldHouses (F : Nat) (m : Mem) : Option (Int32) := (iter F (bX9_toldHouses_4 m) (2, 0)).bind (fun e12 => some e12.1)
set_option maxHeartbeats 4000000 in
set_option maxRecDepth 20000 in
theorem LX9_toldHouses {n : Nat} {F : Nat} {m : Mem} {r : Int32} (hn64 : 64 ≤ n) (hg : gX9_toldHouses F m  = some r) : MX yX9_toldHouses cX9_toldHouses 3 (some .int) { frames := 0, cells := 0, slots := 0, locals := 0 } n [.ref 43] m (some (.int r)) m := by
  refine MX_of (by decide) (Nat.le_of_ble_eq_true rfl) (Or.inr (Or.inl ⟨rfl, _, rfl⟩)) (fun K hC hk hL hR => ?_)
  replace hn64 : 64 ≤ kn K := hk.symm ▸ hn64
  show RX K 0 [(0, .ref 43)] [] m
  rw [gX9_toldHouses] at hg
  refine R_iconst (pc := 0) hC dX9_toldHouses_0 ki_2 ?_
  refine R_istore_n (pc := 1) hC dX9_toldHouses_1 rfl hL rfl (show _ = [(1, .int 2), (0, .ref 43)] from rfl) ?_
  refine R_iconst (pc := 2) hC dX9_toldHouses_2 ki_0 ?_
  refine R_istore_n (pc := 3) hC dX9_toldHouses_3 rfl hL rfl (show _ = [(2, .int 0), (1, .int 2), (0, .ref 43)] from rfl) ?_
  refine R_pick [2, 1, 0] (ls' := [(0, .ref 43), (1, .int 2), (2, .int 0)]) rfl ?_
  obtain ⟨e12, he12, hg⟩ := bind_some hg
  refine iter_walk (P := fun s : (Int32 × Int32) => RX K 4 [(0, .ref 43), (1, .int s.1), (2, .int s.2)] [] m) (Qe := fun s : (Int32 × Int32) => RX K 64 [(0, .ref 43), (1, .int s.1), (2, .int s.2)] [] m) (fun s13 o hg kL4 kE4 => ?_) _ _ _ he12 ?_
  · obtain ⟨y1, y2⟩ := s13
    rw [bX9_toldHouses_4] at hg
    show RX K 4 [(0, .ref 43), (1, .int y1), (2, .int y2)] [] m
    refine R_iload_n (pc := 4) hC 2 dX9_toldHouses_4 rfl rfl ?_
    refine R_aload_n (pc := 5) hC 0 dX9_toldHouses_5 rfl rfl ?_
    refine gf_X9_77 (pc := 6) hC hn64 dX9_toldHouses_6 ?_
    refine R_icmp_ge (tgt := 64) (pc := 9) hC dX9_toldHouses_9 (by decide) (fun c => ?_) (fun c => ?_)
    · replace hg := (if_pos c).symm.trans hg
      refine R_pick [0, 1, 2] (ls' := [(0, .ref 43), (1, .int y1), (2, .int y2)]) rfl ?_
      have h9 := kE4 _ (Option.some.inj hg).symm
      exact h9
    · replace hg := (if_neg c).symm.trans hg
      refine R_aload_n (pc := 12) hC 0 dX9_toldHouses_12 rfl rfl ?_
      refine gf_X9_16 (pc := 13) hC hn64 dX9_toldHouses_13 ?_
      refine R_iload_n (pc := 16) hC 2 dX9_toldHouses_16 rfl rfl ?_
      obtain ⟨c3, hg⟩ := chk_some hg
      refine R_iaload (pc := 17) hC 46 (jx hn64 rfl) ly46 (inb_vp c3) dX9_toldHouses_17 ?_
      refine R_iload_n (pc := 18) hC 1 dX9_toldHouses_18 rfl rfl ?_
      refine R_icmp_lt (tgt := 33) (pc := 19) hC dX9_toldHouses_19 (by decide) (fun c => ?_) (fun c => ?_)
      · replace hg := (if_pos c).symm.trans hg
        refine R_iload_n (pc := 33) hC 1 dX9_toldHouses_33 rfl rfl ?_
        refine R_istore_n (pc := 34) hC dX9_toldHouses_34 rfl hL rfl (show _ = [(1, .int y1), (0, .ref 43), (2, .int y2)] from rfl) ?_
        refine R_aload_n (pc := 35) hC 1 dX9_toldHouses_35 rfl rfl ?_
        refine gf_X9_19 (pc := 36) hC hn64 dX9_toldHouses_36 ?_
        refine R_iload_n (pc := 39) hC 2 dX9_toldHouses_39 rfl rfl ?_
        obtain ⟨c4, hg⟩ := chk_some hg
        refine R_iaload (pc := 40) hC 47 (jx hn64 rfl) ly47 (inb_vp c4) dX9_toldHouses_40 ?_
        refine R_iload_n (pc := 41) hC 0 dX9_toldHouses_41 rfl rfl ?_
        refine R_icmp_lt (tgt := 56) (pc := 42) hC dX9_toldHouses_42 (by decide) (fun c => ?_) (fun c => ?_)
        · replace hg := (if_pos c).symm.trans hg
          refine R_iload_n (pc := 56) hC 0 dX9_toldHouses_56 rfl rfl ?_
          refine R_istore_n (pc := 57) hC dX9_toldHouses_57 rfl hL rfl (show _ = [(1, .int y1), (0, .ref 43), (2, .int y2)] from rfl) ?_
          refine R_iinc (pc := 58) hC 2 dX9_toldHouses_58 rfl (iv ki_1) hL rfl (show _ = [(2, .int (y2 + 1)), (1, .int y1), (0, .ref 43)] from rfl) ?_
          refine R_goto (tgt := 4) (pc := 61) hC dX9_toldHouses_61 (by decide) ?_
          refine R_pick [2, 1, 0] (ls' := [(0, .ref 43), (1, .int y1), (2, .int (y2 + 1))]) rfl ?_
          have h9 := kL4 _ (Option.some.inj hg).symm
          exact h9
        · replace hg := (if_neg c).symm.trans hg
          refine R_aload_n (pc := 45) hC 1 dX9_toldHouses_45 rfl rfl ?_
          refine gf_X9_19 (pc := 46) hC hn64 dX9_toldHouses_46 ?_
          refine R_iload_n (pc := 49) hC 2 dX9_toldHouses_49 rfl rfl ?_
          obtain ⟨c5, hg⟩ := chk_some hg
          refine R_iaload (pc := 50) hC 47 (jx hn64 rfl) ly47 (inb_vp c5) dX9_toldHouses_50 ?_
          refine R_iconst (pc := 51) hC dX9_toldHouses_51 ki_1 ?_
          refine R_iadd (pc := 52) hC dX9_toldHouses_52 ?_
          refine R_goto (tgt := 57) (pc := 53) hC dX9_toldHouses_53 (by decide) ?_
          obtain ⟨x6, hx6, hg⟩ := lete_some hg
          refine R_top hx6 ?_
          refine R_istore_n (pc := 57) hC dX9_toldHouses_57 rfl hL rfl (show _ = [(1, .int x6), (0, .ref 43), (2, .int y2)] from rfl) ?_
          refine R_iinc (pc := 58) hC 2 dX9_toldHouses_58 rfl (iv ki_1) hL rfl (show _ = [(2, .int (y2 + 1)), (1, .int x6), (0, .ref 43)] from rfl) ?_
          refine R_goto (tgt := 4) (pc := 61) hC dX9_toldHouses_61 (by decide) ?_
          refine R_pick [2, 1, 0] (ls' := [(0, .ref 43), (1, .int x6), (2, .int (y2 + 1))]) rfl ?_
          have h9 := kL4 _ (Option.some.inj hg).symm
          exact h9
      · replace hg := (if_neg c).symm.trans hg
        refine R_aload_n (pc := 22) hC 0 dX9_toldHouses_22 rfl rfl ?_
        refine gf_X9_16 (pc := 23) hC hn64 dX9_toldHouses_23 ?_
        refine R_iload_n (pc := 26) hC 2 dX9_toldHouses_26 rfl rfl ?_
        obtain ⟨c7, hg⟩ := chk_some hg
        refine R_iaload (pc := 27) hC 46 (jx hn64 rfl) ly46 (inb_vp c7) dX9_toldHouses_27 ?_
        refine R_iconst (pc := 28) hC dX9_toldHouses_28 ki_1 ?_
        refine R_iadd (pc := 29) hC dX9_toldHouses_29 ?_
        refine R_goto (tgt := 34) (pc := 30) hC dX9_toldHouses_30 (by decide) ?_
        obtain ⟨x8, hx8, hg⟩ := lete_some hg
        refine R_top hx8 ?_
        refine R_istore_n (pc := 34) hC dX9_toldHouses_34 rfl hL rfl (show _ = [(1, .int x8), (0, .ref 43), (2, .int y2)] from rfl) ?_
        refine R_aload_n (pc := 35) hC 1 dX9_toldHouses_35 rfl rfl ?_
        refine gf_X9_19 (pc := 36) hC hn64 dX9_toldHouses_36 ?_
        refine R_iload_n (pc := 39) hC 2 dX9_toldHouses_39 rfl rfl ?_
        obtain ⟨c9, hg⟩ := chk_some hg
        refine R_iaload (pc := 40) hC 47 (jx hn64 rfl) ly47 (inb_vp c9) dX9_toldHouses_40 ?_
        refine R_iload_n (pc := 41) hC 0 dX9_toldHouses_41 rfl rfl ?_
        refine R_icmp_lt (tgt := 56) (pc := 42) hC dX9_toldHouses_42 (by decide) (fun c => ?_) (fun c => ?_)
        · replace hg := (if_pos c).symm.trans hg
          refine R_iload_n (pc := 56) hC 0 dX9_toldHouses_56 rfl rfl ?_
          refine R_istore_n (pc := 57) hC dX9_toldHouses_57 rfl hL rfl (show _ = [(1, .int x8), (0, .ref 43), (2, .int y2)] from rfl) ?_
          refine R_iinc (pc := 58) hC 2 dX9_toldHouses_58 rfl (iv ki_1) hL rfl (show _ = [(2, .int (y2 + 1)), (1, .int x8), (0, .ref 43)] from rfl) ?_
          refine R_goto (tgt := 4) (pc := 61) hC dX9_toldHouses_61 (by decide) ?_
          refine R_pick [2, 1, 0] (ls' := [(0, .ref 43), (1, .int x8), (2, .int (y2 + 1))]) rfl ?_
          have h9 := kL4 _ (Option.some.inj hg).symm
          exact h9
        · replace hg := (if_neg c).symm.trans hg
          refine R_aload_n (pc := 45) hC 1 dX9_toldHouses_45 rfl rfl ?_
          refine gf_X9_19 (pc := 46) hC hn64 dX9_toldHouses_46 ?_
          refine R_iload_n (pc := 49) hC 2 dX9_toldHouses_49 rfl rfl ?_
          obtain ⟨c10, hg⟩ := chk_some hg
          refine R_iaload (pc := 50) hC 47 (jx hn64 rfl) ly47 (inb_vp c10) dX9_toldHouses_50 ?_
          refine R_iconst (pc := 51) hC dX9_toldHouses_51 ki_1 ?_
          refine R_iadd (pc := 52) hC dX9_toldHouses_52 ?_
          refine R_goto (tgt := 57) (pc := 53) hC dX9_toldHouses_53 (by decide) ?_
          obtain ⟨x11, hx11, hg⟩ := lete_some hg
          refine R_top hx11 ?_
          refine R_istore_n (pc := 57) hC dX9_toldHouses_57 rfl hL rfl (show _ = [(1, .int x11), (0, .ref 43), (2, .int y2)] from rfl) ?_
          refine R_iinc (pc := 58) hC 2 dX9_toldHouses_58 rfl (iv ki_1) hL rfl (show _ = [(2, .int (y2 + 1)), (1, .int x11), (0, .ref 43)] from rfl) ?_
          refine R_goto (tgt := 4) (pc := 61) hC dX9_toldHouses_61 (by decide) ?_
          refine R_pick [2, 1, 0] (ls' := [(0, .ref 43), (1, .int x11), (2, .int (y2 + 1))]) rfl ?_
          have h9 := kL4 _ (Option.some.inj hg).symm
          exact h9
  · show RX K 64 [(0, .ref 43), (1, .int e12.1), (2, .int e12.2)] [] m
    refine R_iload_n (pc := 64) hC 1 dX9_toldHouses_64 rfl rfl ?_
    have h9 := gxI (m := m) hg
    exact R_ireturn (pc := 65) hC dX9_toldHouses_65 h9
