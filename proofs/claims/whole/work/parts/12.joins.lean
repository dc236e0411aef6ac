theorem dX2_stateOf_0 : decode cX2_stateOf 0 = .ok (.iload_n 1, 1) := by decide +kernel
theorem dX2_stateOf_1 : decode cX2_stateOf 1 = .ok (.ifCond .lt 19, 3) := by decide +kernel
theorem dX2_stateOf_4 : decode cX2_stateOf 4 = .ok (.iload_n 1, 1) := by decide +kernel
theorem dX2_stateOf_5 : decode cX2_stateOf 5 = .ok (.sipush 1024, 3) := by decide +kernel
theorem dX2_stateOf_8 : decode cX2_stateOf 8 = .ok (.if_icmp .ge 12, 3) := by decide +kernel
theorem dX2_stateOf_11 : decode cX2_stateOf 11 = .ok (.aload_n 0, 1) := by decide +kernel
theorem dX2_stateOf_12 : decode cX2_stateOf 12 = .ok (.getfield 15, 3) := by decide +kernel
theorem dX2_stateOf_15 : decode cX2_stateOf 15 = .ok (.iload_n 1, 1) := by decide +kernel
theorem dX2_stateOf_16 : decode cX2_stateOf 16 = .ok (.iaload, 1) := by decide +kernel
theorem dX2_stateOf_17 : decode cX2_stateOf 17 = .ok (.goto 5, 3) := by decide +kernel
theorem dX2_stateOf_20 : decode cX2_stateOf 20 = .ok (.ldc 50, 2) := by decide +kernel
theorem dX2_stateOf_22 : decode cX2_stateOf 22 = .ok (.ireturn, 1) := by decide +kernel
def gX2_stateOf (m : Mem) (a1 : Int32) : Option (Int32) := (if a1 < 0 then some 2097152 else (if 1024 ≤ a1 then some 2097152 else chk (inb a1 1024) (some (m.1 25 (Int32.toNatClampNeg a1)))))
set_option maxHeartbeats 4000000 in
set_option maxRecDepth 20000 in
theorem LX2_stateOf {n : Nat} {m : Mem} {a1 : Int32} {r : Int32} (hn : 43 ≤ n) (hg : gX2_stateOf m a1 = some r) : MX yX2_stateOf cX2_stateOf 2 (some .int) { frames := 0, cells := 0, slots := 0, locals := 0 } n [.ref 24, .int a1] m (some (.int r)) m := by
  refine MX_of (by decide) (Nat.le_of_ble_eq_true rfl) (Or.inr (Or.inl ⟨rfl, _, rfl⟩)) (fun K hC hk hL hR => ?_)
  replace hn : 43 ≤ kn K := hk.symm ▸ hn
  show RX K 0 [(0, .ref 24), (1, .int a1)] [] m
  rw [gX2_stateOf] at hg
  refine R_iload_n (pc := 0) hC 1 dX2_stateOf_0 rfl rfl ?_
  refine R_if_lt (tgt := 20) (pc := 1) hC dX2_stateOf_1 (by decide) (fun c => ?_) (fun c => ?_)
  · replace hg := (if_pos c).symm.trans hg
    refine R_ldc (pc := 20) hC wc_X2_50 dX2_stateOf_20 ?_
    have h9 := gxI (m := m) hg
    exact R_ireturn (pc := 22) hC dX2_stateOf_22 h9
  · replace hg := (if_neg c).symm.trans hg
    refine R_iload_n (pc := 4) hC 1 dX2_stateOf_4 rfl rfl ?_
    refine R_sipush (pc := 5) hC dX2_stateOf_5 ks_1024 ?_
    refine R_icmp_ge (tgt := 20) (pc := 8) hC dX2_stateOf_8 (by decide) (fun c => ?_) (fun c => ?_)
    · replace hg := (if_pos c).symm.trans hg
      refine R_ldc (pc := 20) hC wc_X2_50 dX2_stateOf_20 ?_
      have h9 := gxI (m := m) hg
      exact R_ireturn (pc := 22) hC dX2_stateOf_22 h9
    · replace hg := (if_neg c).symm.trans hg
      refine R_aload_n (pc := 11) hC 0 dX2_stateOf_11 rfl rfl ?_
      refine gf_X2_15 (pc := 12) hC hn dX2_stateOf_12 ?_
      refine R_iload_n (pc := 15) hC 1 dX2_stateOf_15 rfl rfl ?_
      obtain ⟨c1, hg⟩ := chk_some hg
      refine R_iaload (pc := 16) hC 25 (jx hn rfl) ly25 (inb_vp c1) dX2_stateOf_16 ?_
      refine R_goto (tgt := 22) (pc := 17) hC dX2_stateOf_17 (by decide) ?_
      have h9 := gxI (m := m) hg
      exact R_ireturn (pc := 22) hC dX2_stateOf_22 h9
theorem dX2_isForest_0 : decode cX2_isForest 0 = .ok (.iload_n 0, 1) := by decide +kernel
theorem dX2_isForest_1 : decode cX2_isForest 1 = .ok (.bipush 21, 2) := by decide +kernel
theorem dX2_isForest_3 : decode cX2_isForest 3 = .ok (.ishr, 1) := by decide +kernel
theorem dX2_isForest_4 : decode cX2_isForest 4 = .ok (.iload_n 1, 1) := by decide +kernel
theorem dX2_isForest_5 : decode cX2_isForest 5 = .ok (.iconst 1, 1) := by decide +kernel
theorem dX2_isForest_6 : decode cX2_isForest 6 = .ok (.ishl, 1) := by decide +kernel
theorem dX2_isForest_7 : decode cX2_isForest 7 = .ok (.if_icmp .ne 7, 3) := by decide +kernel
theorem dX2_isForest_10 : decode cX2_isForest 10 = .ok (.iconst 1, 1) := by decide +kernel
theorem dX2_isForest_11 : decode cX2_isForest 11 = .ok (.goto 4, 3) := by decide +kernel
theorem dX2_isForest_14 : decode cX2_isForest 14 = .ok (.iconst 0, 1) := by decide +kernel
theorem dX2_isForest_15 : decode cX2_isForest 15 = .ok (.ireturn, 1) := by decide +kernel
def gX2_isForest (a1 : Int32) (a2 : Int32) : Option (Bool) := (if (a1 >>> (21 &&& 31)) = (a2 <<< (1 &&& 31)) then some true else some false)
set_option maxHeartbeats 4000000 in
set_option maxRecDepth 20000 in
theorem LX2_isForest {n : Nat} {m : Mem} {a1 : Int32} {a2 : Int32} {r : Bool} (hn : 43 ≤ n) (hg : gX2_isForest a1 a2 = some r) : MX yX2_isForest cX2_isForest 2 (some .boolean) { frames := 0, cells := 0, slots := 0, locals := 0 } n [.int a1, .int a2] m (some (.int (b2i r))) m := by
  refine MX_of (by decide) (Nat.le_of_ble_eq_true rfl) (Or.inr (Or.inr (Or.inr ⟨rfl, _, rfl⟩))) (fun K hC hk hL hR => ?_)
  replace hn : 43 ≤ kn K := hk.symm ▸ hn
  show RX K 0 [(0, .int a1), (1, .int a2)] [] m
  rw [gX2_isForest] at hg
  refine R_iload_n (pc := 0) hC 0 dX2_isForest_0 rfl rfl ?_
  refine R_bipush (pc := 1) hC dX2_isForest_1 kb_21 ?_
  refine R_ishr (pc := 3) hC dX2_isForest_3 ?_
  refine R_iload_n (pc := 4) hC 1 dX2_isForest_4 rfl rfl ?_
  refine R_iconst (pc := 5) hC dX2_isForest_5 ki_1 ?_
  refine R_ishl (pc := 6) hC dX2_isForest_6 ?_
  refine R_icmp_ne (tgt := 14) (pc := 7) hC dX2_isForest_7 (by decide) (fun c => ?_) (fun c => ?_)
  · replace hg := (if_neg c).symm.trans hg
    refine R_iconst (pc := 14) hC dX2_isForest_14 ki_0 ?_
    have h9 := gxZ (m := m) hg
    exact R_ireturn (pc := 15) hC dX2_isForest_15 h9
  · replace hg := (if_pos c).symm.trans hg
    refine R_iconst (pc := 10) hC dX2_isForest_10 ki_1 ?_
    refine R_goto (tgt := 15) (pc := 11) hC dX2_isForest_11 (by decide) ?_
    have h9 := gxZ (m := m) hg
    exact R_ireturn (pc := 15) hC dX2_isForest_15 h9
theorem dX2_leavesForest_0 : decode cX2_leavesForest 0 = .ok (.aload_n 0, 1) := by decide +kernel
theorem dX2_leavesForest_1 : decode cX2_leavesForest 1 = .ok (.iload_n 1, 1) := by decide +kernel
theorem dX2_leavesForest_2 : decode cX2_leavesForest 2 = .ok (.invokevirtual 60, 3) := by decide +kernel
theorem dX2_leavesForest_5 : decode cX2_leavesForest 5 = .ok (.iload_n 2, 1) := by decide +kernel
theorem dX2_leavesForest_6 : decode cX2_leavesForest 6 = .ok (.invokestatic 63, 3) := by decide +kernel
theorem dX2_leavesForest_9 : decode cX2_leavesForest 9 = .ok (.ireturn, 1) := by decide +kernel
def gX2_leavesForest (m : Mem) (a1 : Int32) (a2 : Int32) : Option (Bool) := (gX2_stateOf m a1).bind (fun x1 => (gX2_isForest x1 a2).bind (fun x2 => some x2))
set_option maxHeartbeats 4000000 in
set_option maxRecDepth 20000 in
theorem LX2_leavesForest {n : Nat} {m : Mem} {a1 : Int32} {a2 : Int32} {r : Bool} (hn : 43 ≤ n) (hg : gX2_leavesForest m a1 a2 = some r) : MX yX2_leavesForest cX2_leavesForest 3 (some .boolean) { frames := 1, cells := 0, slots := 0, locals := 21 } n [.ref 24, .int a1, .int a2] m (some (.int (b2i r))) m := by
  refine MX_of (by decide) (Nat.le_of_ble_eq_true rfl) (Or.inr (Or.inr (Or.inr ⟨rfl, _, rfl⟩))) (fun K hC hk hL hR => ?_)
  replace hn : 43 ≤ kn K := hk.symm ▸ hn
  show RX K 0 [(0, .ref 24), (1, .int a1), (2, .int a2)] [] m
  rw [gX2_leavesForest] at hg
  refine R_aload_n (pc := 0) hC 0 dX2_leavesForest_0 rfl rfl ?_
  refine R_iload_n (pc := 1) hC 1 dX2_leavesForest_1 rfl rfl ?_
  obtain ⟨x1, hx1, hg⟩ := bind_some hg
  refine R_callV (pc := 2) (av := [.int a1]) (rest := []) hC hR 24 (jx hn rfl) ly24 rfl mf_X2_stateOf wm_X2_60 (LX2_stateOf hn hx1) rfl rfl rfl (Nat.le_of_ble_eq_true rfl) dX2_leavesForest_2 rfl ?_
  show RX K 5 [(0, .ref 24), (1, .int a1), (2, .int a2)] [.int x1] m
  refine R_iload_n (pc := 5) hC 2 dX2_leavesForest_5 rfl rfl ?_
  obtain ⟨x2, hx2, hg⟩ := bind_some hg
  refine R_callS (pc := 6) (av := [.int x1, .int a2]) (rest := []) hC hR mf_X2_isForest wm_X2_63 (LX2_isForest hn hx2) rfl rfl rfl (Nat.le_of_ble_eq_true rfl) dX2_leavesForest_6 rfl ?_
  show RX K 9 [(0, .ref 24), (1, .int a1), (2, .int a2)] [.int (b2i x2)] m
  have h9 := gxZ (m := m) hg
  exact R_ireturn (pc := 9) hC dX2_leavesForest_9 h9
theorem dX2_isWay_0 : decode cX2_isWay 0 = .ok (.aload_n 0, 1) := by decide +kernel
theorem dX2_isWay_1 : decode cX2_isWay 1 = .ok (.getfield 11, 3) := by decide +kernel
theorem dX2_isWay_4 : decode cX2_isWay 4 = .ok (.iload_n 1, 1) := by decide +kernel
theorem dX2_isWay_5 : decode cX2_isWay 5 = .ok (.invokevirtual 67, 3) := by decide +kernel
theorem dX2_isWay_8 : decode cX2_isWay 8 = .ok (.ifCond .eq 27, 3) := by decide +kernel
theorem dX2_isWay_11 : decode cX2_isWay 11 = .ok (.aload_n 0, 1) := by decide +kernel
theorem dX2_isWay_12 : decode cX2_isWay 12 = .ok (.getfield 11, 3) := by decide +kernel
theorem dX2_isWay_15 : decode cX2_isWay 15 = .ok (.iload_n 1, 1) := by decide +kernel
theorem dX2_isWay_16 : decode cX2_isWay 16 = .ok (.invokevirtual 71, 3) := by decide +kernel
theorem dX2_isWay_19 : decode cX2_isWay 19 = .ok (.ifCond .eq 16, 3) := by decide +kernel
theorem dX2_isWay_22 : decode cX2_isWay 22 = .ok (.aload_n 0, 1) := by decide +kernel
theorem dX2_isWay_23 : decode cX2_isWay 23 = .ok (.iload_n 1, 1) := by decide +kernel
theorem dX2_isWay_24 : decode cX2_isWay 24 = .ok (.iconst 1, 1) := by decide +kernel
theorem dX2_isWay_25 : decode cX2_isWay 25 = .ok (.invokevirtual 74, 3) := by decide +kernel
theorem dX2_isWay_28 : decode cX2_isWay 28 = .ok (.ifCond .eq 7, 3) := by decide +kernel
theorem dX2_isWay_31 : decode cX2_isWay 31 = .ok (.iconst 1, 1) := by decide +kernel
theorem dX2_isWay_32 : decode cX2_isWay 32 = .ok (.goto 4, 3) := by decide +kernel
theorem dX2_isWay_35 : decode cX2_isWay 35 = .ok (.iconst 0, 1) := by decide +kernel
theorem dX2_isWay_36 : decode cX2_isWay 36 = .ok (.ireturn, 1) := by decide +kernel
def gX2_isWay (m : Mem) (a1 : Int32) : Option (Bool) := (gX6_hasAll m 1 a1).bind (fun x1 => (if x1 = true then (gX6_allows m 1 a1).bind (fun x2 => (if x2 = true then (gX2_leavesForest m a1 1).bind (fun x3 => (if x3 = true then some true else some false)) else some false)) else some false))
set_option maxHeartbeats 4000000 in
set_option maxRecDepth 20000 in
theorem LX2_isWay {n : Nat} {m : Mem} {a1 : Int32} {r : Bool} (hn : 43 ≤ n) (hg : gX2_isWay m a1 = some r) : MX yX2_isWay cX2_isWay 2 (some .boolean) { frames := 2, cells := 0, slots := 0, locals := 43 } n [.ref 24, .int a1] m (some (.int (b2i r))) m := by
  refine MX_of (by decide) (Nat.le_of_ble_eq_true rfl) (Or.inr (Or.inr (Or.inr ⟨rfl, _, rfl⟩))) (fun K hC hk hL hR => ?_)
  replace hn : 43 ≤ kn K := hk.symm ▸ hn
  show RX K 0 [(0, .ref 24), (1, .int a1)] [] m
  rw [gX2_isWay] at hg
  refine R_aload_n (pc := 0) hC 0 dX2_isWay_0 rfl rfl ?_
  refine gf_X2_11 (pc := 1) hC hn dX2_isWay_1 ?_
  refine R_iload_n (pc := 4) hC 1 dX2_isWay_4 rfl rfl ?_
  obtain ⟨x1, hx1, hg⟩ := bind_some hg
  refine R_callVN (pc := 5) (av := [.int a1]) (rest := []) hC hR 1 (jx hn rfl) ly1 rfl mf_X6_hasAll wm_X2_67 (LX6_hasAll hn isv1 hx1) rfl rfl rfl (Nat.le_of_ble_eq_true rfl) dX2_isWay_5 rfl ?_
  show RX K 8 [(0, .ref 24), (1, .int a1)] [.int (b2i x1)] m
  refine R_ifB_eq (tgt := 35) (pc := 8) hC dX2_isWay_8 (by decide) (fun c => ?_) (fun c => ?_)
  · replace hg := (if_neg c).symm.trans hg
    refine R_iconst (pc := 35) hC dX2_isWay_35 ki_0 ?_
    have h9 := gxZ (m := m) hg
    exact R_ireturn (pc := 36) hC dX2_isWay_36 h9
  · replace hg := (if_pos c).symm.trans hg
    refine R_aload_n (pc := 11) hC 0 dX2_isWay_11 rfl rfl ?_
    refine gf_X2_11 (pc := 12) hC hn dX2_isWay_12 ?_
    refine R_iload_n (pc := 15) hC 1 dX2_isWay_15 rfl rfl ?_
    obtain ⟨x2, hx2, hg⟩ := bind_some hg
    refine R_callVN (pc := 16) (av := [.int a1]) (rest := []) hC hR 1 (jx hn rfl) ly1 rfl mf_X6_allows wm_X2_71 (LX6_allows hn isv1 hx2) rfl rfl rfl (Nat.le_of_ble_eq_true rfl) dX2_isWay_16 rfl ?_
    show RX K 19 [(0, .ref 24), (1, .int a1)] [.int (b2i x2)] m
    refine R_ifB_eq (tgt := 35) (pc := 19) hC dX2_isWay_19 (by decide) (fun c => ?_) (fun c => ?_)
    · replace hg := (if_neg c).symm.trans hg
      refine R_iconst (pc := 35) hC dX2_isWay_35 ki_0 ?_
      have h9 := gxZ (m := m) hg
      exact R_ireturn (pc := 36) hC dX2_isWay_36 h9
    · replace hg := (if_pos c).symm.trans hg
      refine R_aload_n (pc := 22) hC 0 dX2_isWay_22 rfl rfl ?_
      refine R_iload_n (pc := 23) hC 1 dX2_isWay_23 rfl rfl ?_
      refine R_iconst (pc := 24) hC dX2_isWay_24 ki_1 ?_
      obtain ⟨x3, hx3, hg⟩ := bind_some hg
      refine R_callV (pc := 25) (av := [.int a1, .int 1]) (rest := []) hC hR 24 (jx hn rfl) ly24 rfl mf_X2_leavesForest wm_X2_74 (LX2_leavesForest hn hx3) rfl rfl rfl (Nat.le_of_ble_eq_true rfl) dX2_isWay_25 rfl ?_
      show RX K 28 [(0, .ref 24), (1, .int a1)] [.int (b2i x3)] m
      refine R_ifB_eq (tgt := 35) (pc := 28) hC dX2_isWay_28 (by decide) (fun c => ?_) (fun c => ?_)
      · replace hg := (if_neg c).symm.trans hg
        refine R_iconst (pc := 35) hC dX2_isWay_35 ki_0 ?_
        have h9 := gxZ (m := m) hg
        exact R_ireturn (pc := 36) hC dX2_isWay_36 h9
      · replace hg := (if_pos c).symm.trans hg
        refine R_iconst (pc := 31) hC dX2_isWay_31 ki_1 ?_
        refine R_goto (tgt := 36) (pc := 32) hC dX2_isWay_32 (by decide) ?_
        have h9 := gxZ (m := m) hg
        exact R_ireturn (pc := 36) hC dX2_isWay_36 h9
theorem dX2_partOf_0 : decode cX2_partOf 0 = .ok (.iload_n 0, 1) := by decide +kernel
theorem dX2_partOf_1 : decode cX2_partOf 1 = .ok (.iconst 3, 1) := by decide +kernel
theorem dX2_partOf_2 : decode cX2_partOf 2 = .ok (.iload_n 1, 1) := by decide +kernel
theorem dX2_partOf_3 : decode cX2_partOf 3 = .ok (.imul, 1) := by decide +kernel
theorem dX2_partOf_4 : decode cX2_partOf 4 = .ok (.ishr, 1) := by decide +kernel
theorem dX2_partOf_5 : decode cX2_partOf 5 = .ok (.bipush 7, 2) := by decide +kernel
theorem dX2_partOf_7 : decode cX2_partOf 7 = .ok (.iand, 1) := by decide +kernel
theorem dX2_partOf_8 : decode cX2_partOf 8 = .ok (.ireturn, 1) := by decide +kernel
def gX2_partOf (a1 : Int32) (a2 : Int32) : Option (Int32) := some ((a1 >>> ((3 * a2) &&& 31)) &&& 7)
set_option maxHeartbeats 4000000 in
set_option maxRecDepth 20000 in
theorem LX2_partOf {n : Nat} {m : Mem} {a1 : Int32} {a2 : Int32} {r : Int32} (hn : 43 ≤ n) (hg : gX2_partOf a1 a2 = some r) : MX yX2_partOf cX2_partOf 2 (some .int) { frames := 0, cells := 0, slots := 0, locals := 0 } n [.int a1, .int a2] m (some (.int r)) m := by
  refine MX_of (by decide) (Nat.le_of_ble_eq_true rfl) (Or.inr (Or.inl ⟨rfl, _, rfl⟩)) (fun K hC hk hL hR => ?_)
  replace hn : 43 ≤ kn K := hk.symm ▸ hn
  show RX K 0 [(0, .int a1), (1, .int a2)] [] m
  rw [gX2_partOf] at hg
  refine R_iload_n (pc := 0) hC 0 dX2_partOf_0 rfl rfl ?_
  refine R_iconst (pc := 1) hC dX2_partOf_1 ki_3 ?_
  refine R_iload_n (pc := 2) hC 1 dX2_partOf_2 rfl rfl ?_
  refine R_imul (pc := 3) hC dX2_partOf_3 ?_
  refine R_ishr (pc := 4) hC dX2_partOf_4 ?_
  refine R_bipush (pc := 5) hC dX2_partOf_5 kb_7 ?_
  refine R_iand (pc := 7) hC dX2_partOf_7 ?_
  have h9 := gxI (m := m) hg
  exact R_ireturn (pc := 8) hC dX2_partOf_8 h9
theorem dX2_areAllApart_0 : decode cX2_areAllApart 0 = .ok (.aload_n 0, 1) := by decide +kernel
theorem dX2_areAllApart_1 : decode cX2_areAllApart 1 = .ok (.iload_n 1, 1) := by decide +kernel
theorem dX2_areAllApart_2 : decode cX2_areAllApart 2 = .ok (.invokevirtual 60, 3) := by decide +kernel
theorem dX2_areAllApart_5 : decode cX2_areAllApart 5 = .ok (.istore_n 3, 1) := by decide +kernel
theorem dX2_areAllApart_6 : decode cX2_areAllApart 6 = .ok (.iconst 0, 1) := by decide +kernel
theorem dX2_areAllApart_7 : decode cX2_areAllApart 7 = .ok (.istore 4, 2) := by decide +kernel
theorem dX2_areAllApart_9 : decode cX2_areAllApart 9 = .ok (.iconst 0, 1) := by decide +kernel
theorem dX2_areAllApart_10 : decode cX2_areAllApart 10 = .ok (.istore 5, 2) := by decide +kernel
theorem dX2_areAllApart_12 : decode cX2_areAllApart 12 = .ok (.iload 5, 2) := by decide +kernel
theorem dX2_areAllApart_14 : decode cX2_areAllApart 14 = .ok (.bipush 7, 2) := by decide +kernel
theorem dX2_areAllApart_16 : decode cX2_areAllApart 16 = .ok (.if_icmp .ge 45, 3) := by decide +kernel
theorem dX2_areAllApart_19 : decode cX2_areAllApart 19 = .ok (.iload_n 2, 1) := by decide +kernel
theorem dX2_areAllApart_20 : decode cX2_areAllApart 20 = .ok (.iload 5, 2) := by decide +kernel
theorem dX2_areAllApart_22 : decode cX2_areAllApart 22 = .ok (.ishr, 1) := by decide +kernel
theorem dX2_areAllApart_23 : decode cX2_areAllApart 23 = .ok (.iconst 1, 1) := by decide +kernel
theorem dX2_areAllApart_24 : decode cX2_areAllApart 24 = .ok (.iand, 1) := by decide +kernel
theorem dX2_areAllApart_25 : decode cX2_areAllApart 25 = .ok (.ifCond .eq 30, 3) := by decide +kernel
theorem dX2_areAllApart_28 : decode cX2_areAllApart 28 = .ok (.iconst 1, 1) := by decide +kernel
theorem dX2_areAllApart_29 : decode cX2_areAllApart 29 = .ok (.iload_n 3, 1) := by decide +kernel
theorem dX2_areAllApart_30 : decode cX2_areAllApart 30 = .ok (.iload 5, 2) := by decide +kernel
theorem dX2_areAllApart_32 : decode cX2_areAllApart 32 = .ok (.invokestatic 46, 3) := by decide +kernel
theorem dX2_areAllApart_35 : decode cX2_areAllApart 35 = .ok (.ishl, 1) := by decide +kernel
theorem dX2_areAllApart_36 : decode cX2_areAllApart 36 = .ok (.istore 6, 2) := by decide +kernel
theorem dX2_areAllApart_38 : decode cX2_areAllApart 38 = .ok (.iload 4, 2) := by decide +kernel
theorem dX2_areAllApart_40 : decode cX2_areAllApart 40 = .ok (.iload 6, 2) := by decide +kernel
theorem dX2_areAllApart_42 : decode cX2_areAllApart 42 = .ok (.iand, 1) := by decide +kernel
theorem dX2_areAllApart_43 : decode cX2_areAllApart 43 = .ok (.ifCond .eq 5, 3) := by decide +kernel
theorem dX2_areAllApart_46 : decode cX2_areAllApart 46 = .ok (.iconst 0, 1) := by decide +kernel
theorem dX2_areAllApart_47 : decode cX2_areAllApart 47 = .ok (.ireturn, 1) := by decide +kernel
theorem dX2_areAllApart_48 : decode cX2_areAllApart 48 = .ok (.iload 4, 2) := by decide +kernel
theorem dX2_areAllApart_50 : decode cX2_areAllApart 50 = .ok (.iload 6, 2) := by decide +kernel
theorem dX2_areAllApart_52 : decode cX2_areAllApart 52 = .ok (.ior, 1) := by decide +kernel
theorem dX2_areAllApart_53 : decode cX2_areAllApart 53 = .ok (.istore 4, 2) := by decide +kernel
theorem dX2_areAllApart_55 : decode cX2_areAllApart 55 = .ok (.iinc 5 1, 3) := by decide +kernel
theorem dX2_areAllApart_58 : decode cX2_areAllApart 58 = .ok (.goto (-46), 3) := by decide +kernel
theorem dX2_areAllApart_61 : decode cX2_areAllApart 61 = .ok (.iconst 1, 1) := by decide +kernel
theorem dX2_areAllApart_62 : decode cX2_areAllApart 62 = .ok (.ireturn, 1) := by decide +kernel
def bX2_areAllApart_12 (a2 : Int32) (x1 : Int32) : (Int32 × Int32) → Option ((Int32 × Int32) ⊕ ((Int32 × Int32) ⊕ (Bool)))
  | (y2, y3) => (if 7 ≤ y3 then some (.inr (.inl (y2, y3))) else (if ((a2 >>> (y3 &&& 31)) &&& 1) = 0 then some (.inl (y2, y3 + 1)) else (gX2_partOf x1 y3).bind (fun x4 => lete ((1 : Int32) <<< (x4 &&& 31)) (fun x5 => (if (y2 &&& x5) = 0 then lete (y2 ||| x5) (fun x6 => some (.inl (x6, y3 + 1))) else some (.inr (.inr false)))))))
def gX2_areAllApart (F : Nat) (m : Mem) (a1 : Int32) (a2 : Int32) : Option (Bool) := (gX2_stateOf m a1).bind (fun x1 => (iter F (bX2_areAllApart_12 a2 x1) (0, 0)).bind (fun e7 => Sum.elim (fun s9 => some true) (fun q => some q) e7))
set_option maxHeartbeats 4000000 in
set_option maxRecDepth 20000 in
theorem LX2_areAllApart {n : Nat} {F : Nat} {m : Mem} {a1 : Int32} {a2 : Int32} {r : Bool} (hn : 43 ≤ n) (hg : gX2_areAllApart F m a1 a2 = some r) : MX yX2_areAllApart cX2_areAllApart 7 (some .boolean) { frames := 1, cells := 0, slots := 0, locals := 21 } n [.ref 24, .int a1, .int a2] m (some (.int (b2i r))) m := by
  refine MX_of (by decide) (Nat.le_of_ble_eq_true rfl) (Or.inr (Or.inr (Or.inr ⟨rfl, _, rfl⟩))) (fun K hC hk hL hR => ?_)
  replace hn : 43 ≤ kn K := hk.symm ▸ hn
  show RX K 0 [(0, .ref 24), (1, .int a1), (2, .int a2)] [] m
  rw [gX2_areAllApart] at hg
  refine R_aload_n (pc := 0) hC 0 dX2_areAllApart_0 rfl rfl ?_
  refine R_iload_n (pc := 1) hC 1 dX2_areAllApart_1 rfl rfl ?_
  obtain ⟨x1, hx1, hg⟩ := bind_some hg
  refine R_callV (pc := 2) (av := [.int a1]) (rest := []) hC hR 24 (jx hn rfl) ly24 rfl mf_X2_stateOf wm_X2_60 (LX2_stateOf hn hx1) rfl rfl rfl (Nat.le_of_ble_eq_true rfl) dX2_areAllApart_2 rfl ?_
  show RX K 5 [(0, .ref 24), (1, .int a1), (2, .int a2)] [.int x1] m
  refine R_istore_n (pc := 5) hC dX2_areAllApart_5 rfl hL rfl (show _ = [(3, .int x1), (0, .ref 24), (1, .int a1), (2, .int a2)] from rfl) ?_
  refine R_iconst (pc := 6) hC dX2_areAllApart_6 ki_0 ?_
  refine R_istore (pc := 7) hC dX2_areAllApart_7 hL rfl (show _ = [(4, .int 0), (3, .int x1), (0, .ref 24), (1, .int a1), (2, .int a2)] from rfl) ?_
  refine R_iconst (pc := 9) hC dX2_areAllApart_9 ki_0 ?_
  refine R_istore (pc := 10) hC dX2_areAllApart_10 hL rfl (show _ = [(5, .int 0), (4, .int 0), (3, .int x1), (0, .ref 24), (1, .int a1), (2, .int a2)] from rfl) ?_
  refine R_pick [3, 4, 5, 2, 1, 0] (ls' := [(0, .ref 24), (1, .int a1), (2, .int a2), (3, .int x1), (4, .int 0), (5, .int 0)]) rfl ?_
  obtain ⟨e7, he7, hg⟩ := bind_some hg
  refine iter_walk (P := fun s : (Int32 × Int32) => RX K 12 [(0, .ref 24), (1, .int a1), (2, .int a2), (3, .int x1), (4, .int s.1), (5, .int s.2)] [] m) (Qe := Sum.elim (fun s : (Int32 × Int32) => RX K 61 [(0, .ref 24), (1, .int a1), (2, .int a2), (3, .int x1), (4, .int s.1), (5, .int s.2)] [] m) (fun q : Bool => GX (some (.int (b2i r))) m (some (.int (b2i q))) m)) (fun s8 o hg kL12 kE12 => ?_) _ _ _ he7 ?_
  · obtain ⟨y2, y3⟩ := s8
    rw [bX2_areAllApart_12] at hg
    show RX K 12 [(0, .ref 24), (1, .int a1), (2, .int a2), (3, .int x1), (4, .int y2), (5, .int y3)] [] m
    refine R_iload (pc := 12) hC 5 dX2_areAllApart_12 rfl ?_
    refine R_bipush (pc := 14) hC dX2_areAllApart_14 kb_7 ?_
    refine R_icmp_ge (tgt := 61) (pc := 16) hC dX2_areAllApart_16 (by decide) (fun c => ?_) (fun c => ?_)
    · replace hg := (if_pos c).symm.trans hg
      refine R_pick [0, 1, 2, 3, 4, 5] (ls' := [(0, .ref 24), (1, .int a1), (2, .int a2), (3, .int x1), (4, .int y2), (5, .int y3)]) rfl ?_
      have h9 := kE12 _ (Option.some.inj hg).symm
      exact h9
    · replace hg := (if_neg c).symm.trans hg
      refine R_iload_n (pc := 19) hC 2 dX2_areAllApart_19 rfl rfl ?_
      refine R_iload (pc := 20) hC 5 dX2_areAllApart_20 rfl ?_
      refine R_ishr (pc := 22) hC dX2_areAllApart_22 ?_
      refine R_iconst (pc := 23) hC dX2_areAllApart_23 ki_1 ?_
      refine R_iand (pc := 24) hC dX2_areAllApart_24 ?_
      refine R_if_eq (tgt := 55) (pc := 25) hC dX2_areAllApart_25 (by decide) (fun c => ?_) (fun c => ?_)
      · replace hg := (if_pos c).symm.trans hg
        refine R_iinc (pc := 55) hC 5 dX2_areAllApart_55 rfl (iv ki_1) hL rfl (show _ = [(5, .int (y3 + 1)), (0, .ref 24), (1, .int a1), (2, .int a2), (3, .int x1), (4, .int y2)] from rfl) ?_
        refine R_goto (tgt := 12) (pc := 58) hC dX2_areAllApart_58 (by decide) ?_
        refine R_pick [1, 2, 3, 4, 5, 0] (ls' := [(0, .ref 24), (1, .int a1), (2, .int a2), (3, .int x1), (4, .int y2), (5, .int (y3 + 1))]) rfl ?_
        have h9 := kL12 _ (Option.some.inj hg).symm
        exact h9
      · replace hg := (if_neg c).symm.trans hg
        refine R_iconst (pc := 28) hC dX2_areAllApart_28 ki_1 ?_
        refine R_iload_n (pc := 29) hC 3 dX2_areAllApart_29 rfl rfl ?_
        refine R_iload (pc := 30) hC 5 dX2_areAllApart_30 rfl ?_
        obtain ⟨x4, hx4, hg⟩ := bind_some hg
        refine R_callS (pc := 32) (av := [.int x1, .int y3]) (rest := [.int 1]) hC hR mf_X2_partOf wm_X2_46 (LX2_partOf hn hx4) rfl rfl rfl (Nat.le_of_ble_eq_true rfl) dX2_areAllApart_32 rfl ?_
        show RX K 35 [(0, .ref 24), (1, .int a1), (2, .int a2), (3, .int x1), (4, .int y2), (5, .int y3)] [.int x4, .int 1] m
        refine R_ishl (pc := 35) hC dX2_areAllApart_35 ?_
        obtain ⟨x5, hx5, hg⟩ := lete_some hg
        refine R_top hx5 ?_
        refine R_istore (pc := 36) hC dX2_areAllApart_36 hL rfl (show _ = [(6, .int x5), (0, .ref 24), (1, .int a1), (2, .int a2), (3, .int x1), (4, .int y2), (5, .int y3)] from rfl) ?_
        refine R_iload (pc := 38) hC 5 dX2_areAllApart_38 rfl ?_
        refine R_iload (pc := 40) hC 0 dX2_areAllApart_40 rfl ?_
        refine R_iand (pc := 42) hC dX2_areAllApart_42 ?_
        refine R_if_eq (tgt := 48) (pc := 43) hC dX2_areAllApart_43 (by decide) (fun c => ?_) (fun c => ?_)
        · replace hg := (if_pos c).symm.trans hg
          refine R_iload (pc := 48) hC 5 dX2_areAllApart_48 rfl ?_
          refine R_iload (pc := 50) hC 0 dX2_areAllApart_50 rfl ?_
          refine R_ior (pc := 52) hC dX2_areAllApart_52 ?_
          obtain ⟨x6, hx6, hg⟩ := lete_some hg
          refine R_top hx6 ?_
          refine R_istore (pc := 53) hC dX2_areAllApart_53 hL rfl (show _ = [(4, .int x6), (6, .int x5), (0, .ref 24), (1, .int a1), (2, .int a2), (3, .int x1), (5, .int y3)] from rfl) ?_
          refine R_iinc (pc := 55) hC 6 dX2_areAllApart_55 rfl (iv ki_1) hL rfl (show _ = [(5, .int (y3 + 1)), (4, .int x6), (6, .int x5), (0, .ref 24), (1, .int a1), (2, .int a2), (3, .int x1)] from rfl) ?_
          refine R_goto (tgt := 12) (pc := 58) hC dX2_areAllApart_58 (by decide) ?_
          refine R_pick [3, 4, 5, 6, 1, 0] (ls' := [(0, .ref 24), (1, .int a1), (2, .int a2), (3, .int x1), (4, .int x6), (5, .int (y3 + 1))]) rfl ?_
          have h9 := kL12 _ (Option.some.inj hg).symm
          exact h9
        · replace hg := (if_neg c).symm.trans hg
          refine R_iconst (pc := 46) hC dX2_areAllApart_46 ki_0 ?_
          have h9 := kE12 _ (Option.some.inj hg).symm
          exact R_ireturn (pc := 47) hC dX2_areAllApart_47 h9
  · rcases e7 with s9 | q
    · replace hg := (Sum.elim_inl _ _ _).symm.trans hg
      show RX K 61 [(0, .ref 24), (1, .int a1), (2, .int a2), (3, .int x1), (4, .int s9.1), (5, .int s9.2)] [] m
      refine R_iconst (pc := 61) hC dX2_areAllApart_61 ki_1 ?_
      have h9 := gxZ (m := m) hg
      exact R_ireturn (pc := 62) hC dX2_areAllApart_62 h9
    · replace hg := (Sum.elim_inr _ _ _).symm.trans hg
      exact gxZ hg
theorem dX2_areTogether_0 : decode cX2_areTogether 0 = .ok (.aload_n 0, 1) := by decide +kernel
theorem dX2_areTogether_1 : decode cX2_areTogether 1 = .ok (.iload_n 1, 1) := by decide +kernel
theorem dX2_areTogether_2 : decode cX2_areTogether 2 = .ok (.invokevirtual 60, 3) := by decide +kernel
theorem dX2_areTogether_5 : decode cX2_areTogether 5 = .ok (.istore 4, 2) := by decide +kernel
theorem dX2_areTogether_7 : decode cX2_areTogether 7 = .ok (.iload 4, 2) := by decide +kernel
theorem dX2_areTogether_9 : decode cX2_areTogether 9 = .ok (.iload_n 2, 1) := by decide +kernel
theorem dX2_areTogether_10 : decode cX2_areTogether 10 = .ok (.invokestatic 46, 3) := by decide +kernel
theorem dX2_areTogether_13 : decode cX2_areTogether 13 = .ok (.iload 4, 2) := by decide +kernel
theorem dX2_areTogether_15 : decode cX2_areTogether 15 = .ok (.iload_n 3, 1) := by decide +kernel
theorem dX2_areTogether_16 : decode cX2_areTogether 16 = .ok (.invokestatic 46, 3) := by decide +kernel
theorem dX2_areTogether_19 : decode cX2_areTogether 19 = .ok (.if_icmp .ne 7, 3) := by decide +kernel
theorem dX2_areTogether_22 : decode cX2_areTogether 22 = .ok (.iconst 1, 1) := by decide +kernel
theorem dX2_areTogether_23 : decode cX2_areTogether 23 = .ok (.goto 4, 3) := by decide +kernel
theorem dX2_areTogether_26 : decode cX2_areTogether 26 = .ok (.iconst 0, 1) := by decide +kernel
theorem dX2_areTogether_27 : decode cX2_areTogether 27 = .ok (.ireturn, 1) := by decide +kernel
def gX2_areTogether (m : Mem) (a1 : Int32) (a2 : Int32) (a3 : Int32) : Option (Bool) := (gX2_stateOf m a1).bind (fun x1 => (gX2_partOf x1 a2).bind (fun x2 => (gX2_partOf x1 a3).bind (fun x3 => (if x2 = x3 then some true else some false))))
set_option maxHeartbeats 4000000 in
set_option maxRecDepth 20000 in
theorem LX2_areTogether {n : Nat} {m : Mem} {a1 : Int32} {a2 : Int32} {a3 : Int32} {r : Bool} (hn : 43 ≤ n) (hg : gX2_areTogether m a1 a2 a3 = some r) : MX yX2_areTogether cX2_areTogether 5 (some .boolean) { frames := 1, cells := 0, slots := 0, locals := 21 } n [.ref 24, .int a1, .int a2, .int a3] m (some (.int (b2i r))) m := by
  refine MX_of (by decide) (Nat.le_of_ble_eq_true rfl) (Or.inr (Or.inr (Or.inr ⟨rfl, _, rfl⟩))) (fun K hC hk hL hR => ?_)
  replace hn : 43 ≤ kn K := hk.symm ▸ hn
  show RX K 0 [(0, .ref 24), (1, .int a1), (2, .int a2), (3, .int a3)] [] m
  rw [gX2_areTogether] at hg
  refine R_aload_n (pc := 0) hC 0 dX2_areTogether_0 rfl rfl ?_
  refine R_iload_n (pc := 1) hC 1 dX2_areTogether_1 rfl rfl ?_
  obtain ⟨x1, hx1, hg⟩ := bind_some hg
  refine R_callV (pc := 2) (av := [.int a1]) (rest := []) hC hR 24 (jx hn rfl) ly24 rfl mf_X2_stateOf wm_X2_60 (LX2_stateOf hn hx1) rfl rfl rfl (Nat.le_of_ble_eq_true rfl) dX2_areTogether_2 rfl ?_
  show RX K 5 [(0, .ref 24), (1, .int a1), (2, .int a2), (3, .int a3)] [.int x1] m
  refine R_istore (pc := 5) hC dX2_areTogether_5 hL rfl (show _ = [(4, .int x1), (0, .ref 24), (1, .int a1), (2, .int a2), (3, .int a3)] from rfl) ?_
  refine R_iload (pc := 7) hC 0 dX2_areTogether_7 rfl ?_
  refine R_iload_n (pc := 9) hC 3 dX2_areTogether_9 rfl rfl ?_
  obtain ⟨x2, hx2, hg⟩ := bind_some hg
  refine R_callS (pc := 10) (av := [.int x1, .int a2]) (rest := []) hC hR mf_X2_partOf wm_X2_46 (LX2_partOf hn hx2) rfl rfl rfl (Nat.le_of_ble_eq_true rfl) dX2_areTogether_10 rfl ?_
  show RX K 13 [(4, .int x1), (0, .ref 24), (1, .int a1), (2, .int a2), (3, .int a3)] [.int x2] m
  refine R_iload (pc := 13) hC 0 dX2_areTogether_13 rfl ?_
  refine R_iload_n (pc := 15) hC 4 dX2_areTogether_15 rfl rfl ?_
  obtain ⟨x3, hx3, hg⟩ := bind_some hg
  refine R_callS (pc := 16) (av := [.int x1, .int a3]) (rest := [.int x2]) hC hR mf_X2_partOf wm_X2_46 (LX2_partOf hn hx3) rfl rfl rfl (Nat.le_of_ble_eq_true rfl) dX2_areTogether_16 rfl ?_
  show RX K 19 [(4, .int x1), (0, .ref 24), (1, .int a1), (2, .int a2), (3, .int a3)] [.int x3, .int x2] m
  refine R_icmp_ne (tgt := 26) (pc := 19) hC dX2_areTogether_19 (by decide) (fun c => ?_) (fun c => ?_)
  · replace hg := (if_neg c).symm.trans hg
    refine R_iconst (pc := 26) hC dX2_areTogether_26 ki_0 ?_
    have h9 := gxZ (m := m) hg
    exact R_ireturn (pc := 27) hC dX2_areTogether_27 h9
  · replace hg := (if_pos c).symm.trans hg
    refine R_iconst (pc := 22) hC dX2_areTogether_22 ki_1 ?_
    refine R_goto (tgt := 27) (pc := 23) hC dX2_areTogether_23 (by decide) ?_
    have h9 := gxZ (m := m) hg
    exact R_ireturn (pc := 27) hC dX2_areTogether_27 h9
theorem dX2_partsLeft_0 : decode cX2_partsLeft 0 = .ok (.aload_n 0, 1) := by decide +kernel
theorem dX2_partsLeft_1 : decode cX2_partsLeft 1 = .ok (.iload_n 1, 1) := by decide +kernel
theorem dX2_partsLeft_2 : decode cX2_partsLeft 2 = .ok (.invokevirtual 60, 3) := by decide +kernel
theorem dX2_partsLeft_5 : decode cX2_partsLeft 5 = .ok (.bipush 22, 2) := by decide +kernel
theorem dX2_partsLeft_7 : decode cX2_partsLeft 7 = .ok (.ishr, 1) := by decide +kernel
theorem dX2_partsLeft_8 : decode cX2_partsLeft 8 = .ok (.ireturn, 1) := by decide +kernel
def gX2_partsLeft (m : Mem) (a1 : Int32) : Option (Int32) := (gX2_stateOf m a1).bind (fun x1 => some (x1 >>> (22 &&& 31)))
set_option maxHeartbeats 4000000 in
set_option maxRecDepth 20000 in
theorem LX2_partsLeft {n : Nat} {m : Mem} {a1 : Int32} {r : Int32} (hn : 43 ≤ n) (hg : gX2_partsLeft m a1 = some r) : MX yX2_partsLeft cX2_partsLeft 2 (some .int) { frames := 1, cells := 0, slots := 0, locals := 21 } n [.ref 24, .int a1] m (some (.int r)) m := by
  refine MX_of (by decide) (Nat.le_of_ble_eq_true rfl) (Or.inr (Or.inl ⟨rfl, _, rfl⟩)) (fun K hC hk hL hR => ?_)
  replace hn : 43 ≤ kn K := hk.symm ▸ hn
  show RX K 0 [(0, .ref 24), (1, .int a1)] [] m
  rw [gX2_partsLeft] at hg
  refine R_aload_n (pc := 0) hC 0 dX2_partsLeft_0 rfl rfl ?_
  refine R_iload_n (pc := 1) hC 1 dX2_partsLeft_1 rfl rfl ?_
  obtain ⟨x1, hx1, hg⟩ := bind_some hg
  refine R_callV (pc := 2) (av := [.int a1]) (rest := []) hC hR 24 (jx hn rfl) ly24 rfl mf_X2_stateOf wm_X2_60 (LX2_stateOf hn hx1) rfl rfl rfl (Nat.le_of_ble_eq_true rfl) dX2_partsLeft_2 rfl ?_
  show RX K 5 [(0, .ref 24), (1, .int a1)] [.int x1] m
  refine R_bipush (pc := 5) hC dX2_partsLeft_5 kb_22 ?_
  refine R_ishr (pc := 7) hC dX2_partsLeft_7 ?_
  have h9 := gxI (m := m) hg
  exact R_ireturn (pc := 8) hC dX2_partsLeft_8 h9
theorem dX2_apart_0 : decode cX2_apart 0 = .ok (.iload_n 0, 1) := by decide +kernel
theorem dX2_apart_1 : decode cX2_apart 1 = .ok (.bipush 22, 2) := by decide +kernel
theorem dX2_apart_3 : decode cX2_apart 3 = .ok (.ishl, 1) := by decide +kernel
theorem dX2_apart_4 : decode cX2_apart 4 = .ok (.istore_n 1, 1) := by decide +kernel
theorem dX2_apart_5 : decode cX2_apart 5 = .ok (.iconst 0, 1) := by decide +kernel
theorem dX2_apart_6 : decode cX2_apart 6 = .ok (.istore_n 2, 1) := by decide +kernel
theorem dX2_apart_7 : decode cX2_apart 7 = .ok (.iload_n 2, 1) := by decide +kernel
theorem dX2_apart_8 : decode cX2_apart 8 = .ok (.bipush 7, 2) := by decide +kernel
theorem dX2_apart_10 : decode cX2_apart 10 = .ok (.if_icmp .ge 17, 3) := by decide +kernel
theorem dX2_apart_13 : decode cX2_apart 13 = .ok (.iload_n 1, 1) := by decide +kernel
theorem dX2_apart_14 : decode cX2_apart 14 = .ok (.iload_n 2, 1) := by decide +kernel
theorem dX2_apart_15 : decode cX2_apart 15 = .ok (.iconst 3, 1) := by decide +kernel
theorem dX2_apart_16 : decode cX2_apart 16 = .ok (.iload_n 2, 1) := by decide +kernel
theorem dX2_apart_17 : decode cX2_apart 17 = .ok (.imul, 1) := by decide +kernel
theorem dX2_apart_18 : decode cX2_apart 18 = .ok (.ishl, 1) := by decide +kernel
theorem dX2_apart_19 : decode cX2_apart 19 = .ok (.ior, 1) := by decide +kernel
theorem dX2_apart_20 : decode cX2_apart 20 = .ok (.istore_n 1, 1) := by decide +kernel
theorem dX2_apart_21 : decode cX2_apart 21 = .ok (.iinc 2 1, 3) := by decide +kernel
theorem dX2_apart_24 : decode cX2_apart 24 = .ok (.goto (-17), 3) := by decide +kernel
theorem dX2_apart_27 : decode cX2_apart 27 = .ok (.iload_n 1, 1) := by decide +kernel
theorem dX2_apart_28 : decode cX2_apart 28 = .ok (.ireturn, 1) := by decide +kernel
def bX2_apart_7  : (Int32 × Int32) → Option ((Int32 × Int32) ⊕ (Int32 × Int32))
  | (y2, y3) => (if 7 ≤ y3 then some (.inr (y2, y3)) else lete (y2 ||| (y3 <<< ((3 * y3) &&& 31))) (fun x4 => some (.inl (x4, y3 + 1))))
def gX2_apart (F : Nat) (a1 : Int32) : Option (Int32) := lete (a1 <<< (22 &&& 31)) (fun x1 => (iter F (bX2_apart_7) (x1, 0)).bind (fun e5 => some e5.1))
set_option maxHeartbeats 4000000 in
set_option maxRecDepth 20000 in
theorem LX2_apart {n : Nat} {F : Nat} {m : Mem} {a1 : Int32} {r : Int32} (hn : 43 ≤ n) (hg : gX2_apart F a1 = some r) : MX yX2_apart cX2_apart 3 (some .int) { frames := 0, cells := 0, slots := 0, locals := 0 } n [.int a1] m (some (.int r)) m := by
  refine MX_of (by decide) (Nat.le_of_ble_eq_true rfl) (Or.inr (Or.inl ⟨rfl, _, rfl⟩)) (fun K hC hk hL hR => ?_)
  replace hn : 43 ≤ kn K := hk.symm ▸ hn
  show RX K 0 [(0, .int a1)] [] m
  rw [gX2_apart] at hg
  refine R_iload_n (pc := 0) hC 0 dX2_apart_0 rfl rfl ?_
  refine R_bipush (pc := 1) hC dX2_apart_1 kb_22 ?_
  refine R_ishl (pc := 3) hC dX2_apart_3 ?_
  obtain ⟨x1, hx1, hg⟩ := lete_some hg
  refine R_top hx1 ?_
  refine R_istore_n (pc := 4) hC dX2_apart_4 rfl hL rfl (show _ = [(1, .int x1), (0, .int a1)] from rfl) ?_
  refine R_iconst (pc := 5) hC dX2_apart_5 ki_0 ?_
  refine R_istore_n (pc := 6) hC dX2_apart_6 rfl hL rfl (show _ = [(2, .int 0), (1, .int x1), (0, .int a1)] from rfl) ?_
  refine R_pick [2, 1, 0] (ls' := [(0, .int a1), (1, .int x1), (2, .int 0)]) rfl ?_
  obtain ⟨e5, he5, hg⟩ := bind_some hg
  refine iter_walk (P := fun s : (Int32 × Int32) => RX K 7 [(0, .int a1), (1, .int s.1), (2, .int s.2)] [] m) (Qe := fun s : (Int32 × Int32) => RX K 27 [(0, .int a1), (1, .int s.1), (2, .int s.2)] [] m) (fun s6 o hg kL7 kE7 => ?_) _ _ _ he5 ?_
  · obtain ⟨y2, y3⟩ := s6
    rw [bX2_apart_7] at hg
    show RX K 7 [(0, .int a1), (1, .int y2), (2, .int y3)] [] m
    refine R_iload_n (pc := 7) hC 2 dX2_apart_7 rfl rfl ?_
    refine R_bipush (pc := 8) hC dX2_apart_8 kb_7 ?_
    refine R_icmp_ge (tgt := 27) (pc := 10) hC dX2_apart_10 (by decide) (fun c => ?_) (fun c => ?_)
    · replace hg := (if_pos c).symm.trans hg
      refine R_pick [0, 1, 2] (ls' := [(0, .int a1), (1, .int y2), (2, .int y3)]) rfl ?_
      have h9 := kE7 _ (Option.some.inj hg).symm
      exact h9
    · replace hg := (if_neg c).symm.trans hg
      refine R_iload_n (pc := 13) hC 1 dX2_apart_13 rfl rfl ?_
      refine R_iload_n (pc := 14) hC 2 dX2_apart_14 rfl rfl ?_
      refine R_iconst (pc := 15) hC dX2_apart_15 ki_3 ?_
      refine R_iload_n (pc := 16) hC 2 dX2_apart_16 rfl rfl ?_
      refine R_imul (pc := 17) hC dX2_apart_17 ?_
      refine R_ishl (pc := 18) hC dX2_apart_18 ?_
      refine R_ior (pc := 19) hC dX2_apart_19 ?_
      obtain ⟨x4, hx4, hg⟩ := lete_some hg
      refine R_top hx4 ?_
      refine R_istore_n (pc := 20) hC dX2_apart_20 rfl hL rfl (show _ = [(1, .int x4), (0, .int a1), (2, .int y3)] from rfl) ?_
      refine R_iinc (pc := 21) hC 2 dX2_apart_21 rfl (iv ki_1) hL rfl (show _ = [(2, .int (y3 + 1)), (1, .int x4), (0, .int a1)] from rfl) ?_
      refine R_goto (tgt := 7) (pc := 24) hC dX2_apart_24 (by decide) ?_
      refine R_pick [2, 1, 0] (ls' := [(0, .int a1), (1, .int x4), (2, .int (y3 + 1))]) rfl ?_
      have h9 := kL7 _ (Option.some.inj hg).symm
      exact h9
  · show RX K 27 [(0, .int a1), (1, .int e5.1), (2, .int e5.2)] [] m
    refine R_iload_n (pc := 27) hC 1 dX2_apart_27 rfl rfl ?_
    have h9 := gxI (m := m) hg
    exact R_ireturn (pc := 28) hC dX2_apart_28 h9
theorem dX2_joined_0 : decode cX2_joined 0 = .ok (.iload_n 0, 1) := by decide +kernel
theorem dX2_joined_1 : decode cX2_joined 1 = .ok (.iload_n 1, 1) := by decide +kernel
theorem dX2_joined_2 : decode cX2_joined 2 = .ok (.invokestatic 46, 3) := by decide +kernel
theorem dX2_joined_5 : decode cX2_joined 5 = .ok (.istore_n 3, 1) := by decide +kernel
theorem dX2_joined_6 : decode cX2_joined 6 = .ok (.iload_n 0, 1) := by decide +kernel
theorem dX2_joined_7 : decode cX2_joined 7 = .ok (.iload_n 2, 1) := by decide +kernel
theorem dX2_joined_8 : decode cX2_joined 8 = .ok (.invokestatic 46, 3) := by decide +kernel
theorem dX2_joined_11 : decode cX2_joined 11 = .ok (.istore 4, 2) := by decide +kernel
theorem dX2_joined_13 : decode cX2_joined 13 = .ok (.iload_n 3, 1) := by decide +kernel
theorem dX2_joined_14 : decode cX2_joined 14 = .ok (.iload 4, 2) := by decide +kernel
theorem dX2_joined_16 : decode cX2_joined 16 = .ok (.if_icmp .ne 8, 3) := by decide +kernel
theorem dX2_joined_19 : decode cX2_joined 19 = .ok (.iload_n 0, 1) := by decide +kernel
theorem dX2_joined_20 : decode cX2_joined 20 = .ok (.ldc 50, 2) := by decide +kernel
theorem dX2_joined_22 : decode cX2_joined 22 = .ok (.ior, 1) := by decide +kernel
theorem dX2_joined_23 : decode cX2_joined 23 = .ok (.ireturn, 1) := by decide +kernel
theorem dX2_joined_24 : decode cX2_joined 24 = .ok (.iload_n 3, 1) := by decide +kernel
theorem dX2_joined_25 : decode cX2_joined 25 = .ok (.iload 4, 2) := by decide +kernel
theorem dX2_joined_27 : decode cX2_joined 27 = .ok (.invokestatic 51, 3) := by decide +kernel
theorem dX2_joined_30 : decode cX2_joined 30 = .ok (.istore 5, 2) := by decide +kernel
theorem dX2_joined_32 : decode cX2_joined 32 = .ok (.iload_n 3, 1) := by decide +kernel
theorem dX2_joined_33 : decode cX2_joined 33 = .ok (.iload 4, 2) := by decide +kernel
theorem dX2_joined_35 : decode cX2_joined 35 = .ok (.invokestatic 56, 3) := by decide +kernel
theorem dX2_joined_38 : decode cX2_joined 38 = .ok (.istore 6, 2) := by decide +kernel
theorem dX2_joined_40 : decode cX2_joined 40 = .ok (.iload_n 0, 1) := by decide +kernel
theorem dX2_joined_41 : decode cX2_joined 41 = .ok (.ldc 59, 2) := by decide +kernel
theorem dX2_joined_43 : decode cX2_joined 43 = .ok (.isub, 1) := by decide +kernel
theorem dX2_joined_44 : decode cX2_joined 44 = .ok (.istore 7, 2) := by decide +kernel
theorem dX2_joined_46 : decode cX2_joined 46 = .ok (.iload 6, 2) := by decide +kernel
theorem dX2_joined_48 : decode cX2_joined 48 = .ok (.istore 8, 2) := by decide +kernel
theorem dX2_joined_50 : decode cX2_joined 50 = .ok (.iload 8, 2) := by decide +kernel
theorem dX2_joined_52 : decode cX2_joined 52 = .ok (.bipush 7, 2) := by decide +kernel
theorem dX2_joined_54 : decode cX2_joined 54 = .ok (.if_icmp .ge 35, 3) := by decide +kernel
theorem dX2_joined_57 : decode cX2_joined 57 = .ok (.iload_n 0, 1) := by decide +kernel
theorem dX2_joined_58 : decode cX2_joined 58 = .ok (.iload 8, 2) := by decide +kernel
theorem dX2_joined_60 : decode cX2_joined 60 = .ok (.invokestatic 46, 3) := by decide +kernel
theorem dX2_joined_63 : decode cX2_joined 63 = .ok (.iload 6, 2) := by decide +kernel
theorem dX2_joined_65 : decode cX2_joined 65 = .ok (.if_icmp .ne 18, 3) := by decide +kernel
theorem dX2_joined_68 : decode cX2_joined 68 = .ok (.iload 7, 2) := by decide +kernel
theorem dX2_joined_70 : decode cX2_joined 70 = .ok (.iload 6, 2) := by decide +kernel
theorem dX2_joined_72 : decode cX2_joined 72 = .ok (.iload 5, 2) := by decide +kernel
theorem dX2_joined_74 : decode cX2_joined 74 = .ok (.isub, 1) := by decide +kernel
theorem dX2_joined_75 : decode cX2_joined 75 = .ok (.iconst 3, 1) := by decide +kernel
theorem dX2_joined_76 : decode cX2_joined 76 = .ok (.iload 8, 2) := by decide +kernel
theorem dX2_joined_78 : decode cX2_joined 78 = .ok (.imul, 1) := by decide +kernel
theorem dX2_joined_79 : decode cX2_joined 79 = .ok (.ishl, 1) := by decide +kernel
theorem dX2_joined_80 : decode cX2_joined 80 = .ok (.isub, 1) := by decide +kernel
theorem dX2_joined_81 : decode cX2_joined 81 = .ok (.istore 7, 2) := by decide +kernel
theorem dX2_joined_83 : decode cX2_joined 83 = .ok (.iinc 8 1, 3) := by decide +kernel
theorem dX2_joined_86 : decode cX2_joined 86 = .ok (.goto (-36), 3) := by decide +kernel
theorem dX2_joined_89 : decode cX2_joined 89 = .ok (.iload 7, 2) := by decide +kernel
theorem dX2_joined_91 : decode cX2_joined 91 = .ok (.ireturn, 1) := by decide +kernel
def bX2_joined_50 (a1 : Int32) (x3 : Int32) (x4 : Int32) : (Int32 × Int32) → Option ((Int32 × Int32) ⊕ (Int32 × Int32))
  | (y6, y7) => (if 7 ≤ y7 then some (.inr (y6, y7)) else (gX2_partOf a1 y7).bind (fun x8 => (if x8 = x4 then lete (y6 - ((x4 - x3) <<< ((3 * y7) &&& 31))) (fun x9 => some (.inl (x9, y7 + 1))) else some (.inl (y6, y7 + 1)))))
def gX2_joined (F : Nat) (a1 : Int32) (a2 : Int32) (a3 : Int32) : Option (Int32) := (gX2_partOf a1 a2).bind (fun x1 => (gX2_partOf a1 a3).bind (fun x2 => (if x1 = x2 then some (a1 ||| 2097152) else lete (if x2 < x1 then x2 else x1) (fun x3 => lete (if x1 < x2 then x2 else x1) (fun x4 => lete (a1 - 4194304) (fun x5 => (iter F (bX2_joined_50 a1 x3 x4) (x5, x4)).bind (fun e10 => some e10.1)))))))
set_option maxHeartbeats 4000000 in
set_option maxRecDepth 20000 in
theorem LX2_joined {n : Nat} {F : Nat} {m : Mem} {a1 : Int32} {a2 : Int32} {a3 : Int32} {r : Int32} (hn : 43 ≤ n) (hg : gX2_joined F a1 a2 a3 = some r) : MX yX2_joined cX2_joined 9 (some .int) { frames := 1, cells := 0, slots := 0, locals := 21 } n [.int a1, .int a2, .int a3] m (some (.int r)) m := by
  refine MX_of (by decide) (Nat.le_of_ble_eq_true rfl) (Or.inr (Or.inl ⟨rfl, _, rfl⟩)) (fun K hC hk hL hR => ?_)
  replace hn : 43 ≤ kn K := hk.symm ▸ hn
  show RX K 0 [(0, .int a1), (1, .int a2), (2, .int a3)] [] m
  rw [gX2_joined] at hg
  refine R_iload_n (pc := 0) hC 0 dX2_joined_0 rfl rfl ?_
  refine R_iload_n (pc := 1) hC 1 dX2_joined_1 rfl rfl ?_
  obtain ⟨x1, hx1, hg⟩ := bind_some hg
  refine R_callS (pc := 2) (av := [.int a1, .int a2]) (rest := []) hC hR mf_X2_partOf wm_X2_46 (LX2_partOf hn hx1) rfl rfl rfl (Nat.le_of_ble_eq_true rfl) dX2_joined_2 rfl ?_
  show RX K 5 [(0, .int a1), (1, .int a2), (2, .int a3)] [.int x1] m
  refine R_istore_n (pc := 5) hC dX2_joined_5 rfl hL rfl (show _ = [(3, .int x1), (0, .int a1), (1, .int a2), (2, .int a3)] from rfl) ?_
  refine R_iload_n (pc := 6) hC 1 dX2_joined_6 rfl rfl ?_
  refine R_iload_n (pc := 7) hC 3 dX2_joined_7 rfl rfl ?_
  obtain ⟨x2, hx2, hg⟩ := bind_some hg
  refine R_callS (pc := 8) (av := [.int a1, .int a3]) (rest := []) hC hR mf_X2_partOf wm_X2_46 (LX2_partOf hn hx2) rfl rfl rfl (Nat.le_of_ble_eq_true rfl) dX2_joined_8 rfl ?_
  show RX K 11 [(3, .int x1), (0, .int a1), (1, .int a2), (2, .int a3)] [.int x2] m
  refine R_istore (pc := 11) hC dX2_joined_11 hL rfl (show _ = [(4, .int x2), (3, .int x1), (0, .int a1), (1, .int a2), (2, .int a3)] from rfl) ?_
  refine R_iload_n (pc := 13) hC 1 dX2_joined_13 rfl rfl ?_
  refine R_iload (pc := 14) hC 0 dX2_joined_14 rfl ?_
  refine R_icmp_ne (tgt := 24) (pc := 16) hC dX2_joined_16 (by decide) (fun c => ?_) (fun c => ?_)
  · replace hg := (if_neg c).symm.trans hg
    refine R_iload_n (pc := 24) hC 1 dX2_joined_24 rfl rfl ?_
    refine R_iload (pc := 25) hC 0 dX2_joined_25 rfl ?_
    refine R_mmin (pc := 27) (rest := []) hC hR wm_X2_51 rfl (Nat.le_of_ble_eq_true rfl) dX2_joined_27 ?_
    obtain ⟨x3, hx3, hg⟩ := lete_some hg
    refine R_top hx3 ?_
    refine R_istore (pc := 30) hC dX2_joined_30 hL rfl (show _ = [(5, .int x3), (4, .int x2), (3, .int x1), (0, .int a1), (1, .int a2), (2, .int a3)] from rfl) ?_
    refine R_iload_n (pc := 32) hC 2 dX2_joined_32 rfl rfl ?_
    refine R_iload (pc := 33) hC 1 dX2_joined_33 rfl ?_
    refine R_mmax (pc := 35) (rest := []) hC hR wm_X2_56 rfl (Nat.le_of_ble_eq_true rfl) dX2_joined_35 ?_
    obtain ⟨x4, hx4, hg⟩ := lete_some hg
    refine R_top hx4 ?_
    refine R_istore (pc := 38) hC dX2_joined_38 hL rfl (show _ = [(6, .int x4), (5, .int x3), (4, .int x2), (3, .int x1), (0, .int a1), (1, .int a2), (2, .int a3)] from rfl) ?_
    refine R_iload_n (pc := 40) hC 4 dX2_joined_40 rfl rfl ?_
    refine R_ldc (pc := 41) hC wc_X2_59 dX2_joined_41 ?_
    refine R_isub (pc := 43) hC dX2_joined_43 ?_
    obtain ⟨x5, hx5, hg⟩ := lete_some hg
    refine R_top hx5 ?_
    refine R_istore (pc := 44) hC dX2_joined_44 hL rfl (show _ = [(7, .int x5), (6, .int x4), (5, .int x3), (4, .int x2), (3, .int x1), (0, .int a1), (1, .int a2), (2, .int a3)] from rfl) ?_
    refine R_iload (pc := 46) hC 1 dX2_joined_46 rfl ?_
    refine R_istore (pc := 48) hC dX2_joined_48 hL rfl (show _ = [(8, .int x4), (7, .int x5), (6, .int x4), (5, .int x3), (4, .int x2), (3, .int x1), (0, .int a1), (1, .int a2), (2, .int a3)] from rfl) ?_
    refine R_pick [6, 7, 8, 5, 4, 3, 2, 1, 0] (ls' := [(0, .int a1), (1, .int a2), (2, .int a3), (3, .int x1), (4, .int x2), (5, .int x3), (6, .int x4), (7, .int x5), (8, .int x4)]) rfl ?_
    obtain ⟨e10, he10, hg⟩ := bind_some hg
    refine iter_walk (P := fun s : (Int32 × Int32) => RX K 50 [(0, .int a1), (1, .int a2), (2, .int a3), (3, .int x1), (4, .int x2), (5, .int x3), (6, .int x4), (7, .int s.1), (8, .int s.2)] [] m) (Qe := fun s : (Int32 × Int32) => RX K 89 [(0, .int a1), (1, .int a2), (2, .int a3), (3, .int x1), (4, .int x2), (5, .int x3), (6, .int x4), (7, .int s.1), (8, .int s.2)] [] m) (fun s11 o hg kL50 kE50 => ?_) _ _ _ he10 ?_
    · obtain ⟨y6, y7⟩ := s11
      rw [bX2_joined_50] at hg
      show RX K 50 [(0, .int a1), (1, .int a2), (2, .int a3), (3, .int x1), (4, .int x2), (5, .int x3), (6, .int x4), (7, .int y6), (8, .int y7)] [] m
      refine R_iload (pc := 50) hC 8 dX2_joined_50 rfl ?_
      refine R_bipush (pc := 52) hC dX2_joined_52 kb_7 ?_
      refine R_icmp_ge (tgt := 89) (pc := 54) hC dX2_joined_54 (by decide) (fun c => ?_) (fun c => ?_)
      · replace hg := (if_pos c).symm.trans hg
        refine R_pick [0, 1, 2, 3, 4, 5, 6, 7, 8] (ls' := [(0, .int a1), (1, .int a2), (2, .int a3), (3, .int x1), (4, .int x2), (5, .int x3), (6, .int x4), (7, .int y6), (8, .int y7)]) rfl ?_
        have h9 := kE50 _ (Option.some.inj hg).symm
        exact h9
      · replace hg := (if_neg c).symm.trans hg
        refine R_iload_n (pc := 57) hC 0 dX2_joined_57 rfl rfl ?_
        refine R_iload (pc := 58) hC 8 dX2_joined_58 rfl ?_
        obtain ⟨x8, hx8, hg⟩ := bind_some hg
        refine R_callS (pc := 60) (av := [.int a1, .int y7]) (rest := []) hC hR mf_X2_partOf wm_X2_46 (LX2_partOf hn hx8) rfl rfl rfl (Nat.le_of_ble_eq_true rfl) dX2_joined_60 rfl ?_
        show RX K 63 [(0, .int a1), (1, .int a2), (2, .int a3), (3, .int x1), (4, .int x2), (5, .int x3), (6, .int x4), (7, .int y6), (8, .int y7)] [.int x8] m
        refine R_iload (pc := 63) hC 6 dX2_joined_63 rfl ?_
        refine R_icmp_ne (tgt := 83) (pc := 65) hC dX2_joined_65 (by decide) (fun c => ?_) (fun c => ?_)
        · replace hg := (if_neg c).symm.trans hg
          refine R_iinc (pc := 83) hC 8 dX2_joined_83 rfl (iv ki_1) hL rfl (show _ = [(8, .int (y7 + 1)), (0, .int a1), (1, .int a2), (2, .int a3), (3, .int x1), (4, .int x2), (5, .int x3), (6, .int x4), (7, .int y6)] from rfl) ?_
          refine R_goto (tgt := 50) (pc := 86) hC dX2_joined_86 (by decide) ?_
          refine R_pick [1, 2, 3, 4, 5, 6, 7, 8, 0] (ls' := [(0, .int a1), (1, .int a2), (2, .int a3), (3, .int x1), (4, .int x2), (5, .int x3), (6, .int x4), (7, .int y6), (8, .int (y7 + 1))]) rfl ?_
          have h9 := kL50 _ (Option.some.inj hg).symm
          exact h9
        · replace hg := (if_pos c).symm.trans hg
          refine R_iload (pc := 68) hC 7 dX2_joined_68 rfl ?_
          refine R_iload (pc := 70) hC 6 dX2_joined_70 rfl ?_
          refine R_iload (pc := 72) hC 5 dX2_joined_72 rfl ?_
          refine R_isub (pc := 74) hC dX2_joined_74 ?_
          refine R_iconst (pc := 75) hC dX2_joined_75 ki_3 ?_
          refine R_iload (pc := 76) hC 8 dX2_joined_76 rfl ?_
          refine R_imul (pc := 78) hC dX2_joined_78 ?_
          refine R_ishl (pc := 79) hC dX2_joined_79 ?_
          refine R_isub (pc := 80) hC dX2_joined_80 ?_
          obtain ⟨x9, hx9, hg⟩ := lete_some hg
          refine R_top hx9 ?_
          refine R_istore (pc := 81) hC dX2_joined_81 hL rfl (show _ = [(7, .int x9), (0, .int a1), (1, .int a2), (2, .int a3), (3, .int x1), (4, .int x2), (5, .int x3), (6, .int x4), (8, .int y7)] from rfl) ?_
          refine R_iinc (pc := 83) hC 8 dX2_joined_83 rfl (iv ki_1) hL rfl (show _ = [(8, .int (y7 + 1)), (7, .int x9), (0, .int a1), (1, .int a2), (2, .int a3), (3, .int x1), (4, .int x2), (5, .int x3), (6, .int x4)] from rfl) ?_
          refine R_goto (tgt := 50) (pc := 86) hC dX2_joined_86 (by decide) ?_
          refine R_pick [2, 3, 4, 5, 6, 7, 8, 1, 0] (ls' := [(0, .int a1), (1, .int a2), (2, .int a3), (3, .int x1), (4, .int x2), (5, .int x3), (6, .int x4), (7, .int x9), (8, .int (y7 + 1))]) rfl ?_
          have h9 := kL50 _ (Option.some.inj hg).symm
          exact h9
    · show RX K 89 [(0, .int a1), (1, .int a2), (2, .int a3), (3, .int x1), (4, .int x2), (5, .int x3), (6, .int x4), (7, .int e10.1), (8, .int e10.2)] [] m
      refine R_iload (pc := 89) hC 7 dX2_joined_89 rfl ?_
      have h9 := gxI (m := m) hg
      exact R_ireturn (pc := 91) hC dX2_joined_91 h9
  · replace hg := (if_pos c).symm.trans hg
    refine R_iload_n (pc := 19) hC 2 dX2_joined_19 rfl rfl ?_
    refine R_ldc (pc := 20) hC wc_X2_50 dX2_joined_20 ?_
    refine R_ior (pc := 22) hC dX2_joined_22 ?_
    have h9 := gxI (m := m) hg
    exact R_ireturn (pc := 23) hC dX2_joined_23 h9
theorem dX2_joinAll_0 : decode cX2_joinAll 0 = .ok (.iconst 1, 1) := by decide +kernel
theorem dX2_joinAll_1 : decode cX2_joinAll 1 = .ok (.iload_n 1, 1) := by decide +kernel
theorem dX2_joinAll_2 : decode cX2_joinAll 2 = .ok (.ishl, 1) := by decide +kernel
theorem dX2_joinAll_3 : decode cX2_joinAll 3 = .ok (.istore 4, 2) := by decide +kernel
theorem dX2_joinAll_5 : decode cX2_joinAll 5 = .ok (.iconst 0, 1) := by decide +kernel
theorem dX2_joinAll_6 : decode cX2_joinAll 6 = .ok (.istore 5, 2) := by decide +kernel
theorem dX2_joinAll_8 : decode cX2_joinAll 8 = .ok (.iload 5, 2) := by decide +kernel
theorem dX2_joinAll_10 : decode cX2_joinAll 10 = .ok (.iload 4, 2) := by decide +kernel
theorem dX2_joinAll_12 : decode cX2_joinAll 12 = .ok (.if_icmp .ge 35, 3) := by decide +kernel
theorem dX2_joinAll_15 : decode cX2_joinAll 15 = .ok (.iload 4, 2) := by decide +kernel
theorem dX2_joinAll_17 : decode cX2_joinAll 17 = .ok (.iload 5, 2) := by decide +kernel
theorem dX2_joinAll_19 : decode cX2_joinAll 19 = .ok (.iadd, 1) := by decide +kernel
theorem dX2_joinAll_20 : decode cX2_joinAll 20 = .ok (.aload_n 0, 1) := by decide +kernel
theorem dX2_joinAll_21 : decode cX2_joinAll 21 = .ok (.arraylength, 1) := by decide +kernel
theorem dX2_joinAll_22 : decode cX2_joinAll 22 = .ok (.if_icmp .ge 25, 3) := by decide +kernel
theorem dX2_joinAll_25 : decode cX2_joinAll 25 = .ok (.aload_n 0, 1) := by decide +kernel
theorem dX2_joinAll_26 : decode cX2_joinAll 26 = .ok (.iload 4, 2) := by decide +kernel
theorem dX2_joinAll_28 : decode cX2_joinAll 28 = .ok (.iload 5, 2) := by decide +kernel
theorem dX2_joinAll_30 : decode cX2_joinAll 30 = .ok (.iadd, 1) := by decide +kernel
theorem dX2_joinAll_31 : decode cX2_joinAll 31 = .ok (.aload_n 0, 1) := by decide +kernel
theorem dX2_joinAll_32 : decode cX2_joinAll 32 = .ok (.iload 5, 2) := by decide +kernel
theorem dX2_joinAll_34 : decode cX2_joinAll 34 = .ok (.iaload, 1) := by decide +kernel
theorem dX2_joinAll_35 : decode cX2_joinAll 35 = .ok (.iload_n 2, 1) := by decide +kernel
theorem dX2_joinAll_36 : decode cX2_joinAll 36 = .ok (.iload_n 3, 1) := by decide +kernel
theorem dX2_joinAll_37 : decode cX2_joinAll 37 = .ok (.invokestatic 42, 3) := by decide +kernel
theorem dX2_joinAll_40 : decode cX2_joinAll 40 = .ok (.iastore, 1) := by decide +kernel
theorem dX2_joinAll_41 : decode cX2_joinAll 41 = .ok (.iinc 5 1, 3) := by decide +kernel
theorem dX2_joinAll_44 : decode cX2_joinAll 44 = .ok (.goto (-36), 3) := by decide +kernel
theorem dX2_joinAll_47 : decode cX2_joinAll 47 = .ok (.return_, 1) := by decide +kernel
def bX2_joinAll_8 (F : Nat) (j : Nat) (a3 : Int32) (a4 : Int32) (x1 : Int32) : (Int32 × Mem) → Option ((Int32 × Mem) ⊕ (Int32 × Mem))
  | (y2, m3) => (if x1 ≤ y2 then some (.inr (y2, m3)) else (if 1024 ≤ (x1 + y2) then some (.inr (y2, m3)) else chk (inb y2 1024) ((gX2_joined F (m3.1 j (Int32.toNatClampNeg y2)) a3 a4).bind (fun x5 => chk (inb (x1 + y2) 1024) (lete (mu m3 j (Int32.toNatClampNeg (x1 + y2)) x5) (fun m7 => some (.inl (y2 + 1, m7))))))))
def gX2_joinAll (F : Nat) (m : Mem) (j : Nat) (a2 : Int32) (a3 : Int32) (a4 : Int32) : Option (Mem) := lete ((1 : Int32) <<< (a2 &&& 31)) (fun x1 => (iter F (bX2_joinAll_8 F j a3 a4 x1) (0, m)).bind (fun e8 => some e8.2))
set_option maxHeartbeats 4000000 in
set_option maxRecDepth 20000 in
theorem LX2_joinAll {n : Nat} {F : Nat} {m : Mem} {j : Nat} {a2 : Int32} {a3 : Int32} {a4 : Int32} {r : Mem} (hn : 43 ≤ n) (hj : isS j) (hg : gX2_joinAll F m j a2 a3 a4 = some r) : MX yX2_joinAll cX2_joinAll 6 none { frames := 2, cells := 0, slots := 0, locals := 49 } n [.ref j, .int a2, .int a3, .int a4] m (none) r := by
  refine MX_of (by decide) (Nat.le_of_ble_eq_true rfl) (Or.inl ⟨rfl, rfl⟩) (fun K hC hk hL hR => ?_)
  replace hn : 43 ≤ kn K := hk.symm ▸ hn
  show RX K 0 [(0, .ref j), (1, .int a2), (2, .int a3), (3, .int a4)] [] m
  rw [gX2_joinAll] at hg
  refine R_iconst (pc := 0) hC dX2_joinAll_0 ki_1 ?_
  refine R_iload_n (pc := 1) hC 1 dX2_joinAll_1 rfl rfl ?_
  refine R_ishl (pc := 2) hC dX2_joinAll_2 ?_
  obtain ⟨x1, hx1, hg⟩ := lete_some hg
  refine R_top hx1 ?_
  refine R_istore (pc := 3) hC dX2_joinAll_3 hL rfl (show _ = [(4, .int x1), (0, .ref j), (1, .int a2), (2, .int a3), (3, .int a4)] from rfl) ?_
  refine R_iconst (pc := 5) hC dX2_joinAll_5 ki_0 ?_
  refine R_istore (pc := 6) hC dX2_joinAll_6 hL rfl (show _ = [(5, .int 0), (4, .int x1), (0, .ref j), (1, .int a2), (2, .int a3), (3, .int a4)] from rfl) ?_
  refine R_pick [2, 3, 4, 5, 1, 0] (ls' := [(0, .ref j), (1, .int a2), (2, .int a3), (3, .int a4), (4, .int x1), (5, .int 0)]) rfl ?_
  obtain ⟨e8, he8, hg⟩ := bind_some hg
  refine iter_walk (P := fun s : (Int32 × Mem) => RX K 8 [(0, .ref j), (1, .int a2), (2, .int a3), (3, .int a4), (4, .int x1), (5, .int s.1)] [] s.2) (Qe := fun s : (Int32 × Mem) => RX K 47 [(0, .ref j), (1, .int a2), (2, .int a3), (3, .int a4), (4, .int x1), (5, .int s.1)] [] s.2) (fun s9 o hg kL8 kE8 => ?_) _ _ _ he8 ?_
  · obtain ⟨y2, m3⟩ := s9
    rw [bX2_joinAll_8] at hg
    show RX K 8 [(0, .ref j), (1, .int a2), (2, .int a3), (3, .int a4), (4, .int x1), (5, .int y2)] [] m3
    refine R_iload (pc := 8) hC 5 dX2_joinAll_8 rfl ?_
    refine R_iload (pc := 10) hC 4 dX2_joinAll_10 rfl ?_
    refine R_icmp_ge (tgt := 47) (pc := 12) hC dX2_joinAll_12 (by decide) (fun c => ?_) (fun c => ?_)
    · replace hg := (if_pos c).symm.trans hg
      refine R_pick [0, 1, 2, 3, 4, 5] (ls' := [(0, .ref j), (1, .int a2), (2, .int a3), (3, .int a4), (4, .int x1), (5, .int y2)]) rfl ?_
      have h9 := kE8 _ (Option.some.inj hg).symm
      exact h9
    · replace hg := (if_neg c).symm.trans hg
      refine R_iload (pc := 15) hC 4 dX2_joinAll_15 rfl ?_
      refine R_iload (pc := 17) hC 5 dX2_joinAll_17 rfl ?_
      refine R_iadd (pc := 19) hC dX2_joinAll_19 ?_
      refine R_aload_n (pc := 20) hC 0 dX2_joinAll_20 rfl rfl ?_
      refine R_alen (pc := 21) hC j (js hn hj) (lyS hj) dX2_joinAll_21 ?_
      show RX K 22 [(0, .ref j), (1, .int a2), (2, .int a3), (3, .int a4), (4, .int x1), (5, .int y2)] [.int 1024, .int (x1 + y2)] m3
      refine R_icmp_ge (tgt := 47) (pc := 22) hC dX2_joinAll_22 (by decide) (fun c => ?_) (fun c => ?_)
      · replace hg := (if_pos c).symm.trans hg
        refine R_pick [0, 1, 2, 3, 4, 5] (ls' := [(0, .ref j), (1, .int a2), (2, .int a3), (3, .int a4), (4, .int x1), (5, .int y2)]) rfl ?_
        have h9 := kE8 _ (Option.some.inj hg).symm
        exact h9
      · replace hg := (if_neg c).symm.trans hg
        refine R_aload_n (pc := 25) hC 0 dX2_joinAll_25 rfl rfl ?_
        refine R_iload (pc := 26) hC 4 dX2_joinAll_26 rfl ?_
        refine R_iload (pc := 28) hC 5 dX2_joinAll_28 rfl ?_
        refine R_iadd (pc := 30) hC dX2_joinAll_30 ?_
        refine R_aload_n (pc := 31) hC 0 dX2_joinAll_31 rfl rfl ?_
        refine R_iload (pc := 32) hC 5 dX2_joinAll_32 rfl ?_
        obtain ⟨c4, hg⟩ := chk_some hg
        refine R_iaload (pc := 34) hC j (js hn hj) (lyS hj) (inb_vp c4) dX2_joinAll_34 ?_
        refine R_iload_n (pc := 35) hC 2 dX2_joinAll_35 rfl rfl ?_
        refine R_iload_n (pc := 36) hC 3 dX2_joinAll_36 rfl rfl ?_
        obtain ⟨x5, hx5, hg⟩ := bind_some hg
        refine R_callS (pc := 37) (av := [.int (m3.1 j (Int32.toNatClampNeg y2)), .int a3, .int a4]) (rest := [.int (x1 + y2), .ref j]) hC hR mf_X2_joined wm_X2_42 (LX2_joined hn hx5) rfl rfl rfl (Nat.le_of_ble_eq_true rfl) dX2_joinAll_37 rfl ?_
        show RX K 40 [(0, .ref j), (1, .int a2), (2, .int a3), (3, .int a4), (4, .int x1), (5, .int y2)] [.int x5, .int (x1 + y2), .ref j] m3
        obtain ⟨c6, hg⟩ := chk_some hg
        obtain ⟨m7, hm7, hg⟩ := lete_some hg
        refine R_iastore (pc := 40) hC j (js hn hj) (lyS hj) (inb_vp c6) dX2_joinAll_40 ?_
        refine R_mem hm7 ?_
        refine R_iinc (pc := 41) hC 5 dX2_joinAll_41 rfl (iv ki_1) hL rfl (show _ = [(5, .int (y2 + 1)), (0, .ref j), (1, .int a2), (2, .int a3), (3, .int a4), (4, .int x1)] from rfl) ?_
        refine R_goto (tgt := 8) (pc := 44) hC dX2_joinAll_44 (by decide) ?_
        refine R_pick [1, 2, 3, 4, 5, 0] (ls' := [(0, .ref j), (1, .int a2), (2, .int a3), (3, .int a4), (4, .int x1), (5, .int (y2 + 1))]) rfl ?_
        have h9 := kL8 _ (Option.some.inj hg).symm
        exact h9
  · show RX K 47 [(0, .ref j), (1, .int a2), (2, .int a3), (3, .int a4), (4, .int x1), (5, .int e8.1)] [] e8.2
    have h9 := gxV hg
    exact R_return (pc := 47) hC dX2_joinAll_47 h9
theorem dX2_build_0 : decode cX2_build 0 = .ok (.aload_n 0, 1) := by decide +kernel
theorem dX2_build_1 : decode cX2_build 1 = .ok (.getfield 15, 3) := by decide +kernel
theorem dX2_build_4 : decode cX2_build 4 = .ok (.iconst 0, 1) := by decide +kernel
theorem dX2_build_5 : decode cX2_build 5 = .ok (.aload_n 0, 1) := by decide +kernel
theorem dX2_build_6 : decode cX2_build 6 = .ok (.getfield 11, 3) := by decide +kernel
theorem dX2_build_9 : decode cX2_build 9 = .ok (.getfield 19, 3) := by decide +kernel
theorem dX2_build_12 : decode cX2_build 12 = .ok (.invokestatic 25, 3) := by decide +kernel
theorem dX2_build_15 : decode cX2_build 15 = .ok (.iastore, 1) := by decide +kernel
theorem dX2_build_16 : decode cX2_build 16 = .ok (.iconst 0, 1) := by decide +kernel
theorem dX2_build_17 : decode cX2_build 17 = .ok (.istore_n 1, 1) := by decide +kernel
theorem dX2_build_18 : decode cX2_build 18 = .ok (.iload_n 1, 1) := by decide +kernel
theorem dX2_build_19 : decode cX2_build 19 = .ok (.aload_n 0, 1) := by decide +kernel
theorem dX2_build_20 : decode cX2_build 20 = .ok (.getfield 11, 3) := by decide +kernel
theorem dX2_build_23 : decode cX2_build 23 = .ok (.getfield 29, 3) := by decide +kernel
theorem dX2_build_26 : decode cX2_build 26 = .ok (.if_icmp .ge 41, 3) := by decide +kernel
theorem dX2_build_29 : decode cX2_build 29 = .ok (.iload_n 1, 1) := by decide +kernel
theorem dX2_build_30 : decode cX2_build 30 = .ok (.bipush 10, 2) := by decide +kernel
theorem dX2_build_32 : decode cX2_build 32 = .ok (.if_icmp .ge 35, 3) := by decide +kernel
theorem dX2_build_35 : decode cX2_build 35 = .ok (.aload_n 0, 1) := by decide +kernel
theorem dX2_build_36 : decode cX2_build 36 = .ok (.getfield 15, 3) := by decide +kernel
theorem dX2_build_39 : decode cX2_build 39 = .ok (.iload_n 1, 1) := by decide +kernel
theorem dX2_build_40 : decode cX2_build 40 = .ok (.aload_n 0, 1) := by decide +kernel
theorem dX2_build_41 : decode cX2_build 41 = .ok (.getfield 11, 3) := by decide +kernel
theorem dX2_build_44 : decode cX2_build 44 = .ok (.getfield 32, 3) := by decide +kernel
theorem dX2_build_47 : decode cX2_build 47 = .ok (.iload_n 1, 1) := by decide +kernel
theorem dX2_build_48 : decode cX2_build 48 = .ok (.iaload, 1) := by decide +kernel
theorem dX2_build_49 : decode cX2_build 49 = .ok (.aload_n 0, 1) := by decide +kernel
theorem dX2_build_50 : decode cX2_build 50 = .ok (.getfield 11, 3) := by decide +kernel
theorem dX2_build_53 : decode cX2_build 53 = .ok (.getfield 35, 3) := by decide +kernel
theorem dX2_build_56 : decode cX2_build 56 = .ok (.iload_n 1, 1) := by decide +kernel
theorem dX2_build_57 : decode cX2_build 57 = .ok (.iaload, 1) := by decide +kernel
theorem dX2_build_58 : decode cX2_build 58 = .ok (.invokestatic 38, 3) := by decide +kernel
theorem dX2_build_61 : decode cX2_build 61 = .ok (.iinc 1 1, 3) := by decide +kernel
theorem dX2_build_64 : decode cX2_build 64 = .ok (.goto (-46), 3) := by decide +kernel
theorem dX2_build_67 : decode cX2_build 67 = .ok (.return_, 1) := by decide +kernel
def bX2_build_18 (F : Nat) : (Int32 × Mem) → Option ((Int32 × Mem) ⊕ (Int32 × Mem))
  | (y4, m5) => (if (m5.1 1 1) ≤ y4 then some (.inr (y4, m5)) else (if 10 ≤ y4 then some (.inr (y4, m5)) else chk (inb y4 10) (chk (inb y4 10) ((gX2_joinAll F m5 25 y4 (m5.1 3 (Int32.toNatClampNeg y4)) (m5.1 4 (Int32.toNatClampNeg y4))).bind (fun q8 => some (.inl (y4 + 1, q8)))))))
def gX2_build (F : Nat) (m : Mem) : Option (Mem) := (gX2_apart F (m.1 1 0)).bind (fun x1 => chk (inb 0 1024) (lete (mu m 25 (Int32.toNatClampNeg 0) x1) (fun m3 => (iter F (bX2_build_18 F) (0, m3)).bind (fun e9 => some e9.2))))
set_option maxHeartbeats 4000000 in
set_option maxRecDepth 20000 in
theorem LX2_build {n : Nat} {F : Nat} {m : Mem} {r : Mem} (hn : 43 ≤ n) (hg : gX2_build F m  = some r) : MX yX2_build cX2_build 2 none { frames := 3, cells := 0, slots := 0, locals := 74 } n [.ref 24] m (none) r := by
  refine MX_of (by decide) (Nat.le_of_ble_eq_true rfl) (Or.inl ⟨rfl, rfl⟩) (fun K hC hk hL hR => ?_)
  replace hn : 43 ≤ kn K := hk.symm ▸ hn
  show RX K 0 [(0, .ref 24)] [] m
  rw [gX2_build] at hg
  refine R_aload_n (pc := 0) hC 0 dX2_build_0 rfl rfl ?_
  refine gf_X2_15 (pc := 1) hC hn dX2_build_1 ?_
  refine R_iconst (pc := 4) hC dX2_build_4 ki_0 ?_
  refine R_aload_n (pc := 5) hC 0 dX2_build_5 rfl rfl ?_
  refine gf_X2_11 (pc := 6) hC hn dX2_build_6 ?_
  refine gf_X2_19 (pc := 9) hC hn isv1 dX2_build_9 ?_
  obtain ⟨x1, hx1, hg⟩ := bind_some hg
  refine R_callS (pc := 12) (av := [.int (m.1 1 0)]) (rest := [.int 0, .ref 25]) hC hR mf_X2_apart wm_X2_25 (LX2_apart hn hx1) rfl rfl rfl (Nat.le_of_ble_eq_true rfl) dX2_build_12 rfl ?_
  show RX K 15 [(0, .ref 24)] [.int x1, .int 0, .ref 25] m
  obtain ⟨c2, hg⟩ := chk_some hg
  obtain ⟨m3, hm3, hg⟩ := lete_some hg
  refine R_iastore (pc := 15) hC 25 (jx hn rfl) ly25 (inb_vp c2) dX2_build_15 ?_
  refine R_mem hm3 ?_
  refine R_iconst (pc := 16) hC dX2_build_16 ki_0 ?_
  refine R_istore_n (pc := 17) hC dX2_build_17 rfl hL rfl (show _ = [(1, .int 0), (0, .ref 24)] from rfl) ?_
  refine R_pick [1, 0] (ls' := [(0, .ref 24), (1, .int 0)]) rfl ?_
  obtain ⟨e9, he9, hg⟩ := bind_some hg
  refine iter_walk (P := fun s : (Int32 × Mem) => RX K 18 [(0, .ref 24), (1, .int s.1)] [] s.2) (Qe := fun s : (Int32 × Mem) => RX K 67 [(0, .ref 24), (1, .int s.1)] [] s.2) (fun s10 o hg kL18 kE18 => ?_) _ _ _ he9 ?_
  · obtain ⟨y4, m5⟩ := s10
    rw [bX2_build_18] at hg
    show RX K 18 [(0, .ref 24), (1, .int y4)] [] m5
    refine R_iload_n (pc := 18) hC 1 dX2_build_18 rfl rfl ?_
    refine R_aload_n (pc := 19) hC 0 dX2_build_19 rfl rfl ?_
    refine gf_X2_11 (pc := 20) hC hn dX2_build_20 ?_
    refine gf_X2_29 (pc := 23) hC hn isv1 dX2_build_23 ?_
    refine R_icmp_ge (tgt := 67) (pc := 26) hC dX2_build_26 (by decide) (fun c => ?_) (fun c => ?_)
    · replace hg := (if_pos c).symm.trans hg
      refine R_pick [0, 1] (ls' := [(0, .ref 24), (1, .int y4)]) rfl ?_
      have h9 := kE18 _ (Option.some.inj hg).symm
      exact h9
    · replace hg := (if_neg c).symm.trans hg
      refine R_iload_n (pc := 29) hC 1 dX2_build_29 rfl rfl ?_
      refine R_bipush (pc := 30) hC dX2_build_30 kb_10 ?_
      refine R_icmp_ge (tgt := 67) (pc := 32) hC dX2_build_32 (by decide) (fun c => ?_) (fun c => ?_)
      · replace hg := (if_pos c).symm.trans hg
        refine R_pick [0, 1] (ls' := [(0, .ref 24), (1, .int y4)]) rfl ?_
        have h9 := kE18 _ (Option.some.inj hg).symm
        exact h9
      · replace hg := (if_neg c).symm.trans hg
        refine R_aload_n (pc := 35) hC 0 dX2_build_35 rfl rfl ?_
        refine gf_X2_15 (pc := 36) hC hn dX2_build_36 ?_
        refine R_iload_n (pc := 39) hC 1 dX2_build_39 rfl rfl ?_
        refine R_aload_n (pc := 40) hC 0 dX2_build_40 rfl rfl ?_
        refine gf_X2_11 (pc := 41) hC hn dX2_build_41 ?_
        refine gf_X2_32 (pc := 44) hC hn isv1 dX2_build_44 ?_
        refine R_iload_n (pc := 47) hC 1 dX2_build_47 rfl rfl ?_
        obtain ⟨c6, hg⟩ := chk_some hg
        refine R_iaload (pc := 48) hC 3 (jx hn rfl) ly3 (inb_vp c6) dX2_build_48 ?_
        refine R_aload_n (pc := 49) hC 0 dX2_build_49 rfl rfl ?_
        refine gf_X2_11 (pc := 50) hC hn dX2_build_50 ?_
        refine gf_X2_35 (pc := 53) hC hn isv1 dX2_build_53 ?_
        refine R_iload_n (pc := 56) hC 1 dX2_build_56 rfl rfl ?_
        obtain ⟨c7, hg⟩ := chk_some hg
        refine R_iaload (pc := 57) hC 4 (jx hn rfl) ly4 (inb_vp c7) dX2_build_57 ?_
        obtain ⟨q8, hq8, hg⟩ := bind_some hg
        refine R_callS (pc := 58) (av := [.ref 25, .int y4, .int (m5.1 3 (Int32.toNatClampNeg y4)), .int (m5.1 4 (Int32.toNatClampNeg y4))]) (rest := []) hC hR mf_X2_joinAll wm_X2_38 (LX2_joinAll hn (Or.inl rfl) hq8) rfl rfl rfl (Nat.le_of_ble_eq_true rfl) dX2_build_58 rfl ?_
        show RX K 61 [(0, .ref 24), (1, .int y4)] [] q8
        refine R_iinc (pc := 61) hC 1 dX2_build_61 rfl (iv ki_1) hL rfl (show _ = [(1, .int (y4 + 1)), (0, .ref 24)] from rfl) ?_
        refine R_goto (tgt := 18) (pc := 64) hC dX2_build_64 (by decide) ?_
        refine R_pick [1, 0] (ls' := [(0, .ref 24), (1, .int (y4 + 1))]) rfl ?_
        have h9 := kL18 _ (Option.some.inj hg).symm
        exact h9
  · show RX K 67 [(0, .ref 24), (1, .int e9.1)] [] e9.2
    have h9 := gxV hg
    exact R_return (pc := 67) hC dX2_build_67 h9
theorem dX2_hasRing_0 : decode cX2_hasRing 0 = .ok (.aload_n 0, 1) := by decide +kernel
theorem dX2_hasRing_1 : decode cX2_hasRing 1 = .ok (.iload_n 1, 1) := by decide +kernel
theorem dX2_hasRing_2 : decode cX2_hasRing 2 = .ok (.invokevirtual 60, 3) := by decide +kernel
theorem dX2_hasRing_5 : decode cX2_hasRing 5 = .ok (.ldc 50, 2) := by decide +kernel
theorem dX2_hasRing_7 : decode cX2_hasRing 7 = .ok (.iand, 1) := by decide +kernel
theorem dX2_hasRing_8 : decode cX2_hasRing 8 = .ok (.ifCond .eq 7, 3) := by decide +kernel
theorem dX2_hasRing_11 : decode cX2_hasRing 11 = .ok (.iconst 1, 1) := by decide +kernel
theorem dX2_hasRing_12 : decode cX2_hasRing 12 = .ok (.goto 4, 3) := by decide +kernel
theorem dX2_hasRing_15 : decode cX2_hasRing 15 = .ok (.iconst 0, 1) := by decide +kernel
theorem dX2_hasRing_16 : decode cX2_hasRing 16 = .ok (.ireturn, 1) := by decide +kernel
def gX2_hasRing (m : Mem) (a1 : Int32) : Option (Bool) := (gX2_stateOf m a1).bind (fun x1 => (if (x1 &&& 2097152) = 0 then some false else some true))
set_option maxHeartbeats 4000000 in
set_option maxRecDepth 20000 in
theorem LX2_hasRing {n : Nat} {m : Mem} {a1 : Int32} {r : Bool} (hn : 43 ≤ n) (hg : gX2_hasRing m a1 = some r) : MX yX2_hasRing cX2_hasRing 2 (some .boolean) { frames := 1, cells := 0, slots := 0, locals := 21 } n [.ref 24, .int a1] m (some (.int (b2i r))) m := by
  refine MX_of (by decide) (Nat.le_of_ble_eq_true rfl) (Or.inr (Or.inr (Or.inr ⟨rfl, _, rfl⟩))) (fun K hC hk hL hR => ?_)
  replace hn : 43 ≤ kn K := hk.symm ▸ hn
  show RX K 0 [(0, .ref 24), (1, .int a1)] [] m
  rw [gX2_hasRing] at hg
  refine R_aload_n (pc := 0) hC 0 dX2_hasRing_0 rfl rfl ?_
  refine R_iload_n (pc := 1) hC 1 dX2_hasRing_1 rfl rfl ?_
  obtain ⟨x1, hx1, hg⟩ := bind_some hg
  refine R_callV (pc := 2) (av := [.int a1]) (rest := []) hC hR 24 (jx hn rfl) ly24 rfl mf_X2_stateOf wm_X2_60 (LX2_stateOf hn hx1) rfl rfl rfl (Nat.le_of_ble_eq_true rfl) dX2_hasRing_2 rfl ?_
  show RX K 5 [(0, .ref 24), (1, .int a1)] [.int x1] m
  refine R_ldc (pc := 5) hC wc_X2_50 dX2_hasRing_5 ?_
  refine R_iand (pc := 7) hC dX2_hasRing_7 ?_
  refine R_if_eq (tgt := 15) (pc := 8) hC dX2_hasRing_8 (by decide) (fun c => ?_) (fun c => ?_)
  · replace hg := (if_pos c).symm.trans hg
    refine R_iconst (pc := 15) hC dX2_hasRing_15 ki_0 ?_
    have h9 := gxZ (m := m) hg
    exact R_ireturn (pc := 16) hC dX2_hasRing_16 h9
  · replace hg := (if_neg c).symm.trans hg
    refine R_iconst (pc := 11) hC dX2_hasRing_11 ki_1 ?_
    refine R_goto (tgt := 16) (pc := 12) hC dX2_hasRing_12 (by decide) ?_
    have h9 := gxZ (m := m) hg
    exact R_ireturn (pc := 16) hC dX2_hasRing_16 h9
