theorem dX6_allHouses_0 : decode cX6_allHouses 0 = .ok (.iconst 1, 1) := by decide +kernel
theorem dX6_allHouses_1 : decode cX6_allHouses 1 = .ok (.aload_n 0, 1) := by decide +kernel
theorem dX6_allHouses_2 : decode cX6_allHouses 2 = .ok (.getfield 9, 3) := by decide +kernel
theorem dX6_allHouses_5 : decode cX6_allHouses 5 = .ok (.ishl, 1) := by decide +kernel
theorem dX6_allHouses_6 : decode cX6_allHouses 6 = .ok (.iconst 1, 1) := by decide +kernel
theorem dX6_allHouses_7 : decode cX6_allHouses 7 = .ok (.isub, 1) := by decide +kernel
theorem dX6_allHouses_8 : decode cX6_allHouses 8 = .ok (.ireturn, 1) := by decide +kernel
def gX6_allHouses (m : Mem) (v : Nat) : Option (Int32) := some (((1 : Int32) <<< ((m.1 v 0) &&& 31)) - 1)
set_option maxHeartbeats 4000000 in
set_option maxRecDepth 20000 in
theorem LX6_allHouses {n : Nat} {m : Mem} {v : Nat} {r : Int32} (hn : 43 ≤ n) (hv : isV v) (hg : gX6_allHouses m v = some r) : MX yX6_allHouses cX6_allHouses 1 (some .int) { frames := 0, cells := 0, slots := 0, locals := 0 } n [.ref v] m (some (.int r)) m := by
  refine MX_of (by decide) (Nat.le_of_ble_eq_true rfl) (Or.inr (Or.inl ⟨rfl, _, rfl⟩)) (fun K hC hk hL hR => ?_)
  replace hn : 43 ≤ kn K := hk.symm ▸ hn
  show RX K 0 [(0, .ref v)] [] m
  rw [gX6_allHouses] at hg
  refine R_iconst (pc := 0) hC dX6_allHouses_0 ki_1 ?_
  refine R_aload_n (pc := 1) hC 0 dX6_allHouses_1 rfl rfl ?_
  refine gf_X6_9 (pc := 2) hC hn hv dX6_allHouses_2 ?_
  refine R_ishl (pc := 5) hC dX6_allHouses_5 ?_
  refine R_iconst (pc := 6) hC dX6_allHouses_6 ki_1 ?_
  refine R_isub (pc := 7) hC dX6_allHouses_7 ?_
  have h9 := gxI (m := m) hg
  exact R_ireturn (pc := 8) hC dX6_allHouses_8 h9
theorem dX6_hasLane_0 : decode cX6_hasLane 0 = .ok (.iload_n 1, 1) := by decide +kernel
theorem dX6_hasLane_1 : decode cX6_hasLane 1 = .ok (.ifCond .lt 21, 3) := by decide +kernel
theorem dX6_hasLane_4 : decode cX6_hasLane 4 = .ok (.iload_n 1, 1) := by decide +kernel
theorem dX6_hasLane_5 : decode cX6_hasLane 5 = .ok (.aload_n 0, 1) := by decide +kernel
theorem dX6_hasLane_6 : decode cX6_hasLane 6 = .ok (.getfield 15, 3) := by decide +kernel
theorem dX6_hasLane_9 : decode cX6_hasLane 9 = .ok (.if_icmp .ge 13, 3) := by decide +kernel
theorem dX6_hasLane_12 : decode cX6_hasLane 12 = .ok (.iload_n 1, 1) := by decide +kernel
theorem dX6_hasLane_13 : decode cX6_hasLane 13 = .ok (.bipush 10, 2) := by decide +kernel
theorem dX6_hasLane_15 : decode cX6_hasLane 15 = .ok (.if_icmp .ge 7, 3) := by decide +kernel
theorem dX6_hasLane_18 : decode cX6_hasLane 18 = .ok (.iconst 1, 1) := by decide +kernel
theorem dX6_hasLane_19 : decode cX6_hasLane 19 = .ok (.goto 4, 3) := by decide +kernel
theorem dX6_hasLane_22 : decode cX6_hasLane 22 = .ok (.iconst 0, 1) := by decide +kernel
theorem dX6_hasLane_23 : decode cX6_hasLane 23 = .ok (.ireturn, 1) := by decide +kernel
def gX6_hasLane (m : Mem) (v : Nat) (a1 : Int32) : Option (Bool) := (if a1 < 0 then some false else (if (m.1 v 1) ≤ a1 then some false else (if 10 ≤ a1 then some false else some true)))
set_option maxHeartbeats 4000000 in
set_option maxRecDepth 20000 in
theorem LX6_hasLane {n : Nat} {m : Mem} {v : Nat} {a1 : Int32} {r : Bool} (hn : 43 ≤ n) (hv : isV v) (hg : gX6_hasLane m v a1 = some r) : MX yX6_hasLane cX6_hasLane 2 (some .boolean) { frames := 0, cells := 0, slots := 0, locals := 0 } n [.ref v, .int a1] m (some (.int (b2i r))) m := by
  refine MX_of (by decide) (Nat.le_of_ble_eq_true rfl) (Or.inr (Or.inr (Or.inr ⟨rfl, _, rfl⟩))) (fun K hC hk hL hR => ?_)
  replace hn : 43 ≤ kn K := hk.symm ▸ hn
  show RX K 0 [(0, .ref v), (1, .int a1)] [] m
  rw [gX6_hasLane] at hg
  refine R_iload_n (pc := 0) hC 1 dX6_hasLane_0 rfl rfl ?_
  refine R_if_lt (tgt := 22) (pc := 1) hC dX6_hasLane_1 (by decide) (fun c => ?_) (fun c => ?_)
  · replace hg := (if_pos c).symm.trans hg
    refine R_iconst (pc := 22) hC dX6_hasLane_22 ki_0 ?_
    have h9 := gxZ (m := m) hg
    exact R_ireturn (pc := 23) hC dX6_hasLane_23 h9
  · replace hg := (if_neg c).symm.trans hg
    refine R_iload_n (pc := 4) hC 1 dX6_hasLane_4 rfl rfl ?_
    refine R_aload_n (pc := 5) hC 0 dX6_hasLane_5 rfl rfl ?_
    refine gf_X6_15 (pc := 6) hC hn hv dX6_hasLane_6 ?_
    refine R_icmp_ge (tgt := 22) (pc := 9) hC dX6_hasLane_9 (by decide) (fun c => ?_) (fun c => ?_)
    · replace hg := (if_pos c).symm.trans hg
      refine R_iconst (pc := 22) hC dX6_hasLane_22 ki_0 ?_
      have h9 := gxZ (m := m) hg
      exact R_ireturn (pc := 23) hC dX6_hasLane_23 h9
    · replace hg := (if_neg c).symm.trans hg
      refine R_iload_n (pc := 12) hC 1 dX6_hasLane_12 rfl rfl ?_
      refine R_bipush (pc := 13) hC dX6_hasLane_13 kb_10 ?_
      refine R_icmp_ge (tgt := 22) (pc := 15) hC dX6_hasLane_15 (by decide) (fun c => ?_) (fun c => ?_)
      · replace hg := (if_pos c).symm.trans hg
        refine R_iconst (pc := 22) hC dX6_hasLane_22 ki_0 ?_
        have h9 := gxZ (m := m) hg
        exact R_ireturn (pc := 23) hC dX6_hasLane_23 h9
      · replace hg := (if_neg c).symm.trans hg
        refine R_iconst (pc := 18) hC dX6_hasLane_18 ki_1 ?_
        refine R_goto (tgt := 23) (pc := 19) hC dX6_hasLane_19 (by decide) ?_
        have h9 := gxZ (m := m) hg
        exact R_ireturn (pc := 23) hC dX6_hasLane_23 h9
theorem dX6_costOf_0 : decode cX6_costOf 0 = .ok (.iconst 0, 1) := by decide +kernel
theorem dX6_costOf_1 : decode cX6_costOf 1 = .ok (.istore_n 2, 1) := by decide +kernel
theorem dX6_costOf_2 : decode cX6_costOf 2 = .ok (.iconst 0, 1) := by decide +kernel
theorem dX6_costOf_3 : decode cX6_costOf 3 = .ok (.istore_n 3, 1) := by decide +kernel
theorem dX6_costOf_4 : decode cX6_costOf 4 = .ok (.iload_n 3, 1) := by decide +kernel
theorem dX6_costOf_5 : decode cX6_costOf 5 = .ok (.aload_n 0, 1) := by decide +kernel
theorem dX6_costOf_6 : decode cX6_costOf 6 = .ok (.getfield 15, 3) := by decide +kernel
theorem dX6_costOf_9 : decode cX6_costOf 9 = .ok (.if_icmp .ge 32, 3) := by decide +kernel
theorem dX6_costOf_12 : decode cX6_costOf 12 = .ok (.iload_n 3, 1) := by decide +kernel
theorem dX6_costOf_13 : decode cX6_costOf 13 = .ok (.bipush 10, 2) := by decide +kernel
theorem dX6_costOf_15 : decode cX6_costOf 15 = .ok (.if_icmp .ge 26, 3) := by decide +kernel
theorem dX6_costOf_18 : decode cX6_costOf 18 = .ok (.iload_n 1, 1) := by decide +kernel
theorem dX6_costOf_19 : decode cX6_costOf 19 = .ok (.iload_n 3, 1) := by decide +kernel
theorem dX6_costOf_20 : decode cX6_costOf 20 = .ok (.ishr, 1) := by decide +kernel
theorem dX6_costOf_21 : decode cX6_costOf 21 = .ok (.iconst 1, 1) := by decide +kernel
theorem dX6_costOf_22 : decode cX6_costOf 22 = .ok (.iand, 1) := by decide +kernel
theorem dX6_costOf_23 : decode cX6_costOf 23 = .ok (.ifCond .eq 12, 3) := by decide +kernel
theorem dX6_costOf_26 : decode cX6_costOf 26 = .ok (.iload_n 2, 1) := by decide +kernel
theorem dX6_costOf_27 : decode cX6_costOf 27 = .ok (.aload_n 0, 1) := by decide +kernel
theorem dX6_costOf_28 : decode cX6_costOf 28 = .ok (.getfield 37, 3) := by decide +kernel
theorem dX6_costOf_31 : decode cX6_costOf 31 = .ok (.iload_n 3, 1) := by decide +kernel
theorem dX6_costOf_32 : decode cX6_costOf 32 = .ok (.iaload, 1) := by decide +kernel
theorem dX6_costOf_33 : decode cX6_costOf 33 = .ok (.iadd, 1) := by decide +kernel
theorem dX6_costOf_34 : decode cX6_costOf 34 = .ok (.istore_n 2, 1) := by decide +kernel
theorem dX6_costOf_35 : decode cX6_costOf 35 = .ok (.iinc 3 1, 3) := by decide +kernel
theorem dX6_costOf_38 : decode cX6_costOf 38 = .ok (.goto (-34), 3) := by decide +kernel
theorem dX6_costOf_41 : decode cX6_costOf 41 = .ok (.iload_n 2, 1) := by decide +kernel
theorem dX6_costOf_42 : decode cX6_costOf 42 = .ok (.ireturn, 1) := by decide +kernel
def bX6_costOf_4 (m : Mem) (v : Nat) (a1 : Int32) : (Int32 × Int32) → Option ((Int32 × Int32) ⊕ (Int32 × Int32))
  | (y1, y2) => (if (m.1 v 1) ≤ y2 then some (.inr (y1, y2)) else (if 10 ≤ y2 then some (.inr (y1, y2)) else (if ((a1 >>> (y2 &&& 31)) &&& 1) = 0 then some (.inl (y1, y2 + 1)) else chk (inb y2 10) (lete (y1 + (m.1 (v + 5) (Int32.toNatClampNeg y2))) (fun x4 => some (.inl (x4, y2 + 1)))))))
def gX6_costOf (F : Nat) (m : Mem) (v : Nat) (a1 : Int32) : Option (Int32) := (iter F (bX6_costOf_4 m v a1) (0, 0)).bind (fun e5 => some e5.1)
set_option maxHeartbeats 4000000 in
set_option maxRecDepth 20000 in
theorem LX6_costOf {n : Nat} {F : Nat} {m : Mem} {v : Nat} {a1 : Int32} {r : Int32} (hn : 43 ≤ n) (hv : isV v) (hg : gX6_costOf F m v a1 = some r) : MX yX6_costOf cX6_costOf 4 (some .int) { frames := 0, cells := 0, slots := 0, locals := 0 } n [.ref v, .int a1] m (some (.int r)) m := by
  refine MX_of (by decide) (Nat.le_of_ble_eq_true rfl) (Or.inr (Or.inl ⟨rfl, _, rfl⟩)) (fun K hC hk hL hR => ?_)
  replace hn : 43 ≤ kn K := hk.symm ▸ hn
  show RX K 0 [(0, .ref v), (1, .int a1)] [] m
  rw [gX6_costOf] at hg
  refine R_iconst (pc := 0) hC dX6_costOf_0 ki_0 ?_
  refine R_istore_n (pc := 1) hC dX6_costOf_1 rfl hL rfl (show _ = [(2, .int 0), (0, .ref v), (1, .int a1)] from rfl) ?_
  refine R_iconst (pc := 2) hC dX6_costOf_2 ki_0 ?_
  refine R_istore_n (pc := 3) hC dX6_costOf_3 rfl hL rfl (show _ = [(3, .int 0), (2, .int 0), (0, .ref v), (1, .int a1)] from rfl) ?_
  refine R_pick [2, 3, 1, 0] (ls' := [(0, .ref v), (1, .int a1), (2, .int 0), (3, .int 0)]) rfl ?_
  obtain ⟨e5, he5, hg⟩ := bind_some hg
  refine iter_walk (P := fun s : (Int32 × Int32) => RX K 4 [(0, .ref v), (1, .int a1), (2, .int s.1), (3, .int s.2)] [] m) (Qe := fun s : (Int32 × Int32) => RX K 41 [(0, .ref v), (1, .int a1), (2, .int s.1), (3, .int s.2)] [] m) (fun s6 o hg kL4 kE4 => ?_) _ _ _ he5 ?_
  · obtain ⟨y1, y2⟩ := s6
    rw [bX6_costOf_4] at hg
    show RX K 4 [(0, .ref v), (1, .int a1), (2, .int y1), (3, .int y2)] [] m
    refine R_iload_n (pc := 4) hC 3 dX6_costOf_4 rfl rfl ?_
    refine R_aload_n (pc := 5) hC 0 dX6_costOf_5 rfl rfl ?_
    refine gf_X6_15 (pc := 6) hC hn hv dX6_costOf_6 ?_
    refine R_icmp_ge (tgt := 41) (pc := 9) hC dX6_costOf_9 (by decide) (fun c => ?_) (fun c => ?_)
    · replace hg := (if_pos c).symm.trans hg
      refine R_pick [0, 1, 2, 3] (ls' := [(0, .ref v), (1, .int a1), (2, .int y1), (3, .int y2)]) rfl ?_
      have h9 := kE4 _ (Option.some.inj hg).symm
      exact h9
    · replace hg := (if_neg c).symm.trans hg
      refine R_iload_n (pc := 12) hC 3 dX6_costOf_12 rfl rfl ?_
      refine R_bipush (pc := 13) hC dX6_costOf_13 kb_10 ?_
      refine R_icmp_ge (tgt := 41) (pc := 15) hC dX6_costOf_15 (by decide) (fun c => ?_) (fun c => ?_)
      · replace hg := (if_pos c).symm.trans hg
        refine R_pick [0, 1, 2, 3] (ls' := [(0, .ref v), (1, .int a1), (2, .int y1), (3, .int y2)]) rfl ?_
        have h9 := kE4 _ (Option.some.inj hg).symm
        exact h9
      · replace hg := (if_neg c).symm.trans hg
        refine R_iload_n (pc := 18) hC 1 dX6_costOf_18 rfl rfl ?_
        refine R_iload_n (pc := 19) hC 3 dX6_costOf_19 rfl rfl ?_
        refine R_ishr (pc := 20) hC dX6_costOf_20 ?_
        refine R_iconst (pc := 21) hC dX6_costOf_21 ki_1 ?_
        refine R_iand (pc := 22) hC dX6_costOf_22 ?_
        refine R_if_eq (tgt := 35) (pc := 23) hC dX6_costOf_23 (by decide) (fun c => ?_) (fun c => ?_)
        · replace hg := (if_pos c).symm.trans hg
          refine R_iinc (pc := 35) hC 3 dX6_costOf_35 rfl (iv ki_1) hL rfl (show _ = [(3, .int (y2 + 1)), (0, .ref v), (1, .int a1), (2, .int y1)] from rfl) ?_
          refine R_goto (tgt := 4) (pc := 38) hC dX6_costOf_38 (by decide) ?_
          refine R_pick [1, 2, 3, 0] (ls' := [(0, .ref v), (1, .int a1), (2, .int y1), (3, .int (y2 + 1))]) rfl ?_
          have h9 := kL4 _ (Option.some.inj hg).symm
          exact h9
        · replace hg := (if_neg c).symm.trans hg
          refine R_iload_n (pc := 26) hC 2 dX6_costOf_26 rfl rfl ?_
          refine R_aload_n (pc := 27) hC 0 dX6_costOf_27 rfl rfl ?_
          refine gf_X6_37 (pc := 28) hC hn hv dX6_costOf_28 ?_
          refine R_iload_n (pc := 31) hC 3 dX6_costOf_31 rfl rfl ?_
          obtain ⟨c3, hg⟩ := chk_some hg
          refine R_iaload (pc := 32) hC (v + 5) (jv hn hv rfl) (lva5 hv) (inb_vp c3) dX6_costOf_32 ?_
          refine R_iadd (pc := 33) hC dX6_costOf_33 ?_
          obtain ⟨x4, hx4, hg⟩ := lete_some hg
          refine R_top hx4 ?_
          refine R_istore_n (pc := 34) hC dX6_costOf_34 rfl hL rfl (show _ = [(2, .int x4), (0, .ref v), (1, .int a1), (3, .int y2)] from rfl) ?_
          refine R_iinc (pc := 35) hC 3 dX6_costOf_35 rfl (iv ki_1) hL rfl (show _ = [(3, .int (y2 + 1)), (2, .int x4), (0, .ref v), (1, .int a1)] from rfl) ?_
          refine R_goto (tgt := 4) (pc := 38) hC dX6_costOf_38 (by decide) ?_
          refine R_pick [2, 3, 1, 0] (ls' := [(0, .ref v), (1, .int a1), (2, .int x4), (3, .int (y2 + 1))]) rfl ?_
          have h9 := kL4 _ (Option.some.inj hg).symm
          exact h9
  · show RX K 41 [(0, .ref v), (1, .int a1), (2, .int e5.1), (3, .int e5.2)] [] m
    refine R_iload_n (pc := 41) hC 2 dX6_costOf_41 rfl rfl ?_
    have h9 := gxI (m := m) hg
    exact R_ireturn (pc := 42) hC dX6_costOf_42 h9
theorem dX6_allLanes_0 : decode cX6_allLanes 0 = .ok (.iconst 1, 1) := by decide +kernel
theorem dX6_allLanes_1 : decode cX6_allLanes 1 = .ok (.aload_n 0, 1) := by decide +kernel
theorem dX6_allLanes_2 : decode cX6_allLanes 2 = .ok (.getfield 15, 3) := by decide +kernel
theorem dX6_allLanes_5 : decode cX6_allLanes 5 = .ok (.ishl, 1) := by decide +kernel
theorem dX6_allLanes_6 : decode cX6_allLanes 6 = .ok (.iconst 1, 1) := by decide +kernel
theorem dX6_allLanes_7 : decode cX6_allLanes 7 = .ok (.isub, 1) := by decide +kernel
theorem dX6_allLanes_8 : decode cX6_allLanes 8 = .ok (.ireturn, 1) := by decide +kernel
def gX6_allLanes (m : Mem) (v : Nat) : Option (Int32) := some (((1 : Int32) <<< ((m.1 v 1) &&& 31)) - 1)
set_option maxHeartbeats 4000000 in
set_option maxRecDepth 20000 in
theorem LX6_allLanes {n : Nat} {m : Mem} {v : Nat} {r : Int32} (hn : 43 ≤ n) (hv : isV v) (hg : gX6_allLanes m v = some r) : MX yX6_allLanes cX6_allLanes 1 (some .int) { frames := 0, cells := 0, slots := 0, locals := 0 } n [.ref v] m (some (.int r)) m := by
  refine MX_of (by decide) (Nat.le_of_ble_eq_true rfl) (Or.inr (Or.inl ⟨rfl, _, rfl⟩)) (fun K hC hk hL hR => ?_)
  replace hn : 43 ≤ kn K := hk.symm ▸ hn
  show RX K 0 [(0, .ref v)] [] m
  rw [gX6_allLanes] at hg
  refine R_iconst (pc := 0) hC dX6_allLanes_0 ki_1 ?_
  refine R_aload_n (pc := 1) hC 0 dX6_allLanes_1 rfl rfl ?_
  refine gf_X6_15 (pc := 2) hC hn hv dX6_allLanes_2 ?_
  refine R_ishl (pc := 5) hC dX6_allLanes_5 ?_
  refine R_iconst (pc := 6) hC dX6_allLanes_6 ki_1 ?_
  refine R_isub (pc := 7) hC dX6_allLanes_7 ?_
  have h9 := gxI (m := m) hg
  exact R_ireturn (pc := 8) hC dX6_allLanes_8 h9
theorem dX6_hasAll_0 : decode cX6_hasAll 0 = .ok (.iload_n 1, 1) := by decide +kernel
theorem dX6_hasAll_1 : decode cX6_hasAll 1 = .ok (.aload_n 0, 1) := by decide +kernel
theorem dX6_hasAll_2 : decode cX6_hasAll 2 = .ok (.invokevirtual 47, 3) := by decide +kernel
theorem dX6_hasAll_5 : decode cX6_hasAll 5 = .ok (.iconst (-1), 1) := by decide +kernel
theorem dX6_hasAll_6 : decode cX6_hasAll 6 = .ok (.ixor, 1) := by decide +kernel
theorem dX6_hasAll_7 : decode cX6_hasAll 7 = .ok (.iand, 1) := by decide +kernel
theorem dX6_hasAll_8 : decode cX6_hasAll 8 = .ok (.ifCond .ne 7, 3) := by decide +kernel
theorem dX6_hasAll_11 : decode cX6_hasAll 11 = .ok (.iconst 1, 1) := by decide +kernel
theorem dX6_hasAll_12 : decode cX6_hasAll 12 = .ok (.goto 4, 3) := by decide +kernel
theorem dX6_hasAll_15 : decode cX6_hasAll 15 = .ok (.iconst 0, 1) := by decide +kernel
theorem dX6_hasAll_16 : decode cX6_hasAll 16 = .ok (.ireturn, 1) := by decide +kernel
def gX6_hasAll (m : Mem) (v : Nat) (a1 : Int32) : Option (Bool) := (gX6_allLanes m v).bind (fun x1 => (if (a1 &&& (x1 ^^^ (-1))) = 0 then some true else some false))
set_option maxHeartbeats 4000000 in
set_option maxRecDepth 20000 in
theorem LX6_hasAll {n : Nat} {m : Mem} {v : Nat} {a1 : Int32} {r : Bool} (hn : 43 ≤ n) (hv : isV v) (hg : gX6_hasAll m v a1 = some r) : MX yX6_hasAll cX6_hasAll 2 (some .boolean) { frames := 1, cells := 0, slots := 0, locals := 20 } n [.ref v, .int a1] m (some (.int (b2i r))) m := by
  refine MX_of (by decide) (Nat.le_of_ble_eq_true rfl) (Or.inr (Or.inr (Or.inr ⟨rfl, _, rfl⟩))) (fun K hC hk hL hR => ?_)
  replace hn : 43 ≤ kn K := hk.symm ▸ hn
  show RX K 0 [(0, .ref v), (1, .int a1)] [] m
  rw [gX6_hasAll] at hg
  refine R_iload_n (pc := 0) hC 1 dX6_hasAll_0 rfl rfl ?_
  refine R_aload_n (pc := 1) hC 0 dX6_hasAll_1 rfl rfl ?_
  obtain ⟨x1, hx1, hg⟩ := bind_some hg
  refine R_callV (pc := 2) (av := []) (rest := [.int a1]) hC hR v (jv0 hn hv) (layV_of hv) rfl mf_X6_allLanes wm_X6_47 (LX6_allLanes hn hv hx1) rfl rfl rfl (Nat.le_of_ble_eq_true rfl) dX6_hasAll_2 rfl ?_
  show RX K 5 [(0, .ref v), (1, .int a1)] [.int x1, .int a1] m
  refine R_iconst (pc := 5) hC dX6_hasAll_5 ki_m1 ?_
  refine R_ixor (pc := 6) hC dX6_hasAll_6 ?_
  refine R_iand (pc := 7) hC dX6_hasAll_7 ?_
  refine R_if_ne (tgt := 15) (pc := 8) hC dX6_hasAll_8 (by decide) (fun c => ?_) (fun c => ?_)
  · replace hg := (if_neg c).symm.trans hg
    refine R_iconst (pc := 15) hC dX6_hasAll_15 ki_0 ?_
    have h9 := gxZ (m := m) hg
    exact R_ireturn (pc := 16) hC dX6_hasAll_16 h9
  · replace hg := (if_pos c).symm.trans hg
    refine R_iconst (pc := 11) hC dX6_hasAll_11 ki_1 ?_
    refine R_goto (tgt := 16) (pc := 12) hC dX6_hasAll_12 (by decide) ?_
    have h9 := gxZ (m := m) hg
    exact R_ireturn (pc := 16) hC dX6_hasAll_16 h9
theorem dX6_allows_0 : decode cX6_allows 0 = .ok (.iload_n 1, 1) := by decide +kernel
theorem dX6_allows_1 : decode cX6_allows 1 = .ok (.aload_n 0, 1) := by decide +kernel
theorem dX6_allows_2 : decode cX6_allows 2 = .ok (.getfield 18, 3) := by decide +kernel
theorem dX6_allows_5 : decode cX6_allows 5 = .ok (.iand, 1) := by decide +kernel
theorem dX6_allows_6 : decode cX6_allows 6 = .ok (.aload_n 0, 1) := by decide +kernel
theorem dX6_allows_7 : decode cX6_allows 7 = .ok (.getfield 18, 3) := by decide +kernel
theorem dX6_allows_10 : decode cX6_allows 10 = .ok (.if_icmp .ne 16, 3) := by decide +kernel
theorem dX6_allows_13 : decode cX6_allows 13 = .ok (.iload_n 1, 1) := by decide +kernel
theorem dX6_allows_14 : decode cX6_allows 14 = .ok (.aload_n 0, 1) := by decide +kernel
theorem dX6_allows_15 : decode cX6_allows 15 = .ok (.getfield 21, 3) := by decide +kernel
theorem dX6_allows_18 : decode cX6_allows 18 = .ok (.iand, 1) := by decide +kernel
theorem dX6_allows_19 : decode cX6_allows 19 = .ok (.ifCond .ne 7, 3) := by decide +kernel
theorem dX6_allows_22 : decode cX6_allows 22 = .ok (.iconst 1, 1) := by decide +kernel
theorem dX6_allows_23 : decode cX6_allows 23 = .ok (.goto 4, 3) := by decide +kernel
theorem dX6_allows_26 : decode cX6_allows 26 = .ok (.iconst 0, 1) := by decide +kernel
theorem dX6_allows_27 : decode cX6_allows 27 = .ok (.ireturn, 1) := by decide +kernel
def gX6_allows (m : Mem) (v : Nat) (a1 : Int32) : Option (Bool) := (if (a1 &&& (m.1 v 2)) = (m.1 v 2) then (if (a1 &&& (m.1 v 3)) = 0 then some true else some false) else some false)
set_option maxHeartbeats 4000000 in
set_option maxRecDepth 20000 in
theorem LX6_allows {n : Nat} {m : Mem} {v : Nat} {a1 : Int32} {r : Bool} (hn : 43 ≤ n) (hv : isV v) (hg : gX6_allows m v a1 = some r) : MX yX6_allows cX6_allows 2 (some .boolean) { frames := 0, cells := 0, slots := 0, locals := 0 } n [.ref v, .int a1] m (some (.int (b2i r))) m := by
  refine MX_of (by decide) (Nat.le_of_ble_eq_true rfl) (Or.inr (Or.inr (Or.inr ⟨rfl, _, rfl⟩))) (fun K hC hk hL hR => ?_)
  replace hn : 43 ≤ kn K := hk.symm ▸ hn
  show RX K 0 [(0, .ref v), (1, .int a1)] [] m
  rw [gX6_allows] at hg
  refine R_iload_n (pc := 0) hC 1 dX6_allows_0 rfl rfl ?_
  refine R_aload_n (pc := 1) hC 0 dX6_allows_1 rfl rfl ?_
  refine gf_X6_18 (pc := 2) hC hn hv dX6_allows_2 ?_
  refine R_iand (pc := 5) hC dX6_allows_5 ?_
  refine R_aload_n (pc := 6) hC 0 dX6_allows_6 rfl rfl ?_
  refine gf_X6_18 (pc := 7) hC hn hv dX6_allows_7 ?_
  refine R_icmp_ne (tgt := 26) (pc := 10) hC dX6_allows_10 (by decide) (fun c => ?_) (fun c => ?_)
  · replace hg := (if_neg c).symm.trans hg
    refine R_iconst (pc := 26) hC dX6_allows_26 ki_0 ?_
    have h9 := gxZ (m := m) hg
    exact R_ireturn (pc := 27) hC dX6_allows_27 h9
  · replace hg := (if_pos c).symm.trans hg
    refine R_iload_n (pc := 13) hC 1 dX6_allows_13 rfl rfl ?_
    refine R_aload_n (pc := 14) hC 0 dX6_allows_14 rfl rfl ?_
    refine gf_X6_21 (pc := 15) hC hn hv dX6_allows_15 ?_
    refine R_iand (pc := 18) hC dX6_allows_18 ?_
    refine R_if_ne (tgt := 26) (pc := 19) hC dX6_allows_19 (by decide) (fun c => ?_) (fun c => ?_)
    · replace hg := (if_neg c).symm.trans hg
      refine R_iconst (pc := 26) hC dX6_allows_26 ki_0 ?_
      have h9 := gxZ (m := m) hg
      exact R_ireturn (pc := 27) hC dX6_allows_27 h9
    · replace hg := (if_pos c).symm.trans hg
      refine R_iconst (pc := 22) hC dX6_allows_22 ki_1 ?_
      refine R_goto (tgt := 27) (pc := 23) hC dX6_allows_23 (by decide) ?_
      have h9 := gxZ (m := m) hg
      exact R_ireturn (pc := 27) hC dX6_allows_27 h9
theorem dX6_sets_0 : decode cX6_sets 0 = .ok (.iconst 1, 1) := by decide +kernel
theorem dX6_sets_1 : decode cX6_sets 1 = .ok (.aload_n 0, 1) := by decide +kernel
theorem dX6_sets_2 : decode cX6_sets 2 = .ok (.getfield 15, 3) := by decide +kernel
theorem dX6_sets_5 : decode cX6_sets 5 = .ok (.ishl, 1) := by decide +kernel
theorem dX6_sets_6 : decode cX6_sets 6 = .ok (.ireturn, 1) := by decide +kernel
def gX6_sets (m : Mem) (v : Nat) : Option (Int32) := some ((1 : Int32) <<< ((m.1 v 1) &&& 31))
set_option maxHeartbeats 4000000 in
set_option maxRecDepth 20000 in
theorem LX6_sets {n : Nat} {m : Mem} {v : Nat} {r : Int32} (hn : 43 ≤ n) (hv : isV v) (hg : gX6_sets m v = some r) : MX yX6_sets cX6_sets 1 (some .int) { frames := 0, cells := 0, slots := 0, locals := 0 } n [.ref v] m (some (.int r)) m := by
  refine MX_of (by decide) (Nat.le_of_ble_eq_true rfl) (Or.inr (Or.inl ⟨rfl, _, rfl⟩)) (fun K hC hk hL hR => ?_)
  replace hn : 43 ≤ kn K := hk.symm ▸ hn
  show RX K 0 [(0, .ref v)] [] m
  rw [gX6_sets] at hg
  refine R_iconst (pc := 0) hC dX6_sets_0 ki_1 ?_
  refine R_aload_n (pc := 1) hC 0 dX6_sets_1 rfl rfl ?_
  refine gf_X6_15 (pc := 2) hC hn hv dX6_sets_2 ?_
  refine R_ishl (pc := 5) hC dX6_sets_5 ?_
  have h9 := gxI (m := m) hg
  exact R_ireturn (pc := 6) hC dX6_sets_6 h9
theorem dX6_worthOf_0 : decode cX6_worthOf 0 = .ok (.iconst 1, 1) := by decide +kernel
theorem dX6_worthOf_1 : decode cX6_worthOf 1 = .ok (.istore_n 2, 1) := by decide +kernel
theorem dX6_worthOf_2 : decode cX6_worthOf 2 = .ok (.iconst 0, 1) := by decide +kernel
theorem dX6_worthOf_3 : decode cX6_worthOf 3 = .ok (.istore_n 3, 1) := by decide +kernel
theorem dX6_worthOf_4 : decode cX6_worthOf 4 = .ok (.iload_n 3, 1) := by decide +kernel
theorem dX6_worthOf_5 : decode cX6_worthOf 5 = .ok (.aload_n 0, 1) := by decide +kernel
theorem dX6_worthOf_6 : decode cX6_worthOf 6 = .ok (.getfield 15, 3) := by decide +kernel
theorem dX6_worthOf_9 : decode cX6_worthOf 9 = .ok (.if_icmp .ge 32, 3) := by decide +kernel
theorem dX6_worthOf_12 : decode cX6_worthOf 12 = .ok (.iload_n 3, 1) := by decide +kernel
theorem dX6_worthOf_13 : decode cX6_worthOf 13 = .ok (.bipush 10, 2) := by decide +kernel
theorem dX6_worthOf_15 : decode cX6_worthOf 15 = .ok (.if_icmp .ge 26, 3) := by decide +kernel
theorem dX6_worthOf_18 : decode cX6_worthOf 18 = .ok (.iload_n 1, 1) := by decide +kernel
theorem dX6_worthOf_19 : decode cX6_worthOf 19 = .ok (.iload_n 3, 1) := by decide +kernel
theorem dX6_worthOf_20 : decode cX6_worthOf 20 = .ok (.ishr, 1) := by decide +kernel
theorem dX6_worthOf_21 : decode cX6_worthOf 21 = .ok (.iconst 1, 1) := by decide +kernel
theorem dX6_worthOf_22 : decode cX6_worthOf 22 = .ok (.iand, 1) := by decide +kernel
theorem dX6_worthOf_23 : decode cX6_worthOf 23 = .ok (.ifCond .eq 12, 3) := by decide +kernel
theorem dX6_worthOf_26 : decode cX6_worthOf 26 = .ok (.iload_n 2, 1) := by decide +kernel
theorem dX6_worthOf_27 : decode cX6_worthOf 27 = .ok (.aload_n 0, 1) := by decide +kernel
theorem dX6_worthOf_28 : decode cX6_worthOf 28 = .ok (.getfield 34, 3) := by decide +kernel
theorem dX6_worthOf_31 : decode cX6_worthOf 31 = .ok (.iload_n 3, 1) := by decide +kernel
theorem dX6_worthOf_32 : decode cX6_worthOf 32 = .ok (.iaload, 1) := by decide +kernel
theorem dX6_worthOf_33 : decode cX6_worthOf 33 = .ok (.imul, 1) := by decide +kernel
theorem dX6_worthOf_34 : decode cX6_worthOf 34 = .ok (.istore_n 2, 1) := by decide +kernel
theorem dX6_worthOf_35 : decode cX6_worthOf 35 = .ok (.iinc 3 1, 3) := by decide +kernel
theorem dX6_worthOf_38 : decode cX6_worthOf 38 = .ok (.goto (-34), 3) := by decide +kernel
theorem dX6_worthOf_41 : decode cX6_worthOf 41 = .ok (.iload_n 2, 1) := by decide +kernel
theorem dX6_worthOf_42 : decode cX6_worthOf 42 = .ok (.ireturn, 1) := by decide +kernel
def bX6_worthOf_4 (m : Mem) (v : Nat) (a1 : Int32) : (Int32 × Int32) → Option ((Int32 × Int32) ⊕ (Int32 × Int32))
  | (y1, y2) => (if (m.1 v 1) ≤ y2 then some (.inr (y1, y2)) else (if 10 ≤ y2 then some (.inr (y1, y2)) else (if ((a1 >>> (y2 &&& 31)) &&& 1) = 0 then some (.inl (y1, y2 + 1)) else chk (inb y2 10) (lete (y1 * (m.1 (v + 4) (Int32.toNatClampNeg y2))) (fun x4 => some (.inl (x4, y2 + 1)))))))
def gX6_worthOf (F : Nat) (m : Mem) (v : Nat) (a1 : Int32) : Option (Int32) := (iter F (bX6_worthOf_4 m v a1) (1, 0)).bind (fun e5 => some e5.1)
set_option maxHeartbeats 4000000 in
set_option maxRecDepth 20000 in
theorem LX6_worthOf {n : Nat} {F : Nat} {m : Mem} {v : Nat} {a1 : Int32} {r : Int32} (hn : 43 ≤ n) (hv : isV v) (hg : gX6_worthOf F m v a1 = some r) : MX yX6_worthOf cX6_worthOf 4 (some .int) { frames := 0, cells := 0, slots := 0, locals := 0 } n [.ref v, .int a1] m (some (.int r)) m := by
  refine MX_of (by decide) (Nat.le_of_ble_eq_true rfl) (Or.inr (Or.inl ⟨rfl, _, rfl⟩)) (fun K hC hk hL hR => ?_)
  replace hn : 43 ≤ kn K := hk.symm ▸ hn
  show RX K 0 [(0, .ref v), (1, .int a1)] [] m
  rw [gX6_worthOf] at hg
  refine R_iconst (pc := 0) hC dX6_worthOf_0 ki_1 ?_
  refine R_istore_n (pc := 1) hC dX6_worthOf_1 rfl hL rfl (show _ = [(2, .int 1), (0, .ref v), (1, .int a1)] from rfl) ?_
  refine R_iconst (pc := 2) hC dX6_worthOf_2 ki_0 ?_
  refine R_istore_n (pc := 3) hC dX6_worthOf_3 rfl hL rfl (show _ = [(3, .int 0), (2, .int 1), (0, .ref v), (1, .int a1)] from rfl) ?_
  refine R_pick [2, 3, 1, 0] (ls' := [(0, .ref v), (1, .int a1), (2, .int 1), (3, .int 0)]) rfl ?_
  obtain ⟨e5, he5, hg⟩ := bind_some hg
  refine iter_walk (P := fun s : (Int32 × Int32) => RX K 4 [(0, .ref v), (1, .int a1), (2, .int s.1), (3, .int s.2)] [] m) (Qe := fun s : (Int32 × Int32) => RX K 41 [(0, .ref v), (1, .int a1), (2, .int s.1), (3, .int s.2)] [] m) (fun s6 o hg kL4 kE4 => ?_) _ _ _ he5 ?_
  · obtain ⟨y1, y2⟩ := s6
    rw [bX6_worthOf_4] at hg
    show RX K 4 [(0, .ref v), (1, .int a1), (2, .int y1), (3, .int y2)] [] m
    refine R_iload_n (pc := 4) hC 3 dX6_worthOf_4 rfl rfl ?_
    refine R_aload_n (pc := 5) hC 0 dX6_worthOf_5 rfl rfl ?_
    refine gf_X6_15 (pc := 6) hC hn hv dX6_worthOf_6 ?_
    refine R_icmp_ge (tgt := 41) (pc := 9) hC dX6_worthOf_9 (by decide) (fun c => ?_) (fun c => ?_)
    · replace hg := (if_pos c).symm.trans hg
      refine R_pick [0, 1, 2, 3] (ls' := [(0, .ref v), (1, .int a1), (2, .int y1), (3, .int y2)]) rfl ?_
      have h9 := kE4 _ (Option.some.inj hg).symm
      exact h9
    · replace hg := (if_neg c).symm.trans hg
      refine R_iload_n (pc := 12) hC 3 dX6_worthOf_12 rfl rfl ?_
      refine R_bipush (pc := 13) hC dX6_worthOf_13 kb_10 ?_
      refine R_icmp_ge (tgt := 41) (pc := 15) hC dX6_worthOf_15 (by decide) (fun c => ?_) (fun c => ?_)
      · replace hg := (if_pos c).symm.trans hg
        refine R_pick [0, 1, 2, 3] (ls' := [(0, .ref v), (1, .int a1), (2, .int y1), (3, .int y2)]) rfl ?_
        have h9 := kE4 _ (Option.some.inj hg).symm
        exact h9
      · replace hg := (if_neg c).symm.trans hg
        refine R_iload_n (pc := 18) hC 1 dX6_worthOf_18 rfl rfl ?_
        refine R_iload_n (pc := 19) hC 3 dX6_worthOf_19 rfl rfl ?_
        refine R_ishr (pc := 20) hC dX6_worthOf_20 ?_
        refine R_iconst (pc := 21) hC dX6_worthOf_21 ki_1 ?_
        refine R_iand (pc := 22) hC dX6_worthOf_22 ?_
        refine R_if_eq (tgt := 35) (pc := 23) hC dX6_worthOf_23 (by decide) (fun c => ?_) (fun c => ?_)
        · replace hg := (if_pos c).symm.trans hg
          refine R_iinc (pc := 35) hC 3 dX6_worthOf_35 rfl (iv ki_1) hL rfl (show _ = [(3, .int (y2 + 1)), (0, .ref v), (1, .int a1), (2, .int y1)] from rfl) ?_
          refine R_goto (tgt := 4) (pc := 38) hC dX6_worthOf_38 (by decide) ?_
          refine R_pick [1, 2, 3, 0] (ls' := [(0, .ref v), (1, .int a1), (2, .int y1), (3, .int (y2 + 1))]) rfl ?_
          have h9 := kL4 _ (Option.some.inj hg).symm
          exact h9
        · replace hg := (if_neg c).symm.trans hg
          refine R_iload_n (pc := 26) hC 2 dX6_worthOf_26 rfl rfl ?_
          refine R_aload_n (pc := 27) hC 0 dX6_worthOf_27 rfl rfl ?_
          refine gf_X6_34 (pc := 28) hC hn hv dX6_worthOf_28 ?_
          refine R_iload_n (pc := 31) hC 3 dX6_worthOf_31 rfl rfl ?_
          obtain ⟨c3, hg⟩ := chk_some hg
          refine R_iaload (pc := 32) hC (v + 4) (jv hn hv rfl) (lva4 hv) (inb_vp c3) dX6_worthOf_32 ?_
          refine R_imul (pc := 33) hC dX6_worthOf_33 ?_
          obtain ⟨x4, hx4, hg⟩ := lete_some hg
          refine R_top hx4 ?_
          refine R_istore_n (pc := 34) hC dX6_worthOf_34 rfl hL rfl (show _ = [(2, .int x4), (0, .ref v), (1, .int a1), (3, .int y2)] from rfl) ?_
          refine R_iinc (pc := 35) hC 3 dX6_worthOf_35 rfl (iv ki_1) hL rfl (show _ = [(3, .int (y2 + 1)), (2, .int x4), (0, .ref v), (1, .int a1)] from rfl) ?_
          refine R_goto (tgt := 4) (pc := 38) hC dX6_worthOf_38 (by decide) ?_
          refine R_pick [2, 3, 1, 0] (ls' := [(0, .ref v), (1, .int a1), (2, .int x4), (3, .int (y2 + 1))]) rfl ?_
          have h9 := kL4 _ (Option.some.inj hg).symm
          exact h9
  · show RX K 41 [(0, .ref v), (1, .int a1), (2, .int e5.1), (3, .int e5.2)] [] m
    refine R_iload_n (pc := 41) hC 2 dX6_worthOf_41 rfl rfl ?_
    have h9 := gxI (m := m) hg
    exact R_ireturn (pc := 42) hC dX6_worthOf_42 h9
theorem dX6_farthestHouse_0 : decode cX6_farthestHouse 0 = .ok (.iconst (-1), 1) := by decide +kernel
theorem dX6_farthestHouse_1 : decode cX6_farthestHouse 1 = .ok (.istore_n 1, 1) := by decide +kernel
theorem dX6_farthestHouse_2 : decode cX6_farthestHouse 2 = .ok (.iconst 0, 1) := by decide +kernel
theorem dX6_farthestHouse_3 : decode cX6_farthestHouse 3 = .ok (.istore_n 2, 1) := by decide +kernel
theorem dX6_farthestHouse_4 : decode cX6_farthestHouse 4 = .ok (.iload_n 2, 1) := by decide +kernel
theorem dX6_farthestHouse_5 : decode cX6_farthestHouse 5 = .ok (.aload_n 0, 1) := by decide +kernel
theorem dX6_farthestHouse_6 : decode cX6_farthestHouse 6 = .ok (.getfield 15, 3) := by decide +kernel
theorem dX6_farthestHouse_9 : decode cX6_farthestHouse 9 = .ok (.if_icmp .ge 35, 3) := by decide +kernel
theorem dX6_farthestHouse_12 : decode cX6_farthestHouse 12 = .ok (.iload_n 2, 1) := by decide +kernel
theorem dX6_farthestHouse_13 : decode cX6_farthestHouse 13 = .ok (.bipush 10, 2) := by decide +kernel
theorem dX6_farthestHouse_15 : decode cX6_farthestHouse 15 = .ok (.if_icmp .ge 29, 3) := by decide +kernel
theorem dX6_farthestHouse_18 : decode cX6_farthestHouse 18 = .ok (.iload_n 1, 1) := by decide +kernel
theorem dX6_farthestHouse_19 : decode cX6_farthestHouse 19 = .ok (.aload_n 0, 1) := by decide +kernel
theorem dX6_farthestHouse_20 : decode cX6_farthestHouse 20 = .ok (.getfield 28, 3) := by decide +kernel
theorem dX6_farthestHouse_23 : decode cX6_farthestHouse 23 = .ok (.iload_n 2, 1) := by decide +kernel
theorem dX6_farthestHouse_24 : decode cX6_farthestHouse 24 = .ok (.iaload, 1) := by decide +kernel
theorem dX6_farthestHouse_25 : decode cX6_farthestHouse 25 = .ok (.aload_n 0, 1) := by decide +kernel
theorem dX6_farthestHouse_26 : decode cX6_farthestHouse 26 = .ok (.getfield 31, 3) := by decide +kernel
theorem dX6_farthestHouse_29 : decode cX6_farthestHouse 29 = .ok (.iload_n 2, 1) := by decide +kernel
theorem dX6_farthestHouse_30 : decode cX6_farthestHouse 30 = .ok (.iaload, 1) := by decide +kernel
theorem dX6_farthestHouse_31 : decode cX6_farthestHouse 31 = .ok (.invokestatic 53, 3) := by decide +kernel
theorem dX6_farthestHouse_34 : decode cX6_farthestHouse 34 = .ok (.invokestatic 53, 3) := by decide +kernel
theorem dX6_farthestHouse_37 : decode cX6_farthestHouse 37 = .ok (.istore_n 1, 1) := by decide +kernel
theorem dX6_farthestHouse_38 : decode cX6_farthestHouse 38 = .ok (.iinc 2 1, 3) := by decide +kernel
theorem dX6_farthestHouse_41 : decode cX6_farthestHouse 41 = .ok (.goto (-37), 3) := by decide +kernel
theorem dX6_farthestHouse_44 : decode cX6_farthestHouse 44 = .ok (.iload_n 1, 1) := by decide +kernel
theorem dX6_farthestHouse_45 : decode cX6_farthestHouse 45 = .ok (.ireturn, 1) := by decide +kernel
def bX6_farthestHouse_4 (m : Mem) (v : Nat) : (Int32 × Int32) → Option ((Int32 × Int32) ⊕ (Int32 × Int32))
  | (y1, y2) => (if (m.1 v 1) ≤ y2 then some (.inr (y1, y2)) else (if 10 ≤ y2 then some (.inr (y1, y2)) else chk (inb y2 10) (chk (inb y2 10) (lete (if y1 < (if (m.1 (v + 2) (Int32.toNatClampNeg y2)) < (m.1 (v + 3) (Int32.toNatClampNeg y2)) then (m.1 (v + 3) (Int32.toNatClampNeg y2)) else (m.1 (v + 2) (Int32.toNatClampNeg y2))) then (if (m.1 (v + 2) (Int32.toNatClampNeg y2)) < (m.1 (v + 3) (Int32.toNatClampNeg y2)) then (m.1 (v + 3) (Int32.toNatClampNeg y2)) else (m.1 (v + 2) (Int32.toNatClampNeg y2))) else y1) (fun x5 => some (.inl (x5, y2 + 1)))))))
def gX6_farthestHouse (F : Nat) (m : Mem) (v : Nat) : Option (Int32) := (iter F (bX6_farthestHouse_4 m v) ((-1), 0)).bind (fun e6 => some e6.1)
set_option maxHeartbeats 4000000 in
set_option maxRecDepth 20000 in
theorem LX6_farthestHouse {n : Nat} {F : Nat} {m : Mem} {v : Nat} {r : Int32} (hn : 43 ≤ n) (hv : isV v) (hg : gX6_farthestHouse F m v = some r) : MX yX6_farthestHouse cX6_farthestHouse 3 (some .int) { frames := 1, cells := 0, slots := 0, locals := 21 } n [.ref v] m (some (.int r)) m := by
  refine MX_of (by decide) (Nat.le_of_ble_eq_true rfl) (Or.inr (Or.inl ⟨rfl, _, rfl⟩)) (fun K hC hk hL hR => ?_)
  replace hn : 43 ≤ kn K := hk.symm ▸ hn
  show RX K 0 [(0, .ref v)] [] m
  rw [gX6_farthestHouse] at hg
  refine R_iconst (pc := 0) hC dX6_farthestHouse_0 ki_m1 ?_
  refine R_istore_n (pc := 1) hC dX6_farthestHouse_1 rfl hL rfl (show _ = [(1, .int (-1)), (0, .ref v)] from rfl) ?_
  refine R_iconst (pc := 2) hC dX6_farthestHouse_2 ki_0 ?_
  refine R_istore_n (pc := 3) hC dX6_farthestHouse_3 rfl hL rfl (show _ = [(2, .int 0), (1, .int (-1)), (0, .ref v)] from rfl) ?_
  refine R_pick [2, 1, 0] (ls' := [(0, .ref v), (1, .int (-1)), (2, .int 0)]) rfl ?_
  obtain ⟨e6, he6, hg⟩ := bind_some hg
  refine iter_walk (P := fun s : (Int32 × Int32) => RX K 4 [(0, .ref v), (1, .int s.1), (2, .int s.2)] [] m) (Qe := fun s : (Int32 × Int32) => RX K 44 [(0, .ref v), (1, .int s.1), (2, .int s.2)] [] m) (fun s7 o hg kL4 kE4 => ?_) _ _ _ he6 ?_
  · obtain ⟨y1, y2⟩ := s7
    rw [bX6_farthestHouse_4] at hg
    show RX K 4 [(0, .ref v), (1, .int y1), (2, .int y2)] [] m
    refine R_iload_n (pc := 4) hC 2 dX6_farthestHouse_4 rfl rfl ?_
    refine R_aload_n (pc := 5) hC 0 dX6_farthestHouse_5 rfl rfl ?_
    refine gf_X6_15 (pc := 6) hC hn hv dX6_farthestHouse_6 ?_
    refine R_icmp_ge (tgt := 44) (pc := 9) hC dX6_farthestHouse_9 (by decide) (fun c => ?_) (fun c => ?_)
    · replace hg := (if_pos c).symm.trans hg
      refine R_pick [0, 1, 2] (ls' := [(0, .ref v), (1, .int y1), (2, .int y2)]) rfl ?_
      have h9 := kE4 _ (Option.some.inj hg).symm
      exact h9
    · replace hg := (if_neg c).symm.trans hg
      refine R_iload_n (pc := 12) hC 2 dX6_farthestHouse_12 rfl rfl ?_
      refine R_bipush (pc := 13) hC dX6_farthestHouse_13 kb_10 ?_
      refine R_icmp_ge (tgt := 44) (pc := 15) hC dX6_farthestHouse_15 (by decide) (fun c => ?_) (fun c => ?_)
      · replace hg := (if_pos c).symm.trans hg
        refine R_pick [0, 1, 2] (ls' := [(0, .ref v), (1, .int y1), (2, .int y2)]) rfl ?_
        have h9 := kE4 _ (Option.some.inj hg).symm
        exact h9
      · replace hg := (if_neg c).symm.trans hg
        refine R_iload_n (pc := 18) hC 1 dX6_farthestHouse_18 rfl rfl ?_
        refine R_aload_n (pc := 19) hC 0 dX6_farthestHouse_19 rfl rfl ?_
        refine gf_X6_28 (pc := 20) hC hn hv dX6_farthestHouse_20 ?_
        refine R_iload_n (pc := 23) hC 2 dX6_farthestHouse_23 rfl rfl ?_
        obtain ⟨c3, hg⟩ := chk_some hg
        refine R_iaload (pc := 24) hC (v + 2) (jv hn hv rfl) (lva2 hv) (inb_vp c3) dX6_farthestHouse_24 ?_
        refine R_aload_n (pc := 25) hC 0 dX6_farthestHouse_25 rfl rfl ?_
        refine gf_X6_31 (pc := 26) hC hn hv dX6_farthestHouse_26 ?_
        refine R_iload_n (pc := 29) hC 2 dX6_farthestHouse_29 rfl rfl ?_
        obtain ⟨c4, hg⟩ := chk_some hg
        refine R_iaload (pc := 30) hC (v + 3) (jv hn hv rfl) (lva3 hv) (inb_vp c4) dX6_farthestHouse_30 ?_
        refine R_mmax (pc := 31) (rest := [.int y1]) hC hR wm_X6_53 rfl (Nat.le_of_ble_eq_true rfl) dX6_farthestHouse_31 ?_
        refine R_mmax (pc := 34) (rest := []) hC hR wm_X6_53 rfl (Nat.le_of_ble_eq_true rfl) dX6_farthestHouse_34 ?_
        obtain ⟨x5, hx5, hg⟩ := lete_some hg
        refine R_top hx5 ?_
        refine R_istore_n (pc := 37) hC dX6_farthestHouse_37 rfl hL rfl (show _ = [(1, .int x5), (0, .ref v), (2, .int y2)] from rfl) ?_
        refine R_iinc (pc := 38) hC 2 dX6_farthestHouse_38 rfl (iv ki_1) hL rfl (show _ = [(2, .int (y2 + 1)), (1, .int x5), (0, .ref v)] from rfl) ?_
        refine R_goto (tgt := 4) (pc := 41) hC dX6_farthestHouse_41 (by decide) ?_
        refine R_pick [2, 1, 0] (ls' := [(0, .ref v), (1, .int x5), (2, .int (y2 + 1))]) rfl ?_
        have h9 := kL4 _ (Option.some.inj hg).symm
        exact h9
  · show RX K 44 [(0, .ref v), (1, .int e6.1), (2, .int e6.2)] [] m
    refine R_iload_n (pc := 44) hC 1 dX6_farthestHouse_44 rfl rfl ?_
    have h9 := gxI (m := m) hg
    exact R_ireturn (pc := 45) hC dX6_farthestHouse_45 h9
theorem dX6_setHouses_0 : decode cX6_setHouses 0 = .ok (.iload_n 1, 1) := by decide +kernel
theorem dX6_setHouses_1 : decode cX6_setHouses 1 = .ok (.iconst 2, 1) := by decide +kernel
theorem dX6_setHouses_2 : decode cX6_setHouses 2 = .ok (.if_icmp .lt 17, 3) := by decide +kernel
theorem dX6_setHouses_5 : decode cX6_setHouses 5 = .ok (.iload_n 1, 1) := by decide +kernel
theorem dX6_setHouses_6 : decode cX6_setHouses 6 = .ok (.bipush 7, 2) := by decide +kernel
theorem dX6_setHouses_8 : decode cX6_setHouses 8 = .ok (.if_icmp .gt 11, 3) := by decide +kernel
theorem dX6_setHouses_11 : decode cX6_setHouses 11 = .ok (.iload_n 1, 1) := by decide +kernel
theorem dX6_setHouses_12 : decode cX6_setHouses 12 = .ok (.aload_n 0, 1) := by decide +kernel
theorem dX6_setHouses_13 : decode cX6_setHouses 13 = .ok (.invokevirtual 50, 3) := by decide +kernel
theorem dX6_setHouses_16 : decode cX6_setHouses 16 = .ok (.if_icmp .gt 5, 3) := by decide +kernel
theorem dX6_setHouses_19 : decode cX6_setHouses 19 = .ok (.iconst 0, 1) := by decide +kernel
theorem dX6_setHouses_20 : decode cX6_setHouses 20 = .ok (.ireturn, 1) := by decide +kernel
theorem dX6_setHouses_21 : decode cX6_setHouses 21 = .ok (.aload_n 0, 1) := by decide +kernel
theorem dX6_setHouses_22 : decode cX6_setHouses 22 = .ok (.iload_n 1, 1) := by decide +kernel
theorem dX6_setHouses_23 : decode cX6_setHouses 23 = .ok (.putfield 9, 3) := by decide +kernel
theorem dX6_setHouses_26 : decode cX6_setHouses 26 = .ok (.iconst 1, 1) := by decide +kernel
theorem dX6_setHouses_27 : decode cX6_setHouses 27 = .ok (.ireturn, 1) := by decide +kernel
def gX6_setHouses (F : Nat) (m : Mem) (v : Nat) (a1 : Int32) : Option (Bool × Mem) := (if a1 < 2 then some (false, m) else (if 7 < a1 then some (false, m) else (gX6_farthestHouse F m v).bind (fun x1 => (if x1 < a1 then lete (mu m v 0 a1) (fun m2 => some (true, m2)) else some (false, m)))))
set_option maxHeartbeats 4000000 in
set_option maxRecDepth 20000 in
theorem LX6_setHouses {n : Nat} {F : Nat} {m : Mem} {v : Nat} {a1 : Int32} {r : Bool × Mem} (hn : 43 ≤ n) (hv : isV v) (hg : gX6_setHouses F m v a1 = some r) : MX yX6_setHouses cX6_setHouses 2 (some .boolean) { frames := 2, cells := 0, slots := 0, locals := 43 } n [.ref v, .int a1] m (some (.int (b2i r.1))) r.2 := by
  refine MX_of (by decide) (Nat.le_of_ble_eq_true rfl) (Or.inr (Or.inr (Or.inr ⟨rfl, _, rfl⟩))) (fun K hC hk hL hR => ?_)
  replace hn : 43 ≤ kn K := hk.symm ▸ hn
  show RX K 0 [(0, .ref v), (1, .int a1)] [] m
  rw [gX6_setHouses] at hg
  refine R_iload_n (pc := 0) hC 1 dX6_setHouses_0 rfl rfl ?_
  refine R_iconst (pc := 1) hC dX6_setHouses_1 ki_2 ?_
  refine R_icmp_lt (tgt := 19) (pc := 2) hC dX6_setHouses_2 (by decide) (fun c => ?_) (fun c => ?_)
  · replace hg := (if_pos c).symm.trans hg
    refine R_iconst (pc := 19) hC dX6_setHouses_19 ki_0 ?_
    have h9 := gxZM hg
    exact R_ireturn (pc := 20) hC dX6_setHouses_20 h9
  · replace hg := (if_neg c).symm.trans hg
    refine R_iload_n (pc := 5) hC 1 dX6_setHouses_5 rfl rfl ?_
    refine R_bipush (pc := 6) hC dX6_setHouses_6 kb_7 ?_
    refine R_icmp_gt (tgt := 19) (pc := 8) hC dX6_setHouses_8 (by decide) (fun c => ?_) (fun c => ?_)
    · replace hg := (if_pos c).symm.trans hg
      refine R_iconst (pc := 19) hC dX6_setHouses_19 ki_0 ?_
      have h9 := gxZM hg
      exact R_ireturn (pc := 20) hC dX6_setHouses_20 h9
    · replace hg := (if_neg c).symm.trans hg
      refine R_iload_n (pc := 11) hC 1 dX6_setHouses_11 rfl rfl ?_
      refine R_aload_n (pc := 12) hC 0 dX6_setHouses_12 rfl rfl ?_
      obtain ⟨x1, hx1, hg⟩ := bind_some hg
      refine R_callV (pc := 13) (av := []) (rest := [.int a1]) hC hR v (jv0 hn hv) (layV_of hv) rfl mf_X6_farthestHouse wm_X6_50 (LX6_farthestHouse hn hv hx1) rfl rfl rfl (Nat.le_of_ble_eq_true rfl) dX6_setHouses_13 rfl ?_
      show RX K 16 [(0, .ref v), (1, .int a1)] [.int x1, .int a1] m
      refine R_icmp_gt (tgt := 21) (pc := 16) hC dX6_setHouses_16 (by decide) (fun c => ?_) (fun c => ?_)
      · replace hg := (if_pos c).symm.trans hg
        refine R_aload_n (pc := 21) hC 0 dX6_setHouses_21 rfl rfl ?_
        refine R_iload_n (pc := 22) hC 1 dX6_setHouses_22 rfl rfl ?_
        obtain ⟨m2, hm2, hg⟩ := lete_some hg
        refine pf_X6_9 (pc := 23) hC hn hv dX6_setHouses_23 ?_
        refine R_mem hm2 ?_
        refine R_iconst (pc := 26) hC dX6_setHouses_26 ki_1 ?_
        have h9 := gxZM hg
        exact R_ireturn (pc := 27) hC dX6_setHouses_27 h9
      · replace hg := (if_neg c).symm.trans hg
        refine R_iconst (pc := 19) hC dX6_setHouses_19 ki_0 ?_
        have h9 := gxZM hg
        exact R_ireturn (pc := 20) hC dX6_setHouses_20 h9
theorem dX6_setRule_0 : decode cX6_setRule 0 = .ok (.iconst 1, 1) := by decide +kernel
theorem dX6_setRule_1 : decode cX6_setRule 1 = .ok (.iload_n 1, 1) := by decide +kernel
theorem dX6_setRule_2 : decode cX6_setRule 2 = .ok (.ishl, 1) := by decide +kernel
theorem dX6_setRule_3 : decode cX6_setRule 3 = .ok (.istore_n 3, 1) := by decide +kernel
theorem dX6_setRule_4 : decode cX6_setRule 4 = .ok (.aload_n 0, 1) := by decide +kernel
theorem dX6_setRule_5 : decode cX6_setRule 5 = .ok (.iload_n 2, 1) := by decide +kernel
theorem dX6_setRule_6 : decode cX6_setRule 6 = .ok (.iconst 1, 1) := by decide +kernel
theorem dX6_setRule_7 : decode cX6_setRule 7 = .ok (.if_icmp .ne 12, 3) := by decide +kernel
theorem dX6_setRule_10 : decode cX6_setRule 10 = .ok (.aload_n 0, 1) := by decide +kernel
theorem dX6_setRule_11 : decode cX6_setRule 11 = .ok (.getfield 18, 3) := by decide +kernel
theorem dX6_setRule_14 : decode cX6_setRule 14 = .ok (.iload_n 3, 1) := by decide +kernel
theorem dX6_setRule_15 : decode cX6_setRule 15 = .ok (.ior, 1) := by decide +kernel
theorem dX6_setRule_16 : decode cX6_setRule 16 = .ok (.goto 11, 3) := by decide +kernel
theorem dX6_setRule_19 : decode cX6_setRule 19 = .ok (.aload_n 0, 1) := by decide +kernel
theorem dX6_setRule_20 : decode cX6_setRule 20 = .ok (.getfield 18, 3) := by decide +kernel
theorem dX6_setRule_23 : decode cX6_setRule 23 = .ok (.iload_n 3, 1) := by decide +kernel
theorem dX6_setRule_24 : decode cX6_setRule 24 = .ok (.iconst (-1), 1) := by decide +kernel
theorem dX6_setRule_25 : decode cX6_setRule 25 = .ok (.ixor, 1) := by decide +kernel
theorem dX6_setRule_26 : decode cX6_setRule 26 = .ok (.iand, 1) := by decide +kernel
theorem dX6_setRule_27 : decode cX6_setRule 27 = .ok (.putfield 18, 3) := by decide +kernel
theorem dX6_setRule_30 : decode cX6_setRule 30 = .ok (.aload_n 0, 1) := by decide +kernel
theorem dX6_setRule_31 : decode cX6_setRule 31 = .ok (.iload_n 2, 1) := by decide +kernel
theorem dX6_setRule_32 : decode cX6_setRule 32 = .ok (.iconst 2, 1) := by decide +kernel
theorem dX6_setRule_33 : decode cX6_setRule 33 = .ok (.if_icmp .ne 12, 3) := by decide +kernel
theorem dX6_setRule_36 : decode cX6_setRule 36 = .ok (.aload_n 0, 1) := by decide +kernel
theorem dX6_setRule_37 : decode cX6_setRule 37 = .ok (.getfield 21, 3) := by decide +kernel
theorem dX6_setRule_40 : decode cX6_setRule 40 = .ok (.iload_n 3, 1) := by decide +kernel
theorem dX6_setRule_41 : decode cX6_setRule 41 = .ok (.ior, 1) := by decide +kernel
theorem dX6_setRule_42 : decode cX6_setRule 42 = .ok (.goto 11, 3) := by decide +kernel
theorem dX6_setRule_45 : decode cX6_setRule 45 = .ok (.aload_n 0, 1) := by decide +kernel
theorem dX6_setRule_46 : decode cX6_setRule 46 = .ok (.getfield 21, 3) := by decide +kernel
theorem dX6_setRule_49 : decode cX6_setRule 49 = .ok (.iload_n 3, 1) := by decide +kernel
theorem dX6_setRule_50 : decode cX6_setRule 50 = .ok (.iconst (-1), 1) := by decide +kernel
theorem dX6_setRule_51 : decode cX6_setRule 51 = .ok (.ixor, 1) := by decide +kernel
theorem dX6_setRule_52 : decode cX6_setRule 52 = .ok (.iand, 1) := by decide +kernel
theorem dX6_setRule_53 : decode cX6_setRule 53 = .ok (.putfield 21, 3) := by decide +kernel
theorem dX6_setRule_56 : decode cX6_setRule 56 = .ok (.return_, 1) := by decide +kernel
def gX6_setRule (m : Mem) (v : Nat) (a1 : Int32) (a2 : Int32) : Option (Mem) := lete ((1 : Int32) <<< (a1 &&& 31)) (fun x1 => (if a2 = 1 then lete (mu m v 2 ((m.1 v 2) ||| x1)) (fun m5 => (if a2 = 2 then lete (mu m5 v 3 ((m5.1 v 3) ||| x1)) (fun m7 => some m7) else lete (mu m5 v 3 ((m5.1 v 3) &&& (x1 ^^^ (-1)))) (fun m6 => some m6))) else lete (mu m v 2 ((m.1 v 2) &&& (x1 ^^^ (-1)))) (fun m2 => (if a2 = 2 then lete (mu m2 v 3 ((m2.1 v 3) ||| x1)) (fun m4 => some m4) else lete (mu m2 v 3 ((m2.1 v 3) &&& (x1 ^^^ (-1)))) (fun m3 => some m3)))))
set_option maxHeartbeats 4000000 in
set_option maxRecDepth 20000 in
theorem LX6_setRule {n : Nat} {m : Mem} {v : Nat} {a1 : Int32} {a2 : Int32} {r : Mem} (hn : 43 ≤ n) (hv : isV v) (hg : gX6_setRule m v a1 a2 = some r) : MX yX6_setRule cX6_setRule 4 none { frames := 0, cells := 0, slots := 0, locals := 0 } n [.ref v, .int a1, .int a2] m (none) r := by
  refine MX_of (by decide) (Nat.le_of_ble_eq_true rfl) (Or.inl ⟨rfl, rfl⟩) (fun K hC hk hL hR => ?_)
  replace hn : 43 ≤ kn K := hk.symm ▸ hn
  show RX K 0 [(0, .ref v), (1, .int a1), (2, .int a2)] [] m
  rw [gX6_setRule] at hg
  refine R_iconst (pc := 0) hC dX6_setRule_0 ki_1 ?_
  refine R_iload_n (pc := 1) hC 1 dX6_setRule_1 rfl rfl ?_
  refine R_ishl (pc := 2) hC dX6_setRule_2 ?_
  obtain ⟨x1, hx1, hg⟩ := lete_some hg
  refine R_top hx1 ?_
  refine R_istore_n (pc := 3) hC dX6_setRule_3 rfl hL rfl (show _ = [(3, .int x1), (0, .ref v), (1, .int a1), (2, .int a2)] from rfl) ?_
  refine R_aload_n (pc := 4) hC 1 dX6_setRule_4 rfl rfl ?_
  refine R_iload_n (pc := 5) hC 3 dX6_setRule_5 rfl rfl ?_
  refine R_iconst (pc := 6) hC dX6_setRule_6 ki_1 ?_
  refine R_icmp_ne (tgt := 19) (pc := 7) hC dX6_setRule_7 (by decide) (fun c => ?_) (fun c => ?_)
  · replace hg := (if_neg c).symm.trans hg
    refine R_aload_n (pc := 19) hC 1 dX6_setRule_19 rfl rfl ?_
    refine gf_X6_18 (pc := 20) hC hn hv dX6_setRule_20 ?_
    refine R_iload_n (pc := 23) hC 0 dX6_setRule_23 rfl rfl ?_
    refine R_iconst (pc := 24) hC dX6_setRule_24 ki_m1 ?_
    refine R_ixor (pc := 25) hC dX6_setRule_25 ?_
    refine R_iand (pc := 26) hC dX6_setRule_26 ?_
    obtain ⟨m2, hm2, hg⟩ := lete_some hg
    refine pf_X6_18 (pc := 27) hC hn hv dX6_setRule_27 ?_
    refine R_mem hm2 ?_
    refine R_aload_n (pc := 30) hC 1 dX6_setRule_30 rfl rfl ?_
    refine R_iload_n (pc := 31) hC 3 dX6_setRule_31 rfl rfl ?_
    refine R_iconst (pc := 32) hC dX6_setRule_32 ki_2 ?_
    refine R_icmp_ne (tgt := 45) (pc := 33) hC dX6_setRule_33 (by decide) (fun c => ?_) (fun c => ?_)
    · replace hg := (if_neg c).symm.trans hg
      refine R_aload_n (pc := 45) hC 1 dX6_setRule_45 rfl rfl ?_
      refine gf_X6_21 (pc := 46) hC hn hv dX6_setRule_46 ?_
      refine R_iload_n (pc := 49) hC 0 dX6_setRule_49 rfl rfl ?_
      refine R_iconst (pc := 50) hC dX6_setRule_50 ki_m1 ?_
      refine R_ixor (pc := 51) hC dX6_setRule_51 ?_
      refine R_iand (pc := 52) hC dX6_setRule_52 ?_
      obtain ⟨m3, hm3, hg⟩ := lete_some hg
      refine pf_X6_21 (pc := 53) hC hn hv dX6_setRule_53 ?_
      refine R_mem hm3 ?_
      have h9 := gxV hg
      exact R_return (pc := 56) hC dX6_setRule_56 h9
    · replace hg := (if_pos c).symm.trans hg
      refine R_aload_n (pc := 36) hC 1 dX6_setRule_36 rfl rfl ?_
      refine gf_X6_21 (pc := 37) hC hn hv dX6_setRule_37 ?_
      refine R_iload_n (pc := 40) hC 0 dX6_setRule_40 rfl rfl ?_
      refine R_ior (pc := 41) hC dX6_setRule_41 ?_
      refine R_goto (tgt := 53) (pc := 42) hC dX6_setRule_42 (by decide) ?_
      obtain ⟨m4, hm4, hg⟩ := lete_some hg
      refine pf_X6_21 (pc := 53) hC hn hv dX6_setRule_53 ?_
      refine R_mem hm4 ?_
      have h9 := gxV hg
      exact R_return (pc := 56) hC dX6_setRule_56 h9
  · replace hg := (if_pos c).symm.trans hg
    refine R_aload_n (pc := 10) hC 1 dX6_setRule_10 rfl rfl ?_
    refine gf_X6_18 (pc := 11) hC hn hv dX6_setRule_11 ?_
    refine R_iload_n (pc := 14) hC 0 dX6_setRule_14 rfl rfl ?_
    refine R_ior (pc := 15) hC dX6_setRule_15 ?_
    refine R_goto (tgt := 27) (pc := 16) hC dX6_setRule_16 (by decide) ?_
    obtain ⟨m5, hm5, hg⟩ := lete_some hg
    refine pf_X6_18 (pc := 27) hC hn hv dX6_setRule_27 ?_
    refine R_mem hm5 ?_
    refine R_aload_n (pc := 30) hC 1 dX6_setRule_30 rfl rfl ?_
    refine R_iload_n (pc := 31) hC 3 dX6_setRule_31 rfl rfl ?_
    refine R_iconst (pc := 32) hC dX6_setRule_32 ki_2 ?_
    refine R_icmp_ne (tgt := 45) (pc := 33) hC dX6_setRule_33 (by decide) (fun c => ?_) (fun c => ?_)
    · replace hg := (if_neg c).symm.trans hg
      refine R_aload_n (pc := 45) hC 1 dX6_setRule_45 rfl rfl ?_
      refine gf_X6_21 (pc := 46) hC hn hv dX6_setRule_46 ?_
      refine R_iload_n (pc := 49) hC 0 dX6_setRule_49 rfl rfl ?_
      refine R_iconst (pc := 50) hC dX6_setRule_50 ki_m1 ?_
      refine R_ixor (pc := 51) hC dX6_setRule_51 ?_
      refine R_iand (pc := 52) hC dX6_setRule_52 ?_
      obtain ⟨m6, hm6, hg⟩ := lete_some hg
      refine pf_X6_21 (pc := 53) hC hn hv dX6_setRule_53 ?_
      refine R_mem hm6 ?_
      have h9 := gxV hg
      exact R_return (pc := 56) hC dX6_setRule_56 h9
    · replace hg := (if_pos c).symm.trans hg
      refine R_aload_n (pc := 36) hC 1 dX6_setRule_36 rfl rfl ?_
      refine gf_X6_21 (pc := 37) hC hn hv dX6_setRule_37 ?_
      refine R_iload_n (pc := 40) hC 0 dX6_setRule_40 rfl rfl ?_
      refine R_ior (pc := 41) hC dX6_setRule_41 ?_
      refine R_goto (tgt := 53) (pc := 42) hC dX6_setRule_42 (by decide) ?_
      obtain ⟨m7, hm7, hg⟩ := lete_some hg
      refine pf_X6_21 (pc := 53) hC hn hv dX6_setRule_53 ?_
      refine R_mem hm7 ?_
      have h9 := gxV hg
      exact R_return (pc := 56) hC dX6_setRule_56 h9
theorem dX6_hasHouse_0 : decode cX6_hasHouse 0 = .ok (.iload_n 1, 1) := by decide +kernel
theorem dX6_hasHouse_1 : decode cX6_hasHouse 1 = .ok (.ifCond .lt 15, 3) := by decide +kernel
theorem dX6_hasHouse_4 : decode cX6_hasHouse 4 = .ok (.iload_n 1, 1) := by decide +kernel
theorem dX6_hasHouse_5 : decode cX6_hasHouse 5 = .ok (.aload_n 0, 1) := by decide +kernel
theorem dX6_hasHouse_6 : decode cX6_hasHouse 6 = .ok (.getfield 9, 3) := by decide +kernel
theorem dX6_hasHouse_9 : decode cX6_hasHouse 9 = .ok (.if_icmp .ge 7, 3) := by decide +kernel
theorem dX6_hasHouse_12 : decode cX6_hasHouse 12 = .ok (.iconst 1, 1) := by decide +kernel
theorem dX6_hasHouse_13 : decode cX6_hasHouse 13 = .ok (.goto 4, 3) := by decide +kernel
theorem dX6_hasHouse_16 : decode cX6_hasHouse 16 = .ok (.iconst 0, 1) := by decide +kernel
theorem dX6_hasHouse_17 : decode cX6_hasHouse 17 = .ok (.ireturn, 1) := by decide +kernel
def gX6_hasHouse (m : Mem) (v : Nat) (a1 : Int32) : Option (Bool) := (if a1 < 0 then some false else (if (m.1 v 0) ≤ a1 then some false else some true))
set_option maxHeartbeats 4000000 in
set_option maxRecDepth 20000 in
theorem LX6_hasHouse {n : Nat} {m : Mem} {v : Nat} {a1 : Int32} {r : Bool} (hn : 43 ≤ n) (hv : isV v) (hg : gX6_hasHouse m v a1 = some r) : MX yX6_hasHouse cX6_hasHouse 2 (some .boolean) { frames := 0, cells := 0, slots := 0, locals := 0 } n [.ref v, .int a1] m (some (.int (b2i r))) m := by
  refine MX_of (by decide) (Nat.le_of_ble_eq_true rfl) (Or.inr (Or.inr (Or.inr ⟨rfl, _, rfl⟩))) (fun K hC hk hL hR => ?_)
  replace hn : 43 ≤ kn K := hk.symm ▸ hn
  show RX K 0 [(0, .ref v), (1, .int a1)] [] m
  rw [gX6_hasHouse] at hg
  refine R_iload_n (pc := 0) hC 1 dX6_hasHouse_0 rfl rfl ?_
  refine R_if_lt (tgt := 16) (pc := 1) hC dX6_hasHouse_1 (by decide) (fun c => ?_) (fun c => ?_)
  · replace hg := (if_pos c).symm.trans hg
    refine R_iconst (pc := 16) hC dX6_hasHouse_16 ki_0 ?_
    have h9 := gxZ (m := m) hg
    exact R_ireturn (pc := 17) hC dX6_hasHouse_17 h9
  · replace hg := (if_neg c).symm.trans hg
    refine R_iload_n (pc := 4) hC 1 dX6_hasHouse_4 rfl rfl ?_
    refine R_aload_n (pc := 5) hC 0 dX6_hasHouse_5 rfl rfl ?_
    refine gf_X6_9 (pc := 6) hC hn hv dX6_hasHouse_6 ?_
    refine R_icmp_ge (tgt := 16) (pc := 9) hC dX6_hasHouse_9 (by decide) (fun c => ?_) (fun c => ?_)
    · replace hg := (if_pos c).symm.trans hg
      refine R_iconst (pc := 16) hC dX6_hasHouse_16 ki_0 ?_
      have h9 := gxZ (m := m) hg
      exact R_ireturn (pc := 17) hC dX6_hasHouse_17 h9
    · replace hg := (if_neg c).symm.trans hg
      refine R_iconst (pc := 12) hC dX6_hasHouse_12 ki_1 ?_
      refine R_goto (tgt := 17) (pc := 13) hC dX6_hasHouse_13 (by decide) ?_
      have h9 := gxZ (m := m) hg
      exact R_ireturn (pc := 17) hC dX6_hasHouse_17 h9
theorem dX6_weightByKind_0 : decode cX6_weightByKind 0 = .ok (.iload_n 0, 1) := by decide +kernel
theorem dX6_weightByKind_1 : decode cX6_weightByKind 1 = .ok (.lookupswitch 37 #[(1, 27), (5, 31)], 27) := by decide +kernel
theorem dX6_weightByKind_28 : decode cX6_weightByKind 28 = .ok (.iconst 2, 1) := by decide +kernel
theorem dX6_weightByKind_29 : decode cX6_weightByKind 29 = .ok (.iload_n 1, 1) := by decide +kernel
theorem dX6_weightByKind_30 : decode cX6_weightByKind 30 = .ok (.imul, 1) := by decide +kernel
theorem dX6_weightByKind_31 : decode cX6_weightByKind 31 = .ok (.ireturn, 1) := by decide +kernel
theorem dX6_weightByKind_32 : decode cX6_weightByKind 32 = .ok (.iconst 2, 1) := by decide +kernel
theorem dX6_weightByKind_33 : decode cX6_weightByKind 33 = .ok (.iload_n 1, 1) := by decide +kernel
theorem dX6_weightByKind_34 : decode cX6_weightByKind 34 = .ok (.imul, 1) := by decide +kernel
theorem dX6_weightByKind_35 : decode cX6_weightByKind 35 = .ok (.iconst 1, 1) := by decide +kernel
theorem dX6_weightByKind_36 : decode cX6_weightByKind 36 = .ok (.iadd, 1) := by decide +kernel
theorem dX6_weightByKind_37 : decode cX6_weightByKind 37 = .ok (.ireturn, 1) := by decide +kernel
theorem dX6_weightByKind_38 : decode cX6_weightByKind 38 = .ok (.iload_n 1, 1) := by decide +kernel
theorem dX6_weightByKind_39 : decode cX6_weightByKind 39 = .ok (.ireturn, 1) := by decide +kernel
def gX6_weightByKind (a1 : Int32) (a2 : Int32) : Option (Int32) := (if a1 = 1 then some (2 * a2) else (if a1 = 5 then some ((2 * a2) + 1) else some a2))
set_option maxHeartbeats 4000000 in
set_option maxRecDepth 20000 in
theorem LX6_weightByKind {n : Nat} {m : Mem} {a1 : Int32} {a2 : Int32} {r : Int32} (hn : 43 ≤ n) (hg : gX6_weightByKind a1 a2 = some r) : MX yX6_weightByKind cX6_weightByKind 2 (some .int) { frames := 0, cells := 0, slots := 0, locals := 0 } n [.int a1, .int a2] m (some (.int r)) m := by
  refine MX_of (by decide) (Nat.le_of_ble_eq_true rfl) (Or.inr (Or.inl ⟨rfl, _, rfl⟩)) (fun K hC hk hL hR => ?_)
  replace hn : 43 ≤ kn K := hk.symm ▸ hn
  show RX K 0 [(0, .int a1), (1, .int a2)] [] m
  rw [gX6_weightByKind] at hg
  refine R_iload_n (pc := 0) hC 0 dX6_weightByKind_0 rfl rfl ?_
  by_cases c1 : a1 = 1
  · replace hg := (if_pos c1).symm.trans hg
    refine R_top c1 ?_
    refine R_lookup (tgt := 28) (x := 1) (pc := 1) hC dX6_weightByKind_1 (by decide) (by rfl) (by decide) ?_
    refine R_iconst (pc := 28) hC dX6_weightByKind_28 ki_2 ?_
    refine R_iload_n (pc := 29) hC 1 dX6_weightByKind_29 rfl rfl ?_
    refine R_imul (pc := 30) hC dX6_weightByKind_30 ?_
    have h9 := gxI (m := m) hg
    exact R_ireturn (pc := 31) hC dX6_weightByKind_31 h9
  replace hg := (if_neg c1).symm.trans hg
  by_cases c2 : a1 = 5
  · replace hg := (if_pos c2).symm.trans hg
    refine R_top c2 ?_
    refine R_lookup (tgt := 32) (x := 5) (pc := 1) hC dX6_weightByKind_1 (by decide) (by rfl) (by decide) ?_
    refine R_iconst (pc := 32) hC dX6_weightByKind_32 ki_2 ?_
    refine R_iload_n (pc := 33) hC 1 dX6_weightByKind_33 rfl rfl ?_
    refine R_imul (pc := 34) hC dX6_weightByKind_34 ?_
    refine R_iconst (pc := 35) hC dX6_weightByKind_35 ki_1 ?_
    refine R_iadd (pc := 36) hC dX6_weightByKind_36 ?_
    have h9 := gxI (m := m) hg
    exact R_ireturn (pc := 37) hC dX6_weightByKind_37 h9
  replace hg := (if_neg c2).symm.trans hg
  refine R_lookup (tgt := 38) (pc := 1) hC dX6_weightByKind_1 (by decide) (lk_out _ (fun p hp => ?_)) (by decide) ?_
  · simp only [List.mem_cons, List.mem_nil_iff, or_false] at hp
    rcases hp with rfl | rfl
    · exact i32_ne c1 (by decide)
    · exact i32_ne c2 (by decide)
  refine R_iload_n (pc := 38) hC 1 dX6_weightByKind_38 rfl rfl ?_
  have h9 := gxI (m := m) hg
  exact R_ireturn (pc := 39) hC dX6_weightByKind_39 h9
theorem dX6_costByKind_0 : decode cX6_costByKind 0 = .ok (.iload_n 0, 1) := by decide +kernel
theorem dX6_costByKind_1 : decode cX6_costByKind 1 = .ok (.tableswitch 47 2 5 #[31, 47, 36, 43], 31) := by decide +kernel
theorem dX6_costByKind_32 : decode cX6_costByKind 32 = .ok (.iload_n 1, 1) := by decide +kernel
theorem dX6_costByKind_33 : decode cX6_costByKind 33 = .ok (.bipush 10, 2) := by decide +kernel
theorem dX6_costByKind_35 : decode cX6_costByKind 35 = .ok (.iadd, 1) := by decide +kernel
theorem dX6_costByKind_36 : decode cX6_costByKind 36 = .ok (.ireturn, 1) := by decide +kernel
theorem dX6_costByKind_37 : decode cX6_costByKind 37 = .ok (.iconst 2, 1) := by decide +kernel
theorem dX6_costByKind_38 : decode cX6_costByKind 38 = .ok (.iload_n 1, 1) := by decide +kernel
theorem dX6_costByKind_39 : decode cX6_costByKind 39 = .ok (.bipush 10, 2) := by decide +kernel
theorem dX6_costByKind_41 : decode cX6_costByKind 41 = .ok (.iadd, 1) := by decide +kernel
theorem dX6_costByKind_42 : decode cX6_costByKind 42 = .ok (.imul, 1) := by decide +kernel
theorem dX6_costByKind_43 : decode cX6_costByKind 43 = .ok (.ireturn, 1) := by decide +kernel
theorem dX6_costByKind_44 : decode cX6_costByKind 44 = .ok (.iload_n 1, 1) := by decide +kernel
theorem dX6_costByKind_45 : decode cX6_costByKind 45 = .ok (.iconst 2, 1) := by decide +kernel
theorem dX6_costByKind_46 : decode cX6_costByKind 46 = .ok (.idiv, 1) := by decide +kernel
theorem dX6_costByKind_47 : decode cX6_costByKind 47 = .ok (.ireturn, 1) := by decide +kernel
theorem dX6_costByKind_48 : decode cX6_costByKind 48 = .ok (.iload_n 1, 1) := by decide +kernel
theorem dX6_costByKind_49 : decode cX6_costByKind 49 = .ok (.ireturn, 1) := by decide +kernel
def gX6_costByKind (a1 : Int32) (a2 : Int32) : Option (Int32) := (if a1 = 2 then some (a2 + 10) else (if a1 = 3 then some a2 else (if a1 = 4 then some (2 * (a2 + 10)) else (if a1 = 5 then some (a2 / 2) else some a2))))
set_option maxHeartbeats 4000000 in
set_option maxRecDepth 20000 in
theorem LX6_costByKind {n : Nat} {m : Mem} {a1 : Int32} {a2 : Int32} {r : Int32} (hn : 43 ≤ n) (hg : gX6_costByKind a1 a2 = some r) : MX yX6_costByKind cX6_costByKind 2 (some .int) { frames := 0, cells := 0, slots := 0, locals := 0 } n [.int a1, .int a2] m (some (.int r)) m := by
  refine MX_of (by decide) (Nat.le_of_ble_eq_true rfl) (Or.inr (Or.inl ⟨rfl, _, rfl⟩)) (fun K hC hk hL hR => ?_)
  replace hn : 43 ≤ kn K := hk.symm ▸ hn
  show RX K 0 [(0, .int a1), (1, .int a2)] [] m
  rw [gX6_costByKind] at hg
  refine R_iload_n (pc := 0) hC 0 dX6_costByKind_0 rfl rfl ?_
  by_cases c1 : a1 = 2
  · replace hg := (if_pos c1).symm.trans hg
    refine R_top c1 ?_
    refine R_tableIn (tgt := 32) (x := 2) (pc := 1) hC dX6_costByKind_1 (by decide) (by decide) (by rfl) (by decide) ?_
    refine R_iload_n (pc := 32) hC 1 dX6_costByKind_32 rfl rfl ?_
    refine R_bipush (pc := 33) hC dX6_costByKind_33 kb_10 ?_
    refine R_iadd (pc := 35) hC dX6_costByKind_35 ?_
    have h9 := gxI (m := m) hg
    exact R_ireturn (pc := 36) hC dX6_costByKind_36 h9
  replace hg := (if_neg c1).symm.trans hg
  by_cases c2 : a1 = 3
  · replace hg := (if_pos c2).symm.trans hg
    refine R_top c2 ?_
    refine R_tableIn (tgt := 48) (x := 3) (pc := 1) hC dX6_costByKind_1 (by decide) (by decide) (by rfl) (by decide) ?_
    refine R_iload_n (pc := 48) hC 1 dX6_costByKind_48 rfl rfl ?_
    have h9 := gxI (m := m) hg
    exact R_ireturn (pc := 49) hC dX6_costByKind_49 h9
  replace hg := (if_neg c2).symm.trans hg
  by_cases c3 : a1 = 4
  · replace hg := (if_pos c3).symm.trans hg
    refine R_top c3 ?_
    refine R_tableIn (tgt := 37) (x := 4) (pc := 1) hC dX6_costByKind_1 (by decide) (by decide) (by rfl) (by decide) ?_
    refine R_iconst (pc := 37) hC dX6_costByKind_37 ki_2 ?_
    refine R_iload_n (pc := 38) hC 1 dX6_costByKind_38 rfl rfl ?_
    refine R_bipush (pc := 39) hC dX6_costByKind_39 kb_10 ?_
    refine R_iadd (pc := 41) hC dX6_costByKind_41 ?_
    refine R_imul (pc := 42) hC dX6_costByKind_42 ?_
    have h9 := gxI (m := m) hg
    exact R_ireturn (pc := 43) hC dX6_costByKind_43 h9
  replace hg := (if_neg c3).symm.trans hg
  by_cases c4 : a1 = 5
  · replace hg := (if_pos c4).symm.trans hg
    refine R_top c4 ?_
    refine R_tableIn (tgt := 44) (x := 5) (pc := 1) hC dX6_costByKind_1 (by decide) (by decide) (by rfl) (by decide) ?_
    refine R_iload_n (pc := 44) hC 1 dX6_costByKind_44 rfl rfl ?_
    refine R_iconst (pc := 45) hC dX6_costByKind_45 ki_2 ?_
    refine R_idiv (pc := 46) hC dX6_costByKind_46 (by decide) ?_
    have h9 := gxI (m := m) hg
    exact R_ireturn (pc := 47) hC dX6_costByKind_47 h9
  replace hg := (if_neg c4).symm.trans hg
  refine R_tableOut (tgt := 48) (pc := 1) hC dX6_costByKind_1 (tab_out (fun k hk => ?_)) (by decide) ?_
  · have h9 : k = 0 ∨ k = 1 ∨ k = 2 ∨ k = 3 := by omega
    rcases h9 with rfl | rfl | rfl | rfl
    · exact i32_ne c1 (by decide)
    · exact i32_ne c2 (by decide)
    · exact i32_ne c3 (by decide)
    · exact i32_ne c4 (by decide)
  refine R_iload_n (pc := 48) hC 1 dX6_costByKind_48 rfl rfl ?_
  have h9 := gxI (m := m) hg
  exact R_ireturn (pc := 49) hC dX6_costByKind_49 h9
theorem dX6_driftByKind_0 : decode cX6_driftByKind 0 = .ok (.iload_n 0, 1) := by decide +kernel
theorem dX6_driftByKind_1 : decode cX6_driftByKind 1 = .ok (.iconst 4, 1) := by decide +kernel
theorem dX6_driftByKind_2 : decode cX6_driftByKind 2 = .ok (.if_icmp .ne 15, 3) := by decide +kernel
theorem dX6_driftByKind_5 : decode cX6_driftByKind 5 = .ok (.bipush 99, 2) := by decide +kernel
theorem dX6_driftByKind_7 : decode cX6_driftByKind 7 = .ok (.iload_n 1, 1) := by decide +kernel
theorem dX6_driftByKind_8 : decode cX6_driftByKind 8 = .ok (.bipush 20, 2) := by decide +kernel
theorem dX6_driftByKind_10 : decode cX6_driftByKind 10 = .ok (.iadd, 1) := by decide +kernel
theorem dX6_driftByKind_11 : decode cX6_driftByKind 11 = .ok (.invokestatic 80, 3) := by decide +kernel
theorem dX6_driftByKind_14 : decode cX6_driftByKind 14 = .ok (.goto 4, 3) := by decide +kernel
theorem dX6_driftByKind_17 : decode cX6_driftByKind 17 = .ok (.iload_n 1, 1) := by decide +kernel
theorem dX6_driftByKind_18 : decode cX6_driftByKind 18 = .ok (.ireturn, 1) := by decide +kernel
def gX6_driftByKind (a1 : Int32) (a2 : Int32) : Option (Int32) := (if a1 = 4 then some (if (a2 + 20) < 99 then (a2 + 20) else 99) else some a2)
set_option maxHeartbeats 4000000 in
set_option maxRecDepth 20000 in
theorem LX6_driftByKind {n : Nat} {m : Mem} {a1 : Int32} {a2 : Int32} {r : Int32} (hn : 43 ≤ n) (hg : gX6_driftByKind a1 a2 = some r) : MX yX6_driftByKind cX6_driftByKind 2 (some .int) { frames := 1, cells := 0, slots := 0, locals := 21 } n [.int a1, .int a2] m (some (.int r)) m := by
  refine MX_of (by decide) (Nat.le_of_ble_eq_true rfl) (Or.inr (Or.inl ⟨rfl, _, rfl⟩)) (fun K hC hk hL hR => ?_)
  replace hn : 43 ≤ kn K := hk.symm ▸ hn
  show RX K 0 [(0, .int a1), (1, .int a2)] [] m
  rw [gX6_driftByKind] at hg
  refine R_iload_n (pc := 0) hC 0 dX6_driftByKind_0 rfl rfl ?_
  refine R_iconst (pc := 1) hC dX6_driftByKind_1 ki_4 ?_
  refine R_icmp_ne (tgt := 17) (pc := 2) hC dX6_driftByKind_2 (by decide) (fun c => ?_) (fun c => ?_)
  · replace hg := (if_neg c).symm.trans hg
    refine R_iload_n (pc := 17) hC 1 dX6_driftByKind_17 rfl rfl ?_
    have h9 := gxI (m := m) hg
    exact R_ireturn (pc := 18) hC dX6_driftByKind_18 h9
  · replace hg := (if_pos c).symm.trans hg
    refine R_bipush (pc := 5) hC dX6_driftByKind_5 kb_99 ?_
    refine R_iload_n (pc := 7) hC 1 dX6_driftByKind_7 rfl rfl ?_
    refine R_bipush (pc := 8) hC dX6_driftByKind_8 kb_20 ?_
    refine R_iadd (pc := 10) hC dX6_driftByKind_10 ?_
    refine R_mmin (pc := 11) (rest := []) hC hR wm_X6_80 rfl (Nat.le_of_ble_eq_true rfl) dX6_driftByKind_11 ?_
    refine R_goto (tgt := 18) (pc := 14) hC dX6_driftByKind_14 (by decide) ?_
    have h9 := gxI (m := m) hg
    exact R_ireturn (pc := 18) hC dX6_driftByKind_18 h9
theorem dX6_addLane_0 : decode cX6_addLane 0 = .ok (.aload_n 0, 1) := by decide +kernel
theorem dX6_addLane_1 : decode cX6_addLane 1 = .ok (.getfield 15, 3) := by decide +kernel
theorem dX6_addLane_4 : decode cX6_addLane 4 = .ok (.bipush 10, 2) := by decide +kernel
theorem dX6_addLane_6 : decode cX6_addLane 6 = .ok (.if_icmp .ge 24, 3) := by decide +kernel
theorem dX6_addLane_9 : decode cX6_addLane 9 = .ok (.iload_n 1, 1) := by decide +kernel
theorem dX6_addLane_10 : decode cX6_addLane 10 = .ok (.ifCond .lt 20, 3) := by decide +kernel
theorem dX6_addLane_13 : decode cX6_addLane 13 = .ok (.iload_n 1, 1) := by decide +kernel
theorem dX6_addLane_14 : decode cX6_addLane 14 = .ok (.iconst 5, 1) := by decide +kernel
theorem dX6_addLane_15 : decode cX6_addLane 15 = .ok (.if_icmp .gt 15, 3) := by decide +kernel
theorem dX6_addLane_18 : decode cX6_addLane 18 = .ok (.iload 4, 2) := by decide +kernel
theorem dX6_addLane_20 : decode cX6_addLane 20 = .ok (.iconst 1, 1) := by decide +kernel
theorem dX6_addLane_21 : decode cX6_addLane 21 = .ok (.if_icmp .lt 9, 3) := by decide +kernel
theorem dX6_addLane_24 : decode cX6_addLane 24 = .ok (.iload 4, 2) := by decide +kernel
theorem dX6_addLane_26 : decode cX6_addLane 26 = .ok (.iconst 4, 1) := by decide +kernel
theorem dX6_addLane_27 : decode cX6_addLane 27 = .ok (.if_icmp .le 5, 3) := by decide +kernel
theorem dX6_addLane_30 : decode cX6_addLane 30 = .ok (.iconst 0, 1) := by decide +kernel
theorem dX6_addLane_31 : decode cX6_addLane 31 = .ok (.ireturn, 1) := by decide +kernel
theorem dX6_addLane_32 : decode cX6_addLane 32 = .ok (.aload_n 0, 1) := by decide +kernel
theorem dX6_addLane_33 : decode cX6_addLane 33 = .ok (.iload_n 2, 1) := by decide +kernel
theorem dX6_addLane_34 : decode cX6_addLane 34 = .ok (.invokevirtual 59, 3) := by decide +kernel
theorem dX6_addLane_37 : decode cX6_addLane 37 = .ok (.ifCond .eq 16, 3) := by decide +kernel
theorem dX6_addLane_40 : decode cX6_addLane 40 = .ok (.aload_n 0, 1) := by decide +kernel
theorem dX6_addLane_41 : decode cX6_addLane 41 = .ok (.iload_n 3, 1) := by decide +kernel
theorem dX6_addLane_42 : decode cX6_addLane 42 = .ok (.invokevirtual 59, 3) := by decide +kernel
theorem dX6_addLane_45 : decode cX6_addLane 45 = .ok (.ifCond .eq 8, 3) := by decide +kernel
theorem dX6_addLane_48 : decode cX6_addLane 48 = .ok (.iload_n 2, 1) := by decide +kernel
theorem dX6_addLane_49 : decode cX6_addLane 49 = .ok (.iload_n 3, 1) := by decide +kernel
theorem dX6_addLane_50 : decode cX6_addLane 50 = .ok (.if_icmp .ne 5, 3) := by decide +kernel
theorem dX6_addLane_53 : decode cX6_addLane 53 = .ok (.iconst 0, 1) := by decide +kernel
theorem dX6_addLane_54 : decode cX6_addLane 54 = .ok (.ireturn, 1) := by decide +kernel
theorem dX6_addLane_55 : decode cX6_addLane 55 = .ok (.aload_n 0, 1) := by decide +kernel
theorem dX6_addLane_56 : decode cX6_addLane 56 = .ok (.getfield 24, 3) := by decide +kernel
theorem dX6_addLane_59 : decode cX6_addLane 59 = .ok (.aload_n 0, 1) := by decide +kernel
theorem dX6_addLane_60 : decode cX6_addLane 60 = .ok (.getfield 15, 3) := by decide +kernel
theorem dX6_addLane_63 : decode cX6_addLane 63 = .ok (.iload_n 1, 1) := by decide +kernel
theorem dX6_addLane_64 : decode cX6_addLane 64 = .ok (.iastore, 1) := by decide +kernel
theorem dX6_addLane_65 : decode cX6_addLane 65 = .ok (.aload_n 0, 1) := by decide +kernel
theorem dX6_addLane_66 : decode cX6_addLane 66 = .ok (.getfield 28, 3) := by decide +kernel
theorem dX6_addLane_69 : decode cX6_addLane 69 = .ok (.aload_n 0, 1) := by decide +kernel
theorem dX6_addLane_70 : decode cX6_addLane 70 = .ok (.getfield 15, 3) := by decide +kernel
theorem dX6_addLane_73 : decode cX6_addLane 73 = .ok (.iload_n 2, 1) := by decide +kernel
theorem dX6_addLane_74 : decode cX6_addLane 74 = .ok (.iastore, 1) := by decide +kernel
theorem dX6_addLane_75 : decode cX6_addLane 75 = .ok (.aload_n 0, 1) := by decide +kernel
theorem dX6_addLane_76 : decode cX6_addLane 76 = .ok (.getfield 31, 3) := by decide +kernel
theorem dX6_addLane_79 : decode cX6_addLane 79 = .ok (.aload_n 0, 1) := by decide +kernel
theorem dX6_addLane_80 : decode cX6_addLane 80 = .ok (.getfield 15, 3) := by decide +kernel
theorem dX6_addLane_83 : decode cX6_addLane 83 = .ok (.iload_n 3, 1) := by decide +kernel
theorem dX6_addLane_84 : decode cX6_addLane 84 = .ok (.iastore, 1) := by decide +kernel
theorem dX6_addLane_85 : decode cX6_addLane 85 = .ok (.aload_n 0, 1) := by decide +kernel
theorem dX6_addLane_86 : decode cX6_addLane 86 = .ok (.getfield 34, 3) := by decide +kernel
theorem dX6_addLane_89 : decode cX6_addLane 89 = .ok (.aload_n 0, 1) := by decide +kernel
theorem dX6_addLane_90 : decode cX6_addLane 90 = .ok (.getfield 15, 3) := by decide +kernel
theorem dX6_addLane_93 : decode cX6_addLane 93 = .ok (.iload_n 1, 1) := by decide +kernel
theorem dX6_addLane_94 : decode cX6_addLane 94 = .ok (.iload 4, 2) := by decide +kernel
theorem dX6_addLane_96 : decode cX6_addLane 96 = .ok (.invokestatic 63, 3) := by decide +kernel
theorem dX6_addLane_99 : decode cX6_addLane 99 = .ok (.iastore, 1) := by decide +kernel
theorem dX6_addLane_100 : decode cX6_addLane 100 = .ok (.aload_n 0, 1) := by decide +kernel
theorem dX6_addLane_101 : decode cX6_addLane 101 = .ok (.getfield 37, 3) := by decide +kernel
theorem dX6_addLane_104 : decode cX6_addLane 104 = .ok (.aload_n 0, 1) := by decide +kernel
theorem dX6_addLane_105 : decode cX6_addLane 105 = .ok (.getfield 15, 3) := by decide +kernel
theorem dX6_addLane_108 : decode cX6_addLane 108 = .ok (.iload_n 1, 1) := by decide +kernel
theorem dX6_addLane_109 : decode cX6_addLane 109 = .ok (.iload 5, 2) := by decide +kernel
theorem dX6_addLane_111 : decode cX6_addLane 111 = .ok (.invokestatic 66, 3) := by decide +kernel
theorem dX6_addLane_114 : decode cX6_addLane 114 = .ok (.iastore, 1) := by decide +kernel
theorem dX6_addLane_115 : decode cX6_addLane 115 = .ok (.aload_n 0, 1) := by decide +kernel
theorem dX6_addLane_116 : decode cX6_addLane 116 = .ok (.getfield 40, 3) := by decide +kernel
theorem dX6_addLane_119 : decode cX6_addLane 119 = .ok (.aload_n 0, 1) := by decide +kernel
theorem dX6_addLane_120 : decode cX6_addLane 120 = .ok (.getfield 15, 3) := by decide +kernel
theorem dX6_addLane_123 : decode cX6_addLane 123 = .ok (.iload_n 1, 1) := by decide +kernel
theorem dX6_addLane_124 : decode cX6_addLane 124 = .ok (.iload 6, 2) := by decide +kernel
theorem dX6_addLane_126 : decode cX6_addLane 126 = .ok (.invokestatic 69, 3) := by decide +kernel
theorem dX6_addLane_129 : decode cX6_addLane 129 = .ok (.iastore, 1) := by decide +kernel
theorem dX6_addLane_130 : decode cX6_addLane 130 = .ok (.aload_n 0, 1) := by decide +kernel
theorem dX6_addLane_131 : decode cX6_addLane 131 = .ok (.dup, 1) := by decide +kernel
theorem dX6_addLane_132 : decode cX6_addLane 132 = .ok (.getfield 15, 3) := by decide +kernel
theorem dX6_addLane_135 : decode cX6_addLane 135 = .ok (.iconst 1, 1) := by decide +kernel
theorem dX6_addLane_136 : decode cX6_addLane 136 = .ok (.iadd, 1) := by decide +kernel
theorem dX6_addLane_137 : decode cX6_addLane 137 = .ok (.putfield 15, 3) := by decide +kernel
theorem dX6_addLane_140 : decode cX6_addLane 140 = .ok (.iconst 1, 1) := by decide +kernel
theorem dX6_addLane_141 : decode cX6_addLane 141 = .ok (.ireturn, 1) := by decide +kernel
def gX6_addLane (m : Mem) (v : Nat) (a1 : Int32) (a2 : Int32) (a3 : Int32) (a4 : Int32) (a5 : Int32) (a6 : Int32) : Option (Bool × Mem) := (if 10 ≤ (m.1 v 1) then some (false, m) else (if a1 < 0 then some (false, m) else (if 5 < a1 then some (false, m) else (if a4 < 1 then some (false, m) else (if a4 ≤ 4 then (gX6_hasHouse m v a2).bind (fun x1 => (if x1 = true then (gX6_hasHouse m v a3).bind (fun x2 => (if x2 = true then (if a2 = a3 then some (false, m) else chk (inb (m.1 v 1) 10) (lete (mu m (v + 1) (Int32.toNatClampNeg (m.1 v 1)) a1) (fun m4 => chk (inb (m4.1 v 1) 10) (lete (mu m4 (v + 2) (Int32.toNatClampNeg (m4.1 v 1)) a2) (fun m6 => chk (inb (m6.1 v 1) 10) (lete (mu m6 (v + 3) (Int32.toNatClampNeg (m6.1 v 1)) a3) (fun m8 => (gX6_weightByKind a1 a4).bind (fun x9 => chk (inb (m8.1 v 1) 10) (lete (mu m8 (v + 4) (Int32.toNatClampNeg (m8.1 v 1)) x9) (fun m11 => (gX6_costByKind a1 a5).bind (fun x12 => chk (inb (m11.1 v 1) 10) (lete (mu m11 (v + 5) (Int32.toNatClampNeg (m11.1 v 1)) x12) (fun m14 => (gX6_driftByKind a1 a6).bind (fun x15 => chk (inb (m14.1 v 1) 10) (lete (mu m14 (v + 6) (Int32.toNatClampNeg (m14.1 v 1)) x15) (fun m17 => lete (mu m17 v 1 ((m17.1 v 1) + 1)) (fun m18 => some (true, m18)))))))))))))))))) else some (false, m))) else some (false, m))) else some (false, m))))))
set_option maxHeartbeats 4000000 in
set_option maxRecDepth 20000 in
theorem LX6_addLane {n : Nat} {m : Mem} {v : Nat} {a1 : Int32} {a2 : Int32} {a3 : Int32} {a4 : Int32} {a5 : Int32} {a6 : Int32} {r : Bool × Mem} (hn : 43 ≤ n) (hv : isV v) (hg : gX6_addLane m v a1 a2 a3 a4 a5 a6 = some r) : MX yX6_addLane cX6_addLane 7 (some .boolean) { frames := 2, cells := 0, slots := 0, locals := 42 } n [.ref v, .int a1, .int a2, .int a3, .int a4, .int a5, .int a6] m (some (.int (b2i r.1))) r.2 := by
  refine MX_of (by decide) (Nat.le_of_ble_eq_true rfl) (Or.inr (Or.inr (Or.inr ⟨rfl, _, rfl⟩))) (fun K hC hk hL hR => ?_)
  replace hn : 43 ≤ kn K := hk.symm ▸ hn
  show RX K 0 [(0, .ref v), (1, .int a1), (2, .int a2), (3, .int a3), (4, .int a4), (5, .int a5), (6, .int a6)] [] m
  rw [gX6_addLane] at hg
  refine R_aload_n (pc := 0) hC 0 dX6_addLane_0 rfl rfl ?_
  refine gf_X6_15 (pc := 1) hC hn hv dX6_addLane_1 ?_
  refine R_bipush (pc := 4) hC dX6_addLane_4 kb_10 ?_
  refine R_icmp_ge (tgt := 30) (pc := 6) hC dX6_addLane_6 (by decide) (fun c => ?_) (fun c => ?_)
  · replace hg := (if_pos c).symm.trans hg
    refine R_iconst (pc := 30) hC dX6_addLane_30 ki_0 ?_
    have h9 := gxZM hg
    exact R_ireturn (pc := 31) hC dX6_addLane_31 h9
  · replace hg := (if_neg c).symm.trans hg
    refine R_iload_n (pc := 9) hC 1 dX6_addLane_9 rfl rfl ?_
    refine R_if_lt (tgt := 30) (pc := 10) hC dX6_addLane_10 (by decide) (fun c => ?_) (fun c => ?_)
    · replace hg := (if_pos c).symm.trans hg
      refine R_iconst (pc := 30) hC dX6_addLane_30 ki_0 ?_
      have h9 := gxZM hg
      exact R_ireturn (pc := 31) hC dX6_addLane_31 h9
    · replace hg := (if_neg c).symm.trans hg
      refine R_iload_n (pc := 13) hC 1 dX6_addLane_13 rfl rfl ?_
      refine R_iconst (pc := 14) hC dX6_addLane_14 ki_5 ?_
      refine R_icmp_gt (tgt := 30) (pc := 15) hC dX6_addLane_15 (by decide) (fun c => ?_) (fun c => ?_)
      · replace hg := (if_pos c).symm.trans hg
        refine R_iconst (pc := 30) hC dX6_addLane_30 ki_0 ?_
        have h9 := gxZM hg
        exact R_ireturn (pc := 31) hC dX6_addLane_31 h9
      · replace hg := (if_neg c).symm.trans hg
        refine R_iload (pc := 18) hC 4 dX6_addLane_18 rfl ?_
        refine R_iconst (pc := 20) hC dX6_addLane_20 ki_1 ?_
        refine R_icmp_lt (tgt := 30) (pc := 21) hC dX6_addLane_21 (by decide) (fun c => ?_) (fun c => ?_)
        · replace hg := (if_pos c).symm.trans hg
          refine R_iconst (pc := 30) hC dX6_addLane_30 ki_0 ?_
          have h9 := gxZM hg
          exact R_ireturn (pc := 31) hC dX6_addLane_31 h9
        · replace hg := (if_neg c).symm.trans hg
          refine R_iload (pc := 24) hC 4 dX6_addLane_24 rfl ?_
          refine R_iconst (pc := 26) hC dX6_addLane_26 ki_4 ?_
          refine R_icmp_le (tgt := 32) (pc := 27) hC dX6_addLane_27 (by decide) (fun c => ?_) (fun c => ?_)
          · replace hg := (if_pos c).symm.trans hg
            refine R_aload_n (pc := 32) hC 0 dX6_addLane_32 rfl rfl ?_
            refine R_iload_n (pc := 33) hC 2 dX6_addLane_33 rfl rfl ?_
            obtain ⟨x1, hx1, hg⟩ := bind_some hg
            refine R_callV (pc := 34) (av := [.int a2]) (rest := []) hC hR v (jv0 hn hv) (layV_of hv) rfl mf_X6_hasHouse wm_X6_59 (LX6_hasHouse hn hv hx1) rfl rfl rfl (Nat.le_of_ble_eq_true rfl) dX6_addLane_34 rfl ?_
            show RX K 37 [(0, .ref v), (1, .int a1), (2, .int a2), (3, .int a3), (4, .int a4), (5, .int a5), (6, .int a6)] [.int (b2i x1)] m
            refine R_ifB_eq (tgt := 53) (pc := 37) hC dX6_addLane_37 (by decide) (fun c => ?_) (fun c => ?_)
            · replace hg := (if_neg c).symm.trans hg
              refine R_iconst (pc := 53) hC dX6_addLane_53 ki_0 ?_
              have h9 := gxZM hg
              exact R_ireturn (pc := 54) hC dX6_addLane_54 h9
            · replace hg := (if_pos c).symm.trans hg
              refine R_aload_n (pc := 40) hC 0 dX6_addLane_40 rfl rfl ?_
              refine R_iload_n (pc := 41) hC 3 dX6_addLane_41 rfl rfl ?_
              obtain ⟨x2, hx2, hg⟩ := bind_some hg
              refine R_callV (pc := 42) (av := [.int a3]) (rest := []) hC hR v (jv0 hn hv) (layV_of hv) rfl mf_X6_hasHouse wm_X6_59 (LX6_hasHouse hn hv hx2) rfl rfl rfl (Nat.le_of_ble_eq_true rfl) dX6_addLane_42 rfl ?_
              show RX K 45 [(0, .ref v), (1, .int a1), (2, .int a2), (3, .int a3), (4, .int a4), (5, .int a5), (6, .int a6)] [.int (b2i x2)] m
              refine R_ifB_eq (tgt := 53) (pc := 45) hC dX6_addLane_45 (by decide) (fun c => ?_) (fun c => ?_)
              · replace hg := (if_neg c).symm.trans hg
                refine R_iconst (pc := 53) hC dX6_addLane_53 ki_0 ?_
                have h9 := gxZM hg
                exact R_ireturn (pc := 54) hC dX6_addLane_54 h9
              · replace hg := (if_pos c).symm.trans hg
                refine R_iload_n (pc := 48) hC 2 dX6_addLane_48 rfl rfl ?_
                refine R_iload_n (pc := 49) hC 3 dX6_addLane_49 rfl rfl ?_
                refine R_icmp_ne (tgt := 55) (pc := 50) hC dX6_addLane_50 (by decide) (fun c => ?_) (fun c => ?_)
                · replace hg := (if_neg c).symm.trans hg
                  refine R_aload_n (pc := 55) hC 0 dX6_addLane_55 rfl rfl ?_
                  refine gf_X6_24 (pc := 56) hC hn hv dX6_addLane_56 ?_
                  refine R_aload_n (pc := 59) hC 0 dX6_addLane_59 rfl rfl ?_
                  refine gf_X6_15 (pc := 60) hC hn hv dX6_addLane_60 ?_
                  refine R_iload_n (pc := 63) hC 1 dX6_addLane_63 rfl rfl ?_
                  obtain ⟨c3, hg⟩ := chk_some hg
                  obtain ⟨m4, hm4, hg⟩ := lete_some hg
                  refine R_iastore (pc := 64) hC (v + 1) (jv hn hv rfl) (lva1 hv) (inb_vp c3) dX6_addLane_64 ?_
                  refine R_mem hm4 ?_
                  refine R_aload_n (pc := 65) hC 0 dX6_addLane_65 rfl rfl ?_
                  refine gf_X6_28 (pc := 66) hC hn hv dX6_addLane_66 ?_
                  refine R_aload_n (pc := 69) hC 0 dX6_addLane_69 rfl rfl ?_
                  refine gf_X6_15 (pc := 70) hC hn hv dX6_addLane_70 ?_
                  refine R_iload_n (pc := 73) hC 2 dX6_addLane_73 rfl rfl ?_
                  obtain ⟨c5, hg⟩ := chk_some hg
                  obtain ⟨m6, hm6, hg⟩ := lete_some hg
                  refine R_iastore (pc := 74) hC (v + 2) (jv hn hv rfl) (lva2 hv) (inb_vp c5) dX6_addLane_74 ?_
                  refine R_mem hm6 ?_
                  refine R_aload_n (pc := 75) hC 0 dX6_addLane_75 rfl rfl ?_
                  refine gf_X6_31 (pc := 76) hC hn hv dX6_addLane_76 ?_
                  refine R_aload_n (pc := 79) hC 0 dX6_addLane_79 rfl rfl ?_
                  refine gf_X6_15 (pc := 80) hC hn hv dX6_addLane_80 ?_
                  refine R_iload_n (pc := 83) hC 3 dX6_addLane_83 rfl rfl ?_
                  obtain ⟨c7, hg⟩ := chk_some hg
                  obtain ⟨m8, hm8, hg⟩ := lete_some hg
                  refine R_iastore (pc := 84) hC (v + 3) (jv hn hv rfl) (lva3 hv) (inb_vp c7) dX6_addLane_84 ?_
                  refine R_mem hm8 ?_
                  refine R_aload_n (pc := 85) hC 0 dX6_addLane_85 rfl rfl ?_
                  refine gf_X6_34 (pc := 86) hC hn hv dX6_addLane_86 ?_
                  refine R_aload_n (pc := 89) hC 0 dX6_addLane_89 rfl rfl ?_
                  refine gf_X6_15 (pc := 90) hC hn hv dX6_addLane_90 ?_
                  refine R_iload_n (pc := 93) hC 1 dX6_addLane_93 rfl rfl ?_
                  refine R_iload (pc := 94) hC 4 dX6_addLane_94 rfl ?_
                  obtain ⟨x9, hx9, hg⟩ := bind_some hg
                  refine R_callS (pc := 96) (av := [.int a1, .int a4]) (rest := [.int (m8.1 v 1), .ref (v + 4)]) hC hR mf_X6_weightByKind wm_X6_63 (LX6_weightByKind hn hx9) rfl rfl rfl (Nat.le_of_ble_eq_true rfl) dX6_addLane_96 rfl ?_
                  show RX K 99 [(0, .ref v), (1, .int a1), (2, .int a2), (3, .int a3), (4, .int a4), (5, .int a5), (6, .int a6)] [.int x9, .int (m8.1 v 1), .ref (v + 4)] m8
                  obtain ⟨c10, hg⟩ := chk_some hg
                  obtain ⟨m11, hm11, hg⟩ := lete_some hg
                  refine R_iastore (pc := 99) hC (v + 4) (jv hn hv rfl) (lva4 hv) (inb_vp c10) dX6_addLane_99 ?_
                  refine R_mem hm11 ?_
                  refine R_aload_n (pc := 100) hC 0 dX6_addLane_100 rfl rfl ?_
                  refine gf_X6_37 (pc := 101) hC hn hv dX6_addLane_101 ?_
                  refine R_aload_n (pc := 104) hC 0 dX6_addLane_104 rfl rfl ?_
                  refine gf_X6_15 (pc := 105) hC hn hv dX6_addLane_105 ?_
                  refine R_iload_n (pc := 108) hC 1 dX6_addLane_108 rfl rfl ?_
                  refine R_iload (pc := 109) hC 5 dX6_addLane_109 rfl ?_
                  obtain ⟨x12, hx12, hg⟩ := bind_some hg
                  refine R_callS (pc := 111) (av := [.int a1, .int a5]) (rest := [.int (m11.1 v 1), .ref (v + 5)]) hC hR mf_X6_costByKind wm_X6_66 (LX6_costByKind hn hx12) rfl rfl rfl (Nat.le_of_ble_eq_true rfl) dX6_addLane_111 rfl ?_
                  show RX K 114 [(0, .ref v), (1, .int a1), (2, .int a2), (3, .int a3), (4, .int a4), (5, .int a5), (6, .int a6)] [.int x12, .int (m11.1 v 1), .ref (v + 5)] m11
                  obtain ⟨c13, hg⟩ := chk_some hg
                  obtain ⟨m14, hm14, hg⟩ := lete_some hg
                  refine R_iastore (pc := 114) hC (v + 5) (jv hn hv rfl) (lva5 hv) (inb_vp c13) dX6_addLane_114 ?_
                  refine R_mem hm14 ?_
                  refine R_aload_n (pc := 115) hC 0 dX6_addLane_115 rfl rfl ?_
                  refine gf_X6_40 (pc := 116) hC hn hv dX6_addLane_116 ?_
                  refine R_aload_n (pc := 119) hC 0 dX6_addLane_119 rfl rfl ?_
                  refine gf_X6_15 (pc := 120) hC hn hv dX6_addLane_120 ?_
                  refine R_iload_n (pc := 123) hC 1 dX6_addLane_123 rfl rfl ?_
                  refine R_iload (pc := 124) hC 6 dX6_addLane_124 rfl ?_
                  obtain ⟨x15, hx15, hg⟩ := bind_some hg
                  refine R_callS (pc := 126) (av := [.int a1, .int a6]) (rest := [.int (m14.1 v 1), .ref (v + 6)]) hC hR mf_X6_driftByKind wm_X6_69 (LX6_driftByKind hn hx15) rfl rfl rfl (Nat.le_of_ble_eq_true rfl) dX6_addLane_126 rfl ?_
                  show RX K 129 [(0, .ref v), (1, .int a1), (2, .int a2), (3, .int a3), (4, .int a4), (5, .int a5), (6, .int a6)] [.int x15, .int (m14.1 v 1), .ref (v + 6)] m14
                  obtain ⟨c16, hg⟩ := chk_some hg
                  obtain ⟨m17, hm17, hg⟩ := lete_some hg
                  refine R_iastore (pc := 129) hC (v + 6) (jv hn hv rfl) (lva6 hv) (inb_vp c16) dX6_addLane_129 ?_
                  refine R_mem hm17 ?_
                  refine R_aload_n (pc := 130) hC 0 dX6_addLane_130 rfl rfl ?_
                  refine R_dup (pc := 131) hC dX6_addLane_131 rfl ?_
                  refine gf_X6_15 (pc := 132) hC hn hv dX6_addLane_132 ?_
                  refine R_iconst (pc := 135) hC dX6_addLane_135 ki_1 ?_
                  refine R_iadd (pc := 136) hC dX6_addLane_136 ?_
                  obtain ⟨m18, hm18, hg⟩ := lete_some hg
                  refine pf_X6_15 (pc := 137) hC hn hv dX6_addLane_137 ?_
                  refine R_mem hm18 ?_
                  refine R_iconst (pc := 140) hC dX6_addLane_140 ki_1 ?_
                  have h9 := gxZM hg
                  exact R_ireturn (pc := 141) hC dX6_addLane_141 h9
                · replace hg := (if_pos c).symm.trans hg
                  refine R_iconst (pc := 53) hC dX6_addLane_53 ki_0 ?_
                  have h9 := gxZM hg
                  exact R_ireturn (pc := 54) hC dX6_addLane_54 h9
          · replace hg := (if_neg c).symm.trans hg
            refine R_iconst (pc := 30) hC dX6_addLane_30 ki_0 ?_
            have h9 := gxZM hg
            exact R_ireturn (pc := 31) hC dX6_addLane_31 h9
theorem dX6_ruleOf_0 : decode cX6_ruleOf 0 = .ok (.iconst 1, 1) := by decide +kernel
theorem dX6_ruleOf_1 : decode cX6_ruleOf 1 = .ok (.iload_n 1, 1) := by decide +kernel
theorem dX6_ruleOf_2 : decode cX6_ruleOf 2 = .ok (.ishl, 1) := by decide +kernel
theorem dX6_ruleOf_3 : decode cX6_ruleOf 3 = .ok (.istore_n 2, 1) := by decide +kernel
theorem dX6_ruleOf_4 : decode cX6_ruleOf 4 = .ok (.aload_n 0, 1) := by decide +kernel
theorem dX6_ruleOf_5 : decode cX6_ruleOf 5 = .ok (.getfield 18, 3) := by decide +kernel
theorem dX6_ruleOf_8 : decode cX6_ruleOf 8 = .ok (.iload_n 2, 1) := by decide +kernel
theorem dX6_ruleOf_9 : decode cX6_ruleOf 9 = .ok (.iand, 1) := by decide +kernel
theorem dX6_ruleOf_10 : decode cX6_ruleOf 10 = .ok (.ifCond .eq 5, 3) := by decide +kernel
theorem dX6_ruleOf_13 : decode cX6_ruleOf 13 = .ok (.iconst 1, 1) := by decide +kernel
theorem dX6_ruleOf_14 : decode cX6_ruleOf 14 = .ok (.ireturn, 1) := by decide +kernel
theorem dX6_ruleOf_15 : decode cX6_ruleOf 15 = .ok (.aload_n 0, 1) := by decide +kernel
theorem dX6_ruleOf_16 : decode cX6_ruleOf 16 = .ok (.getfield 21, 3) := by decide +kernel
theorem dX6_ruleOf_19 : decode cX6_ruleOf 19 = .ok (.iload_n 2, 1) := by decide +kernel
theorem dX6_ruleOf_20 : decode cX6_ruleOf 20 = .ok (.iand, 1) := by decide +kernel
theorem dX6_ruleOf_21 : decode cX6_ruleOf 21 = .ok (.ifCond .eq 7, 3) := by decide +kernel
theorem dX6_ruleOf_24 : decode cX6_ruleOf 24 = .ok (.iconst 2, 1) := by decide +kernel
theorem dX6_ruleOf_25 : decode cX6_ruleOf 25 = .ok (.goto 4, 3) := by decide +kernel
theorem dX6_ruleOf_28 : decode cX6_ruleOf 28 = .ok (.iconst 0, 1) := by decide +kernel
theorem dX6_ruleOf_29 : decode cX6_ruleOf 29 = .ok (.ireturn, 1) := by decide +kernel
def gX6_ruleOf (m : Mem) (v : Nat) (a1 : Int32) : Option (Int32) := lete ((1 : Int32) <<< (a1 &&& 31)) (fun x1 => (if ((m.1 v 2) &&& x1) = 0 then (if ((m.1 v 3) &&& x1) = 0 then some 0 else some 2) else some 1))
set_option maxHeartbeats 4000000 in
set_option maxRecDepth 20000 in
theorem LX6_ruleOf {n : Nat} {m : Mem} {v : Nat} {a1 : Int32} {r : Int32} (hn : 43 ≤ n) (hv : isV v) (hg : gX6_ruleOf m v a1 = some r) : MX yX6_ruleOf cX6_ruleOf 3 (some .int) { frames := 0, cells := 0, slots := 0, locals := 0 } n [.ref v, .int a1] m (some (.int r)) m := by
  refine MX_of (by decide) (Nat.le_of_ble_eq_true rfl) (Or.inr (Or.inl ⟨rfl, _, rfl⟩)) (fun K hC hk hL hR => ?_)
  replace hn : 43 ≤ kn K := hk.symm ▸ hn
  show RX K 0 [(0, .ref v), (1, .int a1)] [] m
  rw [gX6_ruleOf] at hg
  refine R_iconst (pc := 0) hC dX6_ruleOf_0 ki_1 ?_
  refine R_iload_n (pc := 1) hC 1 dX6_ruleOf_1 rfl rfl ?_
  refine R_ishl (pc := 2) hC dX6_ruleOf_2 ?_
  obtain ⟨x1, hx1, hg⟩ := lete_some hg
  refine R_top hx1 ?_
  refine R_istore_n (pc := 3) hC dX6_ruleOf_3 rfl hL rfl (show _ = [(2, .int x1), (0, .ref v), (1, .int a1)] from rfl) ?_
  refine R_aload_n (pc := 4) hC 1 dX6_ruleOf_4 rfl rfl ?_
  refine gf_X6_18 (pc := 5) hC hn hv dX6_ruleOf_5 ?_
  refine R_iload_n (pc := 8) hC 0 dX6_ruleOf_8 rfl rfl ?_
  refine R_iand (pc := 9) hC dX6_ruleOf_9 ?_
  refine R_if_eq (tgt := 15) (pc := 10) hC dX6_ruleOf_10 (by decide) (fun c => ?_) (fun c => ?_)
  · replace hg := (if_pos c).symm.trans hg
    refine R_aload_n (pc := 15) hC 1 dX6_ruleOf_15 rfl rfl ?_
    refine gf_X6_21 (pc := 16) hC hn hv dX6_ruleOf_16 ?_
    refine R_iload_n (pc := 19) hC 0 dX6_ruleOf_19 rfl rfl ?_
    refine R_iand (pc := 20) hC dX6_ruleOf_20 ?_
    refine R_if_eq (tgt := 28) (pc := 21) hC dX6_ruleOf_21 (by decide) (fun c => ?_) (fun c => ?_)
    · replace hg := (if_pos c).symm.trans hg
      refine R_iconst (pc := 28) hC dX6_ruleOf_28 ki_0 ?_
      have h9 := gxI (m := m) hg
      exact R_ireturn (pc := 29) hC dX6_ruleOf_29 h9
    · replace hg := (if_neg c).symm.trans hg
      refine R_iconst (pc := 24) hC dX6_ruleOf_24 ki_2 ?_
      refine R_goto (tgt := 29) (pc := 25) hC dX6_ruleOf_25 (by decide) ?_
      have h9 := gxI (m := m) hg
      exact R_ireturn (pc := 29) hC dX6_ruleOf_29 h9
  · replace hg := (if_neg c).symm.trans hg
    refine R_iconst (pc := 13) hC dX6_ruleOf_13 ki_1 ?_
    have h9 := gxI (m := m) hg
    exact R_ireturn (pc := 14) hC dX6_ruleOf_14 h9
theorem dX6_copy_0 : decode cX6_copy 0 = .ok (.aload_n 0, 1) := by decide +kernel
theorem dX6_copy_1 : decode cX6_copy 1 = .ok (.aload_n 1, 1) := by decide +kernel
theorem dX6_copy_2 : decode cX6_copy 2 = .ok (.getfield 9, 3) := by decide +kernel
theorem dX6_copy_5 : decode cX6_copy 5 = .ok (.putfield 9, 3) := by decide +kernel
theorem dX6_copy_8 : decode cX6_copy 8 = .ok (.aload_n 0, 1) := by decide +kernel
theorem dX6_copy_9 : decode cX6_copy 9 = .ok (.aload_n 1, 1) := by decide +kernel
theorem dX6_copy_10 : decode cX6_copy 10 = .ok (.getfield 15, 3) := by decide +kernel
theorem dX6_copy_13 : decode cX6_copy 13 = .ok (.putfield 15, 3) := by decide +kernel
theorem dX6_copy_16 : decode cX6_copy 16 = .ok (.aload_n 0, 1) := by decide +kernel
theorem dX6_copy_17 : decode cX6_copy 17 = .ok (.aload_n 1, 1) := by decide +kernel
theorem dX6_copy_18 : decode cX6_copy 18 = .ok (.getfield 18, 3) := by decide +kernel
theorem dX6_copy_21 : decode cX6_copy 21 = .ok (.putfield 18, 3) := by decide +kernel
theorem dX6_copy_24 : decode cX6_copy 24 = .ok (.aload_n 0, 1) := by decide +kernel
theorem dX6_copy_25 : decode cX6_copy 25 = .ok (.aload_n 1, 1) := by decide +kernel
theorem dX6_copy_26 : decode cX6_copy 26 = .ok (.getfield 21, 3) := by decide +kernel
theorem dX6_copy_29 : decode cX6_copy 29 = .ok (.putfield 21, 3) := by decide +kernel
theorem dX6_copy_32 : decode cX6_copy 32 = .ok (.iconst 0, 1) := by decide +kernel
theorem dX6_copy_33 : decode cX6_copy 33 = .ok (.istore_n 2, 1) := by decide +kernel
theorem dX6_copy_34 : decode cX6_copy 34 = .ok (.iload_n 2, 1) := by decide +kernel
theorem dX6_copy_35 : decode cX6_copy 35 = .ok (.bipush 10, 2) := by decide +kernel
theorem dX6_copy_37 : decode cX6_copy 37 = .ok (.if_icmp .ge 81, 3) := by decide +kernel
theorem dX6_copy_40 : decode cX6_copy 40 = .ok (.aload_n 0, 1) := by decide +kernel
theorem dX6_copy_41 : decode cX6_copy 41 = .ok (.getfield 24, 3) := by decide +kernel
theorem dX6_copy_44 : decode cX6_copy 44 = .ok (.iload_n 2, 1) := by decide +kernel
theorem dX6_copy_45 : decode cX6_copy 45 = .ok (.aload_n 1, 1) := by decide +kernel
theorem dX6_copy_46 : decode cX6_copy 46 = .ok (.getfield 24, 3) := by decide +kernel
theorem dX6_copy_49 : decode cX6_copy 49 = .ok (.iload_n 2, 1) := by decide +kernel
theorem dX6_copy_50 : decode cX6_copy 50 = .ok (.iaload, 1) := by decide +kernel
theorem dX6_copy_51 : decode cX6_copy 51 = .ok (.iastore, 1) := by decide +kernel
theorem dX6_copy_52 : decode cX6_copy 52 = .ok (.aload_n 0, 1) := by decide +kernel
theorem dX6_copy_53 : decode cX6_copy 53 = .ok (.getfield 28, 3) := by decide +kernel
theorem dX6_copy_56 : decode cX6_copy 56 = .ok (.iload_n 2, 1) := by decide +kernel
theorem dX6_copy_57 : decode cX6_copy 57 = .ok (.aload_n 1, 1) := by decide +kernel
theorem dX6_copy_58 : decode cX6_copy 58 = .ok (.getfield 28, 3) := by decide +kernel
theorem dX6_copy_61 : decode cX6_copy 61 = .ok (.iload_n 2, 1) := by decide +kernel
theorem dX6_copy_62 : decode cX6_copy 62 = .ok (.iaload, 1) := by decide +kernel
theorem dX6_copy_63 : decode cX6_copy 63 = .ok (.iastore, 1) := by decide +kernel
theorem dX6_copy_64 : decode cX6_copy 64 = .ok (.aload_n 0, 1) := by decide +kernel
theorem dX6_copy_65 : decode cX6_copy 65 = .ok (.getfield 31, 3) := by decide +kernel
theorem dX6_copy_68 : decode cX6_copy 68 = .ok (.iload_n 2, 1) := by decide +kernel
theorem dX6_copy_69 : decode cX6_copy 69 = .ok (.aload_n 1, 1) := by decide +kernel
theorem dX6_copy_70 : decode cX6_copy 70 = .ok (.getfield 31, 3) := by decide +kernel
theorem dX6_copy_73 : decode cX6_copy 73 = .ok (.iload_n 2, 1) := by decide +kernel
theorem dX6_copy_74 : decode cX6_copy 74 = .ok (.iaload, 1) := by decide +kernel
theorem dX6_copy_75 : decode cX6_copy 75 = .ok (.iastore, 1) := by decide +kernel
theorem dX6_copy_76 : decode cX6_copy 76 = .ok (.aload_n 0, 1) := by decide +kernel
theorem dX6_copy_77 : decode cX6_copy 77 = .ok (.getfield 34, 3) := by decide +kernel
theorem dX6_copy_80 : decode cX6_copy 80 = .ok (.iload_n 2, 1) := by decide +kernel
theorem dX6_copy_81 : decode cX6_copy 81 = .ok (.aload_n 1, 1) := by decide +kernel
theorem dX6_copy_82 : decode cX6_copy 82 = .ok (.getfield 34, 3) := by decide +kernel
theorem dX6_copy_85 : decode cX6_copy 85 = .ok (.iload_n 2, 1) := by decide +kernel
theorem dX6_copy_86 : decode cX6_copy 86 = .ok (.iaload, 1) := by decide +kernel
theorem dX6_copy_87 : decode cX6_copy 87 = .ok (.iastore, 1) := by decide +kernel
theorem dX6_copy_88 : decode cX6_copy 88 = .ok (.aload_n 0, 1) := by decide +kernel
theorem dX6_copy_89 : decode cX6_copy 89 = .ok (.getfield 37, 3) := by decide +kernel
theorem dX6_copy_92 : decode cX6_copy 92 = .ok (.iload_n 2, 1) := by decide +kernel
theorem dX6_copy_93 : decode cX6_copy 93 = .ok (.aload_n 1, 1) := by decide +kernel
theorem dX6_copy_94 : decode cX6_copy 94 = .ok (.getfield 37, 3) := by decide +kernel
theorem dX6_copy_97 : decode cX6_copy 97 = .ok (.iload_n 2, 1) := by decide +kernel
theorem dX6_copy_98 : decode cX6_copy 98 = .ok (.iaload, 1) := by decide +kernel
theorem dX6_copy_99 : decode cX6_copy 99 = .ok (.iastore, 1) := by decide +kernel
theorem dX6_copy_100 : decode cX6_copy 100 = .ok (.aload_n 0, 1) := by decide +kernel
theorem dX6_copy_101 : decode cX6_copy 101 = .ok (.getfield 40, 3) := by decide +kernel
theorem dX6_copy_104 : decode cX6_copy 104 = .ok (.iload_n 2, 1) := by decide +kernel
theorem dX6_copy_105 : decode cX6_copy 105 = .ok (.aload_n 1, 1) := by decide +kernel
theorem dX6_copy_106 : decode cX6_copy 106 = .ok (.getfield 40, 3) := by decide +kernel
theorem dX6_copy_109 : decode cX6_copy 109 = .ok (.iload_n 2, 1) := by decide +kernel
theorem dX6_copy_110 : decode cX6_copy 110 = .ok (.iaload, 1) := by decide +kernel
theorem dX6_copy_111 : decode cX6_copy 111 = .ok (.iastore, 1) := by decide +kernel
theorem dX6_copy_112 : decode cX6_copy 112 = .ok (.iinc 2 1, 3) := by decide +kernel
theorem dX6_copy_115 : decode cX6_copy 115 = .ok (.goto (-81), 3) := by decide +kernel
theorem dX6_copy_118 : decode cX6_copy 118 = .ok (.return_, 1) := by decide +kernel
def bX6_copy_34 (v : Nat) (w : Nat) : (Int32 × Mem) → Option ((Int32 × Mem) ⊕ (Int32 × Mem))
  | (y5, m6) => (if 10 ≤ y5 then some (.inr (y5, m6)) else chk (inb y5 10) (chk (inb y5 10) (lete (mu m6 (v + 1) (Int32.toNatClampNeg y5) (m6.1 (w + 1) (Int32.toNatClampNeg y5))) (fun m9 => chk (inb y5 10) (chk (inb y5 10) (lete (mu m9 (v + 2) (Int32.toNatClampNeg y5) (m9.1 (w + 2) (Int32.toNatClampNeg y5))) (fun m12 => chk (inb y5 10) (chk (inb y5 10) (lete (mu m12 (v + 3) (Int32.toNatClampNeg y5) (m12.1 (w + 3) (Int32.toNatClampNeg y5))) (fun m15 => chk (inb y5 10) (chk (inb y5 10) (lete (mu m15 (v + 4) (Int32.toNatClampNeg y5) (m15.1 (w + 4) (Int32.toNatClampNeg y5))) (fun m18 => chk (inb y5 10) (chk (inb y5 10) (lete (mu m18 (v + 5) (Int32.toNatClampNeg y5) (m18.1 (w + 5) (Int32.toNatClampNeg y5))) (fun m21 => chk (inb y5 10) (chk (inb y5 10) (lete (mu m21 (v + 6) (Int32.toNatClampNeg y5) (m21.1 (w + 6) (Int32.toNatClampNeg y5))) (fun m24 => some (.inl (y5 + 1, m24)))))))))))))))))))))
def gX6_copy (F : Nat) (m : Mem) (v : Nat) (w : Nat) : Option (Mem) := lete (mu m v 0 (m.1 w 0)) (fun m1 => lete (mu m1 v 1 (m1.1 w 1)) (fun m2 => lete (mu m2 v 2 (m2.1 w 2)) (fun m3 => lete (mu m3 v 3 (m3.1 w 3)) (fun m4 => (iter F (bX6_copy_34 v w) (0, m4)).bind (fun e25 => some e25.2)))))
set_option maxHeartbeats 4000000 in
set_option maxRecDepth 20000 in
theorem LX6_copy {n : Nat} {F : Nat} {m : Mem} {v : Nat} {w : Nat} {r : Mem} (hn : 43 ≤ n) (hv : isV v) (hw : isV w) (hg : gX6_copy F m v w = some r) : MX yX6_copy cX6_copy 3 none { frames := 0, cells := 0, slots := 0, locals := 0 } n [.ref v, .ref w] m (none) r := by
  refine MX_of (by decide) (Nat.le_of_ble_eq_true rfl) (Or.inl ⟨rfl, rfl⟩) (fun K hC hk hL hR => ?_)
  replace hn : 43 ≤ kn K := hk.symm ▸ hn
  show RX K 0 [(0, .ref v), (1, .ref w)] [] m
  rw [gX6_copy] at hg
  refine R_aload_n (pc := 0) hC 0 dX6_copy_0 rfl rfl ?_
  refine R_aload_n (pc := 1) hC 1 dX6_copy_1 rfl rfl ?_
  refine gf_X6_9 (pc := 2) hC hn hw dX6_copy_2 ?_
  obtain ⟨m1, hm1, hg⟩ := lete_some hg
  refine pf_X6_9 (pc := 5) hC hn hv dX6_copy_5 ?_
  refine R_mem hm1 ?_
  refine R_aload_n (pc := 8) hC 0 dX6_copy_8 rfl rfl ?_
  refine R_aload_n (pc := 9) hC 1 dX6_copy_9 rfl rfl ?_
  refine gf_X6_15 (pc := 10) hC hn hw dX6_copy_10 ?_
  obtain ⟨m2, hm2, hg⟩ := lete_some hg
  refine pf_X6_15 (pc := 13) hC hn hv dX6_copy_13 ?_
  refine R_mem hm2 ?_
  refine R_aload_n (pc := 16) hC 0 dX6_copy_16 rfl rfl ?_
  refine R_aload_n (pc := 17) hC 1 dX6_copy_17 rfl rfl ?_
  refine gf_X6_18 (pc := 18) hC hn hw dX6_copy_18 ?_
  obtain ⟨m3, hm3, hg⟩ := lete_some hg
  refine pf_X6_18 (pc := 21) hC hn hv dX6_copy_21 ?_
  refine R_mem hm3 ?_
  refine R_aload_n (pc := 24) hC 0 dX6_copy_24 rfl rfl ?_
  refine R_aload_n (pc := 25) hC 1 dX6_copy_25 rfl rfl ?_
  refine gf_X6_21 (pc := 26) hC hn hw dX6_copy_26 ?_
  obtain ⟨m4, hm4, hg⟩ := lete_some hg
  refine pf_X6_21 (pc := 29) hC hn hv dX6_copy_29 ?_
  refine R_mem hm4 ?_
  refine R_iconst (pc := 32) hC dX6_copy_32 ki_0 ?_
  refine R_istore_n (pc := 33) hC dX6_copy_33 rfl hL rfl (show _ = [(2, .int 0), (0, .ref v), (1, .ref w)] from rfl) ?_
  refine R_pick [1, 2, 0] (ls' := [(0, .ref v), (1, .ref w), (2, .int 0)]) rfl ?_
  obtain ⟨e25, he25, hg⟩ := bind_some hg
  refine iter_walk (P := fun s : (Int32 × Mem) => RX K 34 [(0, .ref v), (1, .ref w), (2, .int s.1)] [] s.2) (Qe := fun s : (Int32 × Mem) => RX K 118 [(0, .ref v), (1, .ref w), (2, .int s.1)] [] s.2) (fun s26 o hg kL34 kE34 => ?_) _ _ _ he25 ?_
  · obtain ⟨y5, m6⟩ := s26
    rw [bX6_copy_34] at hg
    show RX K 34 [(0, .ref v), (1, .ref w), (2, .int y5)] [] m6
    refine R_iload_n (pc := 34) hC 2 dX6_copy_34 rfl rfl ?_
    refine R_bipush (pc := 35) hC dX6_copy_35 kb_10 ?_
    refine R_icmp_ge (tgt := 118) (pc := 37) hC dX6_copy_37 (by decide) (fun c => ?_) (fun c => ?_)
    · replace hg := (if_pos c).symm.trans hg
      refine R_pick [0, 1, 2] (ls' := [(0, .ref v), (1, .ref w), (2, .int y5)]) rfl ?_
      have h9 := kE34 _ (Option.some.inj hg).symm
      exact h9
    · replace hg := (if_neg c).symm.trans hg
      refine R_aload_n (pc := 40) hC 0 dX6_copy_40 rfl rfl ?_
      refine gf_X6_24 (pc := 41) hC hn hv dX6_copy_41 ?_
      refine R_iload_n (pc := 44) hC 2 dX6_copy_44 rfl rfl ?_
      refine R_aload_n (pc := 45) hC 1 dX6_copy_45 rfl rfl ?_
      refine gf_X6_24 (pc := 46) hC hn hw dX6_copy_46 ?_
      refine R_iload_n (pc := 49) hC 2 dX6_copy_49 rfl rfl ?_
      obtain ⟨c7, hg⟩ := chk_some hg
      refine R_iaload (pc := 50) hC (w + 1) (jv hn hw rfl) (lva1 hw) (inb_vp c7) dX6_copy_50 ?_
      obtain ⟨c8, hg⟩ := chk_some hg
      obtain ⟨m9, hm9, hg⟩ := lete_some hg
      refine R_iastore (pc := 51) hC (v + 1) (jv hn hv rfl) (lva1 hv) (inb_vp c8) dX6_copy_51 ?_
      refine R_mem hm9 ?_
      refine R_aload_n (pc := 52) hC 0 dX6_copy_52 rfl rfl ?_
      refine gf_X6_28 (pc := 53) hC hn hv dX6_copy_53 ?_
      refine R_iload_n (pc := 56) hC 2 dX6_copy_56 rfl rfl ?_
      refine R_aload_n (pc := 57) hC 1 dX6_copy_57 rfl rfl ?_
      refine gf_X6_28 (pc := 58) hC hn hw dX6_copy_58 ?_
      refine R_iload_n (pc := 61) hC 2 dX6_copy_61 rfl rfl ?_
      obtain ⟨c10, hg⟩ := chk_some hg
      refine R_iaload (pc := 62) hC (w + 2) (jv hn hw rfl) (lva2 hw) (inb_vp c10) dX6_copy_62 ?_
      obtain ⟨c11, hg⟩ := chk_some hg
      obtain ⟨m12, hm12, hg⟩ := lete_some hg
      refine R_iastore (pc := 63) hC (v + 2) (jv hn hv rfl) (lva2 hv) (inb_vp c11) dX6_copy_63 ?_
      refine R_mem hm12 ?_
      refine R_aload_n (pc := 64) hC 0 dX6_copy_64 rfl rfl ?_
      refine gf_X6_31 (pc := 65) hC hn hv dX6_copy_65 ?_
      refine R_iload_n (pc := 68) hC 2 dX6_copy_68 rfl rfl ?_
      refine R_aload_n (pc := 69) hC 1 dX6_copy_69 rfl rfl ?_
      refine gf_X6_31 (pc := 70) hC hn hw dX6_copy_70 ?_
      refine R_iload_n (pc := 73) hC 2 dX6_copy_73 rfl rfl ?_
      obtain ⟨c13, hg⟩ := chk_some hg
      refine R_iaload (pc := 74) hC (w + 3) (jv hn hw rfl) (lva3 hw) (inb_vp c13) dX6_copy_74 ?_
      obtain ⟨c14, hg⟩ := chk_some hg
      obtain ⟨m15, hm15, hg⟩ := lete_some hg
      refine R_iastore (pc := 75) hC (v + 3) (jv hn hv rfl) (lva3 hv) (inb_vp c14) dX6_copy_75 ?_
      refine R_mem hm15 ?_
      refine R_aload_n (pc := 76) hC 0 dX6_copy_76 rfl rfl ?_
      refine gf_X6_34 (pc := 77) hC hn hv dX6_copy_77 ?_
      refine R_iload_n (pc := 80) hC 2 dX6_copy_80 rfl rfl ?_
      refine R_aload_n (pc := 81) hC 1 dX6_copy_81 rfl rfl ?_
      refine gf_X6_34 (pc := 82) hC hn hw dX6_copy_82 ?_
      refine R_iload_n (pc := 85) hC 2 dX6_copy_85 rfl rfl ?_
      obtain ⟨c16, hg⟩ := chk_some hg
      refine R_iaload (pc := 86) hC (w + 4) (jv hn hw rfl) (lva4 hw) (inb_vp c16) dX6_copy_86 ?_
      obtain ⟨c17, hg⟩ := chk_some hg
      obtain ⟨m18, hm18, hg⟩ := lete_some hg
      refine R_iastore (pc := 87) hC (v + 4) (jv hn hv rfl) (lva4 hv) (inb_vp c17) dX6_copy_87 ?_
      refine R_mem hm18 ?_
      refine R_aload_n (pc := 88) hC 0 dX6_copy_88 rfl rfl ?_
      refine gf_X6_37 (pc := 89) hC hn hv dX6_copy_89 ?_
      refine R_iload_n (pc := 92) hC 2 dX6_copy_92 rfl rfl ?_
      refine R_aload_n (pc := 93) hC 1 dX6_copy_93 rfl rfl ?_
      refine gf_X6_37 (pc := 94) hC hn hw dX6_copy_94 ?_
      refine R_iload_n (pc := 97) hC 2 dX6_copy_97 rfl rfl ?_
      obtain ⟨c19, hg⟩ := chk_some hg
      refine R_iaload (pc := 98) hC (w + 5) (jv hn hw rfl) (lva5 hw) (inb_vp c19) dX6_copy_98 ?_
      obtain ⟨c20, hg⟩ := chk_some hg
      obtain ⟨m21, hm21, hg⟩ := lete_some hg
      refine R_iastore (pc := 99) hC (v + 5) (jv hn hv rfl) (lva5 hv) (inb_vp c20) dX6_copy_99 ?_
      refine R_mem hm21 ?_
      refine R_aload_n (pc := 100) hC 0 dX6_copy_100 rfl rfl ?_
      refine gf_X6_40 (pc := 101) hC hn hv dX6_copy_101 ?_
      refine R_iload_n (pc := 104) hC 2 dX6_copy_104 rfl rfl ?_
      refine R_aload_n (pc := 105) hC 1 dX6_copy_105 rfl rfl ?_
      refine gf_X6_40 (pc := 106) hC hn hw dX6_copy_106 ?_
      refine R_iload_n (pc := 109) hC 2 dX6_copy_109 rfl rfl ?_
      obtain ⟨c22, hg⟩ := chk_some hg
      refine R_iaload (pc := 110) hC (w + 6) (jv hn hw rfl) (lva6 hw) (inb_vp c22) dX6_copy_110 ?_
      obtain ⟨c23, hg⟩ := chk_some hg
      obtain ⟨m24, hm24, hg⟩ := lete_some hg
      refine R_iastore (pc := 111) hC (v + 6) (jv hn hv rfl) (lva6 hv) (inb_vp c23) dX6_copy_111 ?_
      refine R_mem hm24 ?_
      refine R_iinc (pc := 112) hC 2 dX6_copy_112 rfl (iv ki_1) hL rfl (show _ = [(2, .int (y5 + 1)), (0, .ref v), (1, .ref w)] from rfl) ?_
      refine R_goto (tgt := 34) (pc := 115) hC dX6_copy_115 (by decide) ?_
      refine R_pick [1, 2, 0] (ls' := [(0, .ref v), (1, .ref w), (2, .int (y5 + 1))]) rfl ?_
      have h9 := kL34 _ (Option.some.inj hg).symm
      exact h9
  · show RX K 118 [(0, .ref v), (1, .ref w), (2, .int e25.1)] [] e25.2
    have h9 := gxV hg
    exact R_return (pc := 118) hC dX6_copy_118 h9
theorem dX6_hasAllHouses_0 : decode cX6_hasAllHouses 0 = .ok (.iload_n 1, 1) := by decide +kernel
theorem dX6_hasAllHouses_1 : decode cX6_hasAllHouses 1 = .ok (.aload_n 0, 1) := by decide +kernel
theorem dX6_hasAllHouses_2 : decode cX6_hasAllHouses 2 = .ok (.invokevirtual 43, 3) := by decide +kernel
theorem dX6_hasAllHouses_5 : decode cX6_hasAllHouses 5 = .ok (.iconst (-1), 1) := by decide +kernel
theorem dX6_hasAllHouses_6 : decode cX6_hasAllHouses 6 = .ok (.ixor, 1) := by decide +kernel
theorem dX6_hasAllHouses_7 : decode cX6_hasAllHouses 7 = .ok (.iand, 1) := by decide +kernel
theorem dX6_hasAllHouses_8 : decode cX6_hasAllHouses 8 = .ok (.ifCond .ne 7, 3) := by decide +kernel
theorem dX6_hasAllHouses_11 : decode cX6_hasAllHouses 11 = .ok (.iconst 1, 1) := by decide +kernel
theorem dX6_hasAllHouses_12 : decode cX6_hasAllHouses 12 = .ok (.goto 4, 3) := by decide +kernel
theorem dX6_hasAllHouses_15 : decode cX6_hasAllHouses 15 = .ok (.iconst 0, 1) := by decide +kernel
theorem dX6_hasAllHouses_16 : decode cX6_hasAllHouses 16 = .ok (.ireturn, 1) := by decide +kernel
def gX6_hasAllHouses (m : Mem) (v : Nat) (a1 : Int32) : Option (Bool) := (gX6_allHouses m v).bind (fun x1 => (if (a1 &&& (x1 ^^^ (-1))) = 0 then some true else some false))
set_option maxHeartbeats 4000000 in
set_option maxRecDepth 20000 in
theorem LX6_hasAllHouses {n : Nat} {m : Mem} {v : Nat} {a1 : Int32} {r : Bool} (hn : 43 ≤ n) (hv : isV v) (hg : gX6_hasAllHouses m v a1 = some r) : MX yX6_hasAllHouses cX6_hasAllHouses 2 (some .boolean) { frames := 1, cells := 0, slots := 0, locals := 20 } n [.ref v, .int a1] m (some (.int (b2i r))) m := by
  refine MX_of (by decide) (Nat.le_of_ble_eq_true rfl) (Or.inr (Or.inr (Or.inr ⟨rfl, _, rfl⟩))) (fun K hC hk hL hR => ?_)
  replace hn : 43 ≤ kn K := hk.symm ▸ hn
  show RX K 0 [(0, .ref v), (1, .int a1)] [] m
  rw [gX6_hasAllHouses] at hg
  refine R_iload_n (pc := 0) hC 1 dX6_hasAllHouses_0 rfl rfl ?_
  refine R_aload_n (pc := 1) hC 0 dX6_hasAllHouses_1 rfl rfl ?_
  obtain ⟨x1, hx1, hg⟩ := bind_some hg
  refine R_callV (pc := 2) (av := []) (rest := [.int a1]) hC hR v (jv0 hn hv) (layV_of hv) rfl mf_X6_allHouses wm_X6_43 (LX6_allHouses hn hv hx1) rfl rfl rfl (Nat.le_of_ble_eq_true rfl) dX6_hasAllHouses_2 rfl ?_
  show RX K 5 [(0, .ref v), (1, .int a1)] [.int x1, .int a1] m
  refine R_iconst (pc := 5) hC dX6_hasAllHouses_5 ki_m1 ?_
  refine R_ixor (pc := 6) hC dX6_hasAllHouses_6 ?_
  refine R_iand (pc := 7) hC dX6_hasAllHouses_7 ?_
  refine R_if_ne (tgt := 15) (pc := 8) hC dX6_hasAllHouses_8 (by decide) (fun c => ?_) (fun c => ?_)
  · replace hg := (if_neg c).symm.trans hg
    refine R_iconst (pc := 15) hC dX6_hasAllHouses_15 ki_0 ?_
    have h9 := gxZ (m := m) hg
    exact R_ireturn (pc := 16) hC dX6_hasAllHouses_16 h9
  · replace hg := (if_pos c).symm.trans hg
    refine R_iconst (pc := 11) hC dX6_hasAllHouses_11 ki_1 ?_
    refine R_goto (tgt := 16) (pc := 12) hC dX6_hasAllHouses_12 (by decide) ?_
    have h9 := gxZ (m := m) hg
    exact R_ireturn (pc := 16) hC dX6_hasAllHouses_16 h9
theorem dX6_removeLatest_0 : decode cX6_removeLatest 0 = .ok (.aload_n 0, 1) := by decide +kernel
theorem dX6_removeLatest_1 : decode cX6_removeLatest 1 = .ok (.getfield 15, 3) := by decide +kernel
theorem dX6_removeLatest_4 : decode cX6_removeLatest 4 = .ok (.ifCond .le 22, 3) := by decide +kernel
theorem dX6_removeLatest_7 : decode cX6_removeLatest 7 = .ok (.aload_n 0, 1) := by decide +kernel
theorem dX6_removeLatest_8 : decode cX6_removeLatest 8 = .ok (.dup, 1) := by decide +kernel
theorem dX6_removeLatest_9 : decode cX6_removeLatest 9 = .ok (.getfield 15, 3) := by decide +kernel
theorem dX6_removeLatest_12 : decode cX6_removeLatest 12 = .ok (.iconst 1, 1) := by decide +kernel
theorem dX6_removeLatest_13 : decode cX6_removeLatest 13 = .ok (.isub, 1) := by decide +kernel
theorem dX6_removeLatest_14 : decode cX6_removeLatest 14 = .ok (.putfield 15, 3) := by decide +kernel
theorem dX6_removeLatest_17 : decode cX6_removeLatest 17 = .ok (.aload_n 0, 1) := by decide +kernel
theorem dX6_removeLatest_18 : decode cX6_removeLatest 18 = .ok (.aload_n 0, 1) := by decide +kernel
theorem dX6_removeLatest_19 : decode cX6_removeLatest 19 = .ok (.getfield 15, 3) := by decide +kernel
theorem dX6_removeLatest_22 : decode cX6_removeLatest 22 = .ok (.iconst 0, 1) := by decide +kernel
theorem dX6_removeLatest_23 : decode cX6_removeLatest 23 = .ok (.invokevirtual 72, 3) := by decide +kernel
theorem dX6_removeLatest_26 : decode cX6_removeLatest 26 = .ok (.return_, 1) := by decide +kernel
def gX6_removeLatest (m : Mem) (v : Nat) : Option (Mem) := (if (m.1 v 1) ≤ 0 then some m else lete (mu m v 1 ((m.1 v 1) - 1)) (fun m1 => (gX6_setRule m1 v (m1.1 v 1) 0).bind (fun q2 => some q2)))
set_option maxHeartbeats 4000000 in
set_option maxRecDepth 20000 in
theorem LX6_removeLatest {n : Nat} {m : Mem} {v : Nat} {r : Mem} (hn : 43 ≤ n) (hv : isV v) (hg : gX6_removeLatest m v = some r) : MX yX6_removeLatest cX6_removeLatest 1 none { frames := 1, cells := 0, slots := 0, locals := 23 } n [.ref v] m (none) r := by
  refine MX_of (by decide) (Nat.le_of_ble_eq_true rfl) (Or.inl ⟨rfl, rfl⟩) (fun K hC hk hL hR => ?_)
  replace hn : 43 ≤ kn K := hk.symm ▸ hn
  show RX K 0 [(0, .ref v)] [] m
  rw [gX6_removeLatest] at hg
  refine R_aload_n (pc := 0) hC 0 dX6_removeLatest_0 rfl rfl ?_
  refine gf_X6_15 (pc := 1) hC hn hv dX6_removeLatest_1 ?_
  refine R_if_le (tgt := 26) (pc := 4) hC dX6_removeLatest_4 (by decide) (fun c => ?_) (fun c => ?_)
  · replace hg := (if_pos c).symm.trans hg
    have h9 := gxV hg
    exact R_return (pc := 26) hC dX6_removeLatest_26 h9
  · replace hg := (if_neg c).symm.trans hg
    refine R_aload_n (pc := 7) hC 0 dX6_removeLatest_7 rfl rfl ?_
    refine R_dup (pc := 8) hC dX6_removeLatest_8 rfl ?_
    refine gf_X6_15 (pc := 9) hC hn hv dX6_removeLatest_9 ?_
    refine R_iconst (pc := 12) hC dX6_removeLatest_12 ki_1 ?_
    refine R_isub (pc := 13) hC dX6_removeLatest_13 ?_
    obtain ⟨m1, hm1, hg⟩ := lete_some hg
    refine pf_X6_15 (pc := 14) hC hn hv dX6_removeLatest_14 ?_
    refine R_mem hm1 ?_
    refine R_aload_n (pc := 17) hC 0 dX6_removeLatest_17 rfl rfl ?_
    refine R_aload_n (pc := 18) hC 0 dX6_removeLatest_18 rfl rfl ?_
    refine gf_X6_15 (pc := 19) hC hn hv dX6_removeLatest_19 ?_
    refine R_iconst (pc := 22) hC dX6_removeLatest_22 ki_0 ?_
    obtain ⟨q2, hq2, hg⟩ := bind_some hg
    refine R_callV (pc := 23) (av := [.int (m1.1 v 1), .int 0]) (rest := []) hC hR v (jv0 hn hv) (layV_of hv) rfl mf_X6_setRule wm_X6_72 (LX6_setRule hn hv hq2) rfl rfl rfl (Nat.le_of_ble_eq_true rfl) dX6_removeLatest_23 rfl ?_
    show RX K 26 [(0, .ref v)] [] q2
    have h9 := gxV hg
    exact R_return (pc := 26) hC dX6_removeLatest_26 h9
theorem dX6_costOfAll_0 : decode cX6_costOfAll 0 = .ok (.aload_n 0, 1) := by decide +kernel
theorem dX6_costOfAll_1 : decode cX6_costOfAll 1 = .ok (.aload_n 0, 1) := by decide +kernel
theorem dX6_costOfAll_2 : decode cX6_costOfAll 2 = .ok (.invokevirtual 47, 3) := by decide +kernel
theorem dX6_costOfAll_5 : decode cX6_costOfAll 5 = .ok (.invokevirtual 76, 3) := by decide +kernel
theorem dX6_costOfAll_8 : decode cX6_costOfAll 8 = .ok (.ireturn, 1) := by decide +kernel
def gX6_costOfAll (F : Nat) (m : Mem) (v : Nat) : Option (Int32) := (gX6_allLanes m v).bind (fun x1 => (gX6_costOf F m v x1).bind (fun x2 => some x2))
set_option maxHeartbeats 4000000 in
set_option maxRecDepth 20000 in
theorem LX6_costOfAll {n : Nat} {F : Nat} {m : Mem} {v : Nat} {r : Int32} (hn : 43 ≤ n) (hv : isV v) (hg : gX6_costOfAll F m v = some r) : MX yX6_costOfAll cX6_costOfAll 1 (some .int) { frames := 1, cells := 0, slots := 0, locals := 23 } n [.ref v] m (some (.int r)) m := by
  refine MX_of (by decide) (Nat.le_of_ble_eq_true rfl) (Or.inr (Or.inl ⟨rfl, _, rfl⟩)) (fun K hC hk hL hR => ?_)
  replace hn : 43 ≤ kn K := hk.symm ▸ hn
  show RX K 0 [(0, .ref v)] [] m
  rw [gX6_costOfAll] at hg
  refine R_aload_n (pc := 0) hC 0 dX6_costOfAll_0 rfl rfl ?_
  refine R_aload_n (pc := 1) hC 0 dX6_costOfAll_1 rfl rfl ?_
  obtain ⟨x1, hx1, hg⟩ := bind_some hg
  refine R_callV (pc := 2) (av := []) (rest := [.ref v]) hC hR v (jv0 hn hv) (layV_of hv) rfl mf_X6_allLanes wm_X6_47 (LX6_allLanes hn hv hx1) rfl rfl rfl (Nat.le_of_ble_eq_true rfl) dX6_costOfAll_2 rfl ?_
  show RX K 5 [(0, .ref v)] [.int x1, .ref v] m
  obtain ⟨x2, hx2, hg⟩ := bind_some hg
  refine R_callV (pc := 5) (av := [.int x1]) (rest := []) hC hR v (jv0 hn hv) (layV_of hv) rfl mf_X6_costOf wm_X6_76 (LX6_costOf hn hv hx2) rfl rfl rfl (Nat.le_of_ble_eq_true rfl) dX6_costOfAll_5 rfl ?_
  show RX K 8 [(0, .ref v)] [.int x2] m
  have h9 := gxI (m := m) hg
  exact R_ireturn (pc := 8) hC dX6_costOfAll_8 h9
