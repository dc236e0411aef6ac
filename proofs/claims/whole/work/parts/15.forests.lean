theorem dX1_manyOf_0 : decode cX1_manyOf 0 = .ok (.iconst 0, 1) := by decide +kernel
theorem dX1_manyOf_1 : decode cX1_manyOf 1 = .ok (.istore_n 2, 1) := by decide +kernel
theorem dX1_manyOf_2 : decode cX1_manyOf 2 = .ok (.aload_n 0, 1) := by decide +kernel
theorem dX1_manyOf_3 : decode cX1_manyOf 3 = .ok (.getfield 9, 3) := by decide +kernel
theorem dX1_manyOf_6 : decode cX1_manyOf 6 = .ok (.invokevirtual 19, 3) := by decide +kernel
theorem dX1_manyOf_9 : decode cX1_manyOf 9 = .ok (.istore_n 3, 1) := by decide +kernel
theorem dX1_manyOf_10 : decode cX1_manyOf 10 = .ok (.iconst 0, 1) := by decide +kernel
theorem dX1_manyOf_11 : decode cX1_manyOf 11 = .ok (.istore 4, 2) := by decide +kernel
theorem dX1_manyOf_13 : decode cX1_manyOf 13 = .ok (.iload 4, 2) := by decide +kernel
theorem dX1_manyOf_15 : decode cX1_manyOf 15 = .ok (.iload_n 3, 1) := by decide +kernel
theorem dX1_manyOf_16 : decode cX1_manyOf 16 = .ok (.if_icmp .ge 37, 3) := by decide +kernel
theorem dX1_manyOf_19 : decode cX1_manyOf 19 = .ok (.aload_n 0, 1) := by decide +kernel
theorem dX1_manyOf_20 : decode cX1_manyOf 20 = .ok (.getfield 9, 3) := by decide +kernel
theorem dX1_manyOf_23 : decode cX1_manyOf 23 = .ok (.iload 4, 2) := by decide +kernel
theorem dX1_manyOf_25 : decode cX1_manyOf 25 = .ok (.invokevirtual 25, 3) := by decide +kernel
theorem dX1_manyOf_28 : decode cX1_manyOf 28 = .ok (.ifCond .eq 19, 3) := by decide +kernel
theorem dX1_manyOf_31 : decode cX1_manyOf 31 = .ok (.aload_n 0, 1) := by decide +kernel
theorem dX1_manyOf_32 : decode cX1_manyOf 32 = .ok (.getfield 15, 3) := by decide +kernel
theorem dX1_manyOf_35 : decode cX1_manyOf 35 = .ok (.iload 4, 2) := by decide +kernel
theorem dX1_manyOf_37 : decode cX1_manyOf 37 = .ok (.iload_n 1, 1) := by decide +kernel
theorem dX1_manyOf_38 : decode cX1_manyOf 38 = .ok (.invokevirtual 29, 3) := by decide +kernel
theorem dX1_manyOf_41 : decode cX1_manyOf 41 = .ok (.ifCond .eq 6, 3) := by decide +kernel
theorem dX1_manyOf_44 : decode cX1_manyOf 44 = .ok (.iinc 2 1, 3) := by decide +kernel
theorem dX1_manyOf_47 : decode cX1_manyOf 47 = .ok (.iinc 4 1, 3) := by decide +kernel
theorem dX1_manyOf_50 : decode cX1_manyOf 50 = .ok (.goto (-37), 3) := by decide +kernel
theorem dX1_manyOf_53 : decode cX1_manyOf 53 = .ok (.iload_n 2, 1) := by decide +kernel
theorem dX1_manyOf_54 : decode cX1_manyOf 54 = .ok (.ireturn, 1) := by decide +kernel
def bX1_manyOf_13 (m : Mem) (a1 : Int32) (x1 : Int32) : (Int32 × Int32) → Option ((Int32 × Int32) ⊕ (Int32 × Int32))
  | (y2, y3) => (if x1 ≤ y3 then some (.inr (y2, y3)) else (gX6_allows m 1 y3).bind (fun x4 => (if x4 = true then (gX2_leavesForest m y3 a1).bind (fun x5 => (if x5 = true then some (.inl (y2 + 1, y3 + 1)) else some (.inl (y2, y3 + 1)))) else some (.inl (y2, y3 + 1)))))
def gX1_manyOf (F : Nat) (m : Mem) (a1 : Int32) : Option (Int32) := (gX6_sets m 1).bind (fun x1 => (iter F (bX1_manyOf_13 m a1 x1) (0, 0)).bind (fun e6 => some e6.1))
set_option maxHeartbeats 4000000 in
set_option maxRecDepth 20000 in
theorem LX1_manyOf {n : Nat} {F : Nat} {m : Mem} {a1 : Int32} {r : Int32} (hn : 43 ≤ n) (hg : gX1_manyOf F m a1 = some r) : MX yX1_manyOf cX1_manyOf 5 (some .int) { frames := 2, cells := 0, slots := 0, locals := 43 } n [.ref 30, .int a1] m (some (.int r)) m := by
  refine MX_of (by decide) (Nat.le_of_ble_eq_true rfl) (Or.inr (Or.inl ⟨rfl, _, rfl⟩)) (fun K hC hk hL hR => ?_)
  replace hn : 43 ≤ kn K := hk.symm ▸ hn
  show RX K 0 [(0, .ref 30), (1, .int a1)] [] m
  rw [gX1_manyOf] at hg
  refine R_iconst (pc := 0) hC dX1_manyOf_0 ki_0 ?_
  refine R_istore_n (pc := 1) hC dX1_manyOf_1 rfl hL rfl (show _ = [(2, .int 0), (0, .ref 30), (1, .int a1)] from rfl) ?_
  refine R_aload_n (pc := 2) hC 1 dX1_manyOf_2 rfl rfl ?_
  refine gf_X1_9 (pc := 3) hC hn dX1_manyOf_3 ?_
  obtain ⟨x1, hx1, hg⟩ := bind_some hg
  refine R_callVN (pc := 6) (av := []) (rest := []) hC hR 1 (jx hn rfl) ly1 rfl mf_X6_sets wm_X1_19 (LX6_sets hn isv1 hx1) rfl rfl rfl (Nat.le_of_ble_eq_true rfl) dX1_manyOf_6 rfl ?_
  show RX K 9 [(2, .int 0), (0, .ref 30), (1, .int a1)] [.int x1] m
  refine R_istore_n (pc := 9) hC dX1_manyOf_9 rfl hL rfl (show _ = [(3, .int x1), (2, .int 0), (0, .ref 30), (1, .int a1)] from rfl) ?_
  refine R_iconst (pc := 10) hC dX1_manyOf_10 ki_0 ?_
  refine R_istore (pc := 11) hC dX1_manyOf_11 hL rfl (show _ = [(4, .int 0), (3, .int x1), (2, .int 0), (0, .ref 30), (1, .int a1)] from rfl) ?_
  refine R_pick [3, 4, 2, 1, 0] (ls' := [(0, .ref 30), (1, .int a1), (2, .int 0), (3, .int x1), (4, .int 0)]) rfl ?_
  obtain ⟨e6, he6, hg⟩ := bind_some hg
  refine iter_walk (P := fun s : (Int32 × Int32) => RX K 13 [(0, .ref 30), (1, .int a1), (2, .int s.1), (3, .int x1), (4, .int s.2)] [] m) (Qe := fun s : (Int32 × Int32) => RX K 53 [(0, .ref 30), (1, .int a1), (2, .int s.1), (3, .int x1), (4, .int s.2)] [] m) (fun s7 o hg kL13 kE13 => ?_) _ _ _ he6 ?_
  · obtain ⟨y2, y3⟩ := s7
    rw [bX1_manyOf_13] at hg
    show RX K 13 [(0, .ref 30), (1, .int a1), (2, .int y2), (3, .int x1), (4, .int y3)] [] m
    refine R_iload (pc := 13) hC 4 dX1_manyOf_13 rfl ?_
    refine R_iload_n (pc := 15) hC 3 dX1_manyOf_15 rfl rfl ?_
    refine R_icmp_ge (tgt := 53) (pc := 16) hC dX1_manyOf_16 (by decide) (fun c => ?_) (fun c => ?_)
    · replace hg := (if_pos c).symm.trans hg
      refine R_pick [0, 1, 2, 3, 4] (ls' := [(0, .ref 30), (1, .int a1), (2, .int y2), (3, .int x1), (4, .int y3)]) rfl ?_
      have h9 := kE13 _ (Option.some.inj hg).symm
      exact h9
    · replace hg := (if_neg c).symm.trans hg
      refine R_aload_n (pc := 19) hC 0 dX1_manyOf_19 rfl rfl ?_
      refine gf_X1_9 (pc := 20) hC hn dX1_manyOf_20 ?_
      refine R_iload (pc := 23) hC 4 dX1_manyOf_23 rfl ?_
      obtain ⟨x4, hx4, hg⟩ := bind_some hg
      refine R_callVN (pc := 25) (av := [.int y3]) (rest := []) hC hR 1 (jx hn rfl) ly1 rfl mf_X6_allows wm_X1_25 (LX6_allows hn isv1 hx4) rfl rfl rfl (Nat.le_of_ble_eq_true rfl) dX1_manyOf_25 rfl ?_
      show RX K 28 [(0, .ref 30), (1, .int a1), (2, .int y2), (3, .int x1), (4, .int y3)] [.int (b2i x4)] m
      refine R_ifB_eq (tgt := 47) (pc := 28) hC dX1_manyOf_28 (by decide) (fun c => ?_) (fun c => ?_)
      · replace hg := (if_neg c).symm.trans hg
        refine R_iinc (pc := 47) hC 4 dX1_manyOf_47 rfl (iv ki_1) hL rfl (show _ = [(4, .int (y3 + 1)), (0, .ref 30), (1, .int a1), (2, .int y2), (3, .int x1)] from rfl) ?_
        refine R_goto (tgt := 13) (pc := 50) hC dX1_manyOf_50 (by decide) ?_
        refine R_pick [1, 2, 3, 4, 0] (ls' := [(0, .ref 30), (1, .int a1), (2, .int y2), (3, .int x1), (4, .int (y3 + 1))]) rfl ?_
        have h9 := kL13 _ (Option.some.inj hg).symm
        exact h9
      · replace hg := (if_pos c).symm.trans hg
        refine R_aload_n (pc := 31) hC 0 dX1_manyOf_31 rfl rfl ?_
        refine gf_X1_15 (pc := 32) hC hn dX1_manyOf_32 ?_
        refine R_iload (pc := 35) hC 4 dX1_manyOf_35 rfl ?_
        refine R_iload_n (pc := 37) hC 1 dX1_manyOf_37 rfl rfl ?_
        obtain ⟨x5, hx5, hg⟩ := bind_some hg
        refine R_callVN (pc := 38) (av := [.int y3, .int a1]) (rest := []) hC hR 24 (jx hn rfl) ly24 rfl mf_X2_leavesForest wm_X1_29 (LX2_leavesForest hn hx5) rfl rfl rfl (Nat.le_of_ble_eq_true rfl) dX1_manyOf_38 rfl ?_
        show RX K 41 [(0, .ref 30), (1, .int a1), (2, .int y2), (3, .int x1), (4, .int y3)] [.int (b2i x5)] m
        refine R_ifB_eq (tgt := 47) (pc := 41) hC dX1_manyOf_41 (by decide) (fun c => ?_) (fun c => ?_)
        · replace hg := (if_neg c).symm.trans hg
          refine R_iinc (pc := 47) hC 4 dX1_manyOf_47 rfl (iv ki_1) hL rfl (show _ = [(4, .int (y3 + 1)), (0, .ref 30), (1, .int a1), (2, .int y2), (3, .int x1)] from rfl) ?_
          refine R_goto (tgt := 13) (pc := 50) hC dX1_manyOf_50 (by decide) ?_
          refine R_pick [1, 2, 3, 4, 0] (ls' := [(0, .ref 30), (1, .int a1), (2, .int y2), (3, .int x1), (4, .int (y3 + 1))]) rfl ?_
          have h9 := kL13 _ (Option.some.inj hg).symm
          exact h9
        · replace hg := (if_pos c).symm.trans hg
          refine R_iinc (pc := 44) hC 2 dX1_manyOf_44 rfl (iv ki_1) hL rfl (show _ = [(2, .int (y2 + 1)), (0, .ref 30), (1, .int a1), (3, .int x1), (4, .int y3)] from rfl) ?_
          refine R_iinc (pc := 47) hC 4 dX1_manyOf_47 rfl (iv ki_1) hL rfl (show _ = [(4, .int (y3 + 1)), (2, .int (y2 + 1)), (0, .ref 30), (1, .int a1), (3, .int x1)] from rfl) ?_
          refine R_goto (tgt := 13) (pc := 50) hC dX1_manyOf_50 (by decide) ?_
          refine R_pick [2, 3, 1, 4, 0] (ls' := [(0, .ref 30), (1, .int a1), (2, .int (y2 + 1)), (3, .int x1), (4, .int (y3 + 1))]) rfl ?_
          have h9 := kL13 _ (Option.some.inj hg).symm
          exact h9
  · show RX K 53 [(0, .ref 30), (1, .int a1), (2, .int e6.1), (3, .int x1), (4, .int e6.2)] [] m
    refine R_iload_n (pc := 53) hC 2 dX1_manyOf_53 rfl rfl ?_
    have h9 := gxI (m := m) hg
    exact R_ireturn (pc := 54) hC dX1_manyOf_54 h9
theorem dX1_manyWithOneEach_0 : decode cX1_manyWithOneEach 0 = .ok (.iload_n 1, 1) := by decide +kernel
theorem dX1_manyWithOneEach_1 : decode cX1_manyWithOneEach 1 = .ok (.invokestatic 35, 3) := by decide +kernel
theorem dX1_manyWithOneEach_4 : decode cX1_manyWithOneEach 4 = .ok (.istore_n 2, 1) := by decide +kernel
theorem dX1_manyWithOneEach_5 : decode cX1_manyWithOneEach 5 = .ok (.iconst 0, 1) := by decide +kernel
theorem dX1_manyWithOneEach_6 : decode cX1_manyWithOneEach 6 = .ok (.istore_n 3, 1) := by decide +kernel
theorem dX1_manyWithOneEach_7 : decode cX1_manyWithOneEach 7 = .ok (.aload_n 0, 1) := by decide +kernel
theorem dX1_manyWithOneEach_8 : decode cX1_manyWithOneEach 8 = .ok (.getfield 9, 3) := by decide +kernel
theorem dX1_manyWithOneEach_11 : decode cX1_manyWithOneEach 11 = .ok (.invokevirtual 19, 3) := by decide +kernel
theorem dX1_manyWithOneEach_14 : decode cX1_manyWithOneEach 14 = .ok (.istore 4, 2) := by decide +kernel
theorem dX1_manyWithOneEach_16 : decode cX1_manyWithOneEach 16 = .ok (.iconst 0, 1) := by decide +kernel
theorem dX1_manyWithOneEach_17 : decode cX1_manyWithOneEach 17 = .ok (.istore 5, 2) := by decide +kernel
theorem dX1_manyWithOneEach_19 : decode cX1_manyWithOneEach 19 = .ok (.iload 5, 2) := by decide +kernel
theorem dX1_manyWithOneEach_21 : decode cX1_manyWithOneEach 21 = .ok (.iload 4, 2) := by decide +kernel
theorem dX1_manyWithOneEach_23 : decode cX1_manyWithOneEach 23 = .ok (.if_icmp .ge 50, 3) := by decide +kernel
theorem dX1_manyWithOneEach_26 : decode cX1_manyWithOneEach 26 = .ok (.aload_n 0, 1) := by decide +kernel
theorem dX1_manyWithOneEach_27 : decode cX1_manyWithOneEach 27 = .ok (.getfield 9, 3) := by decide +kernel
theorem dX1_manyWithOneEach_30 : decode cX1_manyWithOneEach 30 = .ok (.iload 5, 2) := by decide +kernel
theorem dX1_manyWithOneEach_32 : decode cX1_manyWithOneEach 32 = .ok (.invokevirtual 25, 3) := by decide +kernel
theorem dX1_manyWithOneEach_35 : decode cX1_manyWithOneEach 35 = .ok (.ifCond .eq 32, 3) := by decide +kernel
theorem dX1_manyWithOneEach_38 : decode cX1_manyWithOneEach 38 = .ok (.aload_n 0, 1) := by decide +kernel
theorem dX1_manyWithOneEach_39 : decode cX1_manyWithOneEach 39 = .ok (.getfield 15, 3) := by decide +kernel
theorem dX1_manyWithOneEach_42 : decode cX1_manyWithOneEach 42 = .ok (.iload 5, 2) := by decide +kernel
theorem dX1_manyWithOneEach_44 : decode cX1_manyWithOneEach 44 = .ok (.iload_n 2, 1) := by decide +kernel
theorem dX1_manyWithOneEach_45 : decode cX1_manyWithOneEach 45 = .ok (.invokevirtual 29, 3) := by decide +kernel
theorem dX1_manyWithOneEach_48 : decode cX1_manyWithOneEach 48 = .ok (.ifCond .eq 19, 3) := by decide +kernel
theorem dX1_manyWithOneEach_51 : decode cX1_manyWithOneEach 51 = .ok (.aload_n 0, 1) := by decide +kernel
theorem dX1_manyWithOneEach_52 : decode cX1_manyWithOneEach 52 = .ok (.getfield 15, 3) := by decide +kernel
theorem dX1_manyWithOneEach_55 : decode cX1_manyWithOneEach 55 = .ok (.iload 5, 2) := by decide +kernel
theorem dX1_manyWithOneEach_57 : decode cX1_manyWithOneEach 57 = .ok (.iload_n 1, 1) := by decide +kernel
theorem dX1_manyWithOneEach_58 : decode cX1_manyWithOneEach 58 = .ok (.invokevirtual 41, 3) := by decide +kernel
theorem dX1_manyWithOneEach_61 : decode cX1_manyWithOneEach 61 = .ok (.ifCond .eq 6, 3) := by decide +kernel
theorem dX1_manyWithOneEach_64 : decode cX1_manyWithOneEach 64 = .ok (.iinc 3 1, 3) := by decide +kernel
theorem dX1_manyWithOneEach_67 : decode cX1_manyWithOneEach 67 = .ok (.iinc 5 1, 3) := by decide +kernel
theorem dX1_manyWithOneEach_70 : decode cX1_manyWithOneEach 70 = .ok (.goto (-51), 3) := by decide +kernel
theorem dX1_manyWithOneEach_73 : decode cX1_manyWithOneEach 73 = .ok (.iload_n 3, 1) := by decide +kernel
theorem dX1_manyWithOneEach_74 : decode cX1_manyWithOneEach 74 = .ok (.ireturn, 1) := by decide +kernel
def bX1_manyWithOneEach_19 (F : Nat) (m : Mem) (a1 : Int32) (x1 : Int32) (x2 : Int32) : (Int32 × Int32) → Option ((Int32 × Int32) ⊕ (Int32 × Int32))
  | (y3, y4) => (if x2 ≤ y4 then some (.inr (y3, y4)) else (gX6_allows m 1 y4).bind (fun x5 => (if x5 = true then (gX2_leavesForest m y4 x1).bind (fun x6 => (if x6 = true then (gX2_areAllApart F m y4 a1).bind (fun x7 => (if x7 = true then some (.inl (y3 + 1, y4 + 1)) else some (.inl (y3, y4 + 1)))) else some (.inl (y3, y4 + 1)))) else some (.inl (y3, y4 + 1)))))
def gX1_manyWithOneEach (F : Nat) (m : Mem) (a1 : Int32) : Option (Int32) := (gJ6_bitCount a1).bind (fun x1 => (gX6_sets m 1).bind (fun x2 => (iter F (bX1_manyWithOneEach_19 F m a1 x1 x2) (0, 0)).bind (fun e8 => some e8.1)))
set_option maxHeartbeats 4000000 in
set_option maxRecDepth 20000 in
theorem LX1_manyWithOneEach {n : Nat} {F : Nat} {m : Mem} {a1 : Int32} {r : Int32} (hn : 43 ≤ n) (hg : gX1_manyWithOneEach F m a1 = some r) : MX yX1_manyWithOneEach cX1_manyWithOneEach 6 (some .int) { frames := 2, cells := 0, slots := 0, locals := 47 } n [.ref 30, .int a1] m (some (.int r)) m := by
  refine MX_of (by decide) (Nat.le_of_ble_eq_true rfl) (Or.inr (Or.inl ⟨rfl, _, rfl⟩)) (fun K hC hk hL hR => ?_)
  replace hn : 43 ≤ kn K := hk.symm ▸ hn
  show RX K 0 [(0, .ref 30), (1, .int a1)] [] m
  rw [gX1_manyWithOneEach] at hg
  refine R_iload_n (pc := 0) hC 1 dX1_manyWithOneEach_0 rfl rfl ?_
  obtain ⟨x1, hx1, hg⟩ := bind_some hg
  refine R_callS (pc := 1) (av := [.int a1]) (rest := []) hC hR mf_J6_bitCount wm_X1_35 (LJ6_bitCount hx1) rfl rfl rfl (Nat.le_of_ble_eq_true rfl) dX1_manyWithOneEach_1 rfl ?_
  show RX K 4 [(0, .ref 30), (1, .int a1)] [.int x1] m
  refine R_istore_n (pc := 4) hC dX1_manyWithOneEach_4 rfl hL rfl (show _ = [(2, .int x1), (0, .ref 30), (1, .int a1)] from rfl) ?_
  refine R_iconst (pc := 5) hC dX1_manyWithOneEach_5 ki_0 ?_
  refine R_istore_n (pc := 6) hC dX1_manyWithOneEach_6 rfl hL rfl (show _ = [(3, .int 0), (2, .int x1), (0, .ref 30), (1, .int a1)] from rfl) ?_
  refine R_aload_n (pc := 7) hC 2 dX1_manyWithOneEach_7 rfl rfl ?_
  refine gf_X1_9 (pc := 8) hC hn dX1_manyWithOneEach_8 ?_
  obtain ⟨x2, hx2, hg⟩ := bind_some hg
  refine R_callVN (pc := 11) (av := []) (rest := []) hC hR 1 (jx hn rfl) ly1 rfl mf_X6_sets wm_X1_19 (LX6_sets hn isv1 hx2) rfl rfl rfl (Nat.le_of_ble_eq_true rfl) dX1_manyWithOneEach_11 rfl ?_
  show RX K 14 [(3, .int 0), (2, .int x1), (0, .ref 30), (1, .int a1)] [.int x2] m
  refine R_istore (pc := 14) hC dX1_manyWithOneEach_14 hL rfl (show _ = [(4, .int x2), (3, .int 0), (2, .int x1), (0, .ref 30), (1, .int a1)] from rfl) ?_
  refine R_iconst (pc := 16) hC dX1_manyWithOneEach_16 ki_0 ?_
  refine R_istore (pc := 17) hC dX1_manyWithOneEach_17 hL rfl (show _ = [(5, .int 0), (4, .int x2), (3, .int 0), (2, .int x1), (0, .ref 30), (1, .int a1)] from rfl) ?_
  refine R_pick [4, 5, 3, 2, 1, 0] (ls' := [(0, .ref 30), (1, .int a1), (2, .int x1), (3, .int 0), (4, .int x2), (5, .int 0)]) rfl ?_
  obtain ⟨e8, he8, hg⟩ := bind_some hg
  refine iter_walk (P := fun s : (Int32 × Int32) => RX K 19 [(0, .ref 30), (1, .int a1), (2, .int x1), (3, .int s.1), (4, .int x2), (5, .int s.2)] [] m) (Qe := fun s : (Int32 × Int32) => RX K 73 [(0, .ref 30), (1, .int a1), (2, .int x1), (3, .int s.1), (4, .int x2), (5, .int s.2)] [] m) (fun s9 o hg kL19 kE19 => ?_) _ _ _ he8 ?_
  · obtain ⟨y3, y4⟩ := s9
    rw [bX1_manyWithOneEach_19] at hg
    show RX K 19 [(0, .ref 30), (1, .int a1), (2, .int x1), (3, .int y3), (4, .int x2), (5, .int y4)] [] m
    refine R_iload (pc := 19) hC 5 dX1_manyWithOneEach_19 rfl ?_
    refine R_iload (pc := 21) hC 4 dX1_manyWithOneEach_21 rfl ?_
    refine R_icmp_ge (tgt := 73) (pc := 23) hC dX1_manyWithOneEach_23 (by decide) (fun c => ?_) (fun c => ?_)
    · replace hg := (if_pos c).symm.trans hg
      refine R_pick [0, 1, 2, 3, 4, 5] (ls' := [(0, .ref 30), (1, .int a1), (2, .int x1), (3, .int y3), (4, .int x2), (5, .int y4)]) rfl ?_
      have h9 := kE19 _ (Option.some.inj hg).symm
      exact h9
    · replace hg := (if_neg c).symm.trans hg
      refine R_aload_n (pc := 26) hC 0 dX1_manyWithOneEach_26 rfl rfl ?_
      refine gf_X1_9 (pc := 27) hC hn dX1_manyWithOneEach_27 ?_
      refine R_iload (pc := 30) hC 5 dX1_manyWithOneEach_30 rfl ?_
      obtain ⟨x5, hx5, hg⟩ := bind_some hg
      refine R_callVN (pc := 32) (av := [.int y4]) (rest := []) hC hR 1 (jx hn rfl) ly1 rfl mf_X6_allows wm_X1_25 (LX6_allows hn isv1 hx5) rfl rfl rfl (Nat.le_of_ble_eq_true rfl) dX1_manyWithOneEach_32 rfl ?_
      show RX K 35 [(0, .ref 30), (1, .int a1), (2, .int x1), (3, .int y3), (4, .int x2), (5, .int y4)] [.int (b2i x5)] m
      refine R_ifB_eq (tgt := 67) (pc := 35) hC dX1_manyWithOneEach_35 (by decide) (fun c => ?_) (fun c => ?_)
      · replace hg := (if_neg c).symm.trans hg
        refine R_iinc (pc := 67) hC 5 dX1_manyWithOneEach_67 rfl (iv ki_1) hL rfl (show _ = [(5, .int (y4 + 1)), (0, .ref 30), (1, .int a1), (2, .int x1), (3, .int y3), (4, .int x2)] from rfl) ?_
        refine R_goto (tgt := 19) (pc := 70) hC dX1_manyWithOneEach_70 (by decide) ?_
        refine R_pick [1, 2, 3, 4, 5, 0] (ls' := [(0, .ref 30), (1, .int a1), (2, .int x1), (3, .int y3), (4, .int x2), (5, .int (y4 + 1))]) rfl ?_
        have h9 := kL19 _ (Option.some.inj hg).symm
        exact h9
      · replace hg := (if_pos c).symm.trans hg
        refine R_aload_n (pc := 38) hC 0 dX1_manyWithOneEach_38 rfl rfl ?_
        refine gf_X1_15 (pc := 39) hC hn dX1_manyWithOneEach_39 ?_
        refine R_iload (pc := 42) hC 5 dX1_manyWithOneEach_42 rfl ?_
        refine R_iload_n (pc := 44) hC 2 dX1_manyWithOneEach_44 rfl rfl ?_
        obtain ⟨x6, hx6, hg⟩ := bind_some hg
        refine R_callVN (pc := 45) (av := [.int y4, .int x1]) (rest := []) hC hR 24 (jx hn rfl) ly24 rfl mf_X2_leavesForest wm_X1_29 (LX2_leavesForest hn hx6) rfl rfl rfl (Nat.le_of_ble_eq_true rfl) dX1_manyWithOneEach_45 rfl ?_
        show RX K 48 [(0, .ref 30), (1, .int a1), (2, .int x1), (3, .int y3), (4, .int x2), (5, .int y4)] [.int (b2i x6)] m
        refine R_ifB_eq (tgt := 67) (pc := 48) hC dX1_manyWithOneEach_48 (by decide) (fun c => ?_) (fun c => ?_)
        · replace hg := (if_neg c).symm.trans hg
          refine R_iinc (pc := 67) hC 5 dX1_manyWithOneEach_67 rfl (iv ki_1) hL rfl (show _ = [(5, .int (y4 + 1)), (0, .ref 30), (1, .int a1), (2, .int x1), (3, .int y3), (4, .int x2)] from rfl) ?_
          refine R_goto (tgt := 19) (pc := 70) hC dX1_manyWithOneEach_70 (by decide) ?_
          refine R_pick [1, 2, 3, 4, 5, 0] (ls' := [(0, .ref 30), (1, .int a1), (2, .int x1), (3, .int y3), (4, .int x2), (5, .int (y4 + 1))]) rfl ?_
          have h9 := kL19 _ (Option.some.inj hg).symm
          exact h9
        · replace hg := (if_pos c).symm.trans hg
          refine R_aload_n (pc := 51) hC 0 dX1_manyWithOneEach_51 rfl rfl ?_
          refine gf_X1_15 (pc := 52) hC hn dX1_manyWithOneEach_52 ?_
          refine R_iload (pc := 55) hC 5 dX1_manyWithOneEach_55 rfl ?_
          refine R_iload_n (pc := 57) hC 1 dX1_manyWithOneEach_57 rfl rfl ?_
          obtain ⟨x7, hx7, hg⟩ := bind_some hg
          refine R_callVN (pc := 58) (av := [.int y4, .int a1]) (rest := []) hC hR 24 (jx hn rfl) ly24 rfl mf_X2_areAllApart wm_X1_41 (LX2_areAllApart hn hx7) rfl rfl rfl (Nat.le_of_ble_eq_true rfl) dX1_manyWithOneEach_58 rfl ?_
          show RX K 61 [(0, .ref 30), (1, .int a1), (2, .int x1), (3, .int y3), (4, .int x2), (5, .int y4)] [.int (b2i x7)] m
          refine R_ifB_eq (tgt := 67) (pc := 61) hC dX1_manyWithOneEach_61 (by decide) (fun c => ?_) (fun c => ?_)
          · replace hg := (if_neg c).symm.trans hg
            refine R_iinc (pc := 67) hC 5 dX1_manyWithOneEach_67 rfl (iv ki_1) hL rfl (show _ = [(5, .int (y4 + 1)), (0, .ref 30), (1, .int a1), (2, .int x1), (3, .int y3), (4, .int x2)] from rfl) ?_
            refine R_goto (tgt := 19) (pc := 70) hC dX1_manyWithOneEach_70 (by decide) ?_
            refine R_pick [1, 2, 3, 4, 5, 0] (ls' := [(0, .ref 30), (1, .int a1), (2, .int x1), (3, .int y3), (4, .int x2), (5, .int (y4 + 1))]) rfl ?_
            have h9 := kL19 _ (Option.some.inj hg).symm
            exact h9
          · replace hg := (if_pos c).symm.trans hg
            refine R_iinc (pc := 64) hC 3 dX1_manyWithOneEach_64 rfl (iv ki_1) hL rfl (show _ = [(3, .int (y3 + 1)), (0, .ref 30), (1, .int a1), (2, .int x1), (4, .int x2), (5, .int y4)] from rfl) ?_
            refine R_iinc (pc := 67) hC 5 dX1_manyWithOneEach_67 rfl (iv ki_1) hL rfl (show _ = [(5, .int (y4 + 1)), (3, .int (y3 + 1)), (0, .ref 30), (1, .int a1), (2, .int x1), (4, .int x2)] from rfl) ?_
            refine R_goto (tgt := 19) (pc := 70) hC dX1_manyWithOneEach_70 (by decide) ?_
            refine R_pick [2, 3, 4, 1, 5, 0] (ls' := [(0, .ref 30), (1, .int a1), (2, .int x1), (3, .int (y3 + 1)), (4, .int x2), (5, .int (y4 + 1))]) rfl ?_
            have h9 := kL19 _ (Option.some.inj hg).symm
            exact h9
  · show RX K 73 [(0, .ref 30), (1, .int a1), (2, .int x1), (3, .int e8.1), (4, .int x2), (5, .int e8.2)] [] m
    refine R_iload_n (pc := 73) hC 3 dX1_manyWithOneEach_73 rfl rfl ?_
    have h9 := gxI (m := m) hg
    exact R_ireturn (pc := 74) hC dX1_manyWithOneEach_74 h9
theorem dX1_isOpen_0 : decode cX1_isOpen 0 = .ok (.iload_n 1, 1) := by decide +kernel
theorem dX1_isOpen_1 : decode cX1_isOpen 1 = .ok (.aload_n 0, 1) := by decide +kernel
theorem dX1_isOpen_2 : decode cX1_isOpen 2 = .ok (.getfield 9, 3) := by decide +kernel
theorem dX1_isOpen_5 : decode cX1_isOpen 5 = .ok (.getfield 54, 3) := by decide +kernel
theorem dX1_isOpen_8 : decode cX1_isOpen 8 = .ok (.iand, 1) := by decide +kernel
theorem dX1_isOpen_9 : decode cX1_isOpen 9 = .ok (.ifCond .ne 14, 3) := by decide +kernel
theorem dX1_isOpen_12 : decode cX1_isOpen 12 = .ok (.iload_n 1, 1) := by decide +kernel
theorem dX1_isOpen_13 : decode cX1_isOpen 13 = .ok (.iload_n 2, 1) := by decide +kernel
theorem dX1_isOpen_14 : decode cX1_isOpen 14 = .ok (.iand, 1) := by decide +kernel
theorem dX1_isOpen_15 : decode cX1_isOpen 15 = .ok (.iload_n 2, 1) := by decide +kernel
theorem dX1_isOpen_16 : decode cX1_isOpen 16 = .ok (.if_icmp .ne 7, 3) := by decide +kernel
theorem dX1_isOpen_19 : decode cX1_isOpen 19 = .ok (.iconst 1, 1) := by decide +kernel
theorem dX1_isOpen_20 : decode cX1_isOpen 20 = .ok (.goto 4, 3) := by decide +kernel
theorem dX1_isOpen_23 : decode cX1_isOpen 23 = .ok (.iconst 0, 1) := by decide +kernel
theorem dX1_isOpen_24 : decode cX1_isOpen 24 = .ok (.ireturn, 1) := by decide +kernel
def gX1_isOpen (m : Mem) (a1 : Int32) (a2 : Int32) : Option (Bool) := (if (a1 &&& (m.1 1 3)) = 0 then (if (a1 &&& a2) = a2 then some true else some false) else some false)
set_option maxHeartbeats 4000000 in
set_option maxRecDepth 20000 in
theorem LX1_isOpen {n : Nat} {m : Mem} {a1 : Int32} {a2 : Int32} {r : Bool} (hn : 43 ≤ n) (hg : gX1_isOpen m a1 a2 = some r) : MX yX1_isOpen cX1_isOpen 3 (some .boolean) { frames := 0, cells := 0, slots := 0, locals := 0 } n [.ref 30, .int a1, .int a2] m (some (.int (b2i r))) m := by
  refine MX_of (by decide) (Nat.le_of_ble_eq_true rfl) (Or.inr (Or.inr (Or.inr ⟨rfl, _, rfl⟩))) (fun K hC hk hL hR => ?_)
  replace hn : 43 ≤ kn K := hk.symm ▸ hn
  show RX K 0 [(0, .ref 30), (1, .int a1), (2, .int a2)] [] m
  rw [gX1_isOpen] at hg
  refine R_iload_n (pc := 0) hC 1 dX1_isOpen_0 rfl rfl ?_
  refine R_aload_n (pc := 1) hC 0 dX1_isOpen_1 rfl rfl ?_
  refine gf_X1_9 (pc := 2) hC hn dX1_isOpen_2 ?_
  refine gf_X1_54 (pc := 5) hC hn isv1 dX1_isOpen_5 ?_
  refine R_iand (pc := 8) hC dX1_isOpen_8 ?_
  refine R_if_ne (tgt := 23) (pc := 9) hC dX1_isOpen_9 (by decide) (fun c => ?_) (fun c => ?_)
  · replace hg := (if_neg c).symm.trans hg
    refine R_iconst (pc := 23) hC dX1_isOpen_23 ki_0 ?_
    have h9 := gxZ (m := m) hg
    exact R_ireturn (pc := 24) hC dX1_isOpen_24 h9
  · replace hg := (if_pos c).symm.trans hg
    refine R_iload_n (pc := 12) hC 1 dX1_isOpen_12 rfl rfl ?_
    refine R_iload_n (pc := 13) hC 2 dX1_isOpen_13 rfl rfl ?_
    refine R_iand (pc := 14) hC dX1_isOpen_14 ?_
    refine R_iload_n (pc := 15) hC 2 dX1_isOpen_15 rfl rfl ?_
    refine R_icmp_ne (tgt := 23) (pc := 16) hC dX1_isOpen_16 (by decide) (fun c => ?_) (fun c => ?_)
    · replace hg := (if_neg c).symm.trans hg
      refine R_iconst (pc := 23) hC dX1_isOpen_23 ki_0 ?_
      have h9 := gxZ (m := m) hg
      exact R_ireturn (pc := 24) hC dX1_isOpen_24 h9
    · replace hg := (if_pos c).symm.trans hg
      refine R_iconst (pc := 19) hC dX1_isOpen_19 ki_1 ?_
      refine R_goto (tgt := 24) (pc := 20) hC dX1_isOpen_20 (by decide) ?_
      have h9 := gxZ (m := m) hg
      exact R_ireturn (pc := 24) hC dX1_isOpen_24 h9
theorem dX1_worthOfWhole_0 : decode cX1_worthOfWhole 0 = .ok (.lconst 0, 1) := by decide +kernel
theorem dX1_worthOfWhole_1 : decode cX1_worthOfWhole 1 = .ok (.lstore_n 1, 1) := by decide +kernel
theorem dX1_worthOfWhole_2 : decode cX1_worthOfWhole 2 = .ok (.aload_n 0, 1) := by decide +kernel
theorem dX1_worthOfWhole_3 : decode cX1_worthOfWhole 3 = .ok (.getfield 9, 3) := by decide +kernel
theorem dX1_worthOfWhole_6 : decode cX1_worthOfWhole 6 = .ok (.invokevirtual 19, 3) := by decide +kernel
theorem dX1_worthOfWhole_9 : decode cX1_worthOfWhole 9 = .ok (.istore_n 3, 1) := by decide +kernel
theorem dX1_worthOfWhole_10 : decode cX1_worthOfWhole 10 = .ok (.iconst 0, 1) := by decide +kernel
theorem dX1_worthOfWhole_11 : decode cX1_worthOfWhole 11 = .ok (.istore 4, 2) := by decide +kernel
theorem dX1_worthOfWhole_13 : decode cX1_worthOfWhole 13 = .ok (.iload 4, 2) := by decide +kernel
theorem dX1_worthOfWhole_15 : decode cX1_worthOfWhole 15 = .ok (.iload_n 3, 1) := by decide +kernel
theorem dX1_worthOfWhole_16 : decode cX1_worthOfWhole 16 = .ok (.if_icmp .ge 45, 3) := by decide +kernel
theorem dX1_worthOfWhole_19 : decode cX1_worthOfWhole 19 = .ok (.aload_n 0, 1) := by decide +kernel
theorem dX1_worthOfWhole_20 : decode cX1_worthOfWhole 20 = .ok (.iload 4, 2) := by decide +kernel
theorem dX1_worthOfWhole_22 : decode cX1_worthOfWhole 22 = .ok (.iconst 0, 1) := by decide +kernel
theorem dX1_worthOfWhole_23 : decode cX1_worthOfWhole 23 = .ok (.invokevirtual 44, 3) := by decide +kernel
theorem dX1_worthOfWhole_26 : decode cX1_worthOfWhole 26 = .ok (.ifCond .eq 29, 3) := by decide +kernel
theorem dX1_worthOfWhole_29 : decode cX1_worthOfWhole 29 = .ok (.aload_n 0, 1) := by decide +kernel
theorem dX1_worthOfWhole_30 : decode cX1_worthOfWhole 30 = .ok (.getfield 15, 3) := by decide +kernel
theorem dX1_worthOfWhole_33 : decode cX1_worthOfWhole 33 = .ok (.iload 4, 2) := by decide +kernel
theorem dX1_worthOfWhole_35 : decode cX1_worthOfWhole 35 = .ok (.iconst 1, 1) := by decide +kernel
theorem dX1_worthOfWhole_36 : decode cX1_worthOfWhole 36 = .ok (.invokevirtual 29, 3) := by decide +kernel
theorem dX1_worthOfWhole_39 : decode cX1_worthOfWhole 39 = .ok (.ifCond .eq 16, 3) := by decide +kernel
theorem dX1_worthOfWhole_42 : decode cX1_worthOfWhole 42 = .ok (.lload_n 1, 1) := by decide +kernel
theorem dX1_worthOfWhole_43 : decode cX1_worthOfWhole 43 = .ok (.aload_n 0, 1) := by decide +kernel
theorem dX1_worthOfWhole_44 : decode cX1_worthOfWhole 44 = .ok (.getfield 9, 3) := by decide +kernel
theorem dX1_worthOfWhole_47 : decode cX1_worthOfWhole 47 = .ok (.iload 4, 2) := by decide +kernel
theorem dX1_worthOfWhole_49 : decode cX1_worthOfWhole 49 = .ok (.invokevirtual 47, 3) := by decide +kernel
theorem dX1_worthOfWhole_52 : decode cX1_worthOfWhole 52 = .ok (.i2l, 1) := by decide +kernel
theorem dX1_worthOfWhole_53 : decode cX1_worthOfWhole 53 = .ok (.ladd, 1) := by decide +kernel
theorem dX1_worthOfWhole_54 : decode cX1_worthOfWhole 54 = .ok (.lstore_n 1, 1) := by decide +kernel
theorem dX1_worthOfWhole_55 : decode cX1_worthOfWhole 55 = .ok (.iinc 4 1, 3) := by decide +kernel
theorem dX1_worthOfWhole_58 : decode cX1_worthOfWhole 58 = .ok (.goto (-45), 3) := by decide +kernel
theorem dX1_worthOfWhole_61 : decode cX1_worthOfWhole 61 = .ok (.lload_n 1, 1) := by decide +kernel
theorem dX1_worthOfWhole_62 : decode cX1_worthOfWhole 62 = .ok (.lreturn, 1) := by decide +kernel
def bX1_worthOfWhole_13 (F : Nat) (m : Mem) (x1 : Int32) : (Int64 × Int32) → Option ((Int64 × Int32) ⊕ (Int64 × Int32))
  | (y2, y3) => (if x1 ≤ y3 then some (.inr (y2, y3)) else (gX1_isOpen m y3 0).bind (fun x4 => (if x4 = true then (gX2_leavesForest m y3 1).bind (fun x5 => (if x5 = true then (gX6_worthOf F m 1 y3).bind (fun x6 => lete (y2 + (Int32.toInt64 x6)) (fun x7 => some (.inl (x7, y3 + 1)))) else some (.inl (y2, y3 + 1)))) else some (.inl (y2, y3 + 1)))))
def gX1_worthOfWhole (F : Nat) (m : Mem) : Option (Int64) := (gX6_sets m 1).bind (fun x1 => (iter F (bX1_worthOfWhole_13 F m x1) (0, 0)).bind (fun e8 => some e8.1))
set_option maxHeartbeats 4000000 in
set_option maxRecDepth 20000 in
theorem LX1_worthOfWhole {n : Nat} {F : Nat} {m : Mem} {r : Int64} (hn : 43 ≤ n) (hg : gX1_worthOfWhole F m  = some r) : MX yX1_worthOfWhole cX1_worthOfWhole 5 (some .long) { frames := 2, cells := 0, slots := 0, locals := 43 } n [.ref 30] m (some (.long r)) m := by
  refine MX_of (by decide) (Nat.le_of_ble_eq_true rfl) (Or.inr (Or.inr (Or.inl ⟨rfl, _, rfl⟩))) (fun K hC hk hL hR => ?_)
  replace hn : 43 ≤ kn K := hk.symm ▸ hn
  show RX K 0 [(0, .ref 30)] [] m
  rw [gX1_worthOfWhole] at hg
  refine R_lconst (pc := 0) hC dX1_worthOfWhole_0 kl_0 ?_
  refine R_lstore_n (pc := 1) hC dX1_worthOfWhole_1 rfl hL rfl (show _ = [(1, .long 0), (0, .ref 30)] from rfl) ?_
  refine R_aload_n (pc := 2) hC 1 dX1_worthOfWhole_2 rfl rfl ?_
  refine gf_X1_9 (pc := 3) hC hn dX1_worthOfWhole_3 ?_
  obtain ⟨x1, hx1, hg⟩ := bind_some hg
  refine R_callVN (pc := 6) (av := []) (rest := []) hC hR 1 (jx hn rfl) ly1 rfl mf_X6_sets wm_X1_19 (LX6_sets hn isv1 hx1) rfl rfl rfl (Nat.le_of_ble_eq_true rfl) dX1_worthOfWhole_6 rfl ?_
  show RX K 9 [(1, .long 0), (0, .ref 30)] [.int x1] m
  refine R_istore_n (pc := 9) hC dX1_worthOfWhole_9 rfl hL rfl (show _ = [(3, .int x1), (1, .long 0), (0, .ref 30)] from rfl) ?_
  refine R_iconst (pc := 10) hC dX1_worthOfWhole_10 ki_0 ?_
  refine R_istore (pc := 11) hC dX1_worthOfWhole_11 hL rfl (show _ = [(4, .int 0), (3, .int x1), (1, .long 0), (0, .ref 30)] from rfl) ?_
  refine R_pick [3, 2, 1, 0] (ls' := [(0, .ref 30), (1, .long 0), (3, .int x1), (4, .int 0)]) rfl ?_
  obtain ⟨e8, he8, hg⟩ := bind_some hg
  refine iter_walk (P := fun s : (Int64 × Int32) => RX K 13 [(0, .ref 30), (1, .long s.1), (3, .int x1), (4, .int s.2)] [] m) (Qe := fun s : (Int64 × Int32) => RX K 61 [(0, .ref 30), (1, .long s.1), (3, .int x1), (4, .int s.2)] [] m) (fun s9 o hg kL13 kE13 => ?_) _ _ _ he8 ?_
  · obtain ⟨y2, y3⟩ := s9
    rw [bX1_worthOfWhole_13] at hg
    show RX K 13 [(0, .ref 30), (1, .long y2), (3, .int x1), (4, .int y3)] [] m
    refine R_iload (pc := 13) hC 3 dX1_worthOfWhole_13 rfl ?_
    refine R_iload_n (pc := 15) hC 2 dX1_worthOfWhole_15 rfl rfl ?_
    refine R_icmp_ge (tgt := 61) (pc := 16) hC dX1_worthOfWhole_16 (by decide) (fun c => ?_) (fun c => ?_)
    · replace hg := (if_pos c).symm.trans hg
      refine R_pick [0, 1, 2, 3] (ls' := [(0, .ref 30), (1, .long y2), (3, .int x1), (4, .int y3)]) rfl ?_
      have h9 := kE13 _ (Option.some.inj hg).symm
      exact h9
    · replace hg := (if_neg c).symm.trans hg
      refine R_aload_n (pc := 19) hC 0 dX1_worthOfWhole_19 rfl rfl ?_
      refine R_iload (pc := 20) hC 3 dX1_worthOfWhole_20 rfl ?_
      refine R_iconst (pc := 22) hC dX1_worthOfWhole_22 ki_0 ?_
      obtain ⟨x4, hx4, hg⟩ := bind_some hg
      refine R_callV (pc := 23) (av := [.int y3, .int 0]) (rest := []) hC hR 30 (jx hn rfl) ly30 rfl mf_X1_isOpen wm_X1_44 (LX1_isOpen hn hx4) rfl rfl rfl (Nat.le_of_ble_eq_true rfl) dX1_worthOfWhole_23 rfl ?_
      show RX K 26 [(0, .ref 30), (1, .long y2), (3, .int x1), (4, .int y3)] [.int (b2i x4)] m
      refine R_ifB_eq (tgt := 55) (pc := 26) hC dX1_worthOfWhole_26 (by decide) (fun c => ?_) (fun c => ?_)
      · replace hg := (if_neg c).symm.trans hg
        refine R_iinc (pc := 55) hC 3 dX1_worthOfWhole_55 rfl (iv ki_1) hL rfl (show _ = [(4, .int (y3 + 1)), (0, .ref 30), (1, .long y2), (3, .int x1)] from rfl) ?_
        refine R_goto (tgt := 13) (pc := 58) hC dX1_worthOfWhole_58 (by decide) ?_
        refine R_pick [1, 2, 3, 0] (ls' := [(0, .ref 30), (1, .long y2), (3, .int x1), (4, .int (y3 + 1))]) rfl ?_
        have h9 := kL13 _ (Option.some.inj hg).symm
        exact h9
      · replace hg := (if_pos c).symm.trans hg
        refine R_aload_n (pc := 29) hC 0 dX1_worthOfWhole_29 rfl rfl ?_
        refine gf_X1_15 (pc := 30) hC hn dX1_worthOfWhole_30 ?_
        refine R_iload (pc := 33) hC 3 dX1_worthOfWhole_33 rfl ?_
        refine R_iconst (pc := 35) hC dX1_worthOfWhole_35 ki_1 ?_
        obtain ⟨x5, hx5, hg⟩ := bind_some hg
        refine R_callVN (pc := 36) (av := [.int y3, .int 1]) (rest := []) hC hR 24 (jx hn rfl) ly24 rfl mf_X2_leavesForest wm_X1_29 (LX2_leavesForest hn hx5) rfl rfl rfl (Nat.le_of_ble_eq_true rfl) dX1_worthOfWhole_36 rfl ?_
        show RX K 39 [(0, .ref 30), (1, .long y2), (3, .int x1), (4, .int y3)] [.int (b2i x5)] m
        refine R_ifB_eq (tgt := 55) (pc := 39) hC dX1_worthOfWhole_39 (by decide) (fun c => ?_) (fun c => ?_)
        · replace hg := (if_neg c).symm.trans hg
          refine R_iinc (pc := 55) hC 3 dX1_worthOfWhole_55 rfl (iv ki_1) hL rfl (show _ = [(4, .int (y3 + 1)), (0, .ref 30), (1, .long y2), (3, .int x1)] from rfl) ?_
          refine R_goto (tgt := 13) (pc := 58) hC dX1_worthOfWhole_58 (by decide) ?_
          refine R_pick [1, 2, 3, 0] (ls' := [(0, .ref 30), (1, .long y2), (3, .int x1), (4, .int (y3 + 1))]) rfl ?_
          have h9 := kL13 _ (Option.some.inj hg).symm
          exact h9
        · replace hg := (if_pos c).symm.trans hg
          refine R_lload_n (pc := 42) hC 1 dX1_worthOfWhole_42 rfl rfl ?_
          refine R_aload_n (pc := 43) hC 0 dX1_worthOfWhole_43 rfl rfl ?_
          refine gf_X1_9 (pc := 44) hC hn dX1_worthOfWhole_44 ?_
          refine R_iload (pc := 47) hC 3 dX1_worthOfWhole_47 rfl ?_
          obtain ⟨x6, hx6, hg⟩ := bind_some hg
          refine R_callVN (pc := 49) (av := [.int y3]) (rest := [.long y2]) hC hR 1 (jx hn rfl) ly1 rfl mf_X6_worthOf wm_X1_47 (LX6_worthOf hn isv1 hx6) rfl rfl rfl (Nat.le_of_ble_eq_true rfl) dX1_worthOfWhole_49 rfl ?_
          show RX K 52 [(0, .ref 30), (1, .long y2), (3, .int x1), (4, .int y3)] [.int x6, .long y2] m
          refine R_i2l (pc := 52) hC dX1_worthOfWhole_52 ?_
          refine R_ladd (pc := 53) hC dX1_worthOfWhole_53 ?_
          obtain ⟨x7, hx7, hg⟩ := lete_some hg
          refine R_topL hx7 ?_
          refine R_lstore_n (pc := 54) hC dX1_worthOfWhole_54 rfl hL rfl (show _ = [(1, .long x7), (0, .ref 30), (3, .int x1), (4, .int y3)] from rfl) ?_
          refine R_iinc (pc := 55) hC 3 dX1_worthOfWhole_55 rfl (iv ki_1) hL rfl (show _ = [(4, .int (y3 + 1)), (1, .long x7), (0, .ref 30), (3, .int x1)] from rfl) ?_
          refine R_goto (tgt := 13) (pc := 58) hC dX1_worthOfWhole_58 (by decide) ?_
          refine R_pick [2, 1, 3, 0] (ls' := [(0, .ref 30), (1, .long x7), (3, .int x1), (4, .int (y3 + 1))]) rfl ?_
          have h9 := kL13 _ (Option.some.inj hg).symm
          exact h9
  · show RX K 61 [(0, .ref 30), (1, .long e8.1), (3, .int x1), (4, .int e8.2)] [] m
    refine R_lload_n (pc := 61) hC 1 dX1_worthOfWhole_61 rfl rfl ?_
    have h9 := gxJ (m := m) hg
    exact R_lreturn (pc := 62) hC dX1_worthOfWhole_62 h9
theorem dX1_worthApart_0 : decode cX1_worthApart 0 = .ok (.lconst 0, 1) := by decide +kernel
theorem dX1_worthApart_1 : decode cX1_worthApart 1 = .ok (.lstore 4, 2) := by decide +kernel
theorem dX1_worthApart_3 : decode cX1_worthApart 3 = .ok (.aload_n 0, 1) := by decide +kernel
theorem dX1_worthApart_4 : decode cX1_worthApart 4 = .ok (.getfield 9, 3) := by decide +kernel
theorem dX1_worthApart_7 : decode cX1_worthApart 7 = .ok (.invokevirtual 19, 3) := by decide +kernel
theorem dX1_worthApart_10 : decode cX1_worthApart 10 = .ok (.istore 6, 2) := by decide +kernel
theorem dX1_worthApart_12 : decode cX1_worthApart 12 = .ok (.iconst 0, 1) := by decide +kernel
theorem dX1_worthApart_13 : decode cX1_worthApart 13 = .ok (.istore 7, 2) := by decide +kernel
theorem dX1_worthApart_15 : decode cX1_worthApart 15 = .ok (.iload 7, 2) := by decide +kernel
theorem dX1_worthApart_17 : decode cX1_worthApart 17 = .ok (.iload 6, 2) := by decide +kernel
theorem dX1_worthApart_19 : decode cX1_worthApart 19 = .ok (.if_icmp .ge 61, 3) := by decide +kernel
theorem dX1_worthApart_22 : decode cX1_worthApart 22 = .ok (.aload_n 0, 1) := by decide +kernel
theorem dX1_worthApart_23 : decode cX1_worthApart 23 = .ok (.iload 7, 2) := by decide +kernel
theorem dX1_worthApart_25 : decode cX1_worthApart 25 = .ok (.iload_n 3, 1) := by decide +kernel
theorem dX1_worthApart_26 : decode cX1_worthApart 26 = .ok (.invokevirtual 44, 3) := by decide +kernel
theorem dX1_worthApart_29 : decode cX1_worthApart 29 = .ok (.ifCond .eq 45, 3) := by decide +kernel
theorem dX1_worthApart_32 : decode cX1_worthApart 32 = .ok (.aload_n 0, 1) := by decide +kernel
theorem dX1_worthApart_33 : decode cX1_worthApart 33 = .ok (.getfield 15, 3) := by decide +kernel
theorem dX1_worthApart_36 : decode cX1_worthApart 36 = .ok (.iload 7, 2) := by decide +kernel
theorem dX1_worthApart_38 : decode cX1_worthApart 38 = .ok (.iconst 2, 1) := by decide +kernel
theorem dX1_worthApart_39 : decode cX1_worthApart 39 = .ok (.invokevirtual 29, 3) := by decide +kernel
theorem dX1_worthApart_42 : decode cX1_worthApart 42 = .ok (.ifCond .eq 32, 3) := by decide +kernel
theorem dX1_worthApart_45 : decode cX1_worthApart 45 = .ok (.aload_n 0, 1) := by decide +kernel
theorem dX1_worthApart_46 : decode cX1_worthApart 46 = .ok (.getfield 15, 3) := by decide +kernel
theorem dX1_worthApart_49 : decode cX1_worthApart 49 = .ok (.iload 7, 2) := by decide +kernel
theorem dX1_worthApart_51 : decode cX1_worthApart 51 = .ok (.iload_n 1, 1) := by decide +kernel
theorem dX1_worthApart_52 : decode cX1_worthApart 52 = .ok (.iload_n 2, 1) := by decide +kernel
theorem dX1_worthApart_53 : decode cX1_worthApart 53 = .ok (.invokevirtual 50, 3) := by decide +kernel
theorem dX1_worthApart_56 : decode cX1_worthApart 56 = .ok (.ifCond .ne 18, 3) := by decide +kernel
theorem dX1_worthApart_59 : decode cX1_worthApart 59 = .ok (.lload 4, 2) := by decide +kernel
theorem dX1_worthApart_61 : decode cX1_worthApart 61 = .ok (.aload_n 0, 1) := by decide +kernel
theorem dX1_worthApart_62 : decode cX1_worthApart 62 = .ok (.getfield 9, 3) := by decide +kernel
theorem dX1_worthApart_65 : decode cX1_worthApart 65 = .ok (.iload 7, 2) := by decide +kernel
theorem dX1_worthApart_67 : decode cX1_worthApart 67 = .ok (.invokevirtual 47, 3) := by decide +kernel
theorem dX1_worthApart_70 : decode cX1_worthApart 70 = .ok (.i2l, 1) := by decide +kernel
theorem dX1_worthApart_71 : decode cX1_worthApart 71 = .ok (.ladd, 1) := by decide +kernel
theorem dX1_worthApart_72 : decode cX1_worthApart 72 = .ok (.lstore 4, 2) := by decide +kernel
theorem dX1_worthApart_74 : decode cX1_worthApart 74 = .ok (.iinc 7 1, 3) := by decide +kernel
theorem dX1_worthApart_77 : decode cX1_worthApart 77 = .ok (.goto (-62), 3) := by decide +kernel
theorem dX1_worthApart_80 : decode cX1_worthApart 80 = .ok (.lload 4, 2) := by decide +kernel
theorem dX1_worthApart_82 : decode cX1_worthApart 82 = .ok (.lreturn, 1) := by decide +kernel
def bX1_worthApart_15 (F : Nat) (m : Mem) (a1 : Int32) (a2 : Int32) (a3 : Int32) (x1 : Int32) : (Int64 × Int32) → Option ((Int64 × Int32) ⊕ (Int64 × Int32))
  | (y2, y3) => (if x1 ≤ y3 then some (.inr (y2, y3)) else (gX1_isOpen m y3 a3).bind (fun x4 => (if x4 = true then (gX2_leavesForest m y3 2).bind (fun x5 => (if x5 = true then (gX2_areTogether m y3 a1 a2).bind (fun x6 => (if x6 = true then some (.inl (y2, y3 + 1)) else (gX6_worthOf F m 1 y3).bind (fun x7 => lete (y2 + (Int32.toInt64 x7)) (fun x8 => some (.inl (x8, y3 + 1)))))) else some (.inl (y2, y3 + 1)))) else some (.inl (y2, y3 + 1)))))
def gX1_worthApart (F : Nat) (m : Mem) (a1 : Int32) (a2 : Int32) (a3 : Int32) : Option (Int64) := (gX6_sets m 1).bind (fun x1 => (iter F (bX1_worthApart_15 F m a1 a2 a3 x1) (0, 0)).bind (fun e9 => some e9.1))
set_option maxHeartbeats 4000000 in
set_option maxRecDepth 20000 in
theorem LX1_worthApart {n : Nat} {F : Nat} {m : Mem} {a1 : Int32} {a2 : Int32} {a3 : Int32} {r : Int64} (hn : 43 ≤ n) (hg : gX1_worthApart F m a1 a2 a3 = some r) : MX yX1_worthApart cX1_worthApart 8 (some .long) { frames := 2, cells := 0, slots := 0, locals := 45 } n [.ref 30, .int a1, .int a2, .int a3] m (some (.long r)) m := by
  refine MX_of (by decide) (Nat.le_of_ble_eq_true rfl) (Or.inr (Or.inr (Or.inl ⟨rfl, _, rfl⟩))) (fun K hC hk hL hR => ?_)
  replace hn : 43 ≤ kn K := hk.symm ▸ hn
  show RX K 0 [(0, .ref 30), (1, .int a1), (2, .int a2), (3, .int a3)] [] m
  rw [gX1_worthApart] at hg
  refine R_lconst (pc := 0) hC dX1_worthApart_0 kl_0 ?_
  refine R_lstore (pc := 1) hC dX1_worthApart_1 hL rfl (show _ = [(4, .long 0), (0, .ref 30), (1, .int a1), (2, .int a2), (3, .int a3)] from rfl) ?_
  refine R_aload_n (pc := 3) hC 1 dX1_worthApart_3 rfl rfl ?_
  refine gf_X1_9 (pc := 4) hC hn dX1_worthApart_4 ?_
  obtain ⟨x1, hx1, hg⟩ := bind_some hg
  refine R_callVN (pc := 7) (av := []) (rest := []) hC hR 1 (jx hn rfl) ly1 rfl mf_X6_sets wm_X1_19 (LX6_sets hn isv1 hx1) rfl rfl rfl (Nat.le_of_ble_eq_true rfl) dX1_worthApart_7 rfl ?_
  show RX K 10 [(4, .long 0), (0, .ref 30), (1, .int a1), (2, .int a2), (3, .int a3)] [.int x1] m
  refine R_istore (pc := 10) hC dX1_worthApart_10 hL rfl (show _ = [(6, .int x1), (4, .long 0), (0, .ref 30), (1, .int a1), (2, .int a2), (3, .int a3)] from rfl) ?_
  refine R_iconst (pc := 12) hC dX1_worthApart_12 ki_0 ?_
  refine R_istore (pc := 13) hC dX1_worthApart_13 hL rfl (show _ = [(7, .int 0), (6, .int x1), (4, .long 0), (0, .ref 30), (1, .int a1), (2, .int a2), (3, .int a3)] from rfl) ?_
  refine R_pick [3, 4, 5, 6, 2, 1, 0] (ls' := [(0, .ref 30), (1, .int a1), (2, .int a2), (3, .int a3), (4, .long 0), (6, .int x1), (7, .int 0)]) rfl ?_
  obtain ⟨e9, he9, hg⟩ := bind_some hg
  refine iter_walk (P := fun s : (Int64 × Int32) => RX K 15 [(0, .ref 30), (1, .int a1), (2, .int a2), (3, .int a3), (4, .long s.1), (6, .int x1), (7, .int s.2)] [] m) (Qe := fun s : (Int64 × Int32) => RX K 80 [(0, .ref 30), (1, .int a1), (2, .int a2), (3, .int a3), (4, .long s.1), (6, .int x1), (7, .int s.2)] [] m) (fun s10 o hg kL15 kE15 => ?_) _ _ _ he9 ?_
  · obtain ⟨y2, y3⟩ := s10
    rw [bX1_worthApart_15] at hg
    show RX K 15 [(0, .ref 30), (1, .int a1), (2, .int a2), (3, .int a3), (4, .long y2), (6, .int x1), (7, .int y3)] [] m
    refine R_iload (pc := 15) hC 6 dX1_worthApart_15 rfl ?_
    refine R_iload (pc := 17) hC 5 dX1_worthApart_17 rfl ?_
    refine R_icmp_ge (tgt := 80) (pc := 19) hC dX1_worthApart_19 (by decide) (fun c => ?_) (fun c => ?_)
    · replace hg := (if_pos c).symm.trans hg
      refine R_pick [0, 1, 2, 3, 4, 5, 6] (ls' := [(0, .ref 30), (1, .int a1), (2, .int a2), (3, .int a3), (4, .long y2), (6, .int x1), (7, .int y3)]) rfl ?_
      have h9 := kE15 _ (Option.some.inj hg).symm
      exact h9
    · replace hg := (if_neg c).symm.trans hg
      refine R_aload_n (pc := 22) hC 0 dX1_worthApart_22 rfl rfl ?_
      refine R_iload (pc := 23) hC 6 dX1_worthApart_23 rfl ?_
      refine R_iload_n (pc := 25) hC 3 dX1_worthApart_25 rfl rfl ?_
      obtain ⟨x4, hx4, hg⟩ := bind_some hg
      refine R_callV (pc := 26) (av := [.int y3, .int a3]) (rest := []) hC hR 30 (jx hn rfl) ly30 rfl mf_X1_isOpen wm_X1_44 (LX1_isOpen hn hx4) rfl rfl rfl (Nat.le_of_ble_eq_true rfl) dX1_worthApart_26 rfl ?_
      show RX K 29 [(0, .ref 30), (1, .int a1), (2, .int a2), (3, .int a3), (4, .long y2), (6, .int x1), (7, .int y3)] [.int (b2i x4)] m
      refine R_ifB_eq (tgt := 74) (pc := 29) hC dX1_worthApart_29 (by decide) (fun c => ?_) (fun c => ?_)
      · replace hg := (if_neg c).symm.trans hg
        refine R_iinc (pc := 74) hC 6 dX1_worthApart_74 rfl (iv ki_1) hL rfl (show _ = [(7, .int (y3 + 1)), (0, .ref 30), (1, .int a1), (2, .int a2), (3, .int a3), (4, .long y2), (6, .int x1)] from rfl) ?_
        refine R_goto (tgt := 15) (pc := 77) hC dX1_worthApart_77 (by decide) ?_
        refine R_pick [1, 2, 3, 4, 5, 6, 0] (ls' := [(0, .ref 30), (1, .int a1), (2, .int a2), (3, .int a3), (4, .long y2), (6, .int x1), (7, .int (y3 + 1))]) rfl ?_
        have h9 := kL15 _ (Option.some.inj hg).symm
        exact h9
      · replace hg := (if_pos c).symm.trans hg
        refine R_aload_n (pc := 32) hC 0 dX1_worthApart_32 rfl rfl ?_
        refine gf_X1_15 (pc := 33) hC hn dX1_worthApart_33 ?_
        refine R_iload (pc := 36) hC 6 dX1_worthApart_36 rfl ?_
        refine R_iconst (pc := 38) hC dX1_worthApart_38 ki_2 ?_
        obtain ⟨x5, hx5, hg⟩ := bind_some hg
        refine R_callVN (pc := 39) (av := [.int y3, .int 2]) (rest := []) hC hR 24 (jx hn rfl) ly24 rfl mf_X2_leavesForest wm_X1_29 (LX2_leavesForest hn hx5) rfl rfl rfl (Nat.le_of_ble_eq_true rfl) dX1_worthApart_39 rfl ?_
        show RX K 42 [(0, .ref 30), (1, .int a1), (2, .int a2), (3, .int a3), (4, .long y2), (6, .int x1), (7, .int y3)] [.int (b2i x5)] m
        refine R_ifB_eq (tgt := 74) (pc := 42) hC dX1_worthApart_42 (by decide) (fun c => ?_) (fun c => ?_)
        · replace hg := (if_neg c).symm.trans hg
          refine R_iinc (pc := 74) hC 6 dX1_worthApart_74 rfl (iv ki_1) hL rfl (show _ = [(7, .int (y3 + 1)), (0, .ref 30), (1, .int a1), (2, .int a2), (3, .int a3), (4, .long y2), (6, .int x1)] from rfl) ?_
          refine R_goto (tgt := 15) (pc := 77) hC dX1_worthApart_77 (by decide) ?_
          refine R_pick [1, 2, 3, 4, 5, 6, 0] (ls' := [(0, .ref 30), (1, .int a1), (2, .int a2), (3, .int a3), (4, .long y2), (6, .int x1), (7, .int (y3 + 1))]) rfl ?_
          have h9 := kL15 _ (Option.some.inj hg).symm
          exact h9
        · replace hg := (if_pos c).symm.trans hg
          refine R_aload_n (pc := 45) hC 0 dX1_worthApart_45 rfl rfl ?_
          refine gf_X1_15 (pc := 46) hC hn dX1_worthApart_46 ?_
          refine R_iload (pc := 49) hC 6 dX1_worthApart_49 rfl ?_
          refine R_iload_n (pc := 51) hC 1 dX1_worthApart_51 rfl rfl ?_
          refine R_iload_n (pc := 52) hC 2 dX1_worthApart_52 rfl rfl ?_
          obtain ⟨x6, hx6, hg⟩ := bind_some hg
          refine R_callVN (pc := 53) (av := [.int y3, .int a1, .int a2]) (rest := []) hC hR 24 (jx hn rfl) ly24 rfl mf_X2_areTogether wm_X1_50 (LX2_areTogether hn hx6) rfl rfl rfl (Nat.le_of_ble_eq_true rfl) dX1_worthApart_53 rfl ?_
          show RX K 56 [(0, .ref 30), (1, .int a1), (2, .int a2), (3, .int a3), (4, .long y2), (6, .int x1), (7, .int y3)] [.int (b2i x6)] m
          refine R_ifB_ne (tgt := 74) (pc := 56) hC dX1_worthApart_56 (by decide) (fun c => ?_) (fun c => ?_)
          · replace hg := (if_pos c).symm.trans hg
            refine R_iinc (pc := 74) hC 6 dX1_worthApart_74 rfl (iv ki_1) hL rfl (show _ = [(7, .int (y3 + 1)), (0, .ref 30), (1, .int a1), (2, .int a2), (3, .int a3), (4, .long y2), (6, .int x1)] from rfl) ?_
            refine R_goto (tgt := 15) (pc := 77) hC dX1_worthApart_77 (by decide) ?_
            refine R_pick [1, 2, 3, 4, 5, 6, 0] (ls' := [(0, .ref 30), (1, .int a1), (2, .int a2), (3, .int a3), (4, .long y2), (6, .int x1), (7, .int (y3 + 1))]) rfl ?_
            have h9 := kL15 _ (Option.some.inj hg).symm
            exact h9
          · replace hg := (if_neg c).symm.trans hg
            refine R_lload (pc := 59) hC 4 dX1_worthApart_59 rfl ?_
            refine R_aload_n (pc := 61) hC 0 dX1_worthApart_61 rfl rfl ?_
            refine gf_X1_9 (pc := 62) hC hn dX1_worthApart_62 ?_
            refine R_iload (pc := 65) hC 6 dX1_worthApart_65 rfl ?_
            obtain ⟨x7, hx7, hg⟩ := bind_some hg
            refine R_callVN (pc := 67) (av := [.int y3]) (rest := [.long y2]) hC hR 1 (jx hn rfl) ly1 rfl mf_X6_worthOf wm_X1_47 (LX6_worthOf hn isv1 hx7) rfl rfl rfl (Nat.le_of_ble_eq_true rfl) dX1_worthApart_67 rfl ?_
            show RX K 70 [(0, .ref 30), (1, .int a1), (2, .int a2), (3, .int a3), (4, .long y2), (6, .int x1), (7, .int y3)] [.int x7, .long y2] m
            refine R_i2l (pc := 70) hC dX1_worthApart_70 ?_
            refine R_ladd (pc := 71) hC dX1_worthApart_71 ?_
            obtain ⟨x8, hx8, hg⟩ := lete_some hg
            refine R_topL hx8 ?_
            refine R_lstore (pc := 72) hC dX1_worthApart_72 hL rfl (show _ = [(4, .long x8), (0, .ref 30), (1, .int a1), (2, .int a2), (3, .int a3), (6, .int x1), (7, .int y3)] from rfl) ?_
            refine R_iinc (pc := 74) hC 6 dX1_worthApart_74 rfl (iv ki_1) hL rfl (show _ = [(7, .int (y3 + 1)), (4, .long x8), (0, .ref 30), (1, .int a1), (2, .int a2), (3, .int a3), (6, .int x1)] from rfl) ?_
            refine R_goto (tgt := 15) (pc := 77) hC dX1_worthApart_77 (by decide) ?_
            refine R_pick [2, 3, 4, 5, 1, 6, 0] (ls' := [(0, .ref 30), (1, .int a1), (2, .int a2), (3, .int a3), (4, .long x8), (6, .int x1), (7, .int (y3 + 1))]) rfl ?_
            have h9 := kL15 _ (Option.some.inj hg).symm
            exact h9
  · show RX K 80 [(0, .ref 30), (1, .int a1), (2, .int a2), (3, .int a3), (4, .long e9.1), (6, .int x1), (7, .int e9.2)] [] m
    refine R_lload (pc := 80) hC 4 dX1_worthApart_80 rfl ?_
    have h9 := gxJ (m := m) hg
    exact R_lreturn (pc := 82) hC dX1_worthApart_82 h9
theorem dX1_free_0 : decode cX1_free 0 = .ok (.aload_n 0, 1) := by decide +kernel
theorem dX1_free_1 : decode cX1_free 1 = .ok (.getfield 9, 3) := by decide +kernel
theorem dX1_free_4 : decode cX1_free 4 = .ok (.invokevirtual 58, 3) := by decide +kernel
theorem dX1_free_7 : decode cX1_free 7 = .ok (.aload_n 0, 1) := by decide +kernel
theorem dX1_free_8 : decode cX1_free 8 = .ok (.getfield 9, 3) := by decide +kernel
theorem dX1_free_11 : decode cX1_free 11 = .ok (.getfield 61, 3) := by decide +kernel
theorem dX1_free_14 : decode cX1_free 14 = .ok (.iconst (-1), 1) := by decide +kernel
theorem dX1_free_15 : decode cX1_free 15 = .ok (.ixor, 1) := by decide +kernel
theorem dX1_free_16 : decode cX1_free 16 = .ok (.iand, 1) := by decide +kernel
theorem dX1_free_17 : decode cX1_free 17 = .ok (.aload_n 0, 1) := by decide +kernel
theorem dX1_free_18 : decode cX1_free 18 = .ok (.getfield 9, 3) := by decide +kernel
theorem dX1_free_21 : decode cX1_free 21 = .ok (.getfield 54, 3) := by decide +kernel
theorem dX1_free_24 : decode cX1_free 24 = .ok (.iconst (-1), 1) := by decide +kernel
theorem dX1_free_25 : decode cX1_free 25 = .ok (.ixor, 1) := by decide +kernel
theorem dX1_free_26 : decode cX1_free 26 = .ok (.iand, 1) := by decide +kernel
theorem dX1_free_27 : decode cX1_free 27 = .ok (.ireturn, 1) := by decide +kernel
def gX1_free (m : Mem) : Option (Int32) := (gX6_allLanes m 1).bind (fun x1 => some ((x1 &&& ((m.1 1 2) ^^^ (-1))) &&& ((m.1 1 3) ^^^ (-1))))
set_option maxHeartbeats 4000000 in
set_option maxRecDepth 20000 in
theorem LX1_free {n : Nat} {m : Mem} {r : Int32} (hn : 43 ≤ n) (hg : gX1_free m  = some r) : MX yX1_free cX1_free 1 (some .int) { frames := 1, cells := 0, slots := 0, locals := 20 } n [.ref 30] m (some (.int r)) m := by
  refine MX_of (by decide) (Nat.le_of_ble_eq_true rfl) (Or.inr (Or.inl ⟨rfl, _, rfl⟩)) (fun K hC hk hL hR => ?_)
  replace hn : 43 ≤ kn K := hk.symm ▸ hn
  show RX K 0 [(0, .ref 30)] [] m
  rw [gX1_free] at hg
  refine R_aload_n (pc := 0) hC 0 dX1_free_0 rfl rfl ?_
  refine gf_X1_9 (pc := 1) hC hn dX1_free_1 ?_
  obtain ⟨x1, hx1, hg⟩ := bind_some hg
  refine R_callVN (pc := 4) (av := []) (rest := []) hC hR 1 (jx hn rfl) ly1 rfl mf_X6_allLanes wm_X1_58 (LX6_allLanes hn isv1 hx1) rfl rfl rfl (Nat.le_of_ble_eq_true rfl) dX1_free_4 rfl ?_
  show RX K 7 [(0, .ref 30)] [.int x1] m
  refine R_aload_n (pc := 7) hC 0 dX1_free_7 rfl rfl ?_
  refine gf_X1_9 (pc := 8) hC hn dX1_free_8 ?_
  refine gf_X1_61 (pc := 11) hC hn isv1 dX1_free_11 ?_
  refine R_iconst (pc := 14) hC dX1_free_14 ki_m1 ?_
  refine R_ixor (pc := 15) hC dX1_free_15 ?_
  refine R_iand (pc := 16) hC dX1_free_16 ?_
  refine R_aload_n (pc := 17) hC 0 dX1_free_17 rfl rfl ?_
  refine gf_X1_9 (pc := 18) hC hn dX1_free_18 ?_
  refine gf_X1_54 (pc := 21) hC hn isv1 dX1_free_21 ?_
  refine R_iconst (pc := 24) hC dX1_free_24 ki_m1 ?_
  refine R_ixor (pc := 25) hC dX1_free_25 ?_
  refine R_iand (pc := 26) hC dX1_free_26 ?_
  have h9 := gxI (m := m) hg
  exact R_ireturn (pc := 27) hC dX1_free_27 h9
theorem dX1_chancesInAll_0 : decode cX1_chancesInAll 0 = .ok (.aload_n 0, 1) := by decide +kernel
theorem dX1_chancesInAll_1 : decode cX1_chancesInAll 1 = .ok (.invokevirtual 64, 3) := by decide +kernel
theorem dX1_chancesInAll_4 : decode cX1_chancesInAll 4 = .ok (.invokestatic 35, 3) := by decide +kernel
theorem dX1_chancesInAll_7 : decode cX1_chancesInAll 7 = .ok (.istore_n 1, 1) := by decide +kernel
theorem dX1_chancesInAll_8 : decode cX1_chancesInAll 8 = .ok (.lconst 1, 1) := by decide +kernel
theorem dX1_chancesInAll_9 : decode cX1_chancesInAll 9 = .ok (.lstore_n 2, 1) := by decide +kernel
theorem dX1_chancesInAll_10 : decode cX1_chancesInAll 10 = .ok (.iconst 0, 1) := by decide +kernel
theorem dX1_chancesInAll_11 : decode cX1_chancesInAll 11 = .ok (.istore 4, 2) := by decide +kernel
theorem dX1_chancesInAll_13 : decode cX1_chancesInAll 13 = .ok (.iload 4, 2) := by decide +kernel
theorem dX1_chancesInAll_15 : decode cX1_chancesInAll 15 = .ok (.iload_n 1, 1) := by decide +kernel
theorem dX1_chancesInAll_16 : decode cX1_chancesInAll 16 = .ok (.if_icmp .ge 15, 3) := by decide +kernel
theorem dX1_chancesInAll_19 : decode cX1_chancesInAll 19 = .ok (.lload_n 2, 1) := by decide +kernel
theorem dX1_chancesInAll_20 : decode cX1_chancesInAll 20 = .ok (.ldc2_w 67, 3) := by decide +kernel
theorem dX1_chancesInAll_23 : decode cX1_chancesInAll 23 = .ok (.lmul, 1) := by decide +kernel
theorem dX1_chancesInAll_24 : decode cX1_chancesInAll 24 = .ok (.lstore_n 2, 1) := by decide +kernel
theorem dX1_chancesInAll_25 : decode cX1_chancesInAll 25 = .ok (.iinc 4 1, 3) := by decide +kernel
theorem dX1_chancesInAll_28 : decode cX1_chancesInAll 28 = .ok (.goto (-15), 3) := by decide +kernel
theorem dX1_chancesInAll_31 : decode cX1_chancesInAll 31 = .ok (.lload_n 2, 1) := by decide +kernel
theorem dX1_chancesInAll_32 : decode cX1_chancesInAll 32 = .ok (.lreturn, 1) := by decide +kernel
def bX1_chancesInAll_13 (x2 : Int32) : (Int64 × Int32) → Option ((Int64 × Int32) ⊕ (Int64 × Int32))
  | (y3, y4) => (if x2 ≤ y4 then some (.inr (y3, y4)) else lete (y3 * 100) (fun x5 => some (.inl (x5, y4 + 1))))
def gX1_chancesInAll (F : Nat) (m : Mem) : Option (Int64) := (gX1_free m).bind (fun x1 => (gJ6_bitCount x1).bind (fun x2 => (iter F (bX1_chancesInAll_13 x2) (1, 0)).bind (fun e6 => some e6.1)))
set_option maxHeartbeats 4000000 in
set_option maxRecDepth 20000 in
theorem LX1_chancesInAll {n : Nat} {F : Nat} {m : Mem} {r : Int64} (hn : 43 ≤ n) (hg : gX1_chancesInAll F m  = some r) : MX yX1_chancesInAll cX1_chancesInAll 5 (some .long) { frames := 2, cells := 0, slots := 0, locals := 40 } n [.ref 30] m (some (.long r)) m := by
  refine MX_of (by decide) (Nat.le_of_ble_eq_true rfl) (Or.inr (Or.inr (Or.inl ⟨rfl, _, rfl⟩))) (fun K hC hk hL hR => ?_)
  replace hn : 43 ≤ kn K := hk.symm ▸ hn
  show RX K 0 [(0, .ref 30)] [] m
  rw [gX1_chancesInAll] at hg
  refine R_aload_n (pc := 0) hC 0 dX1_chancesInAll_0 rfl rfl ?_
  obtain ⟨x1, hx1, hg⟩ := bind_some hg
  refine R_callV (pc := 1) (av := []) (rest := []) hC hR 30 (jx hn rfl) ly30 rfl mf_X1_free wm_X1_64 (LX1_free hn hx1) rfl rfl rfl (Nat.le_of_ble_eq_true rfl) dX1_chancesInAll_1 rfl ?_
  show RX K 4 [(0, .ref 30)] [.int x1] m
  obtain ⟨x2, hx2, hg⟩ := bind_some hg
  refine R_callS (pc := 4) (av := [.int x1]) (rest := []) hC hR mf_J6_bitCount wm_X1_35 (LJ6_bitCount hx2) rfl rfl rfl (Nat.le_of_ble_eq_true rfl) dX1_chancesInAll_4 rfl ?_
  show RX K 7 [(0, .ref 30)] [.int x2] m
  refine R_istore_n (pc := 7) hC dX1_chancesInAll_7 rfl hL rfl (show _ = [(1, .int x2), (0, .ref 30)] from rfl) ?_
  refine R_lconst (pc := 8) hC dX1_chancesInAll_8 kl_1 ?_
  refine R_lstore_n (pc := 9) hC dX1_chancesInAll_9 rfl hL rfl (show _ = [(2, .long 1), (1, .int x2), (0, .ref 30)] from rfl) ?_
  refine R_iconst (pc := 10) hC dX1_chancesInAll_10 ki_0 ?_
  refine R_istore (pc := 11) hC dX1_chancesInAll_11 hL rfl (show _ = [(4, .int 0), (2, .long 1), (1, .int x2), (0, .ref 30)] from rfl) ?_
  refine R_pick [3, 2, 1, 0] (ls' := [(0, .ref 30), (1, .int x2), (2, .long 1), (4, .int 0)]) rfl ?_
  obtain ⟨e6, he6, hg⟩ := bind_some hg
  refine iter_walk (P := fun s : (Int64 × Int32) => RX K 13 [(0, .ref 30), (1, .int x2), (2, .long s.1), (4, .int s.2)] [] m) (Qe := fun s : (Int64 × Int32) => RX K 31 [(0, .ref 30), (1, .int x2), (2, .long s.1), (4, .int s.2)] [] m) (fun s7 o hg kL13 kE13 => ?_) _ _ _ he6 ?_
  · obtain ⟨y3, y4⟩ := s7
    rw [bX1_chancesInAll_13] at hg
    show RX K 13 [(0, .ref 30), (1, .int x2), (2, .long y3), (4, .int y4)] [] m
    refine R_iload (pc := 13) hC 3 dX1_chancesInAll_13 rfl ?_
    refine R_iload_n (pc := 15) hC 1 dX1_chancesInAll_15 rfl rfl ?_
    refine R_icmp_ge (tgt := 31) (pc := 16) hC dX1_chancesInAll_16 (by decide) (fun c => ?_) (fun c => ?_)
    · replace hg := (if_pos c).symm.trans hg
      refine R_pick [0, 1, 2, 3] (ls' := [(0, .ref 30), (1, .int x2), (2, .long y3), (4, .int y4)]) rfl ?_
      have h9 := kE13 _ (Option.some.inj hg).symm
      exact h9
    · replace hg := (if_neg c).symm.trans hg
      refine R_lload_n (pc := 19) hC 2 dX1_chancesInAll_19 rfl rfl ?_
      refine R_ldc2 (pc := 20) hC wc_X1_67 dX1_chancesInAll_20 ?_
      refine R_lmul (pc := 23) hC dX1_chancesInAll_23 ?_
      obtain ⟨x5, hx5, hg⟩ := lete_some hg
      refine R_topL hx5 ?_
      refine R_lstore_n (pc := 24) hC dX1_chancesInAll_24 rfl hL rfl (show _ = [(2, .long x5), (0, .ref 30), (1, .int x2), (4, .int y4)] from rfl) ?_
      refine R_iinc (pc := 25) hC 3 dX1_chancesInAll_25 rfl (iv ki_1) hL rfl (show _ = [(4, .int (y4 + 1)), (2, .long x5), (0, .ref 30), (1, .int x2)] from rfl) ?_
      refine R_goto (tgt := 13) (pc := 28) hC dX1_chancesInAll_28 (by decide) ?_
      refine R_pick [2, 3, 1, 0] (ls' := [(0, .ref 30), (1, .int x2), (2, .long x5), (4, .int (y4 + 1))]) rfl ?_
      have h9 := kL13 _ (Option.some.inj hg).symm
      exact h9
  · show RX K 31 [(0, .ref 30), (1, .int x2), (2, .long e6.1), (4, .int e6.2)] [] m
    refine R_lload_n (pc := 31) hC 2 dX1_chancesInAll_31 rfl rfl ?_
    have h9 := gxJ (m := m) hg
    exact R_lreturn (pc := 32) hC dX1_chancesInAll_32 h9
theorem dX1_chancesOf_0 : decode cX1_chancesOf 0 = .ok (.lconst 1, 1) := by decide +kernel
theorem dX1_chancesOf_1 : decode cX1_chancesOf 1 = .ok (.lstore_n 3, 1) := by decide +kernel
theorem dX1_chancesOf_2 : decode cX1_chancesOf 2 = .ok (.iconst 0, 1) := by decide +kernel
theorem dX1_chancesOf_3 : decode cX1_chancesOf 3 = .ok (.istore 5, 2) := by decide +kernel
theorem dX1_chancesOf_5 : decode cX1_chancesOf 5 = .ok (.iload 5, 2) := by decide +kernel
theorem dX1_chancesOf_7 : decode cX1_chancesOf 7 = .ok (.aload_n 0, 1) := by decide +kernel
theorem dX1_chancesOf_8 : decode cX1_chancesOf 8 = .ok (.getfield 9, 3) := by decide +kernel
theorem dX1_chancesOf_11 : decode cX1_chancesOf 11 = .ok (.getfield 76, 3) := by decide +kernel
theorem dX1_chancesOf_14 : decode cX1_chancesOf 14 = .ok (.if_icmp .ge 61, 3) := by decide +kernel
theorem dX1_chancesOf_17 : decode cX1_chancesOf 17 = .ok (.iload 5, 2) := by decide +kernel
theorem dX1_chancesOf_19 : decode cX1_chancesOf 19 = .ok (.bipush 10, 2) := by decide +kernel
theorem dX1_chancesOf_21 : decode cX1_chancesOf 21 = .ok (.if_icmp .ge 54, 3) := by decide +kernel
theorem dX1_chancesOf_24 : decode cX1_chancesOf 24 = .ok (.iload_n 2, 1) := by decide +kernel
theorem dX1_chancesOf_25 : decode cX1_chancesOf 25 = .ok (.iload 5, 2) := by decide +kernel
theorem dX1_chancesOf_27 : decode cX1_chancesOf 27 = .ok (.ishr, 1) := by decide +kernel
theorem dX1_chancesOf_28 : decode cX1_chancesOf 28 = .ok (.iconst 1, 1) := by decide +kernel
theorem dX1_chancesOf_29 : decode cX1_chancesOf 29 = .ok (.iand, 1) := by decide +kernel
theorem dX1_chancesOf_30 : decode cX1_chancesOf 30 = .ok (.ifCond .eq 39, 3) := by decide +kernel
theorem dX1_chancesOf_33 : decode cX1_chancesOf 33 = .ok (.aload_n 0, 1) := by decide +kernel
theorem dX1_chancesOf_34 : decode cX1_chancesOf 34 = .ok (.getfield 9, 3) := by decide +kernel
theorem dX1_chancesOf_37 : decode cX1_chancesOf 37 = .ok (.getfield 79, 3) := by decide +kernel
theorem dX1_chancesOf_40 : decode cX1_chancesOf 40 = .ok (.iload 5, 2) := by decide +kernel
theorem dX1_chancesOf_42 : decode cX1_chancesOf 42 = .ok (.iaload, 1) := by decide +kernel
theorem dX1_chancesOf_43 : decode cX1_chancesOf 43 = .ok (.istore 6, 2) := by decide +kernel
theorem dX1_chancesOf_45 : decode cX1_chancesOf 45 = .ok (.lload_n 3, 1) := by decide +kernel
theorem dX1_chancesOf_46 : decode cX1_chancesOf 46 = .ok (.iload_n 1, 1) := by decide +kernel
theorem dX1_chancesOf_47 : decode cX1_chancesOf 47 = .ok (.iload 5, 2) := by decide +kernel
theorem dX1_chancesOf_49 : decode cX1_chancesOf 49 = .ok (.ishr, 1) := by decide +kernel
theorem dX1_chancesOf_50 : decode cX1_chancesOf 50 = .ok (.iconst 1, 1) := by decide +kernel
theorem dX1_chancesOf_51 : decode cX1_chancesOf 51 = .ok (.iand, 1) := by decide +kernel
theorem dX1_chancesOf_52 : decode cX1_chancesOf 52 = .ok (.ifCond .eq 12, 3) := by decide +kernel
theorem dX1_chancesOf_55 : decode cX1_chancesOf 55 = .ok (.bipush 100, 2) := by decide +kernel
theorem dX1_chancesOf_57 : decode cX1_chancesOf 57 = .ok (.iload 6, 2) := by decide +kernel
theorem dX1_chancesOf_59 : decode cX1_chancesOf 59 = .ok (.isub, 1) := by decide +kernel
theorem dX1_chancesOf_60 : decode cX1_chancesOf 60 = .ok (.i2l, 1) := by decide +kernel
theorem dX1_chancesOf_61 : decode cX1_chancesOf 61 = .ok (.goto 6, 3) := by decide +kernel
theorem dX1_chancesOf_64 : decode cX1_chancesOf 64 = .ok (.iload 6, 2) := by decide +kernel
theorem dX1_chancesOf_66 : decode cX1_chancesOf 66 = .ok (.i2l, 1) := by decide +kernel
theorem dX1_chancesOf_67 : decode cX1_chancesOf 67 = .ok (.lmul, 1) := by decide +kernel
theorem dX1_chancesOf_68 : decode cX1_chancesOf 68 = .ok (.lstore_n 3, 1) := by decide +kernel
theorem dX1_chancesOf_69 : decode cX1_chancesOf 69 = .ok (.iinc 5 1, 3) := by decide +kernel
theorem dX1_chancesOf_72 : decode cX1_chancesOf 72 = .ok (.goto (-67), 3) := by decide +kernel
theorem dX1_chancesOf_75 : decode cX1_chancesOf 75 = .ok (.lload_n 3, 1) := by decide +kernel
theorem dX1_chancesOf_76 : decode cX1_chancesOf 76 = .ok (.lreturn, 1) := by decide +kernel
def bX1_chancesOf_5 (m : Mem) (a1 : Int32) (a2 : Int32) : (Int64 × Int32) → Option ((Int64 × Int32) ⊕ (Int64 × Int32))
  | (y1, y2) => (if (m.1 1 1) ≤ y2 then some (.inr (y1, y2)) else (if 10 ≤ y2 then some (.inr (y1, y2)) else (if ((a2 >>> (y2 &&& 31)) &&& 1) = 0 then some (.inl (y1, y2 + 1)) else chk (inb y2 10) (lete (m.1 7 (Int32.toNatClampNeg y2)) (fun x4 => (if ((a1 >>> (y2 &&& 31)) &&& 1) = 0 then lete (y1 * (Int32.toInt64 x4)) (fun x5 => some (.inl (x5, y2 + 1))) else lete (y1 * ((100 - x4).toInt64)) (fun x6 => some (.inl (x6, y2 + 1)))))))))
def gX1_chancesOf (F : Nat) (m : Mem) (a1 : Int32) (a2 : Int32) : Option (Int64) := (iter F (bX1_chancesOf_5 m a1 a2) (1, 0)).bind (fun e7 => some e7.1)
set_option maxHeartbeats 4000000 in
set_option maxRecDepth 20000 in
theorem LX1_chancesOf {n : Nat} {F : Nat} {m : Mem} {a1 : Int32} {a2 : Int32} {r : Int64} (hn : 43 ≤ n) (hg : gX1_chancesOf F m a1 a2 = some r) : MX yX1_chancesOf cX1_chancesOf 7 (some .long) { frames := 0, cells := 0, slots := 0, locals := 0 } n [.ref 30, .int a1, .int a2] m (some (.long r)) m := by
  refine MX_of (by decide) (Nat.le_of_ble_eq_true rfl) (Or.inr (Or.inr (Or.inl ⟨rfl, _, rfl⟩))) (fun K hC hk hL hR => ?_)
  replace hn : 43 ≤ kn K := hk.symm ▸ hn
  show RX K 0 [(0, .ref 30), (1, .int a1), (2, .int a2)] [] m
  rw [gX1_chancesOf] at hg
  refine R_lconst (pc := 0) hC dX1_chancesOf_0 kl_1 ?_
  refine R_lstore_n (pc := 1) hC dX1_chancesOf_1 rfl hL rfl (show _ = [(3, .long 1), (0, .ref 30), (1, .int a1), (2, .int a2)] from rfl) ?_
  refine R_iconst (pc := 2) hC dX1_chancesOf_2 ki_0 ?_
  refine R_istore (pc := 3) hC dX1_chancesOf_3 hL rfl (show _ = [(5, .int 0), (3, .long 1), (0, .ref 30), (1, .int a1), (2, .int a2)] from rfl) ?_
  refine R_pick [2, 3, 4, 1, 0] (ls' := [(0, .ref 30), (1, .int a1), (2, .int a2), (3, .long 1), (5, .int 0)]) rfl ?_
  obtain ⟨e7, he7, hg⟩ := bind_some hg
  refine iter_walk (P := fun s : (Int64 × Int32) => RX K 5 [(0, .ref 30), (1, .int a1), (2, .int a2), (3, .long s.1), (5, .int s.2)] [] m) (Qe := fun s : (Int64 × Int32) => RX K 75 [(0, .ref 30), (1, .int a1), (2, .int a2), (3, .long s.1), (5, .int s.2)] [] m) (fun s8 o hg kL5 kE5 => ?_) _ _ _ he7 ?_
  · obtain ⟨y1, y2⟩ := s8
    rw [bX1_chancesOf_5] at hg
    show RX K 5 [(0, .ref 30), (1, .int a1), (2, .int a2), (3, .long y1), (5, .int y2)] [] m
    refine R_iload (pc := 5) hC 4 dX1_chancesOf_5 rfl ?_
    refine R_aload_n (pc := 7) hC 0 dX1_chancesOf_7 rfl rfl ?_
    refine gf_X1_9 (pc := 8) hC hn dX1_chancesOf_8 ?_
    refine gf_X1_76 (pc := 11) hC hn isv1 dX1_chancesOf_11 ?_
    refine R_icmp_ge (tgt := 75) (pc := 14) hC dX1_chancesOf_14 (by decide) (fun c => ?_) (fun c => ?_)
    · replace hg := (if_pos c).symm.trans hg
      refine R_pick [0, 1, 2, 3, 4] (ls' := [(0, .ref 30), (1, .int a1), (2, .int a2), (3, .long y1), (5, .int y2)]) rfl ?_
      have h9 := kE5 _ (Option.some.inj hg).symm
      exact h9
    · replace hg := (if_neg c).symm.trans hg
      refine R_iload (pc := 17) hC 4 dX1_chancesOf_17 rfl ?_
      refine R_bipush (pc := 19) hC dX1_chancesOf_19 kb_10 ?_
      refine R_icmp_ge (tgt := 75) (pc := 21) hC dX1_chancesOf_21 (by decide) (fun c => ?_) (fun c => ?_)
      · replace hg := (if_pos c).symm.trans hg
        refine R_pick [0, 1, 2, 3, 4] (ls' := [(0, .ref 30), (1, .int a1), (2, .int a2), (3, .long y1), (5, .int y2)]) rfl ?_
        have h9 := kE5 _ (Option.some.inj hg).symm
        exact h9
      · replace hg := (if_neg c).symm.trans hg
        refine R_iload_n (pc := 24) hC 2 dX1_chancesOf_24 rfl rfl ?_
        refine R_iload (pc := 25) hC 4 dX1_chancesOf_25 rfl ?_
        refine R_ishr (pc := 27) hC dX1_chancesOf_27 ?_
        refine R_iconst (pc := 28) hC dX1_chancesOf_28 ki_1 ?_
        refine R_iand (pc := 29) hC dX1_chancesOf_29 ?_
        refine R_if_eq (tgt := 69) (pc := 30) hC dX1_chancesOf_30 (by decide) (fun c => ?_) (fun c => ?_)
        · replace hg := (if_pos c).symm.trans hg
          refine R_iinc (pc := 69) hC 4 dX1_chancesOf_69 rfl (iv ki_1) hL rfl (show _ = [(5, .int (y2 + 1)), (0, .ref 30), (1, .int a1), (2, .int a2), (3, .long y1)] from rfl) ?_
          refine R_goto (tgt := 5) (pc := 72) hC dX1_chancesOf_72 (by decide) ?_
          refine R_pick [1, 2, 3, 4, 0] (ls' := [(0, .ref 30), (1, .int a1), (2, .int a2), (3, .long y1), (5, .int (y2 + 1))]) rfl ?_
          have h9 := kL5 _ (Option.some.inj hg).symm
          exact h9
        · replace hg := (if_neg c).symm.trans hg
          refine R_aload_n (pc := 33) hC 0 dX1_chancesOf_33 rfl rfl ?_
          refine gf_X1_9 (pc := 34) hC hn dX1_chancesOf_34 ?_
          refine gf_X1_79 (pc := 37) hC hn isv1 dX1_chancesOf_37 ?_
          refine R_iload (pc := 40) hC 4 dX1_chancesOf_40 rfl ?_
          obtain ⟨c3, hg⟩ := chk_some hg
          refine R_iaload (pc := 42) hC 7 (jx hn rfl) ly7 (inb_vp c3) dX1_chancesOf_42 ?_
          obtain ⟨x4, hx4, hg⟩ := lete_some hg
          refine R_top hx4 ?_
          refine R_istore (pc := 43) hC dX1_chancesOf_43 hL rfl (show _ = [(6, .int x4), (0, .ref 30), (1, .int a1), (2, .int a2), (3, .long y1), (5, .int y2)] from rfl) ?_
          refine R_lload_n (pc := 45) hC 4 dX1_chancesOf_45 rfl rfl ?_
          refine R_iload_n (pc := 46) hC 2 dX1_chancesOf_46 rfl rfl ?_
          refine R_iload (pc := 47) hC 5 dX1_chancesOf_47 rfl ?_
          refine R_ishr (pc := 49) hC dX1_chancesOf_49 ?_
          refine R_iconst (pc := 50) hC dX1_chancesOf_50 ki_1 ?_
          refine R_iand (pc := 51) hC dX1_chancesOf_51 ?_
          refine R_if_eq (tgt := 64) (pc := 52) hC dX1_chancesOf_52 (by decide) (fun c => ?_) (fun c => ?_)
          · replace hg := (if_pos c).symm.trans hg
            refine R_iload (pc := 64) hC 0 dX1_chancesOf_64 rfl ?_
            refine R_i2l (pc := 66) hC dX1_chancesOf_66 ?_
            refine R_lmul (pc := 67) hC dX1_chancesOf_67 ?_
            obtain ⟨x5, hx5, hg⟩ := lete_some hg
            refine R_topL hx5 ?_
            refine R_lstore_n (pc := 68) hC dX1_chancesOf_68 rfl hL rfl (show _ = [(3, .long x5), (6, .int x4), (0, .ref 30), (1, .int a1), (2, .int a2), (5, .int y2)] from rfl) ?_
            refine R_iinc (pc := 69) hC 5 dX1_chancesOf_69 rfl (iv ki_1) hL rfl (show _ = [(5, .int (y2 + 1)), (3, .long x5), (6, .int x4), (0, .ref 30), (1, .int a1), (2, .int a2)] from rfl) ?_
            refine R_goto (tgt := 5) (pc := 72) hC dX1_chancesOf_72 (by decide) ?_
            refine R_pick [3, 4, 5, 1, 0] (ls' := [(0, .ref 30), (1, .int a1), (2, .int a2), (3, .long x5), (5, .int (y2 + 1))]) rfl ?_
            have h9 := kL5 _ (Option.some.inj hg).symm
            exact h9
          · replace hg := (if_neg c).symm.trans hg
            refine R_bipush (pc := 55) hC dX1_chancesOf_55 kb_100 ?_
            refine R_iload (pc := 57) hC 0 dX1_chancesOf_57 rfl ?_
            refine R_isub (pc := 59) hC dX1_chancesOf_59 ?_
            refine R_i2l (pc := 60) hC dX1_chancesOf_60 ?_
            refine R_goto (tgt := 67) (pc := 61) hC dX1_chancesOf_61 (by decide) ?_
            refine R_lmul (pc := 67) hC dX1_chancesOf_67 ?_
            obtain ⟨x6, hx6, hg⟩ := lete_some hg
            refine R_topL hx6 ?_
            refine R_lstore_n (pc := 68) hC dX1_chancesOf_68 rfl hL rfl (show _ = [(3, .long x6), (6, .int x4), (0, .ref 30), (1, .int a1), (2, .int a2), (5, .int y2)] from rfl) ?_
            refine R_iinc (pc := 69) hC 5 dX1_chancesOf_69 rfl (iv ki_1) hL rfl (show _ = [(5, .int (y2 + 1)), (3, .long x6), (6, .int x4), (0, .ref 30), (1, .int a1), (2, .int a2)] from rfl) ?_
            refine R_goto (tgt := 5) (pc := 72) hC dX1_chancesOf_72 (by decide) ?_
            refine R_pick [3, 4, 5, 1, 0] (ls' := [(0, .ref 30), (1, .int a1), (2, .int a2), (3, .long x6), (5, .int (y2 + 1))]) rfl ?_
            have h9 := kL5 _ (Option.some.inj hg).symm
            exact h9
  · show RX K 75 [(0, .ref 30), (1, .int a1), (2, .int a2), (3, .long e7.1), (5, .int e7.2)] [] m
    refine R_lload_n (pc := 75) hC 3 dX1_chancesOf_75 rfl rfl ?_
    have h9 := gxJ (m := m) hg
    exact R_lreturn (pc := 76) hC dX1_chancesOf_76 h9
theorem dX1_chancesToHold_0 : decode cX1_chancesToHold 0 = .ok (.lconst 0, 1) := by decide +kernel
theorem dX1_chancesToHold_1 : decode cX1_chancesToHold 1 = .ok (.lstore_n 1, 1) := by decide +kernel
theorem dX1_chancesToHold_2 : decode cX1_chancesToHold 2 = .ok (.aload_n 0, 1) := by decide +kernel
theorem dX1_chancesToHold_3 : decode cX1_chancesToHold 3 = .ok (.invokevirtual 64, 3) := by decide +kernel
theorem dX1_chancesToHold_6 : decode cX1_chancesToHold 6 = .ok (.istore_n 3, 1) := by decide +kernel
theorem dX1_chancesToHold_7 : decode cX1_chancesToHold 7 = .ok (.aload_n 0, 1) := by decide +kernel
theorem dX1_chancesToHold_8 : decode cX1_chancesToHold 8 = .ok (.getfield 9, 3) := by decide +kernel
theorem dX1_chancesToHold_11 : decode cX1_chancesToHold 11 = .ok (.invokevirtual 19, 3) := by decide +kernel
theorem dX1_chancesToHold_14 : decode cX1_chancesToHold 14 = .ok (.istore 4, 2) := by decide +kernel
theorem dX1_chancesToHold_16 : decode cX1_chancesToHold 16 = .ok (.iconst 0, 1) := by decide +kernel
theorem dX1_chancesToHold_17 : decode cX1_chancesToHold 17 = .ok (.istore 5, 2) := by decide +kernel
theorem dX1_chancesToHold_19 : decode cX1_chancesToHold 19 = .ok (.iload 5, 2) := by decide +kernel
theorem dX1_chancesToHold_21 : decode cX1_chancesToHold 21 = .ok (.iload 4, 2) := by decide +kernel
theorem dX1_chancesToHold_23 : decode cX1_chancesToHold 23 = .ok (.if_icmp .ge 44, 3) := by decide +kernel
theorem dX1_chancesToHold_26 : decode cX1_chancesToHold 26 = .ok (.aload_n 0, 1) := by decide +kernel
theorem dX1_chancesToHold_27 : decode cX1_chancesToHold 27 = .ok (.getfield 9, 3) := by decide +kernel
theorem dX1_chancesToHold_30 : decode cX1_chancesToHold 30 = .ok (.iload 5, 2) := by decide +kernel
theorem dX1_chancesToHold_32 : decode cX1_chancesToHold 32 = .ok (.invokevirtual 25, 3) := by decide +kernel
theorem dX1_chancesToHold_35 : decode cX1_chancesToHold 35 = .ok (.ifCond .eq 26, 3) := by decide +kernel
theorem dX1_chancesToHold_38 : decode cX1_chancesToHold 38 = .ok (.aload_n 0, 1) := by decide +kernel
theorem dX1_chancesToHold_39 : decode cX1_chancesToHold 39 = .ok (.getfield 15, 3) := by decide +kernel
theorem dX1_chancesToHold_42 : decode cX1_chancesToHold 42 = .ok (.iload 5, 2) := by decide +kernel
theorem dX1_chancesToHold_44 : decode cX1_chancesToHold 44 = .ok (.invokevirtual 69, 3) := by decide +kernel
theorem dX1_chancesToHold_47 : decode cX1_chancesToHold 47 = .ok (.iconst 1, 1) := by decide +kernel
theorem dX1_chancesToHold_48 : decode cX1_chancesToHold 48 = .ok (.if_icmp .ne 13, 3) := by decide +kernel
theorem dX1_chancesToHold_51 : decode cX1_chancesToHold 51 = .ok (.lload_n 1, 1) := by decide +kernel
theorem dX1_chancesToHold_52 : decode cX1_chancesToHold 52 = .ok (.aload_n 0, 1) := by decide +kernel
theorem dX1_chancesToHold_53 : decode cX1_chancesToHold 53 = .ok (.iload 5, 2) := by decide +kernel
theorem dX1_chancesToHold_55 : decode cX1_chancesToHold 55 = .ok (.iload_n 3, 1) := by decide +kernel
theorem dX1_chancesToHold_56 : decode cX1_chancesToHold 56 = .ok (.invokevirtual 72, 3) := by decide +kernel
theorem dX1_chancesToHold_59 : decode cX1_chancesToHold 59 = .ok (.ladd, 1) := by decide +kernel
theorem dX1_chancesToHold_60 : decode cX1_chancesToHold 60 = .ok (.lstore_n 1, 1) := by decide +kernel
theorem dX1_chancesToHold_61 : decode cX1_chancesToHold 61 = .ok (.iinc 5 1, 3) := by decide +kernel
theorem dX1_chancesToHold_64 : decode cX1_chancesToHold 64 = .ok (.goto (-45), 3) := by decide +kernel
theorem dX1_chancesToHold_67 : decode cX1_chancesToHold 67 = .ok (.lload_n 1, 1) := by decide +kernel
theorem dX1_chancesToHold_68 : decode cX1_chancesToHold 68 = .ok (.lreturn, 1) := by decide +kernel
def bX1_chancesToHold_19 (F : Nat) (m : Mem) (x1 : Int32) (x2 : Int32) : (Int64 × Int32) → Option ((Int64 × Int32) ⊕ (Int64 × Int32))
  | (y3, y4) => (if x2 ≤ y4 then some (.inr (y3, y4)) else (gX6_allows m 1 y4).bind (fun x5 => (if x5 = true then (gX2_partsLeft m y4).bind (fun x6 => (if x6 = 1 then (gX1_chancesOf F m y4 x1).bind (fun x7 => lete (y3 + x7) (fun x8 => some (.inl (x8, y4 + 1)))) else some (.inl (y3, y4 + 1)))) else some (.inl (y3, y4 + 1)))))
def gX1_chancesToHold (F : Nat) (m : Mem) : Option (Int64) := (gX1_free m).bind (fun x1 => (gX6_sets m 1).bind (fun x2 => (iter F (bX1_chancesToHold_19 F m x1 x2) (0, 0)).bind (fun e9 => some e9.1)))
set_option maxHeartbeats 4000000 in
set_option maxRecDepth 20000 in
theorem LX1_chancesToHold {n : Nat} {F : Nat} {m : Mem} {r : Int64} (hn : 43 ≤ n) (hg : gX1_chancesToHold F m  = some r) : MX yX1_chancesToHold cX1_chancesToHold 6 (some .long) { frames := 2, cells := 0, slots := 0, locals := 42 } n [.ref 30] m (some (.long r)) m := by
  refine MX_of (by decide) (Nat.le_of_ble_eq_true rfl) (Or.inr (Or.inr (Or.inl ⟨rfl, _, rfl⟩))) (fun K hC hk hL hR => ?_)
  replace hn : 43 ≤ kn K := hk.symm ▸ hn
  show RX K 0 [(0, .ref 30)] [] m
  rw [gX1_chancesToHold] at hg
  refine R_lconst (pc := 0) hC dX1_chancesToHold_0 kl_0 ?_
  refine R_lstore_n (pc := 1) hC dX1_chancesToHold_1 rfl hL rfl (show _ = [(1, .long 0), (0, .ref 30)] from rfl) ?_
  refine R_aload_n (pc := 2) hC 1 dX1_chancesToHold_2 rfl rfl ?_
  obtain ⟨x1, hx1, hg⟩ := bind_some hg
  refine R_callV (pc := 3) (av := []) (rest := []) hC hR 30 (jx hn rfl) ly30 rfl mf_X1_free wm_X1_64 (LX1_free hn hx1) rfl rfl rfl (Nat.le_of_ble_eq_true rfl) dX1_chancesToHold_3 rfl ?_
  show RX K 6 [(1, .long 0), (0, .ref 30)] [.int x1] m
  refine R_istore_n (pc := 6) hC dX1_chancesToHold_6 rfl hL rfl (show _ = [(3, .int x1), (1, .long 0), (0, .ref 30)] from rfl) ?_
  refine R_aload_n (pc := 7) hC 2 dX1_chancesToHold_7 rfl rfl ?_
  refine gf_X1_9 (pc := 8) hC hn dX1_chancesToHold_8 ?_
  obtain ⟨x2, hx2, hg⟩ := bind_some hg
  refine R_callVN (pc := 11) (av := []) (rest := []) hC hR 1 (jx hn rfl) ly1 rfl mf_X6_sets wm_X1_19 (LX6_sets hn isv1 hx2) rfl rfl rfl (Nat.le_of_ble_eq_true rfl) dX1_chancesToHold_11 rfl ?_
  show RX K 14 [(3, .int x1), (1, .long 0), (0, .ref 30)] [.int x2] m
  refine R_istore (pc := 14) hC dX1_chancesToHold_14 hL rfl (show _ = [(4, .int x2), (3, .int x1), (1, .long 0), (0, .ref 30)] from rfl) ?_
  refine R_iconst (pc := 16) hC dX1_chancesToHold_16 ki_0 ?_
  refine R_istore (pc := 17) hC dX1_chancesToHold_17 hL rfl (show _ = [(5, .int 0), (4, .int x2), (3, .int x1), (1, .long 0), (0, .ref 30)] from rfl) ?_
  refine R_pick [4, 3, 2, 1, 0] (ls' := [(0, .ref 30), (1, .long 0), (3, .int x1), (4, .int x2), (5, .int 0)]) rfl ?_
  obtain ⟨e9, he9, hg⟩ := bind_some hg
  refine iter_walk (P := fun s : (Int64 × Int32) => RX K 19 [(0, .ref 30), (1, .long s.1), (3, .int x1), (4, .int x2), (5, .int s.2)] [] m) (Qe := fun s : (Int64 × Int32) => RX K 67 [(0, .ref 30), (1, .long s.1), (3, .int x1), (4, .int x2), (5, .int s.2)] [] m) (fun s10 o hg kL19 kE19 => ?_) _ _ _ he9 ?_
  · obtain ⟨y3, y4⟩ := s10
    rw [bX1_chancesToHold_19] at hg
    show RX K 19 [(0, .ref 30), (1, .long y3), (3, .int x1), (4, .int x2), (5, .int y4)] [] m
    refine R_iload (pc := 19) hC 4 dX1_chancesToHold_19 rfl ?_
    refine R_iload (pc := 21) hC 3 dX1_chancesToHold_21 rfl ?_
    refine R_icmp_ge (tgt := 67) (pc := 23) hC dX1_chancesToHold_23 (by decide) (fun c => ?_) (fun c => ?_)
    · replace hg := (if_pos c).symm.trans hg
      refine R_pick [0, 1, 2, 3, 4] (ls' := [(0, .ref 30), (1, .long y3), (3, .int x1), (4, .int x2), (5, .int y4)]) rfl ?_
      have h9 := kE19 _ (Option.some.inj hg).symm
      exact h9
    · replace hg := (if_neg c).symm.trans hg
      refine R_aload_n (pc := 26) hC 0 dX1_chancesToHold_26 rfl rfl ?_
      refine gf_X1_9 (pc := 27) hC hn dX1_chancesToHold_27 ?_
      refine R_iload (pc := 30) hC 4 dX1_chancesToHold_30 rfl ?_
      obtain ⟨x5, hx5, hg⟩ := bind_some hg
      refine R_callVN (pc := 32) (av := [.int y4]) (rest := []) hC hR 1 (jx hn rfl) ly1 rfl mf_X6_allows wm_X1_25 (LX6_allows hn isv1 hx5) rfl rfl rfl (Nat.le_of_ble_eq_true rfl) dX1_chancesToHold_32 rfl ?_
      show RX K 35 [(0, .ref 30), (1, .long y3), (3, .int x1), (4, .int x2), (5, .int y4)] [.int (b2i x5)] m
      refine R_ifB_eq (tgt := 61) (pc := 35) hC dX1_chancesToHold_35 (by decide) (fun c => ?_) (fun c => ?_)
      · replace hg := (if_neg c).symm.trans hg
        refine R_iinc (pc := 61) hC 4 dX1_chancesToHold_61 rfl (iv ki_1) hL rfl (show _ = [(5, .int (y4 + 1)), (0, .ref 30), (1, .long y3), (3, .int x1), (4, .int x2)] from rfl) ?_
        refine R_goto (tgt := 19) (pc := 64) hC dX1_chancesToHold_64 (by decide) ?_
        refine R_pick [1, 2, 3, 4, 0] (ls' := [(0, .ref 30), (1, .long y3), (3, .int x1), (4, .int x2), (5, .int (y4 + 1))]) rfl ?_
        have h9 := kL19 _ (Option.some.inj hg).symm
        exact h9
      · replace hg := (if_pos c).symm.trans hg
        refine R_aload_n (pc := 38) hC 0 dX1_chancesToHold_38 rfl rfl ?_
        refine gf_X1_15 (pc := 39) hC hn dX1_chancesToHold_39 ?_
        refine R_iload (pc := 42) hC 4 dX1_chancesToHold_42 rfl ?_
        obtain ⟨x6, hx6, hg⟩ := bind_some hg
        refine R_callVN (pc := 44) (av := [.int y4]) (rest := []) hC hR 24 (jx hn rfl) ly24 rfl mf_X2_partsLeft wm_X1_69 (LX2_partsLeft hn hx6) rfl rfl rfl (Nat.le_of_ble_eq_true rfl) dX1_chancesToHold_44 rfl ?_
        show RX K 47 [(0, .ref 30), (1, .long y3), (3, .int x1), (4, .int x2), (5, .int y4)] [.int x6] m
        refine R_iconst (pc := 47) hC dX1_chancesToHold_47 ki_1 ?_
        refine R_icmp_ne (tgt := 61) (pc := 48) hC dX1_chancesToHold_48 (by decide) (fun c => ?_) (fun c => ?_)
        · replace hg := (if_neg c).symm.trans hg
          refine R_iinc (pc := 61) hC 4 dX1_chancesToHold_61 rfl (iv ki_1) hL rfl (show _ = [(5, .int (y4 + 1)), (0, .ref 30), (1, .long y3), (3, .int x1), (4, .int x2)] from rfl) ?_
          refine R_goto (tgt := 19) (pc := 64) hC dX1_chancesToHold_64 (by decide) ?_
          refine R_pick [1, 2, 3, 4, 0] (ls' := [(0, .ref 30), (1, .long y3), (3, .int x1), (4, .int x2), (5, .int (y4 + 1))]) rfl ?_
          have h9 := kL19 _ (Option.some.inj hg).symm
          exact h9
        · replace hg := (if_pos c).symm.trans hg
          refine R_lload_n (pc := 51) hC 1 dX1_chancesToHold_51 rfl rfl ?_
          refine R_aload_n (pc := 52) hC 0 dX1_chancesToHold_52 rfl rfl ?_
          refine R_iload (pc := 53) hC 4 dX1_chancesToHold_53 rfl ?_
          refine R_iload_n (pc := 55) hC 2 dX1_chancesToHold_55 rfl rfl ?_
          obtain ⟨x7, hx7, hg⟩ := bind_some hg
          refine R_callV (pc := 56) (av := [.int y4, .int x1]) (rest := [.long y3]) hC hR 30 (jx hn rfl) ly30 rfl mf_X1_chancesOf wm_X1_72 (LX1_chancesOf hn hx7) rfl rfl rfl (Nat.le_of_ble_eq_true rfl) dX1_chancesToHold_56 rfl ?_
          show RX K 59 [(0, .ref 30), (1, .long y3), (3, .int x1), (4, .int x2), (5, .int y4)] [.long x7, .long y3] m
          refine R_ladd (pc := 59) hC dX1_chancesToHold_59 ?_
          obtain ⟨x8, hx8, hg⟩ := lete_some hg
          refine R_topL hx8 ?_
          refine R_lstore_n (pc := 60) hC dX1_chancesToHold_60 rfl hL rfl (show _ = [(1, .long x8), (0, .ref 30), (3, .int x1), (4, .int x2), (5, .int y4)] from rfl) ?_
          refine R_iinc (pc := 61) hC 4 dX1_chancesToHold_61 rfl (iv ki_1) hL rfl (show _ = [(5, .int (y4 + 1)), (1, .long x8), (0, .ref 30), (3, .int x1), (4, .int x2)] from rfl) ?_
          refine R_goto (tgt := 19) (pc := 64) hC dX1_chancesToHold_64 (by decide) ?_
          refine R_pick [2, 1, 3, 4, 0] (ls' := [(0, .ref 30), (1, .long x8), (3, .int x1), (4, .int x2), (5, .int (y4 + 1))]) rfl ?_
          have h9 := kL19 _ (Option.some.inj hg).symm
          exact h9
  · show RX K 67 [(0, .ref 30), (1, .long e9.1), (3, .int x1), (4, .int x2), (5, .int e9.2)] [] m
    refine R_lload_n (pc := 67) hC 1 dX1_chancesToHold_67 rfl rfl ?_
    have h9 := gxJ (m := m) hg
    exact R_lreturn (pc := 68) hC dX1_chancesToHold_68 h9
