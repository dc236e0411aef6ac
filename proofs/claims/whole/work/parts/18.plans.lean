theorem dX4_joinPairs_0 : decode cX4_joinPairs 0 = .ok (.aload_n 0, 1) := by decide +kernel
theorem dX4_joinPairs_1 : decode cX4_joinPairs 1 = .ok (.getfield 15, 3) := by decide +kernel
theorem dX4_joinPairs_4 : decode cX4_joinPairs 4 = .ok (.iconst 0, 1) := by decide +kernel
theorem dX4_joinPairs_5 : decode cX4_joinPairs 5 = .ok (.aload_n 0, 1) := by decide +kernel
theorem dX4_joinPairs_6 : decode cX4_joinPairs 6 = .ok (.getfield 9, 3) := by decide +kernel
theorem dX4_joinPairs_9 : decode cX4_joinPairs 9 = .ok (.invokestatic 50, 3) := by decide +kernel
theorem dX4_joinPairs_12 : decode cX4_joinPairs 12 = .ok (.iastore, 1) := by decide +kernel
theorem dX4_joinPairs_13 : decode cX4_joinPairs 13 = .ok (.iconst 0, 1) := by decide +kernel
theorem dX4_joinPairs_14 : decode cX4_joinPairs 14 = .ok (.istore_n 1, 1) := by decide +kernel
theorem dX4_joinPairs_15 : decode cX4_joinPairs 15 = .ok (.iconst 0, 1) := by decide +kernel
theorem dX4_joinPairs_16 : decode cX4_joinPairs 16 = .ok (.istore_n 2, 1) := by decide +kernel
theorem dX4_joinPairs_17 : decode cX4_joinPairs 17 = .ok (.iload_n 2, 1) := by decide +kernel
theorem dX4_joinPairs_18 : decode cX4_joinPairs 18 = .ok (.aload_n 0, 1) := by decide +kernel
theorem dX4_joinPairs_19 : decode cX4_joinPairs 19 = .ok (.getfield 9, 3) := by decide +kernel
theorem dX4_joinPairs_22 : decode cX4_joinPairs 22 = .ok (.if_icmp .ge 40, 3) := by decide +kernel
theorem dX4_joinPairs_25 : decode cX4_joinPairs 25 = .ok (.iload_n 2, 1) := by decide +kernel
theorem dX4_joinPairs_26 : decode cX4_joinPairs 26 = .ok (.iconst 1, 1) := by decide +kernel
theorem dX4_joinPairs_27 : decode cX4_joinPairs 27 = .ok (.iadd, 1) := by decide +kernel
theorem dX4_joinPairs_28 : decode cX4_joinPairs 28 = .ok (.istore_n 3, 1) := by decide +kernel
theorem dX4_joinPairs_29 : decode cX4_joinPairs 29 = .ok (.iload_n 3, 1) := by decide +kernel
theorem dX4_joinPairs_30 : decode cX4_joinPairs 30 = .ok (.aload_n 0, 1) := by decide +kernel
theorem dX4_joinPairs_31 : decode cX4_joinPairs 31 = .ok (.getfield 9, 3) := by decide +kernel
theorem dX4_joinPairs_34 : decode cX4_joinPairs 34 = .ok (.if_icmp .ge 22, 3) := by decide +kernel
theorem dX4_joinPairs_37 : decode cX4_joinPairs 37 = .ok (.aload_n 0, 1) := by decide +kernel
theorem dX4_joinPairs_38 : decode cX4_joinPairs 38 = .ok (.getfield 15, 3) := by decide +kernel
theorem dX4_joinPairs_41 : decode cX4_joinPairs 41 = .ok (.iload_n 1, 1) := by decide +kernel
theorem dX4_joinPairs_42 : decode cX4_joinPairs 42 = .ok (.iload_n 2, 1) := by decide +kernel
theorem dX4_joinPairs_43 : decode cX4_joinPairs 43 = .ok (.iload_n 3, 1) := by decide +kernel
theorem dX4_joinPairs_44 : decode cX4_joinPairs 44 = .ok (.invokestatic 53, 3) := by decide +kernel
theorem dX4_joinPairs_47 : decode cX4_joinPairs 47 = .ok (.iinc 1 1, 3) := by decide +kernel
theorem dX4_joinPairs_50 : decode cX4_joinPairs 50 = .ok (.iinc 3 1, 3) := by decide +kernel
theorem dX4_joinPairs_53 : decode cX4_joinPairs 53 = .ok (.goto (-24), 3) := by decide +kernel
theorem dX4_joinPairs_56 : decode cX4_joinPairs 56 = .ok (.iinc 2 1, 3) := by decide +kernel
theorem dX4_joinPairs_59 : decode cX4_joinPairs 59 = .ok (.goto (-42), 3) := by decide +kernel
theorem dX4_joinPairs_62 : decode cX4_joinPairs 62 = .ok (.return_, 1) := by decide +kernel
def bX4_joinPairs_29 (F : Nat) (y5 : Int32) : (Int32 × Int32 × Mem) → Option ((Int32 × Int32 × Mem) ⊕ (Int32 × Int32 × Mem))
  | (y8, y9, m10) => (if (m10.1 31 0) ≤ y9 then some (.inr (y8, y9, m10)) else (gX2_joinAll F m10 32 y8 y5 y9).bind (fun q11 => some (.inl (y8 + 1, y9 + 1, q11))))
def bX4_joinPairs_17 (F : Nat) : (Int32 × Int32 × Mem) → Option ((Int32 × Int32 × Mem) ⊕ (Int32 × Int32 × Mem))
  | (y4, y5, m6) => (if (m6.1 31 0) ≤ y5 then some (.inr (y4, y5, m6)) else lete (y5 + 1) (fun x7 => (iter F (bX4_joinPairs_29 F y5) (y4, x7, m6)).bind (fun e12 => some (.inl (e12.1, y5 + 1, e12.2.2)))))
def gX4_joinPairs (F : Nat) (m : Mem) : Option (Mem) := (gX2_apart F (m.1 31 0)).bind (fun x1 => chk (inb 0 1024) (lete (mu m 32 (Int32.toNatClampNeg 0) x1) (fun m3 => (iter F (bX4_joinPairs_17 F) (0, 0, m3)).bind (fun e14 => some e14.2.2))))
set_option maxHeartbeats 4000000 in
set_option maxRecDepth 20000 in
theorem LX4_joinPairs {n : Nat} {F : Nat} {m : Mem} {r : Mem} (hn : 43 ≤ n) (hg : gX4_joinPairs F m  = some r) : MX yX4_joinPairs cX4_joinPairs 4 none { frames := 3, cells := 0, slots := 0, locals := 74 } n [.ref 31] m (none) r := by
  refine MX_of (by decide) (Nat.le_of_ble_eq_true rfl) (Or.inl ⟨rfl, rfl⟩) (fun K hC hk hL hR => ?_)
  replace hn : 43 ≤ kn K := hk.symm ▸ hn
  show RX K 0 [(0, .ref 31)] [] m
  rw [gX4_joinPairs] at hg
  refine R_aload_n (pc := 0) hC 0 dX4_joinPairs_0 rfl rfl ?_
  refine gf_X4_15 (pc := 1) hC hn dX4_joinPairs_1 ?_
  refine R_iconst (pc := 4) hC dX4_joinPairs_4 ki_0 ?_
  refine R_aload_n (pc := 5) hC 0 dX4_joinPairs_5 rfl rfl ?_
  refine gf_X4_9 (pc := 6) hC hn dX4_joinPairs_6 ?_
  obtain ⟨x1, hx1, hg⟩ := bind_some hg
  refine R_callSN (pc := 9) (av := [.int (m.1 31 0)]) (rest := [.int 0, .ref 32]) hC hR mf_X2_apart wm_X4_50 (LX2_apart hn hx1) rfl rfl rfl (Nat.le_of_ble_eq_true rfl) dX4_joinPairs_9 rfl ?_
  show RX K 12 [(0, .ref 31)] [.int x1, .int 0, .ref 32] m
  obtain ⟨c2, hg⟩ := chk_some hg
  obtain ⟨m3, hm3, hg⟩ := lete_some hg
  refine R_iastore (pc := 12) hC 32 (jx hn rfl) ly32 (inb_vp c2) dX4_joinPairs_12 ?_
  refine R_mem hm3 ?_
  refine R_iconst (pc := 13) hC dX4_joinPairs_13 ki_0 ?_
  refine R_istore_n (pc := 14) hC dX4_joinPairs_14 rfl hL rfl (show _ = [(1, .int 0), (0, .ref 31)] from rfl) ?_
  refine R_iconst (pc := 15) hC dX4_joinPairs_15 ki_0 ?_
  refine R_istore_n (pc := 16) hC dX4_joinPairs_16 rfl hL rfl (show _ = [(2, .int 0), (1, .int 0), (0, .ref 31)] from rfl) ?_
  refine R_pick [2, 1, 0] (ls' := [(0, .ref 31), (1, .int 0), (2, .int 0)]) rfl ?_
  obtain ⟨e14, he14, hg⟩ := bind_some hg
  refine iter_walk (P := fun s : (Int32 × Int32 × Mem) => RX K 17 [(0, .ref 31), (1, .int s.1), (2, .int s.2.1)] [] s.2.2) (Qe := fun s : (Int32 × Int32 × Mem) => RX K 62 [(0, .ref 31), (1, .int s.1), (2, .int s.2.1)] [] s.2.2) (fun s15 o hg kL17 kE17 => ?_) _ _ _ he14 ?_
  · obtain ⟨y4, y5, m6⟩ := s15
    rw [bX4_joinPairs_17] at hg
    show RX K 17 [(0, .ref 31), (1, .int y4), (2, .int y5)] [] m6
    refine R_iload_n (pc := 17) hC 2 dX4_joinPairs_17 rfl rfl ?_
    refine R_aload_n (pc := 18) hC 0 dX4_joinPairs_18 rfl rfl ?_
    refine gf_X4_9 (pc := 19) hC hn dX4_joinPairs_19 ?_
    refine R_icmp_ge (tgt := 62) (pc := 22) hC dX4_joinPairs_22 (by decide) (fun c => ?_) (fun c => ?_)
    · replace hg := (if_pos c).symm.trans hg
      refine R_pick [0, 1, 2] (ls' := [(0, .ref 31), (1, .int y4), (2, .int y5)]) rfl ?_
      have h9 := kE17 _ (Option.some.inj hg).symm
      exact h9
    · replace hg := (if_neg c).symm.trans hg
      refine R_iload_n (pc := 25) hC 2 dX4_joinPairs_25 rfl rfl ?_
      refine R_iconst (pc := 26) hC dX4_joinPairs_26 ki_1 ?_
      refine R_iadd (pc := 27) hC dX4_joinPairs_27 ?_
      obtain ⟨x7, hx7, hg⟩ := lete_some hg
      refine R_top hx7 ?_
      refine R_istore_n (pc := 28) hC dX4_joinPairs_28 rfl hL rfl (show _ = [(3, .int x7), (0, .ref 31), (1, .int y4), (2, .int y5)] from rfl) ?_
      refine R_pick [1, 2, 3, 0] (ls' := [(0, .ref 31), (1, .int y4), (2, .int y5), (3, .int x7)]) rfl ?_
      obtain ⟨e12, he12, hg⟩ := bind_some hg
      refine iter_walk (P := fun s : (Int32 × Int32 × Mem) => RX K 29 [(0, .ref 31), (1, .int s.1), (2, .int y5), (3, .int s.2.1)] [] s.2.2) (Qe := fun s : (Int32 × Int32 × Mem) => RX K 56 [(0, .ref 31), (1, .int s.1), (2, .int y5), (3, .int s.2.1)] [] s.2.2) (fun s13 o hg kL29 kE29 => ?_) _ _ _ he12 ?_
      · obtain ⟨y8, y9, m10⟩ := s13
        rw [bX4_joinPairs_29] at hg
        show RX K 29 [(0, .ref 31), (1, .int y8), (2, .int y5), (3, .int y9)] [] m10
        refine R_iload_n (pc := 29) hC 3 dX4_joinPairs_29 rfl rfl ?_
        refine R_aload_n (pc := 30) hC 0 dX4_joinPairs_30 rfl rfl ?_
        refine gf_X4_9 (pc := 31) hC hn dX4_joinPairs_31 ?_
        refine R_icmp_ge (tgt := 56) (pc := 34) hC dX4_joinPairs_34 (by decide) (fun c => ?_) (fun c => ?_)
        · replace hg := (if_pos c).symm.trans hg
          refine R_pick [0, 1, 2, 3] (ls' := [(0, .ref 31), (1, .int y8), (2, .int y5), (3, .int y9)]) rfl ?_
          have h9 := kE29 _ (Option.some.inj hg).symm
          exact h9
        · replace hg := (if_neg c).symm.trans hg
          refine R_aload_n (pc := 37) hC 0 dX4_joinPairs_37 rfl rfl ?_
          refine gf_X4_15 (pc := 38) hC hn dX4_joinPairs_38 ?_
          refine R_iload_n (pc := 41) hC 1 dX4_joinPairs_41 rfl rfl ?_
          refine R_iload_n (pc := 42) hC 2 dX4_joinPairs_42 rfl rfl ?_
          refine R_iload_n (pc := 43) hC 3 dX4_joinPairs_43 rfl rfl ?_
          obtain ⟨q11, hq11, hg⟩ := bind_some hg
          refine R_callSN (pc := 44) (av := [.ref 32, .int y8, .int y5, .int y9]) (rest := []) hC hR mf_X2_joinAll wm_X4_53 (LX2_joinAll hn (Or.inr rfl) hq11) rfl rfl rfl (Nat.le_of_ble_eq_true rfl) dX4_joinPairs_44 rfl ?_
          show RX K 47 [(0, .ref 31), (1, .int y8), (2, .int y5), (3, .int y9)] [] q11
          refine R_iinc (pc := 47) hC 1 dX4_joinPairs_47 rfl (iv ki_1) hL rfl (show _ = [(1, .int (y8 + 1)), (0, .ref 31), (2, .int y5), (3, .int y9)] from rfl) ?_
          refine R_iinc (pc := 50) hC 3 dX4_joinPairs_50 rfl (iv ki_1) hL rfl (show _ = [(3, .int (y9 + 1)), (1, .int (y8 + 1)), (0, .ref 31), (2, .int y5)] from rfl) ?_
          refine R_goto (tgt := 29) (pc := 53) hC dX4_joinPairs_53 (by decide) ?_
          refine R_pick [2, 1, 3, 0] (ls' := [(0, .ref 31), (1, .int (y8 + 1)), (2, .int y5), (3, .int (y9 + 1))]) rfl ?_
          have h9 := kL29 _ (Option.some.inj hg).symm
          exact h9
      · show RX K 56 [(0, .ref 31), (1, .int e12.1), (2, .int y5), (3, .int e12.2.1)] [] e12.2.2
        refine R_iinc (pc := 56) hC 2 dX4_joinPairs_56 rfl (iv ki_1) hL rfl (show _ = [(2, .int (y5 + 1)), (0, .ref 31), (1, .int e12.1), (3, .int e12.2.1)] from rfl) ?_
        refine R_goto (tgt := 17) (pc := 59) hC dX4_joinPairs_59 (by decide) ?_
        refine R_pick [1, 2, 0] (ls' := [(0, .ref 31), (1, .int e12.1), (2, .int (y5 + 1))]) rfl ?_
        have h9 := kL17 _ (Option.some.inj hg).symm
        exact h9
  · show RX K 62 [(0, .ref 31), (1, .int e14.1), (2, .int e14.2.1)] [] e14.2.2
    have h9 := gxV hg
    exact R_return (pc := 62) hC dX4_joinPairs_62 h9
theorem dX4_addThoseWithout_0 : decode cX4_addThoseWithout 0 = .ok (.iconst 1, 1) := by decide +kernel
theorem dX4_addThoseWithout_1 : decode cX4_addThoseWithout 1 = .ok (.iload_n 1, 1) := by decide +kernel
theorem dX4_addThoseWithout_2 : decode cX4_addThoseWithout 2 = .ok (.ishl, 1) := by decide +kernel
theorem dX4_addThoseWithout_3 : decode cX4_addThoseWithout 3 = .ok (.istore_n 3, 1) := by decide +kernel
theorem dX4_addThoseWithout_4 : decode cX4_addThoseWithout 4 = .ok (.iconst 0, 1) := by decide +kernel
theorem dX4_addThoseWithout_5 : decode cX4_addThoseWithout 5 = .ok (.istore 4, 2) := by decide +kernel
theorem dX4_addThoseWithout_7 : decode cX4_addThoseWithout 7 = .ok (.iload 4, 2) := by decide +kernel
theorem dX4_addThoseWithout_9 : decode cX4_addThoseWithout 9 = .ok (.iload_n 2, 1) := by decide +kernel
theorem dX4_addThoseWithout_10 : decode cX4_addThoseWithout 10 = .ok (.if_icmp .ge 43, 3) := by decide +kernel
theorem dX4_addThoseWithout_13 : decode cX4_addThoseWithout 13 = .ok (.iload 4, 2) := by decide +kernel
theorem dX4_addThoseWithout_15 : decode cX4_addThoseWithout 15 = .ok (.sipush 1024, 3) := by decide +kernel
theorem dX4_addThoseWithout_18 : decode cX4_addThoseWithout 18 = .ok (.if_icmp .ge 35, 3) := by decide +kernel
theorem dX4_addThoseWithout_21 : decode cX4_addThoseWithout 21 = .ok (.iload 4, 2) := by decide +kernel
theorem dX4_addThoseWithout_23 : decode cX4_addThoseWithout 23 = .ok (.iload_n 3, 1) := by decide +kernel
theorem dX4_addThoseWithout_24 : decode cX4_addThoseWithout 24 = .ok (.iand, 1) := by decide +kernel
theorem dX4_addThoseWithout_25 : decode cX4_addThoseWithout 25 = .ok (.ifCond .eq 22, 3) := by decide +kernel
theorem dX4_addThoseWithout_28 : decode cX4_addThoseWithout 28 = .ok (.aload_n 0, 1) := by decide +kernel
theorem dX4_addThoseWithout_29 : decode cX4_addThoseWithout 29 = .ok (.getfield 15, 3) := by decide +kernel
theorem dX4_addThoseWithout_32 : decode cX4_addThoseWithout 32 = .ok (.iload 4, 2) := by decide +kernel
theorem dX4_addThoseWithout_34 : decode cX4_addThoseWithout 34 = .ok (.dup2, 1) := by decide +kernel
theorem dX4_addThoseWithout_35 : decode cX4_addThoseWithout 35 = .ok (.iaload, 1) := by decide +kernel
theorem dX4_addThoseWithout_36 : decode cX4_addThoseWithout 36 = .ok (.aload_n 0, 1) := by decide +kernel
theorem dX4_addThoseWithout_37 : decode cX4_addThoseWithout 37 = .ok (.getfield 15, 3) := by decide +kernel
theorem dX4_addThoseWithout_40 : decode cX4_addThoseWithout 40 = .ok (.iload 4, 2) := by decide +kernel
theorem dX4_addThoseWithout_42 : decode cX4_addThoseWithout 42 = .ok (.iload_n 3, 1) := by decide +kernel
theorem dX4_addThoseWithout_43 : decode cX4_addThoseWithout 43 = .ok (.isub, 1) := by decide +kernel
theorem dX4_addThoseWithout_44 : decode cX4_addThoseWithout 44 = .ok (.iaload, 1) := by decide +kernel
theorem dX4_addThoseWithout_45 : decode cX4_addThoseWithout 45 = .ok (.iadd, 1) := by decide +kernel
theorem dX4_addThoseWithout_46 : decode cX4_addThoseWithout 46 = .ok (.iastore, 1) := by decide +kernel
theorem dX4_addThoseWithout_47 : decode cX4_addThoseWithout 47 = .ok (.iinc 4 1, 3) := by decide +kernel
theorem dX4_addThoseWithout_50 : decode cX4_addThoseWithout 50 = .ok (.goto (-43), 3) := by decide +kernel
theorem dX4_addThoseWithout_53 : decode cX4_addThoseWithout 53 = .ok (.return_, 1) := by decide +kernel
def bX4_addThoseWithout_7 (a2 : Int32) (x1 : Int32) : (Int32 × Mem) → Option ((Int32 × Mem) ⊕ (Int32 × Mem))
  | (y2, m3) => (if a2 ≤ y2 then some (.inr (y2, m3)) else (if 1024 ≤ y2 then some (.inr (y2, m3)) else (if (y2 &&& x1) = 0 then some (.inl (y2 + 1, m3)) else chk (inb y2 1024) (chk (inb (y2 - x1) 1024) (chk (inb y2 1024) (lete (mu m3 32 (Int32.toNatClampNeg y2) ((m3.1 32 (Int32.toNatClampNeg y2)) + (m3.1 32 (Int32.toNatClampNeg (y2 - x1))))) (fun m7 => some (.inl (y2 + 1, m7)))))))))
def gX4_addThoseWithout (F : Nat) (m : Mem) (a1 : Int32) (a2 : Int32) : Option (Mem) := lete ((1 : Int32) <<< (a1 &&& 31)) (fun x1 => (iter F (bX4_addThoseWithout_7 a2 x1) (0, m)).bind (fun e8 => some e8.2))
set_option maxHeartbeats 4000000 in
set_option maxRecDepth 20000 in
theorem LX4_addThoseWithout {n : Nat} {F : Nat} {m : Mem} {a1 : Int32} {a2 : Int32} {r : Mem} (hn : 43 ≤ n) (hg : gX4_addThoseWithout F m a1 a2 = some r) : MX yX4_addThoseWithout cX4_addThoseWithout 5 none { frames := 0, cells := 0, slots := 0, locals := 0 } n [.ref 31, .int a1, .int a2] m (none) r := by
  refine MX_of (by decide) (Nat.le_of_ble_eq_true rfl) (Or.inl ⟨rfl, rfl⟩) (fun K hC hk hL hR => ?_)
  replace hn : 43 ≤ kn K := hk.symm ▸ hn
  show RX K 0 [(0, .ref 31), (1, .int a1), (2, .int a2)] [] m
  rw [gX4_addThoseWithout] at hg
  refine R_iconst (pc := 0) hC dX4_addThoseWithout_0 ki_1 ?_
  refine R_iload_n (pc := 1) hC 1 dX4_addThoseWithout_1 rfl rfl ?_
  refine R_ishl (pc := 2) hC dX4_addThoseWithout_2 ?_
  obtain ⟨x1, hx1, hg⟩ := lete_some hg
  refine R_top hx1 ?_
  refine R_istore_n (pc := 3) hC dX4_addThoseWithout_3 rfl hL rfl (show _ = [(3, .int x1), (0, .ref 31), (1, .int a1), (2, .int a2)] from rfl) ?_
  refine R_iconst (pc := 4) hC dX4_addThoseWithout_4 ki_0 ?_
  refine R_istore (pc := 5) hC dX4_addThoseWithout_5 hL rfl (show _ = [(4, .int 0), (3, .int x1), (0, .ref 31), (1, .int a1), (2, .int a2)] from rfl) ?_
  refine R_pick [2, 3, 4, 1, 0] (ls' := [(0, .ref 31), (1, .int a1), (2, .int a2), (3, .int x1), (4, .int 0)]) rfl ?_
  obtain ⟨e8, he8, hg⟩ := bind_some hg
  refine iter_walk (P := fun s : (Int32 × Mem) => RX K 7 [(0, .ref 31), (1, .int a1), (2, .int a2), (3, .int x1), (4, .int s.1)] [] s.2) (Qe := fun s : (Int32 × Mem) => RX K 53 [(0, .ref 31), (1, .int a1), (2, .int a2), (3, .int x1), (4, .int s.1)] [] s.2) (fun s9 o hg kL7 kE7 => ?_) _ _ _ he8 ?_
  · obtain ⟨y2, m3⟩ := s9
    rw [bX4_addThoseWithout_7] at hg
    show RX K 7 [(0, .ref 31), (1, .int a1), (2, .int a2), (3, .int x1), (4, .int y2)] [] m3
    refine R_iload (pc := 7) hC 4 dX4_addThoseWithout_7 rfl ?_
    refine R_iload_n (pc := 9) hC 2 dX4_addThoseWithout_9 rfl rfl ?_
    refine R_icmp_ge (tgt := 53) (pc := 10) hC dX4_addThoseWithout_10 (by decide) (fun c => ?_) (fun c => ?_)
    · replace hg := (if_pos c).symm.trans hg
      refine R_pick [0, 1, 2, 3, 4] (ls' := [(0, .ref 31), (1, .int a1), (2, .int a2), (3, .int x1), (4, .int y2)]) rfl ?_
      have h9 := kE7 _ (Option.some.inj hg).symm
      exact h9
    · replace hg := (if_neg c).symm.trans hg
      refine R_iload (pc := 13) hC 4 dX4_addThoseWithout_13 rfl ?_
      refine R_sipush (pc := 15) hC dX4_addThoseWithout_15 ks_1024 ?_
      refine R_icmp_ge (tgt := 53) (pc := 18) hC dX4_addThoseWithout_18 (by decide) (fun c => ?_) (fun c => ?_)
      · replace hg := (if_pos c).symm.trans hg
        refine R_pick [0, 1, 2, 3, 4] (ls' := [(0, .ref 31), (1, .int a1), (2, .int a2), (3, .int x1), (4, .int y2)]) rfl ?_
        have h9 := kE7 _ (Option.some.inj hg).symm
        exact h9
      · replace hg := (if_neg c).symm.trans hg
        refine R_iload (pc := 21) hC 4 dX4_addThoseWithout_21 rfl ?_
        refine R_iload_n (pc := 23) hC 3 dX4_addThoseWithout_23 rfl rfl ?_
        refine R_iand (pc := 24) hC dX4_addThoseWithout_24 ?_
        refine R_if_eq (tgt := 47) (pc := 25) hC dX4_addThoseWithout_25 (by decide) (fun c => ?_) (fun c => ?_)
        · replace hg := (if_pos c).symm.trans hg
          refine R_iinc (pc := 47) hC 4 dX4_addThoseWithout_47 rfl (iv ki_1) hL rfl (show _ = [(4, .int (y2 + 1)), (0, .ref 31), (1, .int a1), (2, .int a2), (3, .int x1)] from rfl) ?_
          refine R_goto (tgt := 7) (pc := 50) hC dX4_addThoseWithout_50 (by decide) ?_
          refine R_pick [1, 2, 3, 4, 0] (ls' := [(0, .ref 31), (1, .int a1), (2, .int a2), (3, .int x1), (4, .int (y2 + 1))]) rfl ?_
          have h9 := kL7 _ (Option.some.inj hg).symm
          exact h9
        · replace hg := (if_neg c).symm.trans hg
          refine R_aload_n (pc := 28) hC 0 dX4_addThoseWithout_28 rfl rfl ?_
          refine gf_X4_15 (pc := 29) hC hn dX4_addThoseWithout_29 ?_
          refine R_iload (pc := 32) hC 4 dX4_addThoseWithout_32 rfl ?_
          refine R_dup2 (pc := 34) hC dX4_addThoseWithout_34 rfl rfl ?_
          obtain ⟨c4, hg⟩ := chk_some hg
          refine R_iaload (pc := 35) hC 32 (jx hn rfl) ly32 (inb_vp c4) dX4_addThoseWithout_35 ?_
          refine R_aload_n (pc := 36) hC 0 dX4_addThoseWithout_36 rfl rfl ?_
          refine gf_X4_15 (pc := 37) hC hn dX4_addThoseWithout_37 ?_
          refine R_iload (pc := 40) hC 4 dX4_addThoseWithout_40 rfl ?_
          refine R_iload_n (pc := 42) hC 3 dX4_addThoseWithout_42 rfl rfl ?_
          refine R_isub (pc := 43) hC dX4_addThoseWithout_43 ?_
          obtain ⟨c5, hg⟩ := chk_some hg
          refine R_iaload (pc := 44) hC 32 (jx hn rfl) ly32 (inb_vp c5) dX4_addThoseWithout_44 ?_
          refine R_iadd (pc := 45) hC dX4_addThoseWithout_45 ?_
          obtain ⟨c6, hg⟩ := chk_some hg
          obtain ⟨m7, hm7, hg⟩ := lete_some hg
          refine R_iastore (pc := 46) hC 32 (jx hn rfl) ly32 (inb_vp c6) dX4_addThoseWithout_46 ?_
          refine R_mem hm7 ?_
          refine R_iinc (pc := 47) hC 4 dX4_addThoseWithout_47 rfl (iv ki_1) hL rfl (show _ = [(4, .int (y2 + 1)), (0, .ref 31), (1, .int a1), (2, .int a2), (3, .int x1)] from rfl) ?_
          refine R_goto (tgt := 7) (pc := 50) hC dX4_addThoseWithout_50 (by decide) ?_
          refine R_pick [1, 2, 3, 4, 0] (ls' := [(0, .ref 31), (1, .int a1), (2, .int a2), (3, .int x1), (4, .int (y2 + 1))]) rfl ?_
          have h9 := kL7 _ (Option.some.inj hg).symm
          exact h9
  · show RX K 53 [(0, .ref 31), (1, .int a1), (2, .int a2), (3, .int x1), (4, .int e8.1)] [] e8.2
    have h9 := gxV hg
    exact R_return (pc := 53) hC dX4_addThoseWithout_53 h9
theorem dX4_chooseBest_0 : decode cX4_chooseBest 0 = .ok (.iconst 0, 1) := by decide +kernel
theorem dX4_chooseBest_1 : decode cX4_chooseBest 1 = .ok (.istore_n 2, 1) := by decide +kernel
theorem dX4_chooseBest_2 : decode cX4_chooseBest 2 = .ok (.iload_n 2, 1) := by decide +kernel
theorem dX4_chooseBest_3 : decode cX4_chooseBest 3 = .ok (.bipush 10, 2) := by decide +kernel
theorem dX4_chooseBest_5 : decode cX4_chooseBest 5 = .ok (.if_icmp .gt 23, 3) := by decide +kernel
theorem dX4_chooseBest_8 : decode cX4_chooseBest 8 = .ok (.aload_n 0, 1) := by decide +kernel
theorem dX4_chooseBest_9 : decode cX4_chooseBest 9 = .ok (.getfield 19, 3) := by decide +kernel
theorem dX4_chooseBest_12 : decode cX4_chooseBest 12 = .ok (.iload_n 2, 1) := by decide +kernel
theorem dX4_chooseBest_13 : decode cX4_chooseBest 13 = .ok (.iconst 0, 1) := by decide +kernel
theorem dX4_chooseBest_14 : decode cX4_chooseBest 14 = .ok (.iastore, 1) := by decide +kernel
theorem dX4_chooseBest_15 : decode cX4_chooseBest 15 = .ok (.aload_n 0, 1) := by decide +kernel
theorem dX4_chooseBest_16 : decode cX4_chooseBest 16 = .ok (.getfield 22, 3) := by decide +kernel
theorem dX4_chooseBest_19 : decode cX4_chooseBest 19 = .ok (.iload_n 2, 1) := by decide +kernel
theorem dX4_chooseBest_20 : decode cX4_chooseBest 20 = .ok (.iconst 0, 1) := by decide +kernel
theorem dX4_chooseBest_21 : decode cX4_chooseBest 21 = .ok (.iastore, 1) := by decide +kernel
theorem dX4_chooseBest_22 : decode cX4_chooseBest 22 = .ok (.iinc 2 1, 3) := by decide +kernel
theorem dX4_chooseBest_25 : decode cX4_chooseBest 25 = .ok (.goto (-23), 3) := by decide +kernel
theorem dX4_chooseBest_28 : decode cX4_chooseBest 28 = .ok (.iconst 0, 1) := by decide +kernel
theorem dX4_chooseBest_29 : decode cX4_chooseBest 29 = .ok (.istore_n 2, 1) := by decide +kernel
theorem dX4_chooseBest_30 : decode cX4_chooseBest 30 = .ok (.iload_n 2, 1) := by decide +kernel
theorem dX4_chooseBest_31 : decode cX4_chooseBest 31 = .ok (.iload_n 1, 1) := by decide +kernel
theorem dX4_chooseBest_32 : decode cX4_chooseBest 32 = .ok (.if_icmp .ge 61, 3) := by decide +kernel
theorem dX4_chooseBest_35 : decode cX4_chooseBest 35 = .ok (.iload_n 2, 1) := by decide +kernel
theorem dX4_chooseBest_36 : decode cX4_chooseBest 36 = .ok (.sipush 1024, 3) := by decide +kernel
theorem dX4_chooseBest_39 : decode cX4_chooseBest 39 = .ok (.if_icmp .ge 54, 3) := by decide +kernel
theorem dX4_chooseBest_42 : decode cX4_chooseBest 42 = .ok (.iload_n 2, 1) := by decide +kernel
theorem dX4_chooseBest_43 : decode cX4_chooseBest 43 = .ok (.invokestatic 57, 3) := by decide +kernel
theorem dX4_chooseBest_46 : decode cX4_chooseBest 46 = .ok (.istore_n 3, 1) := by decide +kernel
theorem dX4_chooseBest_47 : decode cX4_chooseBest 47 = .ok (.iload_n 3, 1) := by decide +kernel
theorem dX4_chooseBest_48 : decode cX4_chooseBest 48 = .ok (.bipush 10, 2) := by decide +kernel
theorem dX4_chooseBest_50 : decode cX4_chooseBest 50 = .ok (.if_icmp .gt 37, 3) := by decide +kernel
theorem dX4_chooseBest_53 : decode cX4_chooseBest 53 = .ok (.aload_n 0, 1) := by decide +kernel
theorem dX4_chooseBest_54 : decode cX4_chooseBest 54 = .ok (.getfield 15, 3) := by decide +kernel
theorem dX4_chooseBest_57 : decode cX4_chooseBest 57 = .ok (.iload_n 2, 1) := by decide +kernel
theorem dX4_chooseBest_58 : decode cX4_chooseBest 58 = .ok (.iaload, 1) := by decide +kernel
theorem dX4_chooseBest_59 : decode cX4_chooseBest 59 = .ok (.aload_n 0, 1) := by decide +kernel
theorem dX4_chooseBest_60 : decode cX4_chooseBest 60 = .ok (.getfield 19, 3) := by decide +kernel
theorem dX4_chooseBest_63 : decode cX4_chooseBest 63 = .ok (.iload_n 3, 1) := by decide +kernel
theorem dX4_chooseBest_64 : decode cX4_chooseBest 64 = .ok (.iaload, 1) := by decide +kernel
theorem dX4_chooseBest_65 : decode cX4_chooseBest 65 = .ok (.if_icmp .le 22, 3) := by decide +kernel
theorem dX4_chooseBest_68 : decode cX4_chooseBest 68 = .ok (.aload_n 0, 1) := by decide +kernel
theorem dX4_chooseBest_69 : decode cX4_chooseBest 69 = .ok (.getfield 19, 3) := by decide +kernel
theorem dX4_chooseBest_72 : decode cX4_chooseBest 72 = .ok (.iload_n 3, 1) := by decide +kernel
theorem dX4_chooseBest_73 : decode cX4_chooseBest 73 = .ok (.aload_n 0, 1) := by decide +kernel
theorem dX4_chooseBest_74 : decode cX4_chooseBest 74 = .ok (.getfield 15, 3) := by decide +kernel
theorem dX4_chooseBest_77 : decode cX4_chooseBest 77 = .ok (.iload_n 2, 1) := by decide +kernel
theorem dX4_chooseBest_78 : decode cX4_chooseBest 78 = .ok (.iaload, 1) := by decide +kernel
theorem dX4_chooseBest_79 : decode cX4_chooseBest 79 = .ok (.iastore, 1) := by decide +kernel
theorem dX4_chooseBest_80 : decode cX4_chooseBest 80 = .ok (.aload_n 0, 1) := by decide +kernel
theorem dX4_chooseBest_81 : decode cX4_chooseBest 81 = .ok (.getfield 22, 3) := by decide +kernel
theorem dX4_chooseBest_84 : decode cX4_chooseBest 84 = .ok (.iload_n 3, 1) := by decide +kernel
theorem dX4_chooseBest_85 : decode cX4_chooseBest 85 = .ok (.iload_n 2, 1) := by decide +kernel
theorem dX4_chooseBest_86 : decode cX4_chooseBest 86 = .ok (.iastore, 1) := by decide +kernel
theorem dX4_chooseBest_87 : decode cX4_chooseBest 87 = .ok (.iinc 2 1, 3) := by decide +kernel
theorem dX4_chooseBest_90 : decode cX4_chooseBest 90 = .ok (.goto (-60), 3) := by decide +kernel
theorem dX4_chooseBest_93 : decode cX4_chooseBest 93 = .ok (.return_, 1) := by decide +kernel
def bX4_chooseBest_2  : (Int32 × Mem) → Option ((Int32 × Mem) ⊕ (Int32 × Mem))
  | (y1, m2) => (if 10 < y1 then some (.inr (y1, m2)) else chk (inb y1 11) (lete (mu m2 33 (Int32.toNatClampNeg y1) 0) (fun m4 => chk (inb y1 11) (lete (mu m4 34 (Int32.toNatClampNeg y1) 0) (fun m6 => some (.inl (y1 + 1, m6)))))))
def bX4_chooseBest_30 (a1 : Int32) : (Int32 × Mem) → Option ((Int32 × Mem) ⊕ (Int32 × Mem))
  | (y9, m10) => (if a1 ≤ y9 then some (.inr (y9, m10)) else (if 1024 ≤ y9 then some (.inr (y9, m10)) else (gJ6_bitCount y9).bind (fun x11 => (if 10 < x11 then some (.inl (y9 + 1, m10)) else chk (inb y9 1024) (chk (inb x11 11) ((if (m10.1 32 (Int32.toNatClampNeg y9)) ≤ (m10.1 33 (Int32.toNatClampNeg x11)) then some (.inl (y9 + 1, m10)) else chk (inb y9 1024) (chk (inb x11 11) (lete (mu m10 33 (Int32.toNatClampNeg x11) (m10.1 32 (Int32.toNatClampNeg y9))) (fun m16 => chk (inb x11 11) (lete (mu m16 34 (Int32.toNatClampNeg x11) y9) (fun m18 => some (.inl (y9 + 1, m18))))))))))))))
def gX4_chooseBest (F : Nat) (m : Mem) (a1 : Int32) : Option (Mem) := (iter F (bX4_chooseBest_2) (0, m)).bind (fun e7 => (iter F (bX4_chooseBest_30 a1) (0, e7.2)).bind (fun e19 => some e19.2))
set_option maxHeartbeats 4000000 in
set_option maxRecDepth 20000 in
theorem LX4_chooseBest {n : Nat} {F : Nat} {m : Mem} {a1 : Int32} {r : Mem} (hn : 43 ≤ n) (hg : gX4_chooseBest F m a1 = some r) : MX yX4_chooseBest cX4_chooseBest 4 none { frames := 1, cells := 0, slots := 0, locals := 20 } n [.ref 31, .int a1] m (none) r := by
  refine MX_of (by decide) (Nat.le_of_ble_eq_true rfl) (Or.inl ⟨rfl, rfl⟩) (fun K hC hk hL hR => ?_)
  replace hn : 43 ≤ kn K := hk.symm ▸ hn
  show RX K 0 [(0, .ref 31), (1, .int a1)] [] m
  rw [gX4_chooseBest] at hg
  refine R_iconst (pc := 0) hC dX4_chooseBest_0 ki_0 ?_
  refine R_istore_n (pc := 1) hC dX4_chooseBest_1 rfl hL rfl (show _ = [(2, .int 0), (0, .ref 31), (1, .int a1)] from rfl) ?_
  refine R_pick [1, 2, 0] (ls' := [(0, .ref 31), (1, .int a1), (2, .int 0)]) rfl ?_
  obtain ⟨e7, he7, hg⟩ := bind_some hg
  refine iter_walk (P := fun s : (Int32 × Mem) => RX K 2 [(0, .ref 31), (1, .int a1), (2, .int s.1)] [] s.2) (Qe := fun s : (Int32 × Mem) => RX K 28 [(0, .ref 31), (1, .int a1), (2, .int s.1)] [] s.2) (fun s8 o hg kL2 kE2 => ?_) _ _ _ he7 ?_
  · obtain ⟨y1, m2⟩ := s8
    rw [bX4_chooseBest_2] at hg
    show RX K 2 [(0, .ref 31), (1, .int a1), (2, .int y1)] [] m2
    refine R_iload_n (pc := 2) hC 2 dX4_chooseBest_2 rfl rfl ?_
    refine R_bipush (pc := 3) hC dX4_chooseBest_3 kb_10 ?_
    refine R_icmp_gt (tgt := 28) (pc := 5) hC dX4_chooseBest_5 (by decide) (fun c => ?_) (fun c => ?_)
    · replace hg := (if_pos c).symm.trans hg
      refine R_pick [0, 1, 2] (ls' := [(0, .ref 31), (1, .int a1), (2, .int y1)]) rfl ?_
      have h9 := kE2 _ (Option.some.inj hg).symm
      exact h9
    · replace hg := (if_neg c).symm.trans hg
      refine R_aload_n (pc := 8) hC 0 dX4_chooseBest_8 rfl rfl ?_
      refine gf_X4_19 (pc := 9) hC hn dX4_chooseBest_9 ?_
      refine R_iload_n (pc := 12) hC 2 dX4_chooseBest_12 rfl rfl ?_
      refine R_iconst (pc := 13) hC dX4_chooseBest_13 ki_0 ?_
      obtain ⟨c3, hg⟩ := chk_some hg
      obtain ⟨m4, hm4, hg⟩ := lete_some hg
      refine R_iastore (pc := 14) hC 33 (jx hn rfl) ly33 (inb_vp c3) dX4_chooseBest_14 ?_
      refine R_mem hm4 ?_
      refine R_aload_n (pc := 15) hC 0 dX4_chooseBest_15 rfl rfl ?_
      refine gf_X4_22 (pc := 16) hC hn dX4_chooseBest_16 ?_
      refine R_iload_n (pc := 19) hC 2 dX4_chooseBest_19 rfl rfl ?_
      refine R_iconst (pc := 20) hC dX4_chooseBest_20 ki_0 ?_
      obtain ⟨c5, hg⟩ := chk_some hg
      obtain ⟨m6, hm6, hg⟩ := lete_some hg
      refine R_iastore (pc := 21) hC 34 (jx hn rfl) ly34 (inb_vp c5) dX4_chooseBest_21 ?_
      refine R_mem hm6 ?_
      refine R_iinc (pc := 22) hC 2 dX4_chooseBest_22 rfl (iv ki_1) hL rfl (show _ = [(2, .int (y1 + 1)), (0, .ref 31), (1, .int a1)] from rfl) ?_
      refine R_goto (tgt := 2) (pc := 25) hC dX4_chooseBest_25 (by decide) ?_
      refine R_pick [1, 2, 0] (ls' := [(0, .ref 31), (1, .int a1), (2, .int (y1 + 1))]) rfl ?_
      have h9 := kL2 _ (Option.some.inj hg).symm
      exact h9
  · show RX K 28 [(0, .ref 31), (1, .int a1), (2, .int e7.1)] [] e7.2
    refine R_iconst (pc := 28) hC dX4_chooseBest_28 ki_0 ?_
    refine R_istore_n (pc := 29) hC dX4_chooseBest_29 rfl hL rfl (show _ = [(2, .int 0), (0, .ref 31), (1, .int a1)] from rfl) ?_
    refine R_pick [1, 2, 0] (ls' := [(0, .ref 31), (1, .int a1), (2, .int 0)]) rfl ?_
    obtain ⟨e19, he19, hg⟩ := bind_some hg
    refine iter_walk (P := fun s : (Int32 × Mem) => RX K 30 [(0, .ref 31), (1, .int a1), (2, .int s.1)] [] s.2) (Qe := fun s : (Int32 × Mem) => RX K 93 [(0, .ref 31), (1, .int a1), (2, .int s.1)] [] s.2) (fun s20 o hg kL30 kE30 => ?_) _ _ _ he19 ?_
    · obtain ⟨y9, m10⟩ := s20
      rw [bX4_chooseBest_30] at hg
      show RX K 30 [(0, .ref 31), (1, .int a1), (2, .int y9)] [] m10
      refine R_iload_n (pc := 30) hC 2 dX4_chooseBest_30 rfl rfl ?_
      refine R_iload_n (pc := 31) hC 1 dX4_chooseBest_31 rfl rfl ?_
      refine R_icmp_ge (tgt := 93) (pc := 32) hC dX4_chooseBest_32 (by decide) (fun c => ?_) (fun c => ?_)
      · replace hg := (if_pos c).symm.trans hg
        refine R_pick [0, 1, 2] (ls' := [(0, .ref 31), (1, .int a1), (2, .int y9)]) rfl ?_
        have h9 := kE30 _ (Option.some.inj hg).symm
        exact h9
      · replace hg := (if_neg c).symm.trans hg
        refine R_iload_n (pc := 35) hC 2 dX4_chooseBest_35 rfl rfl ?_
        refine R_sipush (pc := 36) hC dX4_chooseBest_36 ks_1024 ?_
        refine R_icmp_ge (tgt := 93) (pc := 39) hC dX4_chooseBest_39 (by decide) (fun c => ?_) (fun c => ?_)
        · replace hg := (if_pos c).symm.trans hg
          refine R_pick [0, 1, 2] (ls' := [(0, .ref 31), (1, .int a1), (2, .int y9)]) rfl ?_
          have h9 := kE30 _ (Option.some.inj hg).symm
          exact h9
        · replace hg := (if_neg c).symm.trans hg
          refine R_iload_n (pc := 42) hC 2 dX4_chooseBest_42 rfl rfl ?_
          obtain ⟨x11, hx11, hg⟩ := bind_some hg
          refine R_callS (pc := 43) (av := [.int y9]) (rest := []) hC hR mf_J6_bitCount wm_X4_57 (LJ6_bitCount hx11) rfl rfl rfl (Nat.le_of_ble_eq_true rfl) dX4_chooseBest_43 rfl ?_
          show RX K 46 [(0, .ref 31), (1, .int a1), (2, .int y9)] [.int x11] m10
          refine R_istore_n (pc := 46) hC dX4_chooseBest_46 rfl hL rfl (show _ = [(3, .int x11), (0, .ref 31), (1, .int a1), (2, .int y9)] from rfl) ?_
          refine R_iload_n (pc := 47) hC 0 dX4_chooseBest_47 rfl rfl ?_
          refine R_bipush (pc := 48) hC dX4_chooseBest_48 kb_10 ?_
          refine R_icmp_gt (tgt := 87) (pc := 50) hC dX4_chooseBest_50 (by decide) (fun c => ?_) (fun c => ?_)
          · replace hg := (if_pos c).symm.trans hg
            refine R_iinc (pc := 87) hC 3 dX4_chooseBest_87 rfl (iv ki_1) hL rfl (show _ = [(2, .int (y9 + 1)), (3, .int x11), (0, .ref 31), (1, .int a1)] from rfl) ?_
            refine R_goto (tgt := 30) (pc := 90) hC dX4_chooseBest_90 (by decide) ?_
            refine R_pick [2, 3, 0] (ls' := [(0, .ref 31), (1, .int a1), (2, .int (y9 + 1))]) rfl ?_
            have h9 := kL30 _ (Option.some.inj hg).symm
            exact h9
          · replace hg := (if_neg c).symm.trans hg
            refine R_aload_n (pc := 53) hC 1 dX4_chooseBest_53 rfl rfl ?_
            refine gf_X4_15 (pc := 54) hC hn dX4_chooseBest_54 ?_
            refine R_iload_n (pc := 57) hC 3 dX4_chooseBest_57 rfl rfl ?_
            obtain ⟨c12, hg⟩ := chk_some hg
            refine R_iaload (pc := 58) hC 32 (jx hn rfl) ly32 (inb_vp c12) dX4_chooseBest_58 ?_
            refine R_aload_n (pc := 59) hC 1 dX4_chooseBest_59 rfl rfl ?_
            refine gf_X4_19 (pc := 60) hC hn dX4_chooseBest_60 ?_
            refine R_iload_n (pc := 63) hC 0 dX4_chooseBest_63 rfl rfl ?_
            obtain ⟨c13, hg⟩ := chk_some hg
            refine R_iaload (pc := 64) hC 33 (jx hn rfl) ly33 (inb_vp c13) dX4_chooseBest_64 ?_
            refine R_icmp_le (tgt := 87) (pc := 65) hC dX4_chooseBest_65 (by decide) (fun c => ?_) (fun c => ?_)
            · replace hg := (if_pos c).symm.trans hg
              refine R_iinc (pc := 87) hC 3 dX4_chooseBest_87 rfl (iv ki_1) hL rfl (show _ = [(2, .int (y9 + 1)), (3, .int x11), (0, .ref 31), (1, .int a1)] from rfl) ?_
              refine R_goto (tgt := 30) (pc := 90) hC dX4_chooseBest_90 (by decide) ?_
              refine R_pick [2, 3, 0] (ls' := [(0, .ref 31), (1, .int a1), (2, .int (y9 + 1))]) rfl ?_
              have h9 := kL30 _ (Option.some.inj hg).symm
              exact h9
            · replace hg := (if_neg c).symm.trans hg
              refine R_aload_n (pc := 68) hC 1 dX4_chooseBest_68 rfl rfl ?_
              refine gf_X4_19 (pc := 69) hC hn dX4_chooseBest_69 ?_
              refine R_iload_n (pc := 72) hC 0 dX4_chooseBest_72 rfl rfl ?_
              refine R_aload_n (pc := 73) hC 1 dX4_chooseBest_73 rfl rfl ?_
              refine gf_X4_15 (pc := 74) hC hn dX4_chooseBest_74 ?_
              refine R_iload_n (pc := 77) hC 3 dX4_chooseBest_77 rfl rfl ?_
              obtain ⟨c14, hg⟩ := chk_some hg
              refine R_iaload (pc := 78) hC 32 (jx hn rfl) ly32 (inb_vp c14) dX4_chooseBest_78 ?_
              obtain ⟨c15, hg⟩ := chk_some hg
              obtain ⟨m16, hm16, hg⟩ := lete_some hg
              refine R_iastore (pc := 79) hC 33 (jx hn rfl) ly33 (inb_vp c15) dX4_chooseBest_79 ?_
              refine R_mem hm16 ?_
              refine R_aload_n (pc := 80) hC 1 dX4_chooseBest_80 rfl rfl ?_
              refine gf_X4_22 (pc := 81) hC hn dX4_chooseBest_81 ?_
              refine R_iload_n (pc := 84) hC 0 dX4_chooseBest_84 rfl rfl ?_
              refine R_iload_n (pc := 85) hC 3 dX4_chooseBest_85 rfl rfl ?_
              obtain ⟨c17, hg⟩ := chk_some hg
              obtain ⟨m18, hm18, hg⟩ := lete_some hg
              refine R_iastore (pc := 86) hC 34 (jx hn rfl) ly34 (inb_vp c17) dX4_chooseBest_86 ?_
              refine R_mem hm18 ?_
              refine R_iinc (pc := 87) hC 3 dX4_chooseBest_87 rfl (iv ki_1) hL rfl (show _ = [(2, .int (y9 + 1)), (3, .int x11), (0, .ref 31), (1, .int a1)] from rfl) ?_
              refine R_goto (tgt := 30) (pc := 90) hC dX4_chooseBest_90 (by decide) ?_
              refine R_pick [2, 3, 0] (ls' := [(0, .ref 31), (1, .int a1), (2, .int (y9 + 1))]) rfl ?_
              have h9 := kL30 _ (Option.some.inj hg).symm
              exact h9
    · show RX K 93 [(0, .ref 31), (1, .int a1), (2, .int e19.1)] [] e19.2
      have h9 := gxV hg
      exact R_return (pc := 93) hC dX4_chooseBest_93 h9
theorem dX4_makeFor_0 : decode cX4_makeFor 0 = .ok (.iload_n 1, 1) := by decide +kernel
theorem dX4_makeFor_1 : decode cX4_makeFor 1 = .ok (.aload_n 0, 1) := by decide +kernel
theorem dX4_makeFor_2 : decode cX4_makeFor 2 = .ok (.getfield 9, 3) := by decide +kernel
theorem dX4_makeFor_5 : decode cX4_makeFor 5 = .ok (.if_icmp .eq 13, 3) := by decide +kernel
theorem dX4_makeFor_8 : decode cX4_makeFor 8 = .ok (.iload_n 1, 1) := by decide +kernel
theorem dX4_makeFor_9 : decode cX4_makeFor 9 = .ok (.iconst 2, 1) := by decide +kernel
theorem dX4_makeFor_10 : decode cX4_makeFor 10 = .ok (.if_icmp .lt 8, 3) := by decide +kernel
theorem dX4_makeFor_13 : decode cX4_makeFor 13 = .ok (.iload_n 1, 1) := by decide +kernel
theorem dX4_makeFor_14 : decode cX4_makeFor 14 = .ok (.iconst 5, 1) := by decide +kernel
theorem dX4_makeFor_15 : decode cX4_makeFor 15 = .ok (.if_icmp .le 4, 3) := by decide +kernel
theorem dX4_makeFor_18 : decode cX4_makeFor 18 = .ok (.return_, 1) := by decide +kernel
theorem dX4_makeFor_19 : decode cX4_makeFor 19 = .ok (.aload_n 0, 1) := by decide +kernel
theorem dX4_makeFor_20 : decode cX4_makeFor 20 = .ok (.iload_n 1, 1) := by decide +kernel
theorem dX4_makeFor_21 : decode cX4_makeFor 21 = .ok (.putfield 9, 3) := by decide +kernel
theorem dX4_makeFor_24 : decode cX4_makeFor 24 = .ok (.iload_n 1, 1) := by decide +kernel
theorem dX4_makeFor_25 : decode cX4_makeFor 25 = .ok (.invokestatic 25, 3) := by decide +kernel
theorem dX4_makeFor_28 : decode cX4_makeFor 28 = .ok (.istore_n 2, 1) := by decide +kernel
theorem dX4_makeFor_29 : decode cX4_makeFor 29 = .ok (.aload_n 0, 1) := by decide +kernel
theorem dX4_makeFor_30 : decode cX4_makeFor 30 = .ok (.invokevirtual 29, 3) := by decide +kernel
theorem dX4_makeFor_33 : decode cX4_makeFor 33 = .ok (.iconst 1, 1) := by decide +kernel
theorem dX4_makeFor_34 : decode cX4_makeFor 34 = .ok (.iload_n 2, 1) := by decide +kernel
theorem dX4_makeFor_35 : decode cX4_makeFor 35 = .ok (.ishl, 1) := by decide +kernel
theorem dX4_makeFor_36 : decode cX4_makeFor 36 = .ok (.istore_n 3, 1) := by decide +kernel
theorem dX4_makeFor_37 : decode cX4_makeFor 37 = .ok (.iconst 0, 1) := by decide +kernel
theorem dX4_makeFor_38 : decode cX4_makeFor 38 = .ok (.istore 4, 2) := by decide +kernel
theorem dX4_makeFor_40 : decode cX4_makeFor 40 = .ok (.iload 4, 2) := by decide +kernel
theorem dX4_makeFor_42 : decode cX4_makeFor 42 = .ok (.iload_n 3, 1) := by decide +kernel
theorem dX4_makeFor_43 : decode cX4_makeFor 43 = .ok (.if_icmp .ge 38, 3) := by decide +kernel
theorem dX4_makeFor_46 : decode cX4_makeFor 46 = .ok (.iload 4, 2) := by decide +kernel
theorem dX4_makeFor_48 : decode cX4_makeFor 48 = .ok (.sipush 1024, 3) := by decide +kernel
theorem dX4_makeFor_51 : decode cX4_makeFor 51 = .ok (.if_icmp .ge 30, 3) := by decide +kernel
theorem dX4_makeFor_54 : decode cX4_makeFor 54 = .ok (.aload_n 0, 1) := by decide +kernel
theorem dX4_makeFor_55 : decode cX4_makeFor 55 = .ok (.getfield 15, 3) := by decide +kernel
theorem dX4_makeFor_58 : decode cX4_makeFor 58 = .ok (.iload 4, 2) := by decide +kernel
theorem dX4_makeFor_60 : decode cX4_makeFor 60 = .ok (.aload_n 0, 1) := by decide +kernel
theorem dX4_makeFor_61 : decode cX4_makeFor 61 = .ok (.getfield 15, 3) := by decide +kernel
theorem dX4_makeFor_64 : decode cX4_makeFor 64 = .ok (.iload 4, 2) := by decide +kernel
theorem dX4_makeFor_66 : decode cX4_makeFor 66 = .ok (.iaload, 1) := by decide +kernel
theorem dX4_makeFor_67 : decode cX4_makeFor 67 = .ok (.iconst 1, 1) := by decide +kernel
theorem dX4_makeFor_68 : decode cX4_makeFor 68 = .ok (.invokestatic 32, 3) := by decide +kernel
theorem dX4_makeFor_71 : decode cX4_makeFor 71 = .ok (.invokestatic 38, 3) := by decide +kernel
theorem dX4_makeFor_74 : decode cX4_makeFor 74 = .ok (.iastore, 1) := by decide +kernel
theorem dX4_makeFor_75 : decode cX4_makeFor 75 = .ok (.iinc 4 1, 3) := by decide +kernel
theorem dX4_makeFor_78 : decode cX4_makeFor 78 = .ok (.goto (-38), 3) := by decide +kernel
theorem dX4_makeFor_81 : decode cX4_makeFor 81 = .ok (.iconst 0, 1) := by decide +kernel
theorem dX4_makeFor_82 : decode cX4_makeFor 82 = .ok (.istore 4, 2) := by decide +kernel
theorem dX4_makeFor_84 : decode cX4_makeFor 84 = .ok (.iload 4, 2) := by decide +kernel
theorem dX4_makeFor_86 : decode cX4_makeFor 86 = .ok (.iload_n 2, 1) := by decide +kernel
theorem dX4_makeFor_87 : decode cX4_makeFor 87 = .ok (.if_icmp .ge 16, 3) := by decide +kernel
theorem dX4_makeFor_90 : decode cX4_makeFor 90 = .ok (.aload_n 0, 1) := by decide +kernel
theorem dX4_makeFor_91 : decode cX4_makeFor 91 = .ok (.iload 4, 2) := by decide +kernel
theorem dX4_makeFor_93 : decode cX4_makeFor 93 = .ok (.iload_n 3, 1) := by decide +kernel
theorem dX4_makeFor_94 : decode cX4_makeFor 94 = .ok (.invokevirtual 42, 3) := by decide +kernel
theorem dX4_makeFor_97 : decode cX4_makeFor 97 = .ok (.iinc 4 1, 3) := by decide +kernel
theorem dX4_makeFor_100 : decode cX4_makeFor 100 = .ok (.goto (-16), 3) := by decide +kernel
theorem dX4_makeFor_103 : decode cX4_makeFor 103 = .ok (.aload_n 0, 1) := by decide +kernel
theorem dX4_makeFor_104 : decode cX4_makeFor 104 = .ok (.iload_n 3, 1) := by decide +kernel
theorem dX4_makeFor_105 : decode cX4_makeFor 105 = .ok (.invokevirtual 46, 3) := by decide +kernel
theorem dX4_makeFor_108 : decode cX4_makeFor 108 = .ok (.return_, 1) := by decide +kernel
def bX4_makeFor_40 (x4 : Int32) : (Int32 × Mem) → Option ((Int32 × Mem) ⊕ (Int32 × Mem))
  | (y5, m6) => (if x4 ≤ y5 then some (.inr (y5, m6)) else (if 1024 ≤ y5 then some (.inr (y5, m6)) else chk (inb y5 1024) ((gX2_isForest (m6.1 32 (Int32.toNatClampNeg y5)) 1).bind (fun x8 => (gX8_yesNo x8).bind (fun x9 => chk (inb y5 1024) (lete (mu m6 32 (Int32.toNatClampNeg y5) x9) (fun m11 => some (.inl (y5 + 1, m11)))))))))
def bX4_makeFor_84 (F : Nat) (x2 : Int32) (x4 : Int32) : (Int32 × Mem) → Option ((Int32 × Mem) ⊕ (Int32 × Mem))
  | (y14, m15) => (if x2 ≤ y14 then some (.inr (y14, m15)) else (gX4_addThoseWithout F m15 y14 x4).bind (fun q16 => some (.inl (y14 + 1, q16))))
def gX4_makeFor (F : Nat) (m : Mem) (a1 : Int32) : Option (Mem) := (if a1 = (m.1 31 0) then some m else (if a1 < 2 then some m else (if a1 ≤ 5 then lete (mu m 31 0 a1) (fun m1 => (gX8_pairsOf a1).bind (fun x2 => (gX4_joinPairs F m1).bind (fun q3 => lete ((1 : Int32) <<< (x2 &&& 31)) (fun x4 => (iter F (bX4_makeFor_40 x4) (0, q3)).bind (fun e12 => (iter F (bX4_makeFor_84 F x2 x4) (0, e12.2)).bind (fun e17 => (gX4_chooseBest F e17.2 x4).bind (fun q19 => some q19))))))) else some m)))
set_option maxHeartbeats 4000000 in
set_option maxRecDepth 20000 in
theorem LX4_makeFor {n : Nat} {F : Nat} {m : Mem} {a1 : Int32} {r : Mem} (hn : 43 ≤ n) (hg : gX4_makeFor F m a1 = some r) : MX yX4_makeFor cX4_makeFor 5 none { frames := 4, cells := 0, slots := 0, locals := 97 } n [.ref 31, .int a1] m (none) r := by
  refine MX_of (by decide) (Nat.le_of_ble_eq_true rfl) (Or.inl ⟨rfl, rfl⟩) (fun K hC hk hL hR => ?_)
  replace hn : 43 ≤ kn K := hk.symm ▸ hn
  show RX K 0 [(0, .ref 31), (1, .int a1)] [] m
  rw [gX4_makeFor] at hg
  refine R_iload_n (pc := 0) hC 1 dX4_makeFor_0 rfl rfl ?_
  refine R_aload_n (pc := 1) hC 0 dX4_makeFor_1 rfl rfl ?_
  refine gf_X4_9 (pc := 2) hC hn dX4_makeFor_2 ?_
  refine R_icmp_eq (tgt := 18) (pc := 5) hC dX4_makeFor_5 (by decide) (fun c => ?_) (fun c => ?_)
  · replace hg := (if_pos c).symm.trans hg
    have h9 := gxV hg
    exact R_return (pc := 18) hC dX4_makeFor_18 h9
  · replace hg := (if_neg c).symm.trans hg
    refine R_iload_n (pc := 8) hC 1 dX4_makeFor_8 rfl rfl ?_
    refine R_iconst (pc := 9) hC dX4_makeFor_9 ki_2 ?_
    refine R_icmp_lt (tgt := 18) (pc := 10) hC dX4_makeFor_10 (by decide) (fun c => ?_) (fun c => ?_)
    · replace hg := (if_pos c).symm.trans hg
      have h9 := gxV hg
      exact R_return (pc := 18) hC dX4_makeFor_18 h9
    · replace hg := (if_neg c).symm.trans hg
      refine R_iload_n (pc := 13) hC 1 dX4_makeFor_13 rfl rfl ?_
      refine R_iconst (pc := 14) hC dX4_makeFor_14 ki_5 ?_
      refine R_icmp_le (tgt := 19) (pc := 15) hC dX4_makeFor_15 (by decide) (fun c => ?_) (fun c => ?_)
      · replace hg := (if_pos c).symm.trans hg
        refine R_aload_n (pc := 19) hC 0 dX4_makeFor_19 rfl rfl ?_
        refine R_iload_n (pc := 20) hC 1 dX4_makeFor_20 rfl rfl ?_
        obtain ⟨m1, hm1, hg⟩ := lete_some hg
        refine pf_X4_9 (pc := 21) hC hn dX4_makeFor_21 ?_
        refine R_mem hm1 ?_
        refine R_iload_n (pc := 24) hC 1 dX4_makeFor_24 rfl rfl ?_
        obtain ⟨x2, hx2, hg⟩ := bind_some hg
        refine R_callSN (pc := 25) (av := [.int a1]) (rest := []) hC hR mf_X8_pairsOf wm_X4_25 (LX8_pairsOf hn hx2) rfl rfl rfl (Nat.le_of_ble_eq_true rfl) dX4_makeFor_25 rfl ?_
        show RX K 28 [(0, .ref 31), (1, .int a1)] [.int x2] m1
        refine R_istore_n (pc := 28) hC dX4_makeFor_28 rfl hL rfl (show _ = [(2, .int x2), (0, .ref 31), (1, .int a1)] from rfl) ?_
        refine R_aload_n (pc := 29) hC 1 dX4_makeFor_29 rfl rfl ?_
        obtain ⟨q3, hq3, hg⟩ := bind_some hg
        refine R_callV (pc := 30) (av := []) (rest := []) hC hR 31 (jx hn rfl) ly31 rfl mf_X4_joinPairs wm_X4_29 (LX4_joinPairs hn hq3) rfl rfl rfl (Nat.le_of_ble_eq_true rfl) dX4_makeFor_30 rfl ?_
        show RX K 33 [(2, .int x2), (0, .ref 31), (1, .int a1)] [] q3
        refine R_iconst (pc := 33) hC dX4_makeFor_33 ki_1 ?_
        refine R_iload_n (pc := 34) hC 0 dX4_makeFor_34 rfl rfl ?_
        refine R_ishl (pc := 35) hC dX4_makeFor_35 ?_
        obtain ⟨x4, hx4, hg⟩ := lete_some hg
        refine R_top hx4 ?_
        refine R_istore_n (pc := 36) hC dX4_makeFor_36 rfl hL rfl (show _ = [(3, .int x4), (2, .int x2), (0, .ref 31), (1, .int a1)] from rfl) ?_
        refine R_iconst (pc := 37) hC dX4_makeFor_37 ki_0 ?_
        refine R_istore (pc := 38) hC dX4_makeFor_38 hL rfl (show _ = [(4, .int 0), (3, .int x4), (2, .int x2), (0, .ref 31), (1, .int a1)] from rfl) ?_
        refine R_pick [3, 4, 2, 1, 0] (ls' := [(0, .ref 31), (1, .int a1), (2, .int x2), (3, .int x4), (4, .int 0)]) rfl ?_
        obtain ⟨e12, he12, hg⟩ := bind_some hg
        refine iter_walk (P := fun s : (Int32 × Mem) => RX K 40 [(0, .ref 31), (1, .int a1), (2, .int x2), (3, .int x4), (4, .int s.1)] [] s.2) (Qe := fun s : (Int32 × Mem) => RX K 81 [(0, .ref 31), (1, .int a1), (2, .int x2), (3, .int x4), (4, .int s.1)] [] s.2) (fun s13 o hg kL40 kE40 => ?_) _ _ _ he12 ?_
        · obtain ⟨y5, m6⟩ := s13
          rw [bX4_makeFor_40] at hg
          show RX K 40 [(0, .ref 31), (1, .int a1), (2, .int x2), (3, .int x4), (4, .int y5)] [] m6
          refine R_iload (pc := 40) hC 4 dX4_makeFor_40 rfl ?_
          refine R_iload_n (pc := 42) hC 3 dX4_makeFor_42 rfl rfl ?_
          refine R_icmp_ge (tgt := 81) (pc := 43) hC dX4_makeFor_43 (by decide) (fun c => ?_) (fun c => ?_)
          · replace hg := (if_pos c).symm.trans hg
            refine R_pick [0, 1, 2, 3, 4] (ls' := [(0, .ref 31), (1, .int a1), (2, .int x2), (3, .int x4), (4, .int y5)]) rfl ?_
            have h9 := kE40 _ (Option.some.inj hg).symm
            exact h9
          · replace hg := (if_neg c).symm.trans hg
            refine R_iload (pc := 46) hC 4 dX4_makeFor_46 rfl ?_
            refine R_sipush (pc := 48) hC dX4_makeFor_48 ks_1024 ?_
            refine R_icmp_ge (tgt := 81) (pc := 51) hC dX4_makeFor_51 (by decide) (fun c => ?_) (fun c => ?_)
            · replace hg := (if_pos c).symm.trans hg
              refine R_pick [0, 1, 2, 3, 4] (ls' := [(0, .ref 31), (1, .int a1), (2, .int x2), (3, .int x4), (4, .int y5)]) rfl ?_
              have h9 := kE40 _ (Option.some.inj hg).symm
              exact h9
            · replace hg := (if_neg c).symm.trans hg
              refine R_aload_n (pc := 54) hC 0 dX4_makeFor_54 rfl rfl ?_
              refine gf_X4_15 (pc := 55) hC hn dX4_makeFor_55 ?_
              refine R_iload (pc := 58) hC 4 dX4_makeFor_58 rfl ?_
              refine R_aload_n (pc := 60) hC 0 dX4_makeFor_60 rfl rfl ?_
              refine gf_X4_15 (pc := 61) hC hn dX4_makeFor_61 ?_
              refine R_iload (pc := 64) hC 4 dX4_makeFor_64 rfl ?_
              obtain ⟨c7, hg⟩ := chk_some hg
              refine R_iaload (pc := 66) hC 32 (jx hn rfl) ly32 (inb_vp c7) dX4_makeFor_66 ?_
              refine R_iconst (pc := 67) hC dX4_makeFor_67 ki_1 ?_
              obtain ⟨x8, hx8, hg⟩ := bind_some hg
              refine R_callSN (pc := 68) (av := [.int (m6.1 32 (Int32.toNatClampNeg y5)), .int 1]) (rest := [.int y5, .ref 32]) hC hR mf_X2_isForest wm_X4_32 (LX2_isForest hn hx8) rfl rfl rfl (Nat.le_of_ble_eq_true rfl) dX4_makeFor_68 rfl ?_
              show RX K 71 [(0, .ref 31), (1, .int a1), (2, .int x2), (3, .int x4), (4, .int y5)] [.int (b2i x8), .int y5, .ref 32] m6
              obtain ⟨x9, hx9, hg⟩ := bind_some hg
              refine R_callSN (pc := 71) (av := [.int (b2i x8)]) (rest := [.int y5, .ref 32]) hC hR mf_X8_yesNo wm_X4_38 (LX8_yesNo hn hx9) rfl rfl rfl (Nat.le_of_ble_eq_true rfl) dX4_makeFor_71 rfl ?_
              show RX K 74 [(0, .ref 31), (1, .int a1), (2, .int x2), (3, .int x4), (4, .int y5)] [.int x9, .int y5, .ref 32] m6
              obtain ⟨c10, hg⟩ := chk_some hg
              obtain ⟨m11, hm11, hg⟩ := lete_some hg
              refine R_iastore (pc := 74) hC 32 (jx hn rfl) ly32 (inb_vp c10) dX4_makeFor_74 ?_
              refine R_mem hm11 ?_
              refine R_iinc (pc := 75) hC 4 dX4_makeFor_75 rfl (iv ki_1) hL rfl (show _ = [(4, .int (y5 + 1)), (0, .ref 31), (1, .int a1), (2, .int x2), (3, .int x4)] from rfl) ?_
              refine R_goto (tgt := 40) (pc := 78) hC dX4_makeFor_78 (by decide) ?_
              refine R_pick [1, 2, 3, 4, 0] (ls' := [(0, .ref 31), (1, .int a1), (2, .int x2), (3, .int x4), (4, .int (y5 + 1))]) rfl ?_
              have h9 := kL40 _ (Option.some.inj hg).symm
              exact h9
        · show RX K 81 [(0, .ref 31), (1, .int a1), (2, .int x2), (3, .int x4), (4, .int e12.1)] [] e12.2
          refine R_iconst (pc := 81) hC dX4_makeFor_81 ki_0 ?_
          refine R_istore (pc := 82) hC dX4_makeFor_82 hL rfl (show _ = [(4, .int 0), (0, .ref 31), (1, .int a1), (2, .int x2), (3, .int x4)] from rfl) ?_
          refine R_pick [1, 2, 3, 4, 0] (ls' := [(0, .ref 31), (1, .int a1), (2, .int x2), (3, .int x4), (4, .int 0)]) rfl ?_
          obtain ⟨e17, he17, hg⟩ := bind_some hg
          refine iter_walk (P := fun s : (Int32 × Mem) => RX K 84 [(0, .ref 31), (1, .int a1), (2, .int x2), (3, .int x4), (4, .int s.1)] [] s.2) (Qe := fun s : (Int32 × Mem) => RX K 103 [(0, .ref 31), (1, .int a1), (2, .int x2), (3, .int x4), (4, .int s.1)] [] s.2) (fun s18 o hg kL84 kE84 => ?_) _ _ _ he17 ?_
          · obtain ⟨y14, m15⟩ := s18
            rw [bX4_makeFor_84] at hg
            show RX K 84 [(0, .ref 31), (1, .int a1), (2, .int x2), (3, .int x4), (4, .int y14)] [] m15
            refine R_iload (pc := 84) hC 4 dX4_makeFor_84 rfl ?_
            refine R_iload_n (pc := 86) hC 2 dX4_makeFor_86 rfl rfl ?_
            refine R_icmp_ge (tgt := 103) (pc := 87) hC dX4_makeFor_87 (by decide) (fun c => ?_) (fun c => ?_)
            · replace hg := (if_pos c).symm.trans hg
              refine R_pick [0, 1, 2, 3, 4] (ls' := [(0, .ref 31), (1, .int a1), (2, .int x2), (3, .int x4), (4, .int y14)]) rfl ?_
              have h9 := kE84 _ (Option.some.inj hg).symm
              exact h9
            · replace hg := (if_neg c).symm.trans hg
              refine R_aload_n (pc := 90) hC 0 dX4_makeFor_90 rfl rfl ?_
              refine R_iload (pc := 91) hC 4 dX4_makeFor_91 rfl ?_
              refine R_iload_n (pc := 93) hC 3 dX4_makeFor_93 rfl rfl ?_
              obtain ⟨q16, hq16, hg⟩ := bind_some hg
              refine R_callV (pc := 94) (av := [.int y14, .int x4]) (rest := []) hC hR 31 (jx hn rfl) ly31 rfl mf_X4_addThoseWithout wm_X4_42 (LX4_addThoseWithout hn hq16) rfl rfl rfl (Nat.le_of_ble_eq_true rfl) dX4_makeFor_94 rfl ?_
              show RX K 97 [(0, .ref 31), (1, .int a1), (2, .int x2), (3, .int x4), (4, .int y14)] [] q16
              refine R_iinc (pc := 97) hC 4 dX4_makeFor_97 rfl (iv ki_1) hL rfl (show _ = [(4, .int (y14 + 1)), (0, .ref 31), (1, .int a1), (2, .int x2), (3, .int x4)] from rfl) ?_
              refine R_goto (tgt := 84) (pc := 100) hC dX4_makeFor_100 (by decide) ?_
              refine R_pick [1, 2, 3, 4, 0] (ls' := [(0, .ref 31), (1, .int a1), (2, .int x2), (3, .int x4), (4, .int (y14 + 1))]) rfl ?_
              have h9 := kL84 _ (Option.some.inj hg).symm
              exact h9
          · show RX K 103 [(0, .ref 31), (1, .int a1), (2, .int x2), (3, .int x4), (4, .int e17.1)] [] e17.2
            refine R_aload_n (pc := 103) hC 0 dX4_makeFor_103 rfl rfl ?_
            refine R_iload_n (pc := 104) hC 3 dX4_makeFor_104 rfl rfl ?_
            obtain ⟨q19, hq19, hg⟩ := bind_some hg
            refine R_callV (pc := 105) (av := [.int x4]) (rest := []) hC hR 31 (jx hn rfl) ly31 rfl mf_X4_chooseBest wm_X4_46 (LX4_chooseBest hn hq19) rfl rfl rfl (Nat.le_of_ble_eq_true rfl) dX4_makeFor_105 rfl ?_
            show RX K 108 [(0, .ref 31), (1, .int a1), (2, .int x2), (3, .int x4), (4, .int e17.1)] [] q19
            have h9 := gxV hg
            exact R_return (pc := 108) hC dX4_makeFor_108 h9
      · replace hg := (if_neg c).symm.trans hg
        have h9 := gxV hg
        exact R_return (pc := 18) hC dX4_makeFor_18 h9
theorem dX4_mostWays_0 : decode cX4_mostWays 0 = .ok (.iload_n 1, 1) := by decide +kernel
theorem dX4_mostWays_1 : decode cX4_mostWays 1 = .ok (.ifCond .lt 18, 3) := by decide +kernel
theorem dX4_mostWays_4 : decode cX4_mostWays 4 = .ok (.iload_n 1, 1) := by decide +kernel
theorem dX4_mostWays_5 : decode cX4_mostWays 5 = .ok (.bipush 10, 2) := by decide +kernel
theorem dX4_mostWays_7 : decode cX4_mostWays 7 = .ok (.if_icmp .gt 12, 3) := by decide +kernel
theorem dX4_mostWays_10 : decode cX4_mostWays 10 = .ok (.aload_n 0, 1) := by decide +kernel
theorem dX4_mostWays_11 : decode cX4_mostWays 11 = .ok (.getfield 19, 3) := by decide +kernel
theorem dX4_mostWays_14 : decode cX4_mostWays 14 = .ok (.iload_n 1, 1) := by decide +kernel
theorem dX4_mostWays_15 : decode cX4_mostWays 15 = .ok (.iaload, 1) := by decide +kernel
theorem dX4_mostWays_16 : decode cX4_mostWays 16 = .ok (.goto 4, 3) := by decide +kernel
theorem dX4_mostWays_19 : decode cX4_mostWays 19 = .ok (.iconst 0, 1) := by decide +kernel
theorem dX4_mostWays_20 : decode cX4_mostWays 20 = .ok (.ireturn, 1) := by decide +kernel
def gX4_mostWays (m : Mem) (a1 : Int32) : Option (Int32) := (if a1 < 0 then some 0 else (if 10 < a1 then some 0 else chk (inb a1 11) (some (m.1 33 (Int32.toNatClampNeg a1)))))
set_option maxHeartbeats 4000000 in
set_option maxRecDepth 20000 in
theorem LX4_mostWays {n : Nat} {m : Mem} {a1 : Int32} {r : Int32} (hn : 43 ≤ n) (hg : gX4_mostWays m a1 = some r) : MX yX4_mostWays cX4_mostWays 2 (some .int) { frames := 0, cells := 0, slots := 0, locals := 0 } n [.ref 31, .int a1] m (some (.int r)) m := by
  refine MX_of (by decide) (Nat.le_of_ble_eq_true rfl) (Or.inr (Or.inl ⟨rfl, _, rfl⟩)) (fun K hC hk hL hR => ?_)
  replace hn : 43 ≤ kn K := hk.symm ▸ hn
  show RX K 0 [(0, .ref 31), (1, .int a1)] [] m
  rw [gX4_mostWays] at hg
  refine R_iload_n (pc := 0) hC 1 dX4_mostWays_0 rfl rfl ?_
  refine R_if_lt (tgt := 19) (pc := 1) hC dX4_mostWays_1 (by decide) (fun c => ?_) (fun c => ?_)
  · replace hg := (if_pos c).symm.trans hg
    refine R_iconst (pc := 19) hC dX4_mostWays_19 ki_0 ?_
    have h9 := gxI (m := m) hg
    exact R_ireturn (pc := 20) hC dX4_mostWays_20 h9
  · replace hg := (if_neg c).symm.trans hg
    refine R_iload_n (pc := 4) hC 1 dX4_mostWays_4 rfl rfl ?_
    refine R_bipush (pc := 5) hC dX4_mostWays_5 kb_10 ?_
    refine R_icmp_gt (tgt := 19) (pc := 7) hC dX4_mostWays_7 (by decide) (fun c => ?_) (fun c => ?_)
    · replace hg := (if_pos c).symm.trans hg
      refine R_iconst (pc := 19) hC dX4_mostWays_19 ki_0 ?_
      have h9 := gxI (m := m) hg
      exact R_ireturn (pc := 20) hC dX4_mostWays_20 h9
    · replace hg := (if_neg c).symm.trans hg
      refine R_aload_n (pc := 10) hC 0 dX4_mostWays_10 rfl rfl ?_
      refine gf_X4_19 (pc := 11) hC hn dX4_mostWays_11 ?_
      refine R_iload_n (pc := 14) hC 1 dX4_mostWays_14 rfl rfl ?_
      obtain ⟨c1, hg⟩ := chk_some hg
      refine R_iaload (pc := 15) hC 33 (jx hn rfl) ly33 (inb_vp c1) dX4_mostWays_15 ?_
      refine R_goto (tgt := 20) (pc := 16) hC dX4_mostWays_16 (by decide) ?_
      have h9 := gxI (m := m) hg
      exact R_ireturn (pc := 20) hC dX4_mostWays_20 h9
theorem dX4_firstSet_0 : decode cX4_firstSet 0 = .ok (.iload_n 1, 1) := by decide +kernel
theorem dX4_firstSet_1 : decode cX4_firstSet 1 = .ok (.ifCond .lt 18, 3) := by decide +kernel
theorem dX4_firstSet_4 : decode cX4_firstSet 4 = .ok (.iload_n 1, 1) := by decide +kernel
theorem dX4_firstSet_5 : decode cX4_firstSet 5 = .ok (.bipush 10, 2) := by decide +kernel
theorem dX4_firstSet_7 : decode cX4_firstSet 7 = .ok (.if_icmp .gt 12, 3) := by decide +kernel
theorem dX4_firstSet_10 : decode cX4_firstSet 10 = .ok (.aload_n 0, 1) := by decide +kernel
theorem dX4_firstSet_11 : decode cX4_firstSet 11 = .ok (.getfield 22, 3) := by decide +kernel
theorem dX4_firstSet_14 : decode cX4_firstSet 14 = .ok (.iload_n 1, 1) := by decide +kernel
theorem dX4_firstSet_15 : decode cX4_firstSet 15 = .ok (.iaload, 1) := by decide +kernel
theorem dX4_firstSet_16 : decode cX4_firstSet 16 = .ok (.goto 4, 3) := by decide +kernel
theorem dX4_firstSet_19 : decode cX4_firstSet 19 = .ok (.iconst 0, 1) := by decide +kernel
theorem dX4_firstSet_20 : decode cX4_firstSet 20 = .ok (.ireturn, 1) := by decide +kernel
def gX4_firstSet (m : Mem) (a1 : Int32) : Option (Int32) := (if a1 < 0 then some 0 else (if 10 < a1 then some 0 else chk (inb a1 11) (some (m.1 34 (Int32.toNatClampNeg a1)))))
set_option maxHeartbeats 4000000 in
set_option maxRecDepth 20000 in
theorem LX4_firstSet {n : Nat} {m : Mem} {a1 : Int32} {r : Int32} (hn : 43 ≤ n) (hg : gX4_firstSet m a1 = some r) : MX yX4_firstSet cX4_firstSet 2 (some .int) { frames := 0, cells := 0, slots := 0, locals := 0 } n [.ref 31, .int a1] m (some (.int r)) m := by
  refine MX_of (by decide) (Nat.le_of_ble_eq_true rfl) (Or.inr (Or.inl ⟨rfl, _, rfl⟩)) (fun K hC hk hL hR => ?_)
  replace hn : 43 ≤ kn K := hk.symm ▸ hn
  show RX K 0 [(0, .ref 31), (1, .int a1)] [] m
  rw [gX4_firstSet] at hg
  refine R_iload_n (pc := 0) hC 1 dX4_firstSet_0 rfl rfl ?_
  refine R_if_lt (tgt := 19) (pc := 1) hC dX4_firstSet_1 (by decide) (fun c => ?_) (fun c => ?_)
  · replace hg := (if_pos c).symm.trans hg
    refine R_iconst (pc := 19) hC dX4_firstSet_19 ki_0 ?_
    have h9 := gxI (m := m) hg
    exact R_ireturn (pc := 20) hC dX4_firstSet_20 h9
  · replace hg := (if_neg c).symm.trans hg
    refine R_iload_n (pc := 4) hC 1 dX4_firstSet_4 rfl rfl ?_
    refine R_bipush (pc := 5) hC dX4_firstSet_5 kb_10 ?_
    refine R_icmp_gt (tgt := 19) (pc := 7) hC dX4_firstSet_7 (by decide) (fun c => ?_) (fun c => ?_)
    · replace hg := (if_pos c).symm.trans hg
      refine R_iconst (pc := 19) hC dX4_firstSet_19 ki_0 ?_
      have h9 := gxI (m := m) hg
      exact R_ireturn (pc := 20) hC dX4_firstSet_20 h9
    · replace hg := (if_neg c).symm.trans hg
      refine R_aload_n (pc := 10) hC 0 dX4_firstSet_10 rfl rfl ?_
      refine gf_X4_22 (pc := 11) hC hn dX4_firstSet_11 ?_
      refine R_iload_n (pc := 14) hC 1 dX4_firstSet_14 rfl rfl ?_
      obtain ⟨c1, hg⟩ := chk_some hg
      refine R_iaload (pc := 15) hC 34 (jx hn rfl) ly34 (inb_vp c1) dX4_firstSet_15 ?_
      refine R_goto (tgt := 20) (pc := 16) hC dX4_firstSet_16 (by decide) ?_
      have h9 := gxI (m := m) hg
      exact R_ireturn (pc := 20) hC dX4_firstSet_20 h9
