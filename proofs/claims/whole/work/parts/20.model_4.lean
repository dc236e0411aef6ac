theorem dX9_inAll_0 : decode cX9_inAll 0 = .ok (.aload_n 0, 1) := by decide +kernel
theorem dX9_inAll_1 : decode cX9_inAll 1 = .ok (.invokevirtual 193, 3) := by decide +kernel
theorem dX9_inAll_4 : decode cX9_inAll 4 = .ok (.aload_n 0, 1) := by decide +kernel
theorem dX9_inAll_5 : decode cX9_inAll 5 = .ok (.getfield 183, 3) := by decide +kernel
theorem dX9_inAll_8 : decode cX9_inAll 8 = .ok (.ifCond .ne 7, 3) := by decide +kernel
theorem dX9_inAll_11 : decode cX9_inAll 11 = .ok (.iconst 0, 1) := by decide +kernel
theorem dX9_inAll_12 : decode cX9_inAll 12 = .ok (.goto 7, 3) := by decide +kernel
theorem dX9_inAll_15 : decode cX9_inAll 15 = .ok (.aload_n 0, 1) := by decide +kernel
theorem dX9_inAll_16 : decode cX9_inAll 16 = .ok (.invokevirtual 162, 3) := by decide +kernel
theorem dX9_inAll_19 : decode cX9_inAll 19 = .ok (.istore_n 1, 1) := by decide +kernel
theorem dX9_inAll_20 : decode cX9_inAll 20 = .ok (.iconst 0, 1) := by decide +kernel
theorem dX9_inAll_21 : decode cX9_inAll 21 = .ok (.istore_n 2, 1) := by decide +kernel
theorem dX9_inAll_22 : decode cX9_inAll 22 = .ok (.iload_n 2, 1) := by decide +kernel
theorem dX9_inAll_23 : decode cX9_inAll 23 = .ok (.aload_n 0, 1) := by decide +kernel
theorem dX9_inAll_24 : decode cX9_inAll 24 = .ok (.getfield 183, 3) := by decide +kernel
theorem dX9_inAll_27 : decode cX9_inAll 27 = .ok (.if_icmp .ge 18, 3) := by decide +kernel
theorem dX9_inAll_30 : decode cX9_inAll 30 = .ok (.iload_n 1, 1) := by decide +kernel
theorem dX9_inAll_31 : decode cX9_inAll 31 = .ok (.aload_n 0, 1) := by decide +kernel
theorem dX9_inAll_32 : decode cX9_inAll 32 = .ok (.getfield 56, 3) := by decide +kernel
theorem dX9_inAll_35 : decode cX9_inAll 35 = .ok (.iload_n 2, 1) := by decide +kernel
theorem dX9_inAll_36 : decode cX9_inAll 36 = .ok (.iaload, 1) := by decide +kernel
theorem dX9_inAll_37 : decode cX9_inAll 37 = .ok (.iand, 1) := by decide +kernel
theorem dX9_inAll_38 : decode cX9_inAll 38 = .ok (.istore_n 1, 1) := by decide +kernel
theorem dX9_inAll_39 : decode cX9_inAll 39 = .ok (.iinc 2 1, 3) := by decide +kernel
theorem dX9_inAll_42 : decode cX9_inAll 42 = .ok (.goto (-20), 3) := by decide +kernel
theorem dX9_inAll_45 : decode cX9_inAll 45 = .ok (.iload_n 1, 1) := by decide +kernel
theorem dX9_inAll_46 : decode cX9_inAll 46 = .ok (.ireturn, 1) := by decide +kernel
def bX9_inAll_22 (q1 : Mem) : (Int32 × Int32) → Option ((Int32 × Int32) ⊕ (Int32 × Int32))
  | (y3, y4) => (if (q1.1 43 24) ≤ y4 then some (.inr (y3, y4)) else chk (inb y4 1024) (lete (y3 &&& (q1.1 58 (Int32.toNatClampNeg y4))) (fun x6 => some (.inl (x6, y4 + 1)))))
def bX9_inAll_22_12 (q1 : Mem) : (Int32 × Int32) → Option ((Int32 × Int32) ⊕ (Int32 × Int32))
  | (y9, y10) => (if (q1.1 43 24) ≤ y10 then some (.inr (y9, y10)) else chk (inb y10 1024) (lete (y9 &&& (q1.1 58 (Int32.toNatClampNeg y10))) (fun x12 => some (.inl (x12, y10 + 1)))))
def gX9_inAll (F : Nat) (m : Mem) : Option (Int32 × Mem) := (gX9_findWays F m).bind (fun q1 => (if (q1.1 43 24) = 0 then (iter F (bX9_inAll_22_12 q1) (0, 0)).bind (fun e13 => some (e13.1, q1)) else (gX9_allLanes q1).bind (fun x2 => (iter F (bX9_inAll_22 q1) (x2, 0)).bind (fun e7 => some (e7.1, q1)))))
set_option maxHeartbeats 4000000 in
set_option maxRecDepth 20000 in
theorem LX9_inAll {n : Nat} {F : Nat} {m : Mem} {r : Int32 × Mem} (hn64 : 64 ≤ n) (hg : gX9_inAll F m  = some r) : MX yX9_inAll cX9_inAll 3 (some .int) { frames := 4, cells := 0, slots := 0, locals := 90 } n [.ref 43] m (some (.int r.1)) r.2 := by
  refine MX_of (by decide) (Nat.le_of_ble_eq_true rfl) (Or.inr (Or.inl ⟨rfl, _, rfl⟩)) (fun K hC hk hL hR => ?_)
  replace hn64 : 64 ≤ kn K := hk.symm ▸ hn64
  show RX K 0 [(0, .ref 43)] [] m
  rw [gX9_inAll] at hg
  refine R_aload_n (pc := 0) hC 0 dX9_inAll_0 rfl rfl ?_
  obtain ⟨q1, hq1, hg⟩ := bind_some hg
  refine R_callV (pc := 1) (av := []) (rest := []) hC hR 43 (jx hn64 rfl) ly43 rfl mf_X9_findWays wm_X9_193 (LX9_findWays hn64 hq1) rfl rfl rfl (Nat.le_of_ble_eq_true rfl) dX9_inAll_1 rfl ?_
  show RX K 4 [(0, .ref 43)] [] q1
  refine R_aload_n (pc := 4) hC 0 dX9_inAll_4 rfl rfl ?_
  refine gf_X9_183 (pc := 5) hC hn64 dX9_inAll_5 ?_
  refine R_if_ne (tgt := 15) (pc := 8) hC dX9_inAll_8 (by decide) (fun c => ?_) (fun c => ?_)
  · replace hg := (if_neg c).symm.trans hg
    refine R_aload_n (pc := 15) hC 0 dX9_inAll_15 rfl rfl ?_
    obtain ⟨x2, hx2, hg⟩ := bind_some hg
    refine R_callV (pc := 16) (av := []) (rest := []) hC hR 43 (jx hn64 rfl) ly43 rfl mf_X9_allLanes wm_X9_162 (LX9_allLanes hn64 hx2) rfl rfl rfl (Nat.le_of_ble_eq_true rfl) dX9_inAll_16 rfl ?_
    show RX K 19 [(0, .ref 43)] [.int x2] q1
    refine R_istore_n (pc := 19) hC dX9_inAll_19 rfl hL rfl (show _ = [(1, .int x2), (0, .ref 43)] from rfl) ?_
    refine R_iconst (pc := 20) hC dX9_inAll_20 ki_0 ?_
    refine R_istore_n (pc := 21) hC dX9_inAll_21 rfl hL rfl (show _ = [(2, .int 0), (1, .int x2), (0, .ref 43)] from rfl) ?_
    refine R_pick [2, 1, 0] (ls' := [(0, .ref 43), (1, .int x2), (2, .int 0)]) rfl ?_
    obtain ⟨e7, he7, hg⟩ := bind_some hg
    refine iter_walk (P := fun s : (Int32 × Int32) => RX K 22 [(0, .ref 43), (1, .int s.1), (2, .int s.2)] [] q1) (Qe := fun s : (Int32 × Int32) => RX K 45 [(0, .ref 43), (1, .int s.1), (2, .int s.2)] [] q1) (fun s8 o hg kL22 kE22 => ?_) _ _ _ he7 ?_
    · obtain ⟨y3, y4⟩ := s8
      rw [bX9_inAll_22] at hg
      show RX K 22 [(0, .ref 43), (1, .int y3), (2, .int y4)] [] q1
      refine R_iload_n (pc := 22) hC 2 dX9_inAll_22 rfl rfl ?_
      refine R_aload_n (pc := 23) hC 0 dX9_inAll_23 rfl rfl ?_
      refine gf_X9_183 (pc := 24) hC hn64 dX9_inAll_24 ?_
      refine R_icmp_ge (tgt := 45) (pc := 27) hC dX9_inAll_27 (by decide) (fun c => ?_) (fun c => ?_)
      · replace hg := (if_pos c).symm.trans hg
        refine R_pick [0, 1, 2] (ls' := [(0, .ref 43), (1, .int y3), (2, .int y4)]) rfl ?_
        have h9 := kE22 _ (Option.some.inj hg).symm
        exact h9
      · replace hg := (if_neg c).symm.trans hg
        refine R_iload_n (pc := 30) hC 1 dX9_inAll_30 rfl rfl ?_
        refine R_aload_n (pc := 31) hC 0 dX9_inAll_31 rfl rfl ?_
        refine gf_X9_56 (pc := 32) hC hn64 dX9_inAll_32 ?_
        refine R_iload_n (pc := 35) hC 2 dX9_inAll_35 rfl rfl ?_
        obtain ⟨c5, hg⟩ := chk_some hg
        refine R_iaload (pc := 36) hC 58 (jx hn64 rfl) ly58 (inb_vp c5) dX9_inAll_36 ?_
        refine R_iand (pc := 37) hC dX9_inAll_37 ?_
        obtain ⟨x6, hx6, hg⟩ := lete_some hg
        refine R_top hx6 ?_
        refine R_istore_n (pc := 38) hC dX9_inAll_38 rfl hL rfl (show _ = [(1, .int x6), (0, .ref 43), (2, .int y4)] from rfl) ?_
        refine R_iinc (pc := 39) hC 2 dX9_inAll_39 rfl (iv ki_1) hL rfl (show _ = [(2, .int (y4 + 1)), (1, .int x6), (0, .ref 43)] from rfl) ?_
        refine R_goto (tgt := 22) (pc := 42) hC dX9_inAll_42 (by decide) ?_
        refine R_pick [2, 1, 0] (ls' := [(0, .ref 43), (1, .int x6), (2, .int (y4 + 1))]) rfl ?_
        have h9 := kL22 _ (Option.some.inj hg).symm
        exact h9
    · show RX K 45 [(0, .ref 43), (1, .int e7.1), (2, .int e7.2)] [] q1
      refine R_iload_n (pc := 45) hC 1 dX9_inAll_45 rfl rfl ?_
      have h9 := gxIM hg
      exact R_ireturn (pc := 46) hC dX9_inAll_46 h9
  · replace hg := (if_pos c).symm.trans hg
    refine R_iconst (pc := 11) hC dX9_inAll_11 ki_0 ?_
    refine R_goto (tgt := 19) (pc := 12) hC dX9_inAll_12 (by decide) ?_
    refine R_istore_n (pc := 19) hC dX9_inAll_19 rfl hL rfl (show _ = [(1, .int 0), (0, .ref 43)] from rfl) ?_
    refine R_iconst (pc := 20) hC dX9_inAll_20 ki_0 ?_
    refine R_istore_n (pc := 21) hC dX9_inAll_21 rfl hL rfl (show _ = [(2, .int 0), (1, .int 0), (0, .ref 43)] from rfl) ?_
    refine R_pick [2, 1, 0] (ls' := [(0, .ref 43), (1, .int 0), (2, .int 0)]) rfl ?_
    obtain ⟨e13, he13, hg⟩ := bind_some hg
    refine iter_walk (P := fun s : (Int32 × Int32) => RX K 22 [(0, .ref 43), (1, .int s.1), (2, .int s.2)] [] q1) (Qe := fun s : (Int32 × Int32) => RX K 45 [(0, .ref 43), (1, .int s.1), (2, .int s.2)] [] q1) (fun s14 o hg kL22 kE22 => ?_) _ _ _ he13 ?_
    · obtain ⟨y9, y10⟩ := s14
      rw [bX9_inAll_22_12] at hg
      show RX K 22 [(0, .ref 43), (1, .int y9), (2, .int y10)] [] q1
      refine R_iload_n (pc := 22) hC 2 dX9_inAll_22 rfl rfl ?_
      refine R_aload_n (pc := 23) hC 0 dX9_inAll_23 rfl rfl ?_
      refine gf_X9_183 (pc := 24) hC hn64 dX9_inAll_24 ?_
      refine R_icmp_ge (tgt := 45) (pc := 27) hC dX9_inAll_27 (by decide) (fun c => ?_) (fun c => ?_)
      · replace hg := (if_pos c).symm.trans hg
        refine R_pick [0, 1, 2] (ls' := [(0, .ref 43), (1, .int y9), (2, .int y10)]) rfl ?_
        have h9 := kE22 _ (Option.some.inj hg).symm
        exact h9
      · replace hg := (if_neg c).symm.trans hg
        refine R_iload_n (pc := 30) hC 1 dX9_inAll_30 rfl rfl ?_
        refine R_aload_n (pc := 31) hC 0 dX9_inAll_31 rfl rfl ?_
        refine gf_X9_56 (pc := 32) hC hn64 dX9_inAll_32 ?_
        refine R_iload_n (pc := 35) hC 2 dX9_inAll_35 rfl rfl ?_
        obtain ⟨c11, hg⟩ := chk_some hg
        refine R_iaload (pc := 36) hC 58 (jx hn64 rfl) ly58 (inb_vp c11) dX9_inAll_36 ?_
        refine R_iand (pc := 37) hC dX9_inAll_37 ?_
        obtain ⟨x12, hx12, hg⟩ := lete_some hg
        refine R_top hx12 ?_
        refine R_istore_n (pc := 38) hC dX9_inAll_38 rfl hL rfl (show _ = [(1, .int x12), (0, .ref 43), (2, .int y10)] from rfl) ?_
        refine R_iinc (pc := 39) hC 2 dX9_inAll_39 rfl (iv ki_1) hL rfl (show _ = [(2, .int (y10 + 1)), (1, .int x12), (0, .ref 43)] from rfl) ?_
        refine R_goto (tgt := 22) (pc := 42) hC dX9_inAll_42 (by decide) ?_
        refine R_pick [2, 1, 0] (ls' := [(0, .ref 43), (1, .int x12), (2, .int (y10 + 1))]) rfl ?_
        have h9 := kL22 _ (Option.some.inj hg).symm
        exact h9
    · show RX K 45 [(0, .ref 43), (1, .int e13.1), (2, .int e13.2)] [] q1
      refine R_iload_n (pc := 45) hC 1 dX9_inAll_45 rfl rfl ?_
      have h9 := gxIM hg
      exact R_ireturn (pc := 46) hC dX9_inAll_46 h9
theorem dX9_inNone_0 : decode cX9_inNone 0 = .ok (.aload_n 0, 1) := by decide +kernel
theorem dX9_inNone_1 : decode cX9_inNone 1 = .ok (.invokevirtual 193, 3) := by decide +kernel
theorem dX9_inNone_4 : decode cX9_inNone 4 = .ok (.aload_n 0, 1) := by decide +kernel
theorem dX9_inNone_5 : decode cX9_inNone 5 = .ok (.invokevirtual 162, 3) := by decide +kernel
theorem dX9_inNone_8 : decode cX9_inNone 8 = .ok (.istore_n 1, 1) := by decide +kernel
theorem dX9_inNone_9 : decode cX9_inNone 9 = .ok (.iconst 0, 1) := by decide +kernel
theorem dX9_inNone_10 : decode cX9_inNone 10 = .ok (.istore_n 2, 1) := by decide +kernel
theorem dX9_inNone_11 : decode cX9_inNone 11 = .ok (.iload_n 2, 1) := by decide +kernel
theorem dX9_inNone_12 : decode cX9_inNone 12 = .ok (.aload_n 0, 1) := by decide +kernel
theorem dX9_inNone_13 : decode cX9_inNone 13 = .ok (.getfield 183, 3) := by decide +kernel
theorem dX9_inNone_16 : decode cX9_inNone 16 = .ok (.if_icmp .ge 20, 3) := by decide +kernel
theorem dX9_inNone_19 : decode cX9_inNone 19 = .ok (.iload_n 1, 1) := by decide +kernel
theorem dX9_inNone_20 : decode cX9_inNone 20 = .ok (.aload_n 0, 1) := by decide +kernel
theorem dX9_inNone_21 : decode cX9_inNone 21 = .ok (.getfield 56, 3) := by decide +kernel
theorem dX9_inNone_24 : decode cX9_inNone 24 = .ok (.iload_n 2, 1) := by decide +kernel
theorem dX9_inNone_25 : decode cX9_inNone 25 = .ok (.iaload, 1) := by decide +kernel
theorem dX9_inNone_26 : decode cX9_inNone 26 = .ok (.iconst (-1), 1) := by decide +kernel
theorem dX9_inNone_27 : decode cX9_inNone 27 = .ok (.ixor, 1) := by decide +kernel
theorem dX9_inNone_28 : decode cX9_inNone 28 = .ok (.iand, 1) := by decide +kernel
theorem dX9_inNone_29 : decode cX9_inNone 29 = .ok (.istore_n 1, 1) := by decide +kernel
theorem dX9_inNone_30 : decode cX9_inNone 30 = .ok (.iinc 2 1, 3) := by decide +kernel
theorem dX9_inNone_33 : decode cX9_inNone 33 = .ok (.goto (-22), 3) := by decide +kernel
theorem dX9_inNone_36 : decode cX9_inNone 36 = .ok (.iload_n 1, 1) := by decide +kernel
theorem dX9_inNone_37 : decode cX9_inNone 37 = .ok (.ireturn, 1) := by decide +kernel
def bX9_inNone_11 (q1 : Mem) : (Int32 × Int32) → Option ((Int32 × Int32) ⊕ (Int32 × Int32))
  | (y3, y4) => (if (q1.1 43 24) ≤ y4 then some (.inr (y3, y4)) else chk (inb y4 1024) (lete (y3 &&& ((q1.1 58 (Int32.toNatClampNeg y4)) ^^^ (-1))) (fun x6 => some (.inl (x6, y4 + 1)))))
def gX9_inNone (F : Nat) (m : Mem) : Option (Int32 × Mem) := (gX9_findWays F m).bind (fun q1 => (gX9_allLanes q1).bind (fun x2 => (iter F (bX9_inNone_11 q1) (x2, 0)).bind (fun e7 => some (e7.1, q1))))
set_option maxHeartbeats 4000000 in
set_option maxRecDepth 20000 in
theorem LX9_inNone {n : Nat} {F : Nat} {m : Mem} {r : Int32 × Mem} (hn64 : 64 ≤ n) (hg : gX9_inNone F m  = some r) : MX yX9_inNone cX9_inNone 3 (some .int) { frames := 4, cells := 0, slots := 0, locals := 90 } n [.ref 43] m (some (.int r.1)) r.2 := by
  refine MX_of (by decide) (Nat.le_of_ble_eq_true rfl) (Or.inr (Or.inl ⟨rfl, _, rfl⟩)) (fun K hC hk hL hR => ?_)
  replace hn64 : 64 ≤ kn K := hk.symm ▸ hn64
  show RX K 0 [(0, .ref 43)] [] m
  rw [gX9_inNone] at hg
  refine R_aload_n (pc := 0) hC 0 dX9_inNone_0 rfl rfl ?_
  obtain ⟨q1, hq1, hg⟩ := bind_some hg
  refine R_callV (pc := 1) (av := []) (rest := []) hC hR 43 (jx hn64 rfl) ly43 rfl mf_X9_findWays wm_X9_193 (LX9_findWays hn64 hq1) rfl rfl rfl (Nat.le_of_ble_eq_true rfl) dX9_inNone_1 rfl ?_
  show RX K 4 [(0, .ref 43)] [] q1
  refine R_aload_n (pc := 4) hC 0 dX9_inNone_4 rfl rfl ?_
  obtain ⟨x2, hx2, hg⟩ := bind_some hg
  refine R_callV (pc := 5) (av := []) (rest := []) hC hR 43 (jx hn64 rfl) ly43 rfl mf_X9_allLanes wm_X9_162 (LX9_allLanes hn64 hx2) rfl rfl rfl (Nat.le_of_ble_eq_true rfl) dX9_inNone_5 rfl ?_
  show RX K 8 [(0, .ref 43)] [.int x2] q1
  refine R_istore_n (pc := 8) hC dX9_inNone_8 rfl hL rfl (show _ = [(1, .int x2), (0, .ref 43)] from rfl) ?_
  refine R_iconst (pc := 9) hC dX9_inNone_9 ki_0 ?_
  refine R_istore_n (pc := 10) hC dX9_inNone_10 rfl hL rfl (show _ = [(2, .int 0), (1, .int x2), (0, .ref 43)] from rfl) ?_
  refine R_pick [2, 1, 0] (ls' := [(0, .ref 43), (1, .int x2), (2, .int 0)]) rfl ?_
  obtain ⟨e7, he7, hg⟩ := bind_some hg
  refine iter_walk (P := fun s : (Int32 × Int32) => RX K 11 [(0, .ref 43), (1, .int s.1), (2, .int s.2)] [] q1) (Qe := fun s : (Int32 × Int32) => RX K 36 [(0, .ref 43), (1, .int s.1), (2, .int s.2)] [] q1) (fun s8 o hg kL11 kE11 => ?_) _ _ _ he7 ?_
  · obtain ⟨y3, y4⟩ := s8
    rw [bX9_inNone_11] at hg
    show RX K 11 [(0, .ref 43), (1, .int y3), (2, .int y4)] [] q1
    refine R_iload_n (pc := 11) hC 2 dX9_inNone_11 rfl rfl ?_
    refine R_aload_n (pc := 12) hC 0 dX9_inNone_12 rfl rfl ?_
    refine gf_X9_183 (pc := 13) hC hn64 dX9_inNone_13 ?_
    refine R_icmp_ge (tgt := 36) (pc := 16) hC dX9_inNone_16 (by decide) (fun c => ?_) (fun c => ?_)
    · replace hg := (if_pos c).symm.trans hg
      refine R_pick [0, 1, 2] (ls' := [(0, .ref 43), (1, .int y3), (2, .int y4)]) rfl ?_
      have h9 := kE11 _ (Option.some.inj hg).symm
      exact h9
    · replace hg := (if_neg c).symm.trans hg
      refine R_iload_n (pc := 19) hC 1 dX9_inNone_19 rfl rfl ?_
      refine R_aload_n (pc := 20) hC 0 dX9_inNone_20 rfl rfl ?_
      refine gf_X9_56 (pc := 21) hC hn64 dX9_inNone_21 ?_
      refine R_iload_n (pc := 24) hC 2 dX9_inNone_24 rfl rfl ?_
      obtain ⟨c5, hg⟩ := chk_some hg
      refine R_iaload (pc := 25) hC 58 (jx hn64 rfl) ly58 (inb_vp c5) dX9_inNone_25 ?_
      refine R_iconst (pc := 26) hC dX9_inNone_26 ki_m1 ?_
      refine R_ixor (pc := 27) hC dX9_inNone_27 ?_
      refine R_iand (pc := 28) hC dX9_inNone_28 ?_
      obtain ⟨x6, hx6, hg⟩ := lete_some hg
      refine R_top hx6 ?_
      refine R_istore_n (pc := 29) hC dX9_inNone_29 rfl hL rfl (show _ = [(1, .int x6), (0, .ref 43), (2, .int y4)] from rfl) ?_
      refine R_iinc (pc := 30) hC 2 dX9_inNone_30 rfl (iv ki_1) hL rfl (show _ = [(2, .int (y4 + 1)), (1, .int x6), (0, .ref 43)] from rfl) ?_
      refine R_goto (tgt := 11) (pc := 33) hC dX9_inNone_33 (by decide) ?_
      refine R_pick [2, 1, 0] (ls' := [(0, .ref 43), (1, .int x6), (2, .int (y4 + 1))]) rfl ?_
      have h9 := kL11 _ (Option.some.inj hg).symm
      exact h9
  · show RX K 36 [(0, .ref 43), (1, .int e7.1), (2, .int e7.2)] [] q1
    refine R_iload_n (pc := 36) hC 1 dX9_inNone_36 rfl rfl ?_
    have h9 := gxIM hg
    exact R_ireturn (pc := 37) hC dX9_inNone_37 h9
theorem dX9_cheapest_0 : decode cX9_cheapest 0 = .ok (.iconst (-1), 1) := by decide +kernel
theorem dX9_cheapest_1 : decode cX9_cheapest 1 = .ok (.istore_n 2, 1) := by decide +kernel
theorem dX9_cheapest_2 : decode cX9_cheapest 2 = .ok (.iconst 0, 1) := by decide +kernel
theorem dX9_cheapest_3 : decode cX9_cheapest 3 = .ok (.istore_n 3, 1) := by decide +kernel
theorem dX9_cheapest_4 : decode cX9_cheapest 4 = .ok (.iload_n 3, 1) := by decide +kernel
theorem dX9_cheapest_5 : decode cX9_cheapest 5 = .ok (.iload_n 1, 1) := by decide +kernel
theorem dX9_cheapest_6 : decode cX9_cheapest 6 = .ok (.if_icmp .gt 137, 3) := by decide +kernel
theorem dX9_cheapest_9 : decode cX9_cheapest 9 = .ok (.iconst (-1), 1) := by decide +kernel
theorem dX9_cheapest_10 : decode cX9_cheapest 10 = .ok (.istore 4, 2) := by decide +kernel
theorem dX9_cheapest_12 : decode cX9_cheapest 12 = .ok (.iconst 0, 1) := by decide +kernel
theorem dX9_cheapest_13 : decode cX9_cheapest 13 = .ok (.istore 5, 2) := by decide +kernel
theorem dX9_cheapest_15 : decode cX9_cheapest 15 = .ok (.iload 5, 2) := by decide +kernel
theorem dX9_cheapest_17 : decode cX9_cheapest 17 = .ok (.aload_n 0, 1) := by decide +kernel
theorem dX9_cheapest_18 : decode cX9_cheapest 18 = .ok (.getfield 183, 3) := by decide +kernel
theorem dX9_cheapest_21 : decode cX9_cheapest 21 = .ok (.if_icmp .ge 113, 3) := by decide +kernel
theorem dX9_cheapest_24 : decode cX9_cheapest 24 = .ok (.iload_n 2, 1) := by decide +kernel
theorem dX9_cheapest_25 : decode cX9_cheapest 25 = .ok (.ifCond .lt 57, 3) := by decide +kernel
theorem dX9_cheapest_28 : decode cX9_cheapest 28 = .ok (.aload_n 0, 1) := by decide +kernel
theorem dX9_cheapest_29 : decode cX9_cheapest 29 = .ok (.aload_n 0, 1) := by decide +kernel
theorem dX9_cheapest_30 : decode cX9_cheapest 30 = .ok (.getfield 56, 3) := by decide +kernel
theorem dX9_cheapest_33 : decode cX9_cheapest 33 = .ok (.iload 5, 2) := by decide +kernel
theorem dX9_cheapest_35 : decode cX9_cheapest 35 = .ok (.iaload, 1) := by decide +kernel
theorem dX9_cheapest_36 : decode cX9_cheapest 36 = .ok (.invokevirtual 222, 3) := by decide +kernel
theorem dX9_cheapest_39 : decode cX9_cheapest 39 = .ok (.aload_n 0, 1) := by decide +kernel
theorem dX9_cheapest_40 : decode cX9_cheapest 40 = .ok (.aload_n 0, 1) := by decide +kernel
theorem dX9_cheapest_41 : decode cX9_cheapest 41 = .ok (.getfield 56, 3) := by decide +kernel
theorem dX9_cheapest_44 : decode cX9_cheapest 44 = .ok (.iload_n 2, 1) := by decide +kernel
theorem dX9_cheapest_45 : decode cX9_cheapest 45 = .ok (.iaload, 1) := by decide +kernel
theorem dX9_cheapest_46 : decode cX9_cheapest 46 = .ok (.invokevirtual 222, 3) := by decide +kernel
theorem dX9_cheapest_49 : decode cX9_cheapest 49 = .ok (.if_icmp .gt 33, 3) := by decide +kernel
theorem dX9_cheapest_52 : decode cX9_cheapest 52 = .ok (.aload_n 0, 1) := by decide +kernel
theorem dX9_cheapest_53 : decode cX9_cheapest 53 = .ok (.aload_n 0, 1) := by decide +kernel
theorem dX9_cheapest_54 : decode cX9_cheapest 54 = .ok (.getfield 56, 3) := by decide +kernel
theorem dX9_cheapest_57 : decode cX9_cheapest 57 = .ok (.iload 5, 2) := by decide +kernel
theorem dX9_cheapest_59 : decode cX9_cheapest 59 = .ok (.iaload, 1) := by decide +kernel
theorem dX9_cheapest_60 : decode cX9_cheapest 60 = .ok (.invokevirtual 222, 3) := by decide +kernel
theorem dX9_cheapest_63 : decode cX9_cheapest 63 = .ok (.aload_n 0, 1) := by decide +kernel
theorem dX9_cheapest_64 : decode cX9_cheapest 64 = .ok (.aload_n 0, 1) := by decide +kernel
theorem dX9_cheapest_65 : decode cX9_cheapest 65 = .ok (.getfield 56, 3) := by decide +kernel
theorem dX9_cheapest_68 : decode cX9_cheapest 68 = .ok (.iload_n 2, 1) := by decide +kernel
theorem dX9_cheapest_69 : decode cX9_cheapest 69 = .ok (.iaload, 1) := by decide +kernel
theorem dX9_cheapest_70 : decode cX9_cheapest 70 = .ok (.invokevirtual 222, 3) := by decide +kernel
theorem dX9_cheapest_73 : decode cX9_cheapest 73 = .ok (.if_icmp .ne 13, 3) := by decide +kernel
theorem dX9_cheapest_76 : decode cX9_cheapest 76 = .ok (.iload 5, 2) := by decide +kernel
theorem dX9_cheapest_78 : decode cX9_cheapest 78 = .ok (.iload_n 2, 1) := by decide +kernel
theorem dX9_cheapest_79 : decode cX9_cheapest 79 = .ok (.if_icmp .le 7, 3) := by decide +kernel
theorem dX9_cheapest_82 : decode cX9_cheapest 82 = .ok (.iconst 1, 1) := by decide +kernel
theorem dX9_cheapest_83 : decode cX9_cheapest 83 = .ok (.goto 4, 3) := by decide +kernel
theorem dX9_cheapest_86 : decode cX9_cheapest 86 = .ok (.iconst 0, 1) := by decide +kernel
theorem dX9_cheapest_87 : decode cX9_cheapest 87 = .ok (.istore 6, 2) := by decide +kernel
theorem dX9_cheapest_89 : decode cX9_cheapest 89 = .ok (.iload 6, 2) := by decide +kernel
theorem dX9_cheapest_91 : decode cX9_cheapest 91 = .ok (.ifCond .eq 37, 3) := by decide +kernel
theorem dX9_cheapest_94 : decode cX9_cheapest 94 = .ok (.iload 4, 2) := by decide +kernel
theorem dX9_cheapest_96 : decode cX9_cheapest 96 = .ok (.ifCond .lt 28, 3) := by decide +kernel
theorem dX9_cheapest_99 : decode cX9_cheapest 99 = .ok (.aload_n 0, 1) := by decide +kernel
theorem dX9_cheapest_100 : decode cX9_cheapest 100 = .ok (.aload_n 0, 1) := by decide +kernel
theorem dX9_cheapest_101 : decode cX9_cheapest 101 = .ok (.getfield 56, 3) := by decide +kernel
theorem dX9_cheapest_104 : decode cX9_cheapest 104 = .ok (.iload 5, 2) := by decide +kernel
theorem dX9_cheapest_106 : decode cX9_cheapest 106 = .ok (.iaload, 1) := by decide +kernel
theorem dX9_cheapest_107 : decode cX9_cheapest 107 = .ok (.invokevirtual 222, 3) := by decide +kernel
theorem dX9_cheapest_110 : decode cX9_cheapest 110 = .ok (.aload_n 0, 1) := by decide +kernel
theorem dX9_cheapest_111 : decode cX9_cheapest 111 = .ok (.aload_n 0, 1) := by decide +kernel
theorem dX9_cheapest_112 : decode cX9_cheapest 112 = .ok (.getfield 56, 3) := by decide +kernel
theorem dX9_cheapest_115 : decode cX9_cheapest 115 = .ok (.iload 4, 2) := by decide +kernel
theorem dX9_cheapest_117 : decode cX9_cheapest 117 = .ok (.iaload, 1) := by decide +kernel
theorem dX9_cheapest_118 : decode cX9_cheapest 118 = .ok (.invokevirtual 222, 3) := by decide +kernel
theorem dX9_cheapest_121 : decode cX9_cheapest 121 = .ok (.if_icmp .ge 7, 3) := by decide +kernel
theorem dX9_cheapest_124 : decode cX9_cheapest 124 = .ok (.iload 5, 2) := by decide +kernel
theorem dX9_cheapest_126 : decode cX9_cheapest 126 = .ok (.istore 4, 2) := by decide +kernel
theorem dX9_cheapest_128 : decode cX9_cheapest 128 = .ok (.iinc 5 1, 3) := by decide +kernel
theorem dX9_cheapest_131 : decode cX9_cheapest 131 = .ok (.goto (-116), 3) := by decide +kernel
theorem dX9_cheapest_134 : decode cX9_cheapest 134 = .ok (.iload 4, 2) := by decide +kernel
theorem dX9_cheapest_136 : decode cX9_cheapest 136 = .ok (.istore_n 2, 1) := by decide +kernel
theorem dX9_cheapest_137 : decode cX9_cheapest 137 = .ok (.iinc 3 1, 3) := by decide +kernel
theorem dX9_cheapest_140 : decode cX9_cheapest 140 = .ok (.goto (-136), 3) := by decide +kernel
theorem dX9_cheapest_143 : decode cX9_cheapest 143 = .ok (.iload_n 2, 1) := by decide +kernel
theorem dX9_cheapest_144 : decode cX9_cheapest 144 = .ok (.ireturn, 1) := by decide +kernel
def bX9_cheapest_15 (F : Nat) (m : Mem) (y1 : Int32) : (Int32 × Int32) → Option ((Int32 × Int32) ⊕ (Int32 × Int32))
  | (y3, y4) => (if (m.1 43 24) ≤ y4 then some (.inr (y3, y4)) else (if y1 < 0 then (if y3 < 0 then some (.inl (y4, y4 + 1)) else chk (inb y4 1024) ((gX9_costsOf F m (m.1 58 (Int32.toNatClampNeg y4))).bind (fun x6 => chk (inb y3 1024) ((gX9_costsOf F m (m.1 58 (Int32.toNatClampNeg y3))).bind (fun x8 => (if x8 ≤ x6 then some (.inl (y3, y4 + 1)) else some (.inl (y4, y4 + 1)))))))) else chk (inb y4 1024) ((gX9_costsOf F m (m.1 58 (Int32.toNatClampNeg y4))).bind (fun x10 => chk (inb y1 1024) ((gX9_costsOf F m (m.1 58 (Int32.toNatClampNeg y1))).bind (fun x12 => (if x12 < x10 then (if y3 < 0 then some (.inl (y4, y4 + 1)) else chk (inb y4 1024) ((gX9_costsOf F m (m.1 58 (Int32.toNatClampNeg y4))).bind (fun x14 => chk (inb y3 1024) ((gX9_costsOf F m (m.1 58 (Int32.toNatClampNeg y3))).bind (fun x16 => (if x16 ≤ x14 then some (.inl (y3, y4 + 1)) else some (.inl (y4, y4 + 1)))))))) else chk (inb y4 1024) ((gX9_costsOf F m (m.1 58 (Int32.toNatClampNeg y4))).bind (fun x18 => chk (inb y1 1024) ((gX9_costsOf F m (m.1 58 (Int32.toNatClampNeg y1))).bind (fun x20 => (if x18 = x20 then (if y4 ≤ y1 then some (.inl (y3, y4 + 1)) else (if y3 < 0 then some (.inl (y4, y4 + 1)) else chk (inb y4 1024) ((gX9_costsOf F m (m.1 58 (Int32.toNatClampNeg y4))).bind (fun x22 => chk (inb y3 1024) ((gX9_costsOf F m (m.1 58 (Int32.toNatClampNeg y3))).bind (fun x24 => (if x24 ≤ x22 then some (.inl (y3, y4 + 1)) else some (.inl (y4, y4 + 1))))))))) else some (.inl (y3, y4 + 1))))))))))))))
def bX9_cheapest_4 (F : Nat) (m : Mem) (a1 : Int32) : (Int32 × Int32) → Option ((Int32 × Int32) ⊕ (Int32 × Int32))
  | (y1, y2) => (if a1 < y2 then some (.inr (y1, y2)) else (iter F (bX9_cheapest_15 F m y1) ((-1), 0)).bind (fun e25 => some (.inl (e25.1, y2 + 1))))
def gX9_cheapest (F : Nat) (m : Mem) (a1 : Int32) : Option (Int32) := (iter F (bX9_cheapest_4 F m a1) ((-1), 0)).bind (fun e27 => some e27.1)
set_option maxHeartbeats 4000000 in
set_option maxRecDepth 20000 in
theorem LX9_cheapest {n : Nat} {F : Nat} {m : Mem} {a1 : Int32} {r : Int32} (hn64 : 64 ≤ n) (hg : gX9_cheapest F m a1 = some r) : MX yX9_cheapest cX9_cheapest 7 (some .int) { frames := 2, cells := 0, slots := 0, locals := 44 } n [.ref 43, .int a1] m (some (.int r)) m := by
  refine MX_of (by decide) (Nat.le_of_ble_eq_true rfl) (Or.inr (Or.inl ⟨rfl, _, rfl⟩)) (fun K hC hk hL hR => ?_)
  replace hn64 : 64 ≤ kn K := hk.symm ▸ hn64
  show RX K 0 [(0, .ref 43), (1, .int a1)] [] m
  rw [gX9_cheapest] at hg
  refine R_iconst (pc := 0) hC dX9_cheapest_0 ki_m1 ?_
  refine R_istore_n (pc := 1) hC dX9_cheapest_1 rfl hL rfl (show _ = [(2, .int (-1)), (0, .ref 43), (1, .int a1)] from rfl) ?_
  refine R_iconst (pc := 2) hC dX9_cheapest_2 ki_0 ?_
  refine R_istore_n (pc := 3) hC dX9_cheapest_3 rfl hL rfl (show _ = [(3, .int 0), (2, .int (-1)), (0, .ref 43), (1, .int a1)] from rfl) ?_
  refine R_pick [2, 3, 1, 0] (ls' := [(0, .ref 43), (1, .int a1), (2, .int (-1)), (3, .int 0)]) rfl ?_
  obtain ⟨e27, he27, hg⟩ := bind_some hg
  refine iter_walk (P := fun s : (Int32 × Int32) => RX K 4 [(0, .ref 43), (1, .int a1), (2, .int s.1), (3, .int s.2)] [] m) (Qe := fun s : (Int32 × Int32) => RX K 143 [(0, .ref 43), (1, .int a1), (2, .int s.1), (3, .int s.2)] [] m) (fun s28 o hg kL4 kE4 => ?_) _ _ _ he27 ?_
  · obtain ⟨y1, y2⟩ := s28
    rw [bX9_cheapest_4] at hg
    show RX K 4 [(0, .ref 43), (1, .int a1), (2, .int y1), (3, .int y2)] [] m
    refine R_iload_n (pc := 4) hC 3 dX9_cheapest_4 rfl rfl ?_
    refine R_iload_n (pc := 5) hC 1 dX9_cheapest_5 rfl rfl ?_
    refine R_icmp_gt (tgt := 143) (pc := 6) hC dX9_cheapest_6 (by decide) (fun c => ?_) (fun c => ?_)
    · replace hg := (if_pos c).symm.trans hg
      refine R_pick [0, 1, 2, 3] (ls' := [(0, .ref 43), (1, .int a1), (2, .int y1), (3, .int y2)]) rfl ?_
      have h9 := kE4 _ (Option.some.inj hg).symm
      exact h9
    · replace hg := (if_neg c).symm.trans hg
      refine R_iconst (pc := 9) hC dX9_cheapest_9 ki_m1 ?_
      refine R_istore (pc := 10) hC dX9_cheapest_10 hL rfl (show _ = [(4, .int (-1)), (0, .ref 43), (1, .int a1), (2, .int y1), (3, .int y2)] from rfl) ?_
      refine R_iconst (pc := 12) hC dX9_cheapest_12 ki_0 ?_
      refine R_istore (pc := 13) hC dX9_cheapest_13 hL rfl (show _ = [(5, .int 0), (4, .int (-1)), (0, .ref 43), (1, .int a1), (2, .int y1), (3, .int y2)] from rfl) ?_
      refine R_pick [2, 3, 4, 5, 1, 0] (ls' := [(0, .ref 43), (1, .int a1), (2, .int y1), (3, .int y2), (4, .int (-1)), (5, .int 0)]) rfl ?_
      obtain ⟨e25, he25, hg⟩ := bind_some hg
      refine iter_walk (P := fun s : (Int32 × Int32) => RX K 15 [(0, .ref 43), (1, .int a1), (2, .int y1), (3, .int y2), (4, .int s.1), (5, .int s.2)] [] m) (Qe := fun s : (Int32 × Int32) => RX K 134 [(0, .ref 43), (1, .int a1), (2, .int y1), (3, .int y2), (4, .int s.1), (5, .int s.2)] [] m) (fun s26 o hg kL15 kE15 => ?_) _ _ _ he25 ?_
      · obtain ⟨y3, y4⟩ := s26
        rw [bX9_cheapest_15] at hg
        show RX K 15 [(0, .ref 43), (1, .int a1), (2, .int y1), (3, .int y2), (4, .int y3), (5, .int y4)] [] m
        refine R_iload (pc := 15) hC 5 dX9_cheapest_15 rfl ?_
        refine R_aload_n (pc := 17) hC 0 dX9_cheapest_17 rfl rfl ?_
        refine gf_X9_183 (pc := 18) hC hn64 dX9_cheapest_18 ?_
        refine R_icmp_ge (tgt := 134) (pc := 21) hC dX9_cheapest_21 (by decide) (fun c => ?_) (fun c => ?_)
        · replace hg := (if_pos c).symm.trans hg
          refine R_pick [0, 1, 2, 3, 4, 5] (ls' := [(0, .ref 43), (1, .int a1), (2, .int y1), (3, .int y2), (4, .int y3), (5, .int y4)]) rfl ?_
          have h9 := kE15 _ (Option.some.inj hg).symm
          exact h9
        · replace hg := (if_neg c).symm.trans hg
          refine R_iload_n (pc := 24) hC 2 dX9_cheapest_24 rfl rfl ?_
          refine R_if_lt (tgt := 82) (pc := 25) hC dX9_cheapest_25 (by decide) (fun c => ?_) (fun c => ?_)
          · replace hg := (if_pos c).symm.trans hg
            refine R_iconst (pc := 82) hC dX9_cheapest_82 ki_1 ?_
            refine R_goto (tgt := 87) (pc := 83) hC dX9_cheapest_83 (by decide) ?_
            refine R_istore (pc := 87) hC dX9_cheapest_87 hL rfl (show _ = [(6, .int 1), (0, .ref 43), (1, .int a1), (2, .int y1), (3, .int y2), (4, .int y3), (5, .int y4)] from rfl) ?_
            refine R_iload (pc := 89) hC 0 dX9_cheapest_89 rfl ?_
            refine R_if_eq (tgt := 128) (pc := 91) hC dX9_cheapest_91 (by decide) (fun c => absurd c (by decide)) (fun c => ?_)
            refine R_iload (pc := 94) hC 5 dX9_cheapest_94 rfl ?_
            refine R_if_lt (tgt := 124) (pc := 96) hC dX9_cheapest_96 (by decide) (fun c => ?_) (fun c => ?_)
            · replace hg := (if_pos c).symm.trans hg
              refine R_iload (pc := 124) hC 6 dX9_cheapest_124 rfl ?_
              refine R_istore (pc := 126) hC dX9_cheapest_126 hL rfl (show _ = [(4, .int y4), (6, .int 1), (0, .ref 43), (1, .int a1), (2, .int y1), (3, .int y2), (5, .int y4)] from rfl) ?_
              refine R_iinc (pc := 128) hC 6 dX9_cheapest_128 rfl (iv ki_1) hL rfl (show _ = [(5, .int (y4 + 1)), (4, .int y4), (6, .int 1), (0, .ref 43), (1, .int a1), (2, .int y1), (3, .int y2)] from rfl) ?_
              refine R_goto (tgt := 15) (pc := 131) hC dX9_cheapest_131 (by decide) ?_
              refine R_pick [3, 4, 5, 6, 1, 0] (ls' := [(0, .ref 43), (1, .int a1), (2, .int y1), (3, .int y2), (4, .int y4), (5, .int (y4 + 1))]) rfl ?_
              have h9 := kL15 _ (Option.some.inj hg).symm
              exact h9
            · replace hg := (if_neg c).symm.trans hg
              refine R_aload_n (pc := 99) hC 1 dX9_cheapest_99 rfl rfl ?_
              refine R_aload_n (pc := 100) hC 1 dX9_cheapest_100 rfl rfl ?_
              refine gf_X9_56 (pc := 101) hC hn64 dX9_cheapest_101 ?_
              refine R_iload (pc := 104) hC 6 dX9_cheapest_104 rfl ?_
              obtain ⟨c5, hg⟩ := chk_some hg
              refine R_iaload (pc := 106) hC 58 (jx hn64 rfl) ly58 (inb_vp c5) dX9_cheapest_106 ?_
              obtain ⟨x6, hx6, hg⟩ := bind_some hg
              refine R_callV (pc := 107) (av := [.int (m.1 58 (Int32.toNatClampNeg y4))]) (rest := []) hC hR 43 (jx hn64 rfl) ly43 rfl mf_X9_costsOf wm_X9_222 (LX9_costsOf hn64 hx6) rfl rfl rfl (Nat.le_of_ble_eq_true rfl) dX9_cheapest_107 rfl ?_
              show RX K 110 [(6, .int 1), (0, .ref 43), (1, .int a1), (2, .int y1), (3, .int y2), (4, .int y3), (5, .int y4)] [.int x6] m
              refine R_aload_n (pc := 110) hC 1 dX9_cheapest_110 rfl rfl ?_
              refine R_aload_n (pc := 111) hC 1 dX9_cheapest_111 rfl rfl ?_
              refine gf_X9_56 (pc := 112) hC hn64 dX9_cheapest_112 ?_
              refine R_iload (pc := 115) hC 5 dX9_cheapest_115 rfl ?_
              obtain ⟨c7, hg⟩ := chk_some hg
              refine R_iaload (pc := 117) hC 58 (jx hn64 rfl) ly58 (inb_vp c7) dX9_cheapest_117 ?_
              obtain ⟨x8, hx8, hg⟩ := bind_some hg
              refine R_callV (pc := 118) (av := [.int (m.1 58 (Int32.toNatClampNeg y3))]) (rest := [.int x6]) hC hR 43 (jx hn64 rfl) ly43 rfl mf_X9_costsOf wm_X9_222 (LX9_costsOf hn64 hx8) rfl rfl rfl (Nat.le_of_ble_eq_true rfl) dX9_cheapest_118 rfl ?_
              show RX K 121 [(6, .int 1), (0, .ref 43), (1, .int a1), (2, .int y1), (3, .int y2), (4, .int y3), (5, .int y4)] [.int x8, .int x6] m
              refine R_icmp_ge (tgt := 128) (pc := 121) hC dX9_cheapest_121 (by decide) (fun c => ?_) (fun c => ?_)
              · replace hg := (if_pos c).symm.trans hg
                refine R_iinc (pc := 128) hC 6 dX9_cheapest_128 rfl (iv ki_1) hL rfl (show _ = [(5, .int (y4 + 1)), (6, .int 1), (0, .ref 43), (1, .int a1), (2, .int y1), (3, .int y2), (4, .int y3)] from rfl) ?_
                refine R_goto (tgt := 15) (pc := 131) hC dX9_cheapest_131 (by decide) ?_
                refine R_pick [2, 3, 4, 5, 6, 0] (ls' := [(0, .ref 43), (1, .int a1), (2, .int y1), (3, .int y2), (4, .int y3), (5, .int (y4 + 1))]) rfl ?_
                have h9 := kL15 _ (Option.some.inj hg).symm
                exact h9
              · replace hg := (if_neg c).symm.trans hg
                refine R_iload (pc := 124) hC 6 dX9_cheapest_124 rfl ?_
                refine R_istore (pc := 126) hC dX9_cheapest_126 hL rfl (show _ = [(4, .int y4), (6, .int 1), (0, .ref 43), (1, .int a1), (2, .int y1), (3, .int y2), (5, .int y4)] from rfl) ?_
                refine R_iinc (pc := 128) hC 6 dX9_cheapest_128 rfl (iv ki_1) hL rfl (show _ = [(5, .int (y4 + 1)), (4, .int y4), (6, .int 1), (0, .ref 43), (1, .int a1), (2, .int y1), (3, .int y2)] from rfl) ?_
                refine R_goto (tgt := 15) (pc := 131) hC dX9_cheapest_131 (by decide) ?_
                refine R_pick [3, 4, 5, 6, 1, 0] (ls' := [(0, .ref 43), (1, .int a1), (2, .int y1), (3, .int y2), (4, .int y4), (5, .int (y4 + 1))]) rfl ?_
                have h9 := kL15 _ (Option.some.inj hg).symm
                exact h9
          · replace hg := (if_neg c).symm.trans hg
            refine R_aload_n (pc := 28) hC 0 dX9_cheapest_28 rfl rfl ?_
            refine R_aload_n (pc := 29) hC 0 dX9_cheapest_29 rfl rfl ?_
            refine gf_X9_56 (pc := 30) hC hn64 dX9_cheapest_30 ?_
            refine R_iload (pc := 33) hC 5 dX9_cheapest_33 rfl ?_
            obtain ⟨c9, hg⟩ := chk_some hg
            refine R_iaload (pc := 35) hC 58 (jx hn64 rfl) ly58 (inb_vp c9) dX9_cheapest_35 ?_
            obtain ⟨x10, hx10, hg⟩ := bind_some hg
            refine R_callV (pc := 36) (av := [.int (m.1 58 (Int32.toNatClampNeg y4))]) (rest := []) hC hR 43 (jx hn64 rfl) ly43 rfl mf_X9_costsOf wm_X9_222 (LX9_costsOf hn64 hx10) rfl rfl rfl (Nat.le_of_ble_eq_true rfl) dX9_cheapest_36 rfl ?_
            show RX K 39 [(0, .ref 43), (1, .int a1), (2, .int y1), (3, .int y2), (4, .int y3), (5, .int y4)] [.int x10] m
            refine R_aload_n (pc := 39) hC 0 dX9_cheapest_39 rfl rfl ?_
            refine R_aload_n (pc := 40) hC 0 dX9_cheapest_40 rfl rfl ?_
            refine gf_X9_56 (pc := 41) hC hn64 dX9_cheapest_41 ?_
            refine R_iload_n (pc := 44) hC 2 dX9_cheapest_44 rfl rfl ?_
            obtain ⟨c11, hg⟩ := chk_some hg
            refine R_iaload (pc := 45) hC 58 (jx hn64 rfl) ly58 (inb_vp c11) dX9_cheapest_45 ?_
            obtain ⟨x12, hx12, hg⟩ := bind_some hg
            refine R_callV (pc := 46) (av := [.int (m.1 58 (Int32.toNatClampNeg y1))]) (rest := [.int x10]) hC hR 43 (jx hn64 rfl) ly43 rfl mf_X9_costsOf wm_X9_222 (LX9_costsOf hn64 hx12) rfl rfl rfl (Nat.le_of_ble_eq_true rfl) dX9_cheapest_46 rfl ?_
            show RX K 49 [(0, .ref 43), (1, .int a1), (2, .int y1), (3, .int y2), (4, .int y3), (5, .int y4)] [.int x12, .int x10] m
            refine R_icmp_gt (tgt := 82) (pc := 49) hC dX9_cheapest_49 (by decide) (fun c => ?_) (fun c => ?_)
            · replace hg := (if_pos c).symm.trans hg
              refine R_iconst (pc := 82) hC dX9_cheapest_82 ki_1 ?_
              refine R_goto (tgt := 87) (pc := 83) hC dX9_cheapest_83 (by decide) ?_
              refine R_istore (pc := 87) hC dX9_cheapest_87 hL rfl (show _ = [(6, .int 1), (0, .ref 43), (1, .int a1), (2, .int y1), (3, .int y2), (4, .int y3), (5, .int y4)] from rfl) ?_
              refine R_iload (pc := 89) hC 0 dX9_cheapest_89 rfl ?_
              refine R_if_eq (tgt := 128) (pc := 91) hC dX9_cheapest_91 (by decide) (fun c => absurd c (by decide)) (fun c => ?_)
              refine R_iload (pc := 94) hC 5 dX9_cheapest_94 rfl ?_
              refine R_if_lt (tgt := 124) (pc := 96) hC dX9_cheapest_96 (by decide) (fun c => ?_) (fun c => ?_)
              · replace hg := (if_pos c).symm.trans hg
                refine R_iload (pc := 124) hC 6 dX9_cheapest_124 rfl ?_
                refine R_istore (pc := 126) hC dX9_cheapest_126 hL rfl (show _ = [(4, .int y4), (6, .int 1), (0, .ref 43), (1, .int a1), (2, .int y1), (3, .int y2), (5, .int y4)] from rfl) ?_
                refine R_iinc (pc := 128) hC 6 dX9_cheapest_128 rfl (iv ki_1) hL rfl (show _ = [(5, .int (y4 + 1)), (4, .int y4), (6, .int 1), (0, .ref 43), (1, .int a1), (2, .int y1), (3, .int y2)] from rfl) ?_
                refine R_goto (tgt := 15) (pc := 131) hC dX9_cheapest_131 (by decide) ?_
                refine R_pick [3, 4, 5, 6, 1, 0] (ls' := [(0, .ref 43), (1, .int a1), (2, .int y1), (3, .int y2), (4, .int y4), (5, .int (y4 + 1))]) rfl ?_
                have h9 := kL15 _ (Option.some.inj hg).symm
                exact h9
              · replace hg := (if_neg c).symm.trans hg
                refine R_aload_n (pc := 99) hC 1 dX9_cheapest_99 rfl rfl ?_
                refine R_aload_n (pc := 100) hC 1 dX9_cheapest_100 rfl rfl ?_
                refine gf_X9_56 (pc := 101) hC hn64 dX9_cheapest_101 ?_
                refine R_iload (pc := 104) hC 6 dX9_cheapest_104 rfl ?_
                obtain ⟨c13, hg⟩ := chk_some hg
                refine R_iaload (pc := 106) hC 58 (jx hn64 rfl) ly58 (inb_vp c13) dX9_cheapest_106 ?_
                obtain ⟨x14, hx14, hg⟩ := bind_some hg
                refine R_callV (pc := 107) (av := [.int (m.1 58 (Int32.toNatClampNeg y4))]) (rest := []) hC hR 43 (jx hn64 rfl) ly43 rfl mf_X9_costsOf wm_X9_222 (LX9_costsOf hn64 hx14) rfl rfl rfl (Nat.le_of_ble_eq_true rfl) dX9_cheapest_107 rfl ?_
                show RX K 110 [(6, .int 1), (0, .ref 43), (1, .int a1), (2, .int y1), (3, .int y2), (4, .int y3), (5, .int y4)] [.int x14] m
                refine R_aload_n (pc := 110) hC 1 dX9_cheapest_110 rfl rfl ?_
                refine R_aload_n (pc := 111) hC 1 dX9_cheapest_111 rfl rfl ?_
                refine gf_X9_56 (pc := 112) hC hn64 dX9_cheapest_112 ?_
                refine R_iload (pc := 115) hC 5 dX9_cheapest_115 rfl ?_
                obtain ⟨c15, hg⟩ := chk_some hg
                refine R_iaload (pc := 117) hC 58 (jx hn64 rfl) ly58 (inb_vp c15) dX9_cheapest_117 ?_
                obtain ⟨x16, hx16, hg⟩ := bind_some hg
                refine R_callV (pc := 118) (av := [.int (m.1 58 (Int32.toNatClampNeg y3))]) (rest := [.int x14]) hC hR 43 (jx hn64 rfl) ly43 rfl mf_X9_costsOf wm_X9_222 (LX9_costsOf hn64 hx16) rfl rfl rfl (Nat.le_of_ble_eq_true rfl) dX9_cheapest_118 rfl ?_
                show RX K 121 [(6, .int 1), (0, .ref 43), (1, .int a1), (2, .int y1), (3, .int y2), (4, .int y3), (5, .int y4)] [.int x16, .int x14] m
                refine R_icmp_ge (tgt := 128) (pc := 121) hC dX9_cheapest_121 (by decide) (fun c => ?_) (fun c => ?_)
                · replace hg := (if_pos c).symm.trans hg
                  refine R_iinc (pc := 128) hC 6 dX9_cheapest_128 rfl (iv ki_1) hL rfl (show _ = [(5, .int (y4 + 1)), (6, .int 1), (0, .ref 43), (1, .int a1), (2, .int y1), (3, .int y2), (4, .int y3)] from rfl) ?_
                  refine R_goto (tgt := 15) (pc := 131) hC dX9_cheapest_131 (by decide) ?_
                  refine R_pick [2, 3, 4, 5, 6, 0] (ls' := [(0, .ref 43), (1, .int a1), (2, .int y1), (3, .int y2), (4, .int y3), (5, .int (y4 + 1))]) rfl ?_
                  have h9 := kL15 _ (Option.some.inj hg).symm
                  exact h9
                · replace hg := (if_neg c).symm.trans hg
                  refine R_iload (pc := 124) hC 6 dX9_cheapest_124 rfl ?_
                  refine R_istore (pc := 126) hC dX9_cheapest_126 hL rfl (show _ = [(4, .int y4), (6, .int 1), (0, .ref 43), (1, .int a1), (2, .int y1), (3, .int y2), (5, .int y4)] from rfl) ?_
                  refine R_iinc (pc := 128) hC 6 dX9_cheapest_128 rfl (iv ki_1) hL rfl (show _ = [(5, .int (y4 + 1)), (4, .int y4), (6, .int 1), (0, .ref 43), (1, .int a1), (2, .int y1), (3, .int y2)] from rfl) ?_
                  refine R_goto (tgt := 15) (pc := 131) hC dX9_cheapest_131 (by decide) ?_
                  refine R_pick [3, 4, 5, 6, 1, 0] (ls' := [(0, .ref 43), (1, .int a1), (2, .int y1), (3, .int y2), (4, .int y4), (5, .int (y4 + 1))]) rfl ?_
                  have h9 := kL15 _ (Option.some.inj hg).symm
                  exact h9
            · replace hg := (if_neg c).symm.trans hg
              refine R_aload_n (pc := 52) hC 0 dX9_cheapest_52 rfl rfl ?_
              refine R_aload_n (pc := 53) hC 0 dX9_cheapest_53 rfl rfl ?_
              refine gf_X9_56 (pc := 54) hC hn64 dX9_cheapest_54 ?_
              refine R_iload (pc := 57) hC 5 dX9_cheapest_57 rfl ?_
              obtain ⟨c17, hg⟩ := chk_some hg
              refine R_iaload (pc := 59) hC 58 (jx hn64 rfl) ly58 (inb_vp c17) dX9_cheapest_59 ?_
              obtain ⟨x18, hx18, hg⟩ := bind_some hg
              refine R_callV (pc := 60) (av := [.int (m.1 58 (Int32.toNatClampNeg y4))]) (rest := []) hC hR 43 (jx hn64 rfl) ly43 rfl mf_X9_costsOf wm_X9_222 (LX9_costsOf hn64 hx18) rfl rfl rfl (Nat.le_of_ble_eq_true rfl) dX9_cheapest_60 rfl ?_
              show RX K 63 [(0, .ref 43), (1, .int a1), (2, .int y1), (3, .int y2), (4, .int y3), (5, .int y4)] [.int x18] m
              refine R_aload_n (pc := 63) hC 0 dX9_cheapest_63 rfl rfl ?_
              refine R_aload_n (pc := 64) hC 0 dX9_cheapest_64 rfl rfl ?_
              refine gf_X9_56 (pc := 65) hC hn64 dX9_cheapest_65 ?_
              refine R_iload_n (pc := 68) hC 2 dX9_cheapest_68 rfl rfl ?_
              obtain ⟨c19, hg⟩ := chk_some hg
              refine R_iaload (pc := 69) hC 58 (jx hn64 rfl) ly58 (inb_vp c19) dX9_cheapest_69 ?_
              obtain ⟨x20, hx20, hg⟩ := bind_some hg
              refine R_callV (pc := 70) (av := [.int (m.1 58 (Int32.toNatClampNeg y1))]) (rest := [.int x18]) hC hR 43 (jx hn64 rfl) ly43 rfl mf_X9_costsOf wm_X9_222 (LX9_costsOf hn64 hx20) rfl rfl rfl (Nat.le_of_ble_eq_true rfl) dX9_cheapest_70 rfl ?_
              show RX K 73 [(0, .ref 43), (1, .int a1), (2, .int y1), (3, .int y2), (4, .int y3), (5, .int y4)] [.int x20, .int x18] m
              refine R_icmp_ne (tgt := 86) (pc := 73) hC dX9_cheapest_73 (by decide) (fun c => ?_) (fun c => ?_)
              · replace hg := (if_neg c).symm.trans hg
                refine R_iconst (pc := 86) hC dX9_cheapest_86 ki_0 ?_
                refine R_istore (pc := 87) hC dX9_cheapest_87 hL rfl (show _ = [(6, .int 0), (0, .ref 43), (1, .int a1), (2, .int y1), (3, .int y2), (4, .int y3), (5, .int y4)] from rfl) ?_
                refine R_iload (pc := 89) hC 0 dX9_cheapest_89 rfl ?_
                refine R_if_eq (tgt := 128) (pc := 91) hC dX9_cheapest_91 (by decide) (fun c => ?_) (fun c => absurd c (by decide))
                refine R_iinc (pc := 128) hC 6 dX9_cheapest_128 rfl (iv ki_1) hL rfl (show _ = [(5, .int (y4 + 1)), (6, .int 0), (0, .ref 43), (1, .int a1), (2, .int y1), (3, .int y2), (4, .int y3)] from rfl) ?_
                refine R_goto (tgt := 15) (pc := 131) hC dX9_cheapest_131 (by decide) ?_
                refine R_pick [2, 3, 4, 5, 6, 0] (ls' := [(0, .ref 43), (1, .int a1), (2, .int y1), (3, .int y2), (4, .int y3), (5, .int (y4 + 1))]) rfl ?_
                have h9 := kL15 _ (Option.some.inj hg).symm
                exact h9
              · replace hg := (if_pos c).symm.trans hg
                refine R_iload (pc := 76) hC 5 dX9_cheapest_76 rfl ?_
                refine R_iload_n (pc := 78) hC 2 dX9_cheapest_78 rfl rfl ?_
                refine R_icmp_le (tgt := 86) (pc := 79) hC dX9_cheapest_79 (by decide) (fun c => ?_) (fun c => ?_)
                · replace hg := (if_pos c).symm.trans hg
                  refine R_iconst (pc := 86) hC dX9_cheapest_86 ki_0 ?_
                  refine R_istore (pc := 87) hC dX9_cheapest_87 hL rfl (show _ = [(6, .int 0), (0, .ref 43), (1, .int a1), (2, .int y1), (3, .int y2), (4, .int y3), (5, .int y4)] from rfl) ?_
                  refine R_iload (pc := 89) hC 0 dX9_cheapest_89 rfl ?_
                  refine R_if_eq (tgt := 128) (pc := 91) hC dX9_cheapest_91 (by decide) (fun c => ?_) (fun c => absurd c (by decide))
                  refine R_iinc (pc := 128) hC 6 dX9_cheapest_128 rfl (iv ki_1) hL rfl (show _ = [(5, .int (y4 + 1)), (6, .int 0), (0, .ref 43), (1, .int a1), (2, .int y1), (3, .int y2), (4, .int y3)] from rfl) ?_
                  refine R_goto (tgt := 15) (pc := 131) hC dX9_cheapest_131 (by decide) ?_
                  refine R_pick [2, 3, 4, 5, 6, 0] (ls' := [(0, .ref 43), (1, .int a1), (2, .int y1), (3, .int y2), (4, .int y3), (5, .int (y4 + 1))]) rfl ?_
                  have h9 := kL15 _ (Option.some.inj hg).symm
                  exact h9
                · replace hg := (if_neg c).symm.trans hg
                  refine R_iconst (pc := 82) hC dX9_cheapest_82 ki_1 ?_
                  refine R_goto (tgt := 87) (pc := 83) hC dX9_cheapest_83 (by decide) ?_
                  refine R_istore (pc := 87) hC dX9_cheapest_87 hL rfl (show _ = [(6, .int 1), (0, .ref 43), (1, .int a1), (2, .int y1), (3, .int y2), (4, .int y3), (5, .int y4)] from rfl) ?_
                  refine R_iload (pc := 89) hC 0 dX9_cheapest_89 rfl ?_
                  refine R_if_eq (tgt := 128) (pc := 91) hC dX9_cheapest_91 (by decide) (fun c => absurd c (by decide)) (fun c => ?_)
                  refine R_iload (pc := 94) hC 5 dX9_cheapest_94 rfl ?_
                  refine R_if_lt (tgt := 124) (pc := 96) hC dX9_cheapest_96 (by decide) (fun c => ?_) (fun c => ?_)
                  · replace hg := (if_pos c).symm.trans hg
                    refine R_iload (pc := 124) hC 6 dX9_cheapest_124 rfl ?_
                    refine R_istore (pc := 126) hC dX9_cheapest_126 hL rfl (show _ = [(4, .int y4), (6, .int 1), (0, .ref 43), (1, .int a1), (2, .int y1), (3, .int y2), (5, .int y4)] from rfl) ?_
                    refine R_iinc (pc := 128) hC 6 dX9_cheapest_128 rfl (iv ki_1) hL rfl (show _ = [(5, .int (y4 + 1)), (4, .int y4), (6, .int 1), (0, .ref 43), (1, .int a1), (2, .int y1), (3, .int y2)] from rfl) ?_
                    refine R_goto (tgt := 15) (pc := 131) hC dX9_cheapest_131 (by decide) ?_
                    refine R_pick [3, 4, 5, 6, 1, 0] (ls' := [(0, .ref 43), (1, .int a1), (2, .int y1), (3, .int y2), (4, .int y4), (5, .int (y4 + 1))]) rfl ?_
                    have h9 := kL15 _ (Option.some.inj hg).symm
                    exact h9
                  · replace hg := (if_neg c).symm.trans hg
                    refine R_aload_n (pc := 99) hC 1 dX9_cheapest_99 rfl rfl ?_
                    refine R_aload_n (pc := 100) hC 1 dX9_cheapest_100 rfl rfl ?_
                    refine gf_X9_56 (pc := 101) hC hn64 dX9_cheapest_101 ?_
                    refine R_iload (pc := 104) hC 6 dX9_cheapest_104 rfl ?_
                    obtain ⟨c21, hg⟩ := chk_some hg
                    refine R_iaload (pc := 106) hC 58 (jx hn64 rfl) ly58 (inb_vp c21) dX9_cheapest_106 ?_
                    obtain ⟨x22, hx22, hg⟩ := bind_some hg
                    refine R_callV (pc := 107) (av := [.int (m.1 58 (Int32.toNatClampNeg y4))]) (rest := []) hC hR 43 (jx hn64 rfl) ly43 rfl mf_X9_costsOf wm_X9_222 (LX9_costsOf hn64 hx22) rfl rfl rfl (Nat.le_of_ble_eq_true rfl) dX9_cheapest_107 rfl ?_
                    show RX K 110 [(6, .int 1), (0, .ref 43), (1, .int a1), (2, .int y1), (3, .int y2), (4, .int y3), (5, .int y4)] [.int x22] m
                    refine R_aload_n (pc := 110) hC 1 dX9_cheapest_110 rfl rfl ?_
                    refine R_aload_n (pc := 111) hC 1 dX9_cheapest_111 rfl rfl ?_
                    refine gf_X9_56 (pc := 112) hC hn64 dX9_cheapest_112 ?_
                    refine R_iload (pc := 115) hC 5 dX9_cheapest_115 rfl ?_
                    obtain ⟨c23, hg⟩ := chk_some hg
                    refine R_iaload (pc := 117) hC 58 (jx hn64 rfl) ly58 (inb_vp c23) dX9_cheapest_117 ?_
                    obtain ⟨x24, hx24, hg⟩ := bind_some hg
                    refine R_callV (pc := 118) (av := [.int (m.1 58 (Int32.toNatClampNeg y3))]) (rest := [.int x22]) hC hR 43 (jx hn64 rfl) ly43 rfl mf_X9_costsOf wm_X9_222 (LX9_costsOf hn64 hx24) rfl rfl rfl (Nat.le_of_ble_eq_true rfl) dX9_cheapest_118 rfl ?_
                    show RX K 121 [(6, .int 1), (0, .ref 43), (1, .int a1), (2, .int y1), (3, .int y2), (4, .int y3), (5, .int y4)] [.int x24, .int x22] m
                    refine R_icmp_ge (tgt := 128) (pc := 121) hC dX9_cheapest_121 (by decide) (fun c => ?_) (fun c => ?_)
                    · replace hg := (if_pos c).symm.trans hg
                      refine R_iinc (pc := 128) hC 6 dX9_cheapest_128 rfl (iv ki_1) hL rfl (show _ = [(5, .int (y4 + 1)), (6, .int 1), (0, .ref 43), (1, .int a1), (2, .int y1), (3, .int y2), (4, .int y3)] from rfl) ?_
                      refine R_goto (tgt := 15) (pc := 131) hC dX9_cheapest_131 (by decide) ?_
                      refine R_pick [2, 3, 4, 5, 6, 0] (ls' := [(0, .ref 43), (1, .int a1), (2, .int y1), (3, .int y2), (4, .int y3), (5, .int (y4 + 1))]) rfl ?_
                      have h9 := kL15 _ (Option.some.inj hg).symm
                      exact h9
                    · replace hg := (if_neg c).symm.trans hg
                      refine R_iload (pc := 124) hC 6 dX9_cheapest_124 rfl ?_
                      refine R_istore (pc := 126) hC dX9_cheapest_126 hL rfl (show _ = [(4, .int y4), (6, .int 1), (0, .ref 43), (1, .int a1), (2, .int y1), (3, .int y2), (5, .int y4)] from rfl) ?_
                      refine R_iinc (pc := 128) hC 6 dX9_cheapest_128 rfl (iv ki_1) hL rfl (show _ = [(5, .int (y4 + 1)), (4, .int y4), (6, .int 1), (0, .ref 43), (1, .int a1), (2, .int y1), (3, .int y2)] from rfl) ?_
                      refine R_goto (tgt := 15) (pc := 131) hC dX9_cheapest_131 (by decide) ?_
                      refine R_pick [3, 4, 5, 6, 1, 0] (ls' := [(0, .ref 43), (1, .int a1), (2, .int y1), (3, .int y2), (4, .int y4), (5, .int (y4 + 1))]) rfl ?_
                      have h9 := kL15 _ (Option.some.inj hg).symm
                      exact h9
      · show RX K 134 [(0, .ref 43), (1, .int a1), (2, .int y1), (3, .int y2), (4, .int e25.1), (5, .int e25.2)] [] m
        refine R_iload (pc := 134) hC 4 dX9_cheapest_134 rfl ?_
        refine R_istore_n (pc := 136) hC dX9_cheapest_136 rfl hL rfl (show _ = [(2, .int e25.1), (0, .ref 43), (1, .int a1), (3, .int y2), (4, .int e25.1), (5, .int e25.2)] from rfl) ?_
        refine R_iinc (pc := 137) hC 3 dX9_cheapest_137 rfl (iv ki_1) hL rfl (show _ = [(3, .int (y2 + 1)), (2, .int e25.1), (0, .ref 43), (1, .int a1), (4, .int e25.1), (5, .int e25.2)] from rfl) ?_
        refine R_goto (tgt := 4) (pc := 140) hC dX9_cheapest_140 (by decide) ?_
        refine R_pick [2, 3, 1, 0] (ls' := [(0, .ref 43), (1, .int a1), (2, .int e25.1), (3, .int (y2 + 1))]) rfl ?_
        have h9 := kL4 _ (Option.some.inj hg).symm
        exact h9
  · show RX K 143 [(0, .ref 43), (1, .int a1), (2, .int e27.1), (3, .int e27.2)] [] m
    refine R_iload_n (pc := 143) hC 2 dX9_cheapest_143 rfl rfl ?_
    have h9 := gxI (m := m) hg
    exact R_ireturn (pc := 144) hC dX9_cheapest_144 h9
theorem dX9_cheap_0 : decode cX9_cheap 0 = .ok (.iload_n 2, 1) := by decide +kernel
theorem dX9_cheap_1 : decode cX9_cheap 1 = .ok (.iconst 0, 1) := by decide +kernel
theorem dX9_cheap_2 : decode cX9_cheap 2 = .ok (.iconst 1, 1) := by decide +kernel
theorem dX9_cheap_3 : decode cX9_cheap 3 = .ok (.invokestatic 98, 3) := by decide +kernel
theorem dX9_cheap_6 : decode cX9_cheap 6 = .ok (.ifCond .ne 10, 3) := by decide +kernel
theorem dX9_cheap_9 : decode cX9_cheap 9 = .ok (.aload_n 0, 1) := by decide +kernel
theorem dX9_cheap_10 : decode cX9_cheap 10 = .ok (.bipush (-2), 2) := by decide +kernel
theorem dX9_cheap_12 : decode cX9_cheap 12 = .ok (.invokevirtual 87, 3) := by decide +kernel
theorem dX9_cheap_15 : decode cX9_cheap 15 = .ok (.ireturn, 1) := by decide +kernel
theorem dX9_cheap_16 : decode cX9_cheap 16 = .ok (.iload_n 1, 1) := by decide +kernel
theorem dX9_cheap_17 : decode cX9_cheap 17 = .ok (.ifCond .ge 10, 3) := by decide +kernel
theorem dX9_cheap_20 : decode cX9_cheap 20 = .ok (.aload_n 0, 1) := by decide +kernel
theorem dX9_cheap_21 : decode cX9_cheap 21 = .ok (.bipush (-4), 2) := by decide +kernel
theorem dX9_cheap_23 : decode cX9_cheap 23 = .ok (.invokevirtual 87, 3) := by decide +kernel
theorem dX9_cheap_26 : decode cX9_cheap 26 = .ok (.ireturn, 1) := by decide +kernel
theorem dX9_cheap_27 : decode cX9_cheap 27 = .ok (.aload_n 0, 1) := by decide +kernel
theorem dX9_cheap_28 : decode cX9_cheap 28 = .ok (.invokevirtual 193, 3) := by decide +kernel
theorem dX9_cheap_31 : decode cX9_cheap 31 = .ok (.iload_n 1, 1) := by decide +kernel
theorem dX9_cheap_32 : decode cX9_cheap 32 = .ok (.aload_n 0, 1) := by decide +kernel
theorem dX9_cheap_33 : decode cX9_cheap 33 = .ok (.getfield 183, 3) := by decide +kernel
theorem dX9_cheap_36 : decode cX9_cheap 36 = .ok (.if_icmp .lt 6, 3) := by decide +kernel
theorem dX9_cheap_39 : decode cX9_cheap 39 = .ok (.bipush (-9), 2) := by decide +kernel
theorem dX9_cheap_41 : decode cX9_cheap 41 = .ok (.ireturn, 1) := by decide +kernel
theorem dX9_cheap_42 : decode cX9_cheap 42 = .ok (.aload_n 0, 1) := by decide +kernel
theorem dX9_cheap_43 : decode cX9_cheap 43 = .ok (.getfield 56, 3) := by decide +kernel
theorem dX9_cheap_46 : decode cX9_cheap 46 = .ok (.aload_n 0, 1) := by decide +kernel
theorem dX9_cheap_47 : decode cX9_cheap 47 = .ok (.iload_n 1, 1) := by decide +kernel
theorem dX9_cheap_48 : decode cX9_cheap 48 = .ok (.invokevirtual 225, 3) := by decide +kernel
theorem dX9_cheap_51 : decode cX9_cheap 51 = .ok (.iaload, 1) := by decide +kernel
theorem dX9_cheap_52 : decode cX9_cheap 52 = .ok (.istore_n 3, 1) := by decide +kernel
theorem dX9_cheap_53 : decode cX9_cheap 53 = .ok (.iload_n 2, 1) := by decide +kernel
theorem dX9_cheap_54 : decode cX9_cheap 54 = .ok (.ifCond .ne 7, 3) := by decide +kernel
theorem dX9_cheap_57 : decode cX9_cheap 57 = .ok (.iload_n 3, 1) := by decide +kernel
theorem dX9_cheap_58 : decode cX9_cheap 58 = .ok (.goto 8, 3) := by decide +kernel
theorem dX9_cheap_61 : decode cX9_cheap 61 = .ok (.aload_n 0, 1) := by decide +kernel
theorem dX9_cheap_62 : decode cX9_cheap 62 = .ok (.iload_n 3, 1) := by decide +kernel
theorem dX9_cheap_63 : decode cX9_cheap 63 = .ok (.invokevirtual 222, 3) := by decide +kernel
theorem dX9_cheap_66 : decode cX9_cheap 66 = .ok (.ireturn, 1) := by decide +kernel
def gX9_cheap (F : Nat) (m : Mem) (a1 : Int32) (a2 : Int32) : Option (Int32 × Mem) := (gX9_isIn a2 0 1).bind (fun x1 => (if x1 = true then (if 0 ≤ a1 then (gX9_findWays F m).bind (fun q2 => (if a1 < (q2.1 43 24) then (gX9_cheapest F q2 a1).bind (fun x3 => chk (inb x3 1024) (lete (q2.1 58 (Int32.toNatClampNeg x3)) (fun x5 => (if a2 = 0 then some (x5, q2) else (gX9_costsOf F q2 x5).bind (fun x6 => some (x6, q2)))))) else some ((-9), q2))) else (gX9_no m (-4)).bind (fun q7 => some (q7.1, q7.2))) else (gX9_no m (-2)).bind (fun q8 => some (q8.1, q8.2))))
set_option maxHeartbeats 4000000 in
set_option maxRecDepth 20000 in
theorem LX9_cheap {n : Nat} {F : Nat} {m : Mem} {a1 : Int32} {a2 : Int32} {r : Int32 × Mem} (hn64 : 64 ≤ n) (hg : gX9_cheap F m a1 a2 = some r) : MX yX9_cheap cX9_cheap 4 (some .int) { frames := 4, cells := 0, slots := 0, locals := 90 } n [.ref 43, .int a1, .int a2] m (some (.int r.1)) r.2 := by
  refine MX_of (by decide) (Nat.le_of_ble_eq_true rfl) (Or.inr (Or.inl ⟨rfl, _, rfl⟩)) (fun K hC hk hL hR => ?_)
  replace hn64 : 64 ≤ kn K := hk.symm ▸ hn64
  show RX K 0 [(0, .ref 43), (1, .int a1), (2, .int a2)] [] m
  rw [gX9_cheap] at hg
  refine R_iload_n (pc := 0) hC 2 dX9_cheap_0 rfl rfl ?_
  refine R_iconst (pc := 1) hC dX9_cheap_1 ki_0 ?_
  refine R_iconst (pc := 2) hC dX9_cheap_2 ki_1 ?_
  obtain ⟨x1, hx1, hg⟩ := bind_some hg
  refine R_callS (pc := 3) (av := [.int a2, .int 0, .int 1]) (rest := []) hC hR mf_X9_isIn wm_X9_98 (LX9_isIn hn64 hx1) rfl rfl rfl (Nat.le_of_ble_eq_true rfl) dX9_cheap_3 rfl ?_
  show RX K 6 [(0, .ref 43), (1, .int a1), (2, .int a2)] [.int (b2i x1)] m
  refine R_ifB_ne (tgt := 16) (pc := 6) hC dX9_cheap_6 (by decide) (fun c => ?_) (fun c => ?_)
  · replace hg := (if_pos c).symm.trans hg
    refine R_iload_n (pc := 16) hC 1 dX9_cheap_16 rfl rfl ?_
    refine R_if_ge (tgt := 27) (pc := 17) hC dX9_cheap_17 (by decide) (fun c => ?_) (fun c => ?_)
    · replace hg := (if_pos c).symm.trans hg
      refine R_aload_n (pc := 27) hC 0 dX9_cheap_27 rfl rfl ?_
      obtain ⟨q2, hq2, hg⟩ := bind_some hg
      refine R_callV (pc := 28) (av := []) (rest := []) hC hR 43 (jx hn64 rfl) ly43 rfl mf_X9_findWays wm_X9_193 (LX9_findWays hn64 hq2) rfl rfl rfl (Nat.le_of_ble_eq_true rfl) dX9_cheap_28 rfl ?_
      show RX K 31 [(0, .ref 43), (1, .int a1), (2, .int a2)] [] q2
      refine R_iload_n (pc := 31) hC 1 dX9_cheap_31 rfl rfl ?_
      refine R_aload_n (pc := 32) hC 0 dX9_cheap_32 rfl rfl ?_
      refine gf_X9_183 (pc := 33) hC hn64 dX9_cheap_33 ?_
      refine R_icmp_lt (tgt := 42) (pc := 36) hC dX9_cheap_36 (by decide) (fun c => ?_) (fun c => ?_)
      · replace hg := (if_pos c).symm.trans hg
        refine R_aload_n (pc := 42) hC 0 dX9_cheap_42 rfl rfl ?_
        refine gf_X9_56 (pc := 43) hC hn64 dX9_cheap_43 ?_
        refine R_aload_n (pc := 46) hC 0 dX9_cheap_46 rfl rfl ?_
        refine R_iload_n (pc := 47) hC 1 dX9_cheap_47 rfl rfl ?_
        obtain ⟨x3, hx3, hg⟩ := bind_some hg
        refine R_callV (pc := 48) (av := [.int a1]) (rest := [.ref 58]) hC hR 43 (jx hn64 rfl) ly43 rfl mf_X9_cheapest wm_X9_225 (LX9_cheapest hn64 hx3) rfl rfl rfl (Nat.le_of_ble_eq_true rfl) dX9_cheap_48 rfl ?_
        show RX K 51 [(0, .ref 43), (1, .int a1), (2, .int a2)] [.int x3, .ref 58] q2
        obtain ⟨c4, hg⟩ := chk_some hg
        refine R_iaload (pc := 51) hC 58 (jx hn64 rfl) ly58 (inb_vp c4) dX9_cheap_51 ?_
        obtain ⟨x5, hx5, hg⟩ := lete_some hg
        refine R_top hx5 ?_
        refine R_istore_n (pc := 52) hC dX9_cheap_52 rfl hL rfl (show _ = [(3, .int x5), (0, .ref 43), (1, .int a1), (2, .int a2)] from rfl) ?_
        refine R_iload_n (pc := 53) hC 3 dX9_cheap_53 rfl rfl ?_
        refine R_if_ne (tgt := 61) (pc := 54) hC dX9_cheap_54 (by decide) (fun c => ?_) (fun c => ?_)
        · replace hg := (if_neg c).symm.trans hg
          refine R_aload_n (pc := 61) hC 1 dX9_cheap_61 rfl rfl ?_
          refine R_iload_n (pc := 62) hC 0 dX9_cheap_62 rfl rfl ?_
          obtain ⟨x6, hx6, hg⟩ := bind_some hg
          refine R_callV (pc := 63) (av := [.int x5]) (rest := []) hC hR 43 (jx hn64 rfl) ly43 rfl mf_X9_costsOf wm_X9_222 (LX9_costsOf hn64 hx6) rfl rfl rfl (Nat.le_of_ble_eq_true rfl) dX9_cheap_63 rfl ?_
          show RX K 66 [(3, .int x5), (0, .ref 43), (1, .int a1), (2, .int a2)] [.int x6] q2
          have h9 := gxIM hg
          exact R_ireturn (pc := 66) hC dX9_cheap_66 h9
        · replace hg := (if_pos c).symm.trans hg
          refine R_iload_n (pc := 57) hC 0 dX9_cheap_57 rfl rfl ?_
          refine R_goto (tgt := 66) (pc := 58) hC dX9_cheap_58 (by decide) ?_
          have h9 := gxIM hg
          exact R_ireturn (pc := 66) hC dX9_cheap_66 h9
      · replace hg := (if_neg c).symm.trans hg
        refine R_bipush (pc := 39) hC dX9_cheap_39 kb_m9 ?_
        have h9 := gxIM hg
        exact R_ireturn (pc := 41) hC dX9_cheap_41 h9
    · replace hg := (if_neg c).symm.trans hg
      refine R_aload_n (pc := 20) hC 0 dX9_cheap_20 rfl rfl ?_
      refine R_bipush (pc := 21) hC dX9_cheap_21 kb_m4 ?_
      obtain ⟨q7, hq7, hg⟩ := bind_some hg
      refine R_callV (pc := 23) (av := [.int (-4)]) (rest := []) hC hR 43 (jx hn64 rfl) ly43 rfl mf_X9_no wm_X9_87 (LX9_no hn64 hq7) rfl rfl rfl (Nat.le_of_ble_eq_true rfl) dX9_cheap_23 rfl ?_
      show RX K 26 [(0, .ref 43), (1, .int a1), (2, .int a2)] [.int q7.1] q7.2
      have h9 := gxIM hg
      exact R_ireturn (pc := 26) hC dX9_cheap_26 h9
  · replace hg := (if_neg c).symm.trans hg
    refine R_aload_n (pc := 9) hC 0 dX9_cheap_9 rfl rfl ?_
    refine R_bipush (pc := 10) hC dX9_cheap_10 kb_m2 ?_
    obtain ⟨q8, hq8, hg⟩ := bind_some hg
    refine R_callV (pc := 12) (av := [.int (-2)]) (rest := []) hC hR 43 (jx hn64 rfl) ly43 rfl mf_X9_no wm_X9_87 (LX9_no hn64 hq8) rfl rfl rfl (Nat.le_of_ble_eq_true rfl) dX9_cheap_12 rfl ?_
    show RX K 15 [(0, .ref 43), (1, .int a1), (2, .int a2)] [.int q8.1] q8.2
    have h9 := gxIM hg
    exact R_ireturn (pc := 15) hC dX9_cheap_15 h9
theorem dX9_nights_0 : decode cX9_nights 0 = .ok (.aload_n 0, 1) := by decide +kernel
theorem dX9_nights_1 : decode cX9_nights 1 = .ok (.iload_n 1, 1) := by decide +kernel
theorem dX9_nights_2 : decode cX9_nights 2 = .ok (.invokevirtual 186, 3) := by decide +kernel
theorem dX9_nights_5 : decode cX9_nights 5 = .ok (.ifCond .eq 22, 3) := by decide +kernel
theorem dX9_nights_8 : decode cX9_nights 8 = .ok (.aload_n 0, 1) := by decide +kernel
theorem dX9_nights_9 : decode cX9_nights 9 = .ok (.iload_n 2, 1) := by decide +kernel
theorem dX9_nights_10 : decode cX9_nights 10 = .ok (.invokevirtual 186, 3) := by decide +kernel
theorem dX9_nights_13 : decode cX9_nights 13 = .ok (.ifCond .eq 14, 3) := by decide +kernel
theorem dX9_nights_16 : decode cX9_nights 16 = .ok (.iload_n 1, 1) := by decide +kernel
theorem dX9_nights_17 : decode cX9_nights 17 = .ok (.iload_n 2, 1) := by decide +kernel
theorem dX9_nights_18 : decode cX9_nights 18 = .ok (.iconst (-1), 1) := by decide +kernel
theorem dX9_nights_19 : decode cX9_nights 19 = .ok (.ixor, 1) := by decide +kernel
theorem dX9_nights_20 : decode cX9_nights 20 = .ok (.iand, 1) := by decide +kernel
theorem dX9_nights_21 : decode cX9_nights 21 = .ok (.invokestatic 165, 3) := by decide +kernel
theorem dX9_nights_24 : decode cX9_nights 24 = .ok (.goto 9, 3) := by decide +kernel
theorem dX9_nights_27 : decode cX9_nights 27 = .ok (.aload_n 0, 1) := by decide +kernel
theorem dX9_nights_28 : decode cX9_nights 28 = .ok (.bipush (-3), 2) := by decide +kernel
theorem dX9_nights_30 : decode cX9_nights 30 = .ok (.invokevirtual 87, 3) := by decide +kernel
theorem dX9_nights_33 : decode cX9_nights 33 = .ok (.ireturn, 1) := by decide +kernel
def gX9_nights (F : Nat) (m : Mem) (a1 : Int32) (a2 : Int32) : Option (Int32 × Mem) := (gX9_isWay F m a1).bind (fun q1 => (if q1.1 = true then (gX9_isWay F q1.2 a2).bind (fun q3 => (if q3.1 = true then (gX9_bits F (a1 &&& (a2 ^^^ (-1)))).bind (fun x5 => some (x5, q3.2)) else (gX9_no q3.2 (-3)).bind (fun q4 => some (q4.1, q4.2)))) else (gX9_no q1.2 (-3)).bind (fun q2 => some (q2.1, q2.2))))
set_option maxHeartbeats 4000000 in
set_option maxRecDepth 20000 in
theorem LX9_nights {n : Nat} {F : Nat} {m : Mem} {a1 : Int32} {a2 : Int32} {r : Int32 × Mem} (hn64 : 64 ≤ n) (hg : gX9_nights F m a1 a2 = some r) : MX yX9_nights cX9_nights 3 (some .int) { frames := 3, cells := 0, slots := 0, locals := 69 } n [.ref 43, .int a1, .int a2] m (some (.int r.1)) r.2 := by
  refine MX_of (by decide) (Nat.le_of_ble_eq_true rfl) (Or.inr (Or.inl ⟨rfl, _, rfl⟩)) (fun K hC hk hL hR => ?_)
  replace hn64 : 64 ≤ kn K := hk.symm ▸ hn64
  show RX K 0 [(0, .ref 43), (1, .int a1), (2, .int a2)] [] m
  rw [gX9_nights] at hg
  refine R_aload_n (pc := 0) hC 0 dX9_nights_0 rfl rfl ?_
  refine R_iload_n (pc := 1) hC 1 dX9_nights_1 rfl rfl ?_
  obtain ⟨q1, hq1, hg⟩ := bind_some hg
  refine R_callV (pc := 2) (av := [.int a1]) (rest := []) hC hR 43 (jx hn64 rfl) ly43 rfl mf_X9_isWay wm_X9_186 (LX9_isWay hn64 hq1) rfl rfl rfl (Nat.le_of_ble_eq_true rfl) dX9_nights_2 rfl ?_
  show RX K 5 [(0, .ref 43), (1, .int a1), (2, .int a2)] [.int (b2i q1.1)] q1.2
  refine R_ifB_eq (tgt := 27) (pc := 5) hC dX9_nights_5 (by decide) (fun c => ?_) (fun c => ?_)
  · replace hg := (if_neg c).symm.trans hg
    refine R_aload_n (pc := 27) hC 0 dX9_nights_27 rfl rfl ?_
    refine R_bipush (pc := 28) hC dX9_nights_28 kb_m3 ?_
    obtain ⟨q2, hq2, hg⟩ := bind_some hg
    refine R_callV (pc := 30) (av := [.int (-3)]) (rest := []) hC hR 43 (jx hn64 rfl) ly43 rfl mf_X9_no wm_X9_87 (LX9_no hn64 hq2) rfl rfl rfl (Nat.le_of_ble_eq_true rfl) dX9_nights_30 rfl ?_
    show RX K 33 [(0, .ref 43), (1, .int a1), (2, .int a2)] [.int q2.1] q2.2
    have h9 := gxIM hg
    exact R_ireturn (pc := 33) hC dX9_nights_33 h9
  · replace hg := (if_pos c).symm.trans hg
    refine R_aload_n (pc := 8) hC 0 dX9_nights_8 rfl rfl ?_
    refine R_iload_n (pc := 9) hC 2 dX9_nights_9 rfl rfl ?_
    obtain ⟨q3, hq3, hg⟩ := bind_some hg
    refine R_callV (pc := 10) (av := [.int a2]) (rest := []) hC hR 43 (jx hn64 rfl) ly43 rfl mf_X9_isWay wm_X9_186 (LX9_isWay hn64 hq3) rfl rfl rfl (Nat.le_of_ble_eq_true rfl) dX9_nights_10 rfl ?_
    show RX K 13 [(0, .ref 43), (1, .int a1), (2, .int a2)] [.int (b2i q3.1)] q3.2
    refine R_ifB_eq (tgt := 27) (pc := 13) hC dX9_nights_13 (by decide) (fun c => ?_) (fun c => ?_)
    · replace hg := (if_neg c).symm.trans hg
      refine R_aload_n (pc := 27) hC 0 dX9_nights_27 rfl rfl ?_
      refine R_bipush (pc := 28) hC dX9_nights_28 kb_m3 ?_
      obtain ⟨q4, hq4, hg⟩ := bind_some hg
      refine R_callV (pc := 30) (av := [.int (-3)]) (rest := []) hC hR 43 (jx hn64 rfl) ly43 rfl mf_X9_no wm_X9_87 (LX9_no hn64 hq4) rfl rfl rfl (Nat.le_of_ble_eq_true rfl) dX9_nights_30 rfl ?_
      show RX K 33 [(0, .ref 43), (1, .int a1), (2, .int a2)] [.int q4.1] q4.2
      have h9 := gxIM hg
      exact R_ireturn (pc := 33) hC dX9_nights_33 h9
    · replace hg := (if_pos c).symm.trans hg
      refine R_iload_n (pc := 16) hC 1 dX9_nights_16 rfl rfl ?_
      refine R_iload_n (pc := 17) hC 2 dX9_nights_17 rfl rfl ?_
      refine R_iconst (pc := 18) hC dX9_nights_18 ki_m1 ?_
      refine R_ixor (pc := 19) hC dX9_nights_19 ?_
      refine R_iand (pc := 20) hC dX9_nights_20 ?_
      obtain ⟨x5, hx5, hg⟩ := bind_some hg
      refine R_callS (pc := 21) (av := [.int (a1 &&& (a2 ^^^ (-1)))]) (rest := []) hC hR mf_X9_bits wm_X9_165 (LX9_bits hn64 hx5) rfl rfl rfl (Nat.le_of_ble_eq_true rfl) dX9_nights_21 rfl ?_
      show RX K 24 [(0, .ref 43), (1, .int a1), (2, .int a2)] [.int x5] q3.2
      refine R_goto (tgt := 33) (pc := 24) hC dX9_nights_24 (by decide) ?_
      have h9 := gxIM hg
      exact R_ireturn (pc := 33) hC dX9_nights_33 h9
theorem dX9_step_0 : decode cX9_step 0 = .ok (.aload_n 0, 1) := by decide +kernel
theorem dX9_step_1 : decode cX9_step 1 = .ok (.iload_n 1, 1) := by decide +kernel
theorem dX9_step_2 : decode cX9_step 2 = .ok (.invokevirtual 186, 3) := by decide +kernel
theorem dX9_step_5 : decode cX9_step 5 = .ok (.ifCond .eq 11, 3) := by decide +kernel
theorem dX9_step_8 : decode cX9_step 8 = .ok (.aload_n 0, 1) := by decide +kernel
theorem dX9_step_9 : decode cX9_step 9 = .ok (.iload_n 2, 1) := by decide +kernel
theorem dX9_step_10 : decode cX9_step 10 = .ok (.invokevirtual 186, 3) := by decide +kernel
theorem dX9_step_13 : decode cX9_step 13 = .ok (.ifCond .ne 10, 3) := by decide +kernel
theorem dX9_step_16 : decode cX9_step 16 = .ok (.aload_n 0, 1) := by decide +kernel
theorem dX9_step_17 : decode cX9_step 17 = .ok (.bipush (-3), 2) := by decide +kernel
theorem dX9_step_19 : decode cX9_step 19 = .ok (.invokevirtual 87, 3) := by decide +kernel
theorem dX9_step_22 : decode cX9_step 22 = .ok (.ireturn, 1) := by decide +kernel
theorem dX9_step_23 : decode cX9_step 23 = .ok (.iload_n 1, 1) := by decide +kernel
theorem dX9_step_24 : decode cX9_step 24 = .ok (.istore_n 3, 1) := by decide +kernel
theorem dX9_step_25 : decode cX9_step 25 = .ok (.iconst 0, 1) := by decide +kernel
theorem dX9_step_26 : decode cX9_step 26 = .ok (.istore 4, 2) := by decide +kernel
theorem dX9_step_28 : decode cX9_step 28 = .ok (.iconst 0, 1) := by decide +kernel
theorem dX9_step_29 : decode cX9_step 29 = .ok (.istore 5, 2) := by decide +kernel
theorem dX9_step_31 : decode cX9_step 31 = .ok (.iload 5, 2) := by decide +kernel
theorem dX9_step_33 : decode cX9_step 33 = .ok (.aload_n 0, 1) := by decide +kernel
theorem dX9_step_34 : decode cX9_step 34 = .ok (.getfield 77, 3) := by decide +kernel
theorem dX9_step_37 : decode cX9_step 37 = .ok (.if_icmp .ge 100, 3) := by decide +kernel
theorem dX9_step_40 : decode cX9_step 40 = .ok (.iconst 0, 1) := by decide +kernel
theorem dX9_step_41 : decode cX9_step 41 = .ok (.istore 6, 2) := by decide +kernel
theorem dX9_step_43 : decode cX9_step 43 = .ok (.iload 6, 2) := by decide +kernel
theorem dX9_step_45 : decode cX9_step 45 = .ok (.aload_n 0, 1) := by decide +kernel
theorem dX9_step_46 : decode cX9_step 46 = .ok (.getfield 77, 3) := by decide +kernel
theorem dX9_step_49 : decode cX9_step 49 = .ok (.if_icmp .ge 82, 3) := by decide +kernel
theorem dX9_step_52 : decode cX9_step 52 = .ok (.iload_n 1, 1) := by decide +kernel
theorem dX9_step_53 : decode cX9_step 53 = .ok (.iload_n 2, 1) := by decide +kernel
theorem dX9_step_54 : decode cX9_step 54 = .ok (.iconst (-1), 1) := by decide +kernel
theorem dX9_step_55 : decode cX9_step 55 = .ok (.ixor, 1) := by decide +kernel
theorem dX9_step_56 : decode cX9_step 56 = .ok (.iand, 1) := by decide +kernel
theorem dX9_step_57 : decode cX9_step 57 = .ok (.iconst 1, 1) := by decide +kernel
theorem dX9_step_58 : decode cX9_step 58 = .ok (.iload 5, 2) := by decide +kernel
theorem dX9_step_60 : decode cX9_step 60 = .ok (.ishl, 1) := by decide +kernel
theorem dX9_step_61 : decode cX9_step 61 = .ok (.iand, 1) := by decide +kernel
theorem dX9_step_62 : decode cX9_step 62 = .ok (.ifCond .eq 63, 3) := by decide +kernel
theorem dX9_step_65 : decode cX9_step 65 = .ok (.iload_n 2, 1) := by decide +kernel
theorem dX9_step_66 : decode cX9_step 66 = .ok (.iload_n 1, 1) := by decide +kernel
theorem dX9_step_67 : decode cX9_step 67 = .ok (.iconst (-1), 1) := by decide +kernel
theorem dX9_step_68 : decode cX9_step 68 = .ok (.ixor, 1) := by decide +kernel
theorem dX9_step_69 : decode cX9_step 69 = .ok (.iand, 1) := by decide +kernel
theorem dX9_step_70 : decode cX9_step 70 = .ok (.iconst 1, 1) := by decide +kernel
theorem dX9_step_71 : decode cX9_step 71 = .ok (.iload 6, 2) := by decide +kernel
theorem dX9_step_73 : decode cX9_step 73 = .ok (.ishl, 1) := by decide +kernel
theorem dX9_step_74 : decode cX9_step 74 = .ok (.iand, 1) := by decide +kernel
theorem dX9_step_75 : decode cX9_step 75 = .ok (.ifCond .ne 6, 3) := by decide +kernel
theorem dX9_step_78 : decode cX9_step 78 = .ok (.goto 47, 3) := by decide +kernel
theorem dX9_step_81 : decode cX9_step 81 = .ok (.iload_n 1, 1) := by decide +kernel
theorem dX9_step_82 : decode cX9_step 82 = .ok (.iconst 1, 1) := by decide +kernel
theorem dX9_step_83 : decode cX9_step 83 = .ok (.iload 5, 2) := by decide +kernel
theorem dX9_step_85 : decode cX9_step 85 = .ok (.ishl, 1) := by decide +kernel
theorem dX9_step_86 : decode cX9_step 86 = .ok (.iconst (-1), 1) := by decide +kernel
theorem dX9_step_87 : decode cX9_step 87 = .ok (.ixor, 1) := by decide +kernel
theorem dX9_step_88 : decode cX9_step 88 = .ok (.iand, 1) := by decide +kernel
theorem dX9_step_89 : decode cX9_step 89 = .ok (.iconst 1, 1) := by decide +kernel
theorem dX9_step_90 : decode cX9_step 90 = .ok (.iload 6, 2) := by decide +kernel
theorem dX9_step_92 : decode cX9_step 92 = .ok (.ishl, 1) := by decide +kernel
theorem dX9_step_93 : decode cX9_step 93 = .ok (.ior, 1) := by decide +kernel
theorem dX9_step_94 : decode cX9_step 94 = .ok (.istore 7, 2) := by decide +kernel
theorem dX9_step_96 : decode cX9_step 96 = .ok (.aload_n 0, 1) := by decide +kernel
theorem dX9_step_97 : decode cX9_step 97 = .ok (.iload 7, 2) := by decide +kernel
theorem dX9_step_99 : decode cX9_step 99 = .ok (.invokevirtual 186, 3) := by decide +kernel
theorem dX9_step_102 : decode cX9_step 102 = .ok (.ifCond .eq 23, 3) := by decide +kernel
theorem dX9_step_105 : decode cX9_step 105 = .ok (.iload 4, 2) := by decide +kernel
theorem dX9_step_107 : decode cX9_step 107 = .ok (.ifCond .eq 12, 3) := by decide +kernel
theorem dX9_step_110 : decode cX9_step 110 = .ok (.iload 7, 2) := by decide +kernel
theorem dX9_step_112 : decode cX9_step 112 = .ok (.iload_n 3, 1) := by decide +kernel
theorem dX9_step_113 : decode cX9_step 113 = .ok (.if_icmp .lt 6, 3) := by decide +kernel
theorem dX9_step_116 : decode cX9_step 116 = .ok (.goto 9, 3) := by decide +kernel
theorem dX9_step_119 : decode cX9_step 119 = .ok (.iload 7, 2) := by decide +kernel
theorem dX9_step_121 : decode cX9_step 121 = .ok (.istore_n 3, 1) := by decide +kernel
theorem dX9_step_122 : decode cX9_step 122 = .ok (.iconst 1, 1) := by decide +kernel
theorem dX9_step_123 : decode cX9_step 123 = .ok (.istore 4, 2) := by decide +kernel
theorem dX9_step_125 : decode cX9_step 125 = .ok (.iinc 6 1, 3) := by decide +kernel
theorem dX9_step_128 : decode cX9_step 128 = .ok (.goto (-85), 3) := by decide +kernel
theorem dX9_step_131 : decode cX9_step 131 = .ok (.iinc 5 1, 3) := by decide +kernel
theorem dX9_step_134 : decode cX9_step 134 = .ok (.goto (-103), 3) := by decide +kernel
theorem dX9_step_137 : decode cX9_step 137 = .ok (.iload_n 3, 1) := by decide +kernel
theorem dX9_step_138 : decode cX9_step 138 = .ok (.ireturn, 1) := by decide +kernel
def bX9_step_43 (F : Nat) (a1 : Int32) (a2 : Int32) (y6 : Int32) : (Int32 × Int32 × Int32 × Mem) → Option ((Int32 × Int32 × Int32 × Mem) ⊕ (Int32 × Int32 × Int32 × Mem))
  | (y8, y9, y10, m11) => (if (m11.1 43 9) ≤ y10 then some (.inr (y8, y9, y10, m11)) else (if ((a1 &&& (a2 ^^^ (-1))) &&& ((1 : Int32) <<< (y6 &&& 31))) = 0 then some (.inl (y8, y9, y10 + 1, m11)) else (if ((a2 &&& (a1 ^^^ (-1))) &&& ((1 : Int32) <<< (y10 &&& 31))) = 0 then some (.inl (y8, y9, y10 + 1, m11)) else lete ((a1 &&& (((1 : Int32) <<< (y6 &&& 31)) ^^^ (-1))) ||| ((1 : Int32) <<< (y10 &&& 31))) (fun x12 => (gX9_isWay F m11 x12).bind (fun q13 => (if q13.1 = true then (if y9 = 0 then some (.inl (x12, 1, y10 + 1, q13.2)) else (if x12 < y8 then some (.inl (x12, 1, y10 + 1, q13.2)) else some (.inl (y8, y9, y10 + 1, q13.2)))) else some (.inl (y8, y9, y10 + 1, q13.2))))))))
def bX9_step_31 (F : Nat) (a1 : Int32) (a2 : Int32) : (Int32 × Int32 × Int32 × Mem) → Option ((Int32 × Int32 × Int32 × Mem) ⊕ (Int32 × Int32 × Int32 × Mem))
  | (y4, y5, y6, m7) => (if (m7.1 43 9) ≤ y6 then some (.inr (y4, y5, y6, m7)) else (iter F (bX9_step_43 F a1 a2 y6) (y4, y5, 0, m7)).bind (fun e14 => some (.inl (e14.1, e14.2.1, y6 + 1, e14.2.2.2))))
def gX9_step (F : Nat) (m : Mem) (a1 : Int32) (a2 : Int32) : Option (Int32 × Mem) := (gX9_isWay F m a1).bind (fun q1 => (if q1.1 = true then (gX9_isWay F q1.2 a2).bind (fun q3 => (if q3.1 = true then (iter F (bX9_step_31 F a1 a2) (a1, 0, 0, q3.2)).bind (fun e16 => some (e16.1, e16.2.2.2)) else (gX9_no q3.2 (-3)).bind (fun q18 => some (q18.1, q18.2)))) else (gX9_no q1.2 (-3)).bind (fun q2 => some (q2.1, q2.2))))
set_option maxHeartbeats 4000000 in
set_option maxRecDepth 20000 in
theorem LX9_step {n : Nat} {F : Nat} {m : Mem} {a1 : Int32} {a2 : Int32} {r : Int32 × Mem} (hn64 : 64 ≤ n) (hg : gX9_step F m a1 a2 = some r) : MX yX9_step cX9_step 8 (some .int) { frames := 3, cells := 0, slots := 0, locals := 69 } n [.ref 43, .int a1, .int a2] m (some (.int r.1)) r.2 := by
  refine MX_of (by decide) (Nat.le_of_ble_eq_true rfl) (Or.inr (Or.inl ⟨rfl, _, rfl⟩)) (fun K hC hk hL hR => ?_)
  replace hn64 : 64 ≤ kn K := hk.symm ▸ hn64
  show RX K 0 [(0, .ref 43), (1, .int a1), (2, .int a2)] [] m
  rw [gX9_step] at hg
  refine R_aload_n (pc := 0) hC 0 dX9_step_0 rfl rfl ?_
  refine R_iload_n (pc := 1) hC 1 dX9_step_1 rfl rfl ?_
  obtain ⟨q1, hq1, hg⟩ := bind_some hg
  refine R_callV (pc := 2) (av := [.int a1]) (rest := []) hC hR 43 (jx hn64 rfl) ly43 rfl mf_X9_isWay wm_X9_186 (LX9_isWay hn64 hq1) rfl rfl rfl (Nat.le_of_ble_eq_true rfl) dX9_step_2 rfl ?_
  show RX K 5 [(0, .ref 43), (1, .int a1), (2, .int a2)] [.int (b2i q1.1)] q1.2
  refine R_ifB_eq (tgt := 16) (pc := 5) hC dX9_step_5 (by decide) (fun c => ?_) (fun c => ?_)
  · replace hg := (if_neg c).symm.trans hg
    refine R_aload_n (pc := 16) hC 0 dX9_step_16 rfl rfl ?_
    refine R_bipush (pc := 17) hC dX9_step_17 kb_m3 ?_
    obtain ⟨q2, hq2, hg⟩ := bind_some hg
    refine R_callV (pc := 19) (av := [.int (-3)]) (rest := []) hC hR 43 (jx hn64 rfl) ly43 rfl mf_X9_no wm_X9_87 (LX9_no hn64 hq2) rfl rfl rfl (Nat.le_of_ble_eq_true rfl) dX9_step_19 rfl ?_
    show RX K 22 [(0, .ref 43), (1, .int a1), (2, .int a2)] [.int q2.1] q2.2
    have h9 := gxIM hg
    exact R_ireturn (pc := 22) hC dX9_step_22 h9
  · replace hg := (if_pos c).symm.trans hg
    refine R_aload_n (pc := 8) hC 0 dX9_step_8 rfl rfl ?_
    refine R_iload_n (pc := 9) hC 2 dX9_step_9 rfl rfl ?_
    obtain ⟨q3, hq3, hg⟩ := bind_some hg
    refine R_callV (pc := 10) (av := [.int a2]) (rest := []) hC hR 43 (jx hn64 rfl) ly43 rfl mf_X9_isWay wm_X9_186 (LX9_isWay hn64 hq3) rfl rfl rfl (Nat.le_of_ble_eq_true rfl) dX9_step_10 rfl ?_
    show RX K 13 [(0, .ref 43), (1, .int a1), (2, .int a2)] [.int (b2i q3.1)] q3.2
    refine R_ifB_ne (tgt := 23) (pc := 13) hC dX9_step_13 (by decide) (fun c => ?_) (fun c => ?_)
    · replace hg := (if_pos c).symm.trans hg
      refine R_iload_n (pc := 23) hC 1 dX9_step_23 rfl rfl ?_
      refine R_istore_n (pc := 24) hC dX9_step_24 rfl hL rfl (show _ = [(3, .int a1), (0, .ref 43), (1, .int a1), (2, .int a2)] from rfl) ?_
      refine R_iconst (pc := 25) hC dX9_step_25 ki_0 ?_
      refine R_istore (pc := 26) hC dX9_step_26 hL rfl (show _ = [(4, .int 0), (3, .int a1), (0, .ref 43), (1, .int a1), (2, .int a2)] from rfl) ?_
      refine R_iconst (pc := 28) hC dX9_step_28 ki_0 ?_
      refine R_istore (pc := 29) hC dX9_step_29 hL rfl (show _ = [(5, .int 0), (4, .int 0), (3, .int a1), (0, .ref 43), (1, .int a1), (2, .int a2)] from rfl) ?_
      refine R_pick [3, 4, 5, 2, 1, 0] (ls' := [(0, .ref 43), (1, .int a1), (2, .int a2), (3, .int a1), (4, .int 0), (5, .int 0)]) rfl ?_
      obtain ⟨e16, he16, hg⟩ := bind_some hg
      refine iter_walk (P := fun s : (Int32 × Int32 × Int32 × Mem) => RX K 31 [(0, .ref 43), (1, .int a1), (2, .int a2), (3, .int s.1), (4, .int s.2.1), (5, .int s.2.2.1)] [] s.2.2.2) (Qe := fun s : (Int32 × Int32 × Int32 × Mem) => RX K 137 [(0, .ref 43), (1, .int a1), (2, .int a2), (3, .int s.1), (4, .int s.2.1), (5, .int s.2.2.1)] [] s.2.2.2) (fun s17 o hg kL31 kE31 => ?_) _ _ _ he16 ?_
      · obtain ⟨y4, y5, y6, m7⟩ := s17
        rw [bX9_step_31] at hg
        show RX K 31 [(0, .ref 43), (1, .int a1), (2, .int a2), (3, .int y4), (4, .int y5), (5, .int y6)] [] m7
        refine R_iload (pc := 31) hC 5 dX9_step_31 rfl ?_
        refine R_aload_n (pc := 33) hC 0 dX9_step_33 rfl rfl ?_
        refine gf_X9_77 (pc := 34) hC hn64 dX9_step_34 ?_
        refine R_icmp_ge (tgt := 137) (pc := 37) hC dX9_step_37 (by decide) (fun c => ?_) (fun c => ?_)
        · replace hg := (if_pos c).symm.trans hg
          refine R_pick [0, 1, 2, 3, 4, 5] (ls' := [(0, .ref 43), (1, .int a1), (2, .int a2), (3, .int y4), (4, .int y5), (5, .int y6)]) rfl ?_
          have h9 := kE31 _ (Option.some.inj hg).symm
          exact h9
        · replace hg := (if_neg c).symm.trans hg
          refine R_iconst (pc := 40) hC dX9_step_40 ki_0 ?_
          refine R_istore (pc := 41) hC dX9_step_41 hL rfl (show _ = [(6, .int 0), (0, .ref 43), (1, .int a1), (2, .int a2), (3, .int y4), (4, .int y5), (5, .int y6)] from rfl) ?_
          refine R_pick [1, 2, 3, 4, 5, 6, 0] (ls' := [(0, .ref 43), (1, .int a1), (2, .int a2), (3, .int y4), (4, .int y5), (5, .int y6), (6, .int 0)]) rfl ?_
          obtain ⟨e14, he14, hg⟩ := bind_some hg
          refine iter_walk (P := fun s : (Int32 × Int32 × Int32 × Mem) => RX K 43 [(0, .ref 43), (1, .int a1), (2, .int a2), (3, .int s.1), (4, .int s.2.1), (5, .int y6), (6, .int s.2.2.1)] [] s.2.2.2) (Qe := fun s : (Int32 × Int32 × Int32 × Mem) => RX K 131 [(0, .ref 43), (1, .int a1), (2, .int a2), (3, .int s.1), (4, .int s.2.1), (5, .int y6), (6, .int s.2.2.1)] [] s.2.2.2) (fun s15 o hg kL43 kE43 => ?_) _ _ _ he14 ?_
          · obtain ⟨y8, y9, y10, m11⟩ := s15
            rw [bX9_step_43] at hg
            show RX K 43 [(0, .ref 43), (1, .int a1), (2, .int a2), (3, .int y8), (4, .int y9), (5, .int y6), (6, .int y10)] [] m11
            refine R_iload (pc := 43) hC 6 dX9_step_43 rfl ?_
            refine R_aload_n (pc := 45) hC 0 dX9_step_45 rfl rfl ?_
            refine gf_X9_77 (pc := 46) hC hn64 dX9_step_46 ?_
            refine R_icmp_ge (tgt := 131) (pc := 49) hC dX9_step_49 (by decide) (fun c => ?_) (fun c => ?_)
            · replace hg := (if_pos c).symm.trans hg
              refine R_pick [0, 1, 2, 3, 4, 5, 6] (ls' := [(0, .ref 43), (1, .int a1), (2, .int a2), (3, .int y8), (4, .int y9), (5, .int y6), (6, .int y10)]) rfl ?_
              have h9 := kE43 _ (Option.some.inj hg).symm
              exact h9
            · replace hg := (if_neg c).symm.trans hg
              refine R_iload_n (pc := 52) hC 1 dX9_step_52 rfl rfl ?_
              refine R_iload_n (pc := 53) hC 2 dX9_step_53 rfl rfl ?_
              refine R_iconst (pc := 54) hC dX9_step_54 ki_m1 ?_
              refine R_ixor (pc := 55) hC dX9_step_55 ?_
              refine R_iand (pc := 56) hC dX9_step_56 ?_
              refine R_iconst (pc := 57) hC dX9_step_57 ki_1 ?_
              refine R_iload (pc := 58) hC 5 dX9_step_58 rfl ?_
              refine R_ishl (pc := 60) hC dX9_step_60 ?_
              refine R_iand (pc := 61) hC dX9_step_61 ?_
              refine R_if_eq (tgt := 125) (pc := 62) hC dX9_step_62 (by decide) (fun c => ?_) (fun c => ?_)
              · replace hg := (if_pos c).symm.trans hg
                refine R_iinc (pc := 125) hC 6 dX9_step_125 rfl (iv ki_1) hL rfl (show _ = [(6, .int (y10 + 1)), (0, .ref 43), (1, .int a1), (2, .int a2), (3, .int y8), (4, .int y9), (5, .int y6)] from rfl) ?_
                refine R_goto (tgt := 43) (pc := 128) hC dX9_step_128 (by decide) ?_
                refine R_pick [1, 2, 3, 4, 5, 6, 0] (ls' := [(0, .ref 43), (1, .int a1), (2, .int a2), (3, .int y8), (4, .int y9), (5, .int y6), (6, .int (y10 + 1))]) rfl ?_
                have h9 := kL43 _ (Option.some.inj hg).symm
                exact h9
              · replace hg := (if_neg c).symm.trans hg
                refine R_iload_n (pc := 65) hC 2 dX9_step_65 rfl rfl ?_
                refine R_iload_n (pc := 66) hC 1 dX9_step_66 rfl rfl ?_
                refine R_iconst (pc := 67) hC dX9_step_67 ki_m1 ?_
                refine R_ixor (pc := 68) hC dX9_step_68 ?_
                refine R_iand (pc := 69) hC dX9_step_69 ?_
                refine R_iconst (pc := 70) hC dX9_step_70 ki_1 ?_
                refine R_iload (pc := 71) hC 6 dX9_step_71 rfl ?_
                refine R_ishl (pc := 73) hC dX9_step_73 ?_
                refine R_iand (pc := 74) hC dX9_step_74 ?_
                refine R_if_ne (tgt := 81) (pc := 75) hC dX9_step_75 (by decide) (fun c => ?_) (fun c => ?_)
                · replace hg := (if_neg c).symm.trans hg
                  refine R_iload_n (pc := 81) hC 1 dX9_step_81 rfl rfl ?_
                  refine R_iconst (pc := 82) hC dX9_step_82 ki_1 ?_
                  refine R_iload (pc := 83) hC 5 dX9_step_83 rfl ?_
                  refine R_ishl (pc := 85) hC dX9_step_85 ?_
                  refine R_iconst (pc := 86) hC dX9_step_86 ki_m1 ?_
                  refine R_ixor (pc := 87) hC dX9_step_87 ?_
                  refine R_iand (pc := 88) hC dX9_step_88 ?_
                  refine R_iconst (pc := 89) hC dX9_step_89 ki_1 ?_
                  refine R_iload (pc := 90) hC 6 dX9_step_90 rfl ?_
                  refine R_ishl (pc := 92) hC dX9_step_92 ?_
                  refine R_ior (pc := 93) hC dX9_step_93 ?_
                  obtain ⟨x12, hx12, hg⟩ := lete_some hg
                  refine R_top hx12 ?_
                  refine R_istore (pc := 94) hC dX9_step_94 hL rfl (show _ = [(7, .int x12), (0, .ref 43), (1, .int a1), (2, .int a2), (3, .int y8), (4, .int y9), (5, .int y6), (6, .int y10)] from rfl) ?_
                  refine R_aload_n (pc := 96) hC 1 dX9_step_96 rfl rfl ?_
                  refine R_iload (pc := 97) hC 0 dX9_step_97 rfl ?_
                  obtain ⟨q13, hq13, hg⟩ := bind_some hg
                  refine R_callV (pc := 99) (av := [.int x12]) (rest := []) hC hR 43 (jx hn64 rfl) ly43 rfl mf_X9_isWay wm_X9_186 (LX9_isWay hn64 hq13) rfl rfl rfl (Nat.le_of_ble_eq_true rfl) dX9_step_99 rfl ?_
                  show RX K 102 [(7, .int x12), (0, .ref 43), (1, .int a1), (2, .int a2), (3, .int y8), (4, .int y9), (5, .int y6), (6, .int y10)] [.int (b2i q13.1)] q13.2
                  refine R_ifB_eq (tgt := 125) (pc := 102) hC dX9_step_102 (by decide) (fun c => ?_) (fun c => ?_)
                  · replace hg := (if_neg c).symm.trans hg
                    refine R_iinc (pc := 125) hC 7 dX9_step_125 rfl (iv ki_1) hL rfl (show _ = [(6, .int (y10 + 1)), (7, .int x12), (0, .ref 43), (1, .int a1), (2, .int a2), (3, .int y8), (4, .int y9), (5, .int y6)] from rfl) ?_
                    refine R_goto (tgt := 43) (pc := 128) hC dX9_step_128 (by decide) ?_
                    refine R_pick [2, 3, 4, 5, 6, 7, 0] (ls' := [(0, .ref 43), (1, .int a1), (2, .int a2), (3, .int y8), (4, .int y9), (5, .int y6), (6, .int (y10 + 1))]) rfl ?_
                    have h9 := kL43 _ (Option.some.inj hg).symm
                    exact h9
                  · replace hg := (if_pos c).symm.trans hg
                    refine R_iload (pc := 105) hC 5 dX9_step_105 rfl ?_
                    refine R_if_eq (tgt := 119) (pc := 107) hC dX9_step_107 (by decide) (fun c => ?_) (fun c => ?_)
                    · replace hg := (if_pos c).symm.trans hg
                      refine R_iload (pc := 119) hC 0 dX9_step_119 rfl ?_
                      refine R_istore_n (pc := 121) hC dX9_step_121 rfl hL rfl (show _ = [(3, .int x12), (7, .int x12), (0, .ref 43), (1, .int a1), (2, .int a2), (4, .int y9), (5, .int y6), (6, .int y10)] from rfl) ?_
                      refine R_iconst (pc := 122) hC dX9_step_122 ki_1 ?_
                      refine R_istore (pc := 123) hC dX9_step_123 hL rfl (show _ = [(4, .int 1), (3, .int x12), (7, .int x12), (0, .ref 43), (1, .int a1), (2, .int a2), (5, .int y6), (6, .int y10)] from rfl) ?_
                      refine R_iinc (pc := 125) hC 7 dX9_step_125 rfl (iv ki_1) hL rfl (show _ = [(6, .int (y10 + 1)), (4, .int 1), (3, .int x12), (7, .int x12), (0, .ref 43), (1, .int a1), (2, .int a2), (5, .int y6)] from rfl) ?_
                      refine R_goto (tgt := 43) (pc := 128) hC dX9_step_128 (by decide) ?_
                      refine R_pick [4, 5, 6, 2, 1, 7, 0] (ls' := [(0, .ref 43), (1, .int a1), (2, .int a2), (3, .int x12), (4, .int 1), (5, .int y6), (6, .int (y10 + 1))]) rfl ?_
                      have h9 := kL43 _ (Option.some.inj hg).symm
                      exact h9
                    · replace hg := (if_neg c).symm.trans hg
                      refine R_iload (pc := 110) hC 0 dX9_step_110 rfl ?_
                      refine R_iload_n (pc := 112) hC 4 dX9_step_112 rfl rfl ?_
                      refine R_icmp_lt (tgt := 119) (pc := 113) hC dX9_step_113 (by decide) (fun c => ?_) (fun c => ?_)
                      · replace hg := (if_pos c).symm.trans hg
                        refine R_iload (pc := 119) hC 0 dX9_step_119 rfl ?_
                        refine R_istore_n (pc := 121) hC dX9_step_121 rfl hL rfl (show _ = [(3, .int x12), (7, .int x12), (0, .ref 43), (1, .int a1), (2, .int a2), (4, .int y9), (5, .int y6), (6, .int y10)] from rfl) ?_
                        refine R_iconst (pc := 122) hC dX9_step_122 ki_1 ?_
                        refine R_istore (pc := 123) hC dX9_step_123 hL rfl (show _ = [(4, .int 1), (3, .int x12), (7, .int x12), (0, .ref 43), (1, .int a1), (2, .int a2), (5, .int y6), (6, .int y10)] from rfl) ?_
                        refine R_iinc (pc := 125) hC 7 dX9_step_125 rfl (iv ki_1) hL rfl (show _ = [(6, .int (y10 + 1)), (4, .int 1), (3, .int x12), (7, .int x12), (0, .ref 43), (1, .int a1), (2, .int a2), (5, .int y6)] from rfl) ?_
                        refine R_goto (tgt := 43) (pc := 128) hC dX9_step_128 (by decide) ?_
                        refine R_pick [4, 5, 6, 2, 1, 7, 0] (ls' := [(0, .ref 43), (1, .int a1), (2, .int a2), (3, .int x12), (4, .int 1), (5, .int y6), (6, .int (y10 + 1))]) rfl ?_
                        have h9 := kL43 _ (Option.some.inj hg).symm
                        exact h9
                      · replace hg := (if_neg c).symm.trans hg
                        refine R_goto (tgt := 125) (pc := 116) hC dX9_step_116 (by decide) ?_
                        refine R_iinc (pc := 125) hC 7 dX9_step_125 rfl (iv ki_1) hL rfl (show _ = [(6, .int (y10 + 1)), (7, .int x12), (0, .ref 43), (1, .int a1), (2, .int a2), (3, .int y8), (4, .int y9), (5, .int y6)] from rfl) ?_
                        refine R_goto (tgt := 43) (pc := 128) hC dX9_step_128 (by decide) ?_
                        refine R_pick [2, 3, 4, 5, 6, 7, 0] (ls' := [(0, .ref 43), (1, .int a1), (2, .int a2), (3, .int y8), (4, .int y9), (5, .int y6), (6, .int (y10 + 1))]) rfl ?_
                        have h9 := kL43 _ (Option.some.inj hg).symm
                        exact h9
                · replace hg := (if_pos c).symm.trans hg
                  refine R_goto (tgt := 125) (pc := 78) hC dX9_step_78 (by decide) ?_
                  refine R_iinc (pc := 125) hC 6 dX9_step_125 rfl (iv ki_1) hL rfl (show _ = [(6, .int (y10 + 1)), (0, .ref 43), (1, .int a1), (2, .int a2), (3, .int y8), (4, .int y9), (5, .int y6)] from rfl) ?_
                  refine R_goto (tgt := 43) (pc := 128) hC dX9_step_128 (by decide) ?_
                  refine R_pick [1, 2, 3, 4, 5, 6, 0] (ls' := [(0, .ref 43), (1, .int a1), (2, .int a2), (3, .int y8), (4, .int y9), (5, .int y6), (6, .int (y10 + 1))]) rfl ?_
                  have h9 := kL43 _ (Option.some.inj hg).symm
                  exact h9
          · show RX K 131 [(0, .ref 43), (1, .int a1), (2, .int a2), (3, .int e14.1), (4, .int e14.2.1), (5, .int y6), (6, .int e14.2.2.1)] [] e14.2.2.2
            refine R_iinc (pc := 131) hC 5 dX9_step_131 rfl (iv ki_1) hL rfl (show _ = [(5, .int (y6 + 1)), (0, .ref 43), (1, .int a1), (2, .int a2), (3, .int e14.1), (4, .int e14.2.1), (6, .int e14.2.2.1)] from rfl) ?_
            refine R_goto (tgt := 31) (pc := 134) hC dX9_step_134 (by decide) ?_
            refine R_pick [1, 2, 3, 4, 5, 0] (ls' := [(0, .ref 43), (1, .int a1), (2, .int a2), (3, .int e14.1), (4, .int e14.2.1), (5, .int (y6 + 1))]) rfl ?_
            have h9 := kL31 _ (Option.some.inj hg).symm
            exact h9
      · show RX K 137 [(0, .ref 43), (1, .int a1), (2, .int a2), (3, .int e16.1), (4, .int e16.2.1), (5, .int e16.2.2.1)] [] e16.2.2.2
        refine R_iload_n (pc := 137) hC 3 dX9_step_137 rfl rfl ?_
        have h9 := gxIM hg
        exact R_ireturn (pc := 138) hC dX9_step_138 h9
    · replace hg := (if_neg c).symm.trans hg
      refine R_aload_n (pc := 16) hC 0 dX9_step_16 rfl rfl ?_
      refine R_bipush (pc := 17) hC dX9_step_17 kb_m3 ?_
      obtain ⟨q18, hq18, hg⟩ := bind_some hg
      refine R_callV (pc := 19) (av := [.int (-3)]) (rest := []) hC hR 43 (jx hn64 rfl) ly43 rfl mf_X9_no wm_X9_87 (LX9_no hn64 hq18) rfl rfl rfl (Nat.le_of_ble_eq_true rfl) dX9_step_19 rfl ?_
      show RX K 22 [(0, .ref 43), (1, .int a1), (2, .int a2)] [.int q18.1] q18.2
      have h9 := gxIM hg
      exact R_ireturn (pc := 22) hC dX9_step_22 h9
theorem dX9_isToward_0 : decode cX9_isToward 0 = .ok (.iconst 0, 1) := by decide +kernel
theorem dX9_isToward_1 : decode cX9_isToward 1 = .ok (.istore_n 3, 1) := by decide +kernel
theorem dX9_isToward_2 : decode cX9_isToward 2 = .ok (.iload_n 3, 1) := by decide +kernel
theorem dX9_isToward_3 : decode cX9_isToward 3 = .ok (.aload_n 0, 1) := by decide +kernel
theorem dX9_isToward_4 : decode cX9_isToward 4 = .ok (.getfield 77, 3) := by decide +kernel
theorem dX9_isToward_7 : decode cX9_isToward 7 = .ok (.if_icmp .ge 64, 3) := by decide +kernel
theorem dX9_isToward_10 : decode cX9_isToward 10 = .ok (.iload_n 1, 1) := by decide +kernel
theorem dX9_isToward_11 : decode cX9_isToward 11 = .ok (.iload_n 3, 1) := by decide +kernel
theorem dX9_isToward_12 : decode cX9_isToward 12 = .ok (.ishr, 1) := by decide +kernel
theorem dX9_isToward_13 : decode cX9_isToward 13 = .ok (.iconst 1, 1) := by decide +kernel
theorem dX9_isToward_14 : decode cX9_isToward 14 = .ok (.iand, 1) := by decide +kernel
theorem dX9_isToward_15 : decode cX9_isToward 15 = .ok (.ifCond .eq 50, 3) := by decide +kernel
theorem dX9_isToward_18 : decode cX9_isToward 18 = .ok (.aload_n 0, 1) := by decide +kernel
theorem dX9_isToward_19 : decode cX9_isToward 19 = .ok (.getfield 13, 3) := by decide +kernel
theorem dX9_isToward_22 : decode cX9_isToward 22 = .ok (.iload_n 3, 1) := by decide +kernel
theorem dX9_isToward_23 : decode cX9_isToward 23 = .ok (.iaload, 1) := by decide +kernel
theorem dX9_isToward_24 : decode cX9_isToward 24 = .ok (.iconst 3, 1) := by decide +kernel
theorem dX9_isToward_25 : decode cX9_isToward 25 = .ok (.if_icmp .eq 6, 3) := by decide +kernel
theorem dX9_isToward_28 : decode cX9_isToward 28 = .ok (.goto 37, 3) := by decide +kernel
theorem dX9_isToward_31 : decode cX9_isToward 31 = .ok (.aload_n 0, 1) := by decide +kernel
theorem dX9_isToward_32 : decode cX9_isToward 32 = .ok (.iload_n 1, 1) := by decide +kernel
theorem dX9_isToward_33 : decode cX9_isToward 33 = .ok (.iconst 1, 1) := by decide +kernel
theorem dX9_isToward_34 : decode cX9_isToward 34 = .ok (.iload_n 3, 1) := by decide +kernel
theorem dX9_isToward_35 : decode cX9_isToward 35 = .ok (.ishl, 1) := by decide +kernel
theorem dX9_isToward_36 : decode cX9_isToward 36 = .ok (.iconst (-1), 1) := by decide +kernel
theorem dX9_isToward_37 : decode cX9_isToward 37 = .ok (.ixor, 1) := by decide +kernel
theorem dX9_isToward_38 : decode cX9_isToward 38 = .ok (.iand, 1) := by decide +kernel
theorem dX9_isToward_39 : decode cX9_isToward 39 = .ok (.invokevirtual 168, 3) := by decide +kernel
theorem dX9_isToward_42 : decode cX9_isToward 42 = .ok (.pop, 1) := by decide +kernel
theorem dX9_isToward_43 : decode cX9_isToward 43 = .ok (.aload_n 0, 1) := by decide +kernel
theorem dX9_isToward_44 : decode cX9_isToward 44 = .ok (.getfield 53, 3) := by decide +kernel
theorem dX9_isToward_47 : decode cX9_isToward 47 = .ok (.aload_n 0, 1) := by decide +kernel
theorem dX9_isToward_48 : decode cX9_isToward 48 = .ok (.getfield 19, 3) := by decide +kernel
theorem dX9_isToward_51 : decode cX9_isToward 51 = .ok (.iload_n 3, 1) := by decide +kernel
theorem dX9_isToward_52 : decode cX9_isToward 52 = .ok (.iaload, 1) := by decide +kernel
theorem dX9_isToward_53 : decode cX9_isToward 53 = .ok (.iaload, 1) := by decide +kernel
theorem dX9_isToward_54 : decode cX9_isToward 54 = .ok (.aload_n 0, 1) := by decide +kernel
theorem dX9_isToward_55 : decode cX9_isToward 55 = .ok (.getfield 53, 3) := by decide +kernel
theorem dX9_isToward_58 : decode cX9_isToward 58 = .ok (.iload_n 2, 1) := by decide +kernel
theorem dX9_isToward_59 : decode cX9_isToward 59 = .ok (.iaload, 1) := by decide +kernel
theorem dX9_isToward_60 : decode cX9_isToward 60 = .ok (.if_icmp .eq 5, 3) := by decide +kernel
theorem dX9_isToward_63 : decode cX9_isToward 63 = .ok (.iconst 0, 1) := by decide +kernel
theorem dX9_isToward_64 : decode cX9_isToward 64 = .ok (.ireturn, 1) := by decide +kernel
theorem dX9_isToward_65 : decode cX9_isToward 65 = .ok (.iinc 3 1, 3) := by decide +kernel
theorem dX9_isToward_68 : decode cX9_isToward 68 = .ok (.goto (-66), 3) := by decide +kernel
theorem dX9_isToward_71 : decode cX9_isToward 71 = .ok (.iconst 1, 1) := by decide +kernel
theorem dX9_isToward_72 : decode cX9_isToward 72 = .ok (.ireturn, 1) := by decide +kernel
def bX9_isToward_2 (F : Nat) (a1 : Int32) (a2 : Int32) : (Int32 × Mem) → Option ((Int32 × Mem) ⊕ ((Int32 × Mem) ⊕ (Bool × Mem)))
  | (y1, m2) => (if (m2.1 43 9) ≤ y1 then some (.inr (.inl (y1, m2))) else (if ((a1 >>> (y1 &&& 31)) &&& 1) = 0 then some (.inl (y1 + 1, m2)) else chk (inb y1 11) ((if (m2.1 45 (Int32.toNatClampNeg y1)) = 3 then (gX9_partsOf F m2 (a1 &&& (((1 : Int32) <<< (y1 &&& 31)) ^^^ (-1)))).bind (fun q4 => chk (inb y1 11) (chk (inb (q4.2.1 47 (Int32.toNatClampNeg y1)) 7) (chk (inb a2 7) ((if (q4.2.1 57 (Int32.toNatClampNeg (q4.2.1 47 (Int32.toNatClampNeg y1)))) = (q4.2.1 57 (Int32.toNatClampNeg a2)) then some (.inl (y1 + 1, q4.2)) else some (.inr (.inr (false, q4.2)))))))) else some (.inl (y1 + 1, m2))))))
def gX9_isToward (F : Nat) (m : Mem) (a1 : Int32) (a2 : Int32) : Option (Bool × Mem) := (iter F (bX9_isToward_2 F a1 a2) (0, m)).bind (fun e8 => Sum.elim (fun s10 => some (true, s10.2)) (fun q => some q) e8)
set_option maxHeartbeats 4000000 in
set_option maxRecDepth 20000 in
theorem LX9_isToward {n : Nat} {F : Nat} {m : Mem} {a1 : Int32} {a2 : Int32} {r : Bool × Mem} (hn64 : 64 ≤ n) (hg : gX9_isToward F m a1 a2 = some r) : MX yX9_isToward cX9_isToward 4 (some .boolean) { frames := 1, cells := 0, slots := 0, locals := 26 } n [.ref 43, .int a1, .int a2] m (some (.int (b2i r.1))) r.2 := by
  refine MX_of (by decide) (Nat.le_of_ble_eq_true rfl) (Or.inr (Or.inr (Or.inr ⟨rfl, _, rfl⟩))) (fun K hC hk hL hR => ?_)
  replace hn64 : 64 ≤ kn K := hk.symm ▸ hn64
  show RX K 0 [(0, .ref 43), (1, .int a1), (2, .int a2)] [] m
  rw [gX9_isToward] at hg
  refine R_iconst (pc := 0) hC dX9_isToward_0 ki_0 ?_
  refine R_istore_n (pc := 1) hC dX9_isToward_1 rfl hL rfl (show _ = [(3, .int 0), (0, .ref 43), (1, .int a1), (2, .int a2)] from rfl) ?_
  refine R_pick [1, 2, 3, 0] (ls' := [(0, .ref 43), (1, .int a1), (2, .int a2), (3, .int 0)]) rfl ?_
  obtain ⟨e8, he8, hg⟩ := bind_some hg
  refine iter_walk (P := fun s : (Int32 × Mem) => RX K 2 [(0, .ref 43), (1, .int a1), (2, .int a2), (3, .int s.1)] [] s.2) (Qe := Sum.elim (fun s : (Int32 × Mem) => RX K 71 [(0, .ref 43), (1, .int a1), (2, .int a2), (3, .int s.1)] [] s.2) (fun q : Bool × Mem => GX (some (.int (b2i r.1))) r.2 (some (.int (b2i q.1))) q.2)) (fun s9 o hg kL2 kE2 => ?_) _ _ _ he8 ?_
  · obtain ⟨y1, m2⟩ := s9
    rw [bX9_isToward_2] at hg
    show RX K 2 [(0, .ref 43), (1, .int a1), (2, .int a2), (3, .int y1)] [] m2
    refine R_iload_n (pc := 2) hC 3 dX9_isToward_2 rfl rfl ?_
    refine R_aload_n (pc := 3) hC 0 dX9_isToward_3 rfl rfl ?_
    refine gf_X9_77 (pc := 4) hC hn64 dX9_isToward_4 ?_
    refine R_icmp_ge (tgt := 71) (pc := 7) hC dX9_isToward_7 (by decide) (fun c => ?_) (fun c => ?_)
    · replace hg := (if_pos c).symm.trans hg
      refine R_pick [0, 1, 2, 3] (ls' := [(0, .ref 43), (1, .int a1), (2, .int a2), (3, .int y1)]) rfl ?_
      have h9 := kE2 _ (Option.some.inj hg).symm
      exact h9
    · replace hg := (if_neg c).symm.trans hg
      refine R_iload_n (pc := 10) hC 1 dX9_isToward_10 rfl rfl ?_
      refine R_iload_n (pc := 11) hC 3 dX9_isToward_11 rfl rfl ?_
      refine R_ishr (pc := 12) hC dX9_isToward_12 ?_
      refine R_iconst (pc := 13) hC dX9_isToward_13 ki_1 ?_
      refine R_iand (pc := 14) hC dX9_isToward_14 ?_
      refine R_if_eq (tgt := 65) (pc := 15) hC dX9_isToward_15 (by decide) (fun c => ?_) (fun c => ?_)
      · replace hg := (if_pos c).symm.trans hg
        refine R_iinc (pc := 65) hC 3 dX9_isToward_65 rfl (iv ki_1) hL rfl (show _ = [(3, .int (y1 + 1)), (0, .ref 43), (1, .int a1), (2, .int a2)] from rfl) ?_
        refine R_goto (tgt := 2) (pc := 68) hC dX9_isToward_68 (by decide) ?_
        refine R_pick [1, 2, 3, 0] (ls' := [(0, .ref 43), (1, .int a1), (2, .int a2), (3, .int (y1 + 1))]) rfl ?_
        have h9 := kL2 _ (Option.some.inj hg).symm
        exact h9
      · replace hg := (if_neg c).symm.trans hg
        refine R_aload_n (pc := 18) hC 0 dX9_isToward_18 rfl rfl ?_
        refine gf_X9_13 (pc := 19) hC hn64 dX9_isToward_19 ?_
        refine R_iload_n (pc := 22) hC 3 dX9_isToward_22 rfl rfl ?_
        obtain ⟨c3, hg⟩ := chk_some hg
        refine R_iaload (pc := 23) hC 45 (jx hn64 rfl) ly45 (inb_vp c3) dX9_isToward_23 ?_
        refine R_iconst (pc := 24) hC dX9_isToward_24 ki_3 ?_
        refine R_icmp_eq (tgt := 31) (pc := 25) hC dX9_isToward_25 (by decide) (fun c => ?_) (fun c => ?_)
        · replace hg := (if_pos c).symm.trans hg
          refine R_aload_n (pc := 31) hC 0 dX9_isToward_31 rfl rfl ?_
          refine R_iload_n (pc := 32) hC 1 dX9_isToward_32 rfl rfl ?_
          refine R_iconst (pc := 33) hC dX9_isToward_33 ki_1 ?_
          refine R_iload_n (pc := 34) hC 3 dX9_isToward_34 rfl rfl ?_
          refine R_ishl (pc := 35) hC dX9_isToward_35 ?_
          refine R_iconst (pc := 36) hC dX9_isToward_36 ki_m1 ?_
          refine R_ixor (pc := 37) hC dX9_isToward_37 ?_
          refine R_iand (pc := 38) hC dX9_isToward_38 ?_
          obtain ⟨q4, hq4, hg⟩ := bind_some hg
          refine R_callV (pc := 39) (av := [.int (a1 &&& (((1 : Int32) <<< (y1 &&& 31)) ^^^ (-1)))]) (rest := []) hC hR 43 (jx hn64 rfl) ly43 rfl mf_X9_partsOf wm_X9_168 (LX9_partsOf hn64 hq4) rfl rfl rfl (Nat.le_of_ble_eq_true rfl) dX9_isToward_39 rfl ?_
          show RX K 42 [(0, .ref 43), (1, .int a1), (2, .int a2), (3, .int y1)] [.int q4.1] q4.2
          refine R_pop (pc := 42) hC dX9_isToward_42 rfl ?_
          refine R_aload_n (pc := 43) hC 0 dX9_isToward_43 rfl rfl ?_
          refine gf_X9_53 (pc := 44) hC hn64 dX9_isToward_44 ?_
          refine R_aload_n (pc := 47) hC 0 dX9_isToward_47 rfl rfl ?_
          refine gf_X9_19 (pc := 48) hC hn64 dX9_isToward_48 ?_
          refine R_iload_n (pc := 51) hC 3 dX9_isToward_51 rfl rfl ?_
          obtain ⟨c5, hg⟩ := chk_some hg
          refine R_iaload (pc := 52) hC 47 (jx hn64 rfl) ly47 (inb_vp c5) dX9_isToward_52 ?_
          obtain ⟨c6, hg⟩ := chk_some hg
          refine R_iaload (pc := 53) hC 57 (jx hn64 rfl) ly57 (inb_vp c6) dX9_isToward_53 ?_
          refine R_aload_n (pc := 54) hC 0 dX9_isToward_54 rfl rfl ?_
          refine gf_X9_53 (pc := 55) hC hn64 dX9_isToward_55 ?_
          refine R_iload_n (pc := 58) hC 2 dX9_isToward_58 rfl rfl ?_
          obtain ⟨c7, hg⟩ := chk_some hg
          refine R_iaload (pc := 59) hC 57 (jx hn64 rfl) ly57 (inb_vp c7) dX9_isToward_59 ?_
          refine R_icmp_eq (tgt := 65) (pc := 60) hC dX9_isToward_60 (by decide) (fun c => ?_) (fun c => ?_)
          · replace hg := (if_pos c).symm.trans hg
            refine R_iinc (pc := 65) hC 3 dX9_isToward_65 rfl (iv ki_1) hL rfl (show _ = [(3, .int (y1 + 1)), (0, .ref 43), (1, .int a1), (2, .int a2)] from rfl) ?_
            refine R_goto (tgt := 2) (pc := 68) hC dX9_isToward_68 (by decide) ?_
            refine R_pick [1, 2, 3, 0] (ls' := [(0, .ref 43), (1, .int a1), (2, .int a2), (3, .int (y1 + 1))]) rfl ?_
            have h9 := kL2 _ (Option.some.inj hg).symm
            exact h9
          · replace hg := (if_neg c).symm.trans hg
            refine R_iconst (pc := 63) hC dX9_isToward_63 ki_0 ?_
            have h9 := kE2 _ (Option.some.inj hg).symm
            exact R_ireturn (pc := 64) hC dX9_isToward_64 h9
        · replace hg := (if_neg c).symm.trans hg
          refine R_goto (tgt := 65) (pc := 28) hC dX9_isToward_28 (by decide) ?_
          refine R_iinc (pc := 65) hC 3 dX9_isToward_65 rfl (iv ki_1) hL rfl (show _ = [(3, .int (y1 + 1)), (0, .ref 43), (1, .int a1), (2, .int a2)] from rfl) ?_
          refine R_goto (tgt := 2) (pc := 68) hC dX9_isToward_68 (by decide) ?_
          refine R_pick [1, 2, 3, 0] (ls' := [(0, .ref 43), (1, .int a1), (2, .int a2), (3, .int (y1 + 1))]) rfl ?_
          have h9 := kL2 _ (Option.some.inj hg).symm
          exact h9
  · rcases e8 with s10 | q
    · replace hg := (Sum.elim_inl _ _ _).symm.trans hg
      show RX K 71 [(0, .ref 43), (1, .int a1), (2, .int a2), (3, .int s10.1)] [] s10.2
      refine R_iconst (pc := 71) hC dX9_isToward_71 ki_1 ?_
      have h9 := gxZM hg
      exact R_ireturn (pc := 72) hC dX9_isToward_72 h9
    · replace hg := (Sum.elim_inr _ _ _).symm.trans hg
      exact gxZM hg
theorem dX9_toward_0 : decode cX9_toward 0 = .ok (.aload_n 0, 1) := by decide +kernel
theorem dX9_toward_1 : decode cX9_toward 1 = .ok (.iload_n 1, 1) := by decide +kernel
theorem dX9_toward_2 : decode cX9_toward 2 = .ok (.invokevirtual 113, 3) := by decide +kernel
theorem dX9_toward_5 : decode cX9_toward 5 = .ok (.ifCond .ne 9, 3) := by decide +kernel
theorem dX9_toward_8 : decode cX9_toward 8 = .ok (.aload_n 0, 1) := by decide +kernel
theorem dX9_toward_9 : decode cX9_toward 9 = .ok (.iconst (-1), 1) := by decide +kernel
theorem dX9_toward_10 : decode cX9_toward 10 = .ok (.invokevirtual 204, 3) := by decide +kernel
theorem dX9_toward_13 : decode cX9_toward 13 = .ok (.lreturn, 1) := by decide +kernel
theorem dX9_toward_14 : decode cX9_toward 14 = .ok (.iload_n 2, 1) := by decide +kernel
theorem dX9_toward_15 : decode cX9_toward 15 = .ok (.iconst 0, 1) := by decide +kernel
theorem dX9_toward_16 : decode cX9_toward 16 = .ok (.iconst 1, 1) := by decide +kernel
theorem dX9_toward_17 : decode cX9_toward 17 = .ok (.invokestatic 98, 3) := by decide +kernel
theorem dX9_toward_20 : decode cX9_toward 20 = .ok (.ifCond .ne 10, 3) := by decide +kernel
theorem dX9_toward_23 : decode cX9_toward 23 = .ok (.aload_n 0, 1) := by decide +kernel
theorem dX9_toward_24 : decode cX9_toward 24 = .ok (.bipush (-2), 2) := by decide +kernel
theorem dX9_toward_26 : decode cX9_toward 26 = .ok (.invokevirtual 204, 3) := by decide +kernel
theorem dX9_toward_29 : decode cX9_toward 29 = .ok (.lreturn, 1) := by decide +kernel
theorem dX9_toward_30 : decode cX9_toward 30 = .ok (.aload_n 0, 1) := by decide +kernel
theorem dX9_toward_31 : decode cX9_toward 31 = .ok (.invokevirtual 193, 3) := by decide +kernel
theorem dX9_toward_34 : decode cX9_toward 34 = .ok (.lconst 0, 1) := by decide +kernel
theorem dX9_toward_35 : decode cX9_toward 35 = .ok (.lstore_n 3, 1) := by decide +kernel
theorem dX9_toward_36 : decode cX9_toward 36 = .ok (.iconst 0, 1) := by decide +kernel
theorem dX9_toward_37 : decode cX9_toward 37 = .ok (.istore 5, 2) := by decide +kernel
theorem dX9_toward_39 : decode cX9_toward 39 = .ok (.iload 5, 2) := by decide +kernel
theorem dX9_toward_41 : decode cX9_toward 41 = .ok (.aload_n 0, 1) := by decide +kernel
theorem dX9_toward_42 : decode cX9_toward 42 = .ok (.getfield 183, 3) := by decide +kernel
theorem dX9_toward_45 : decode cX9_toward 45 = .ok (.if_icmp .ge 46, 3) := by decide +kernel
theorem dX9_toward_48 : decode cX9_toward 48 = .ok (.lload_n 3, 1) := by decide +kernel
theorem dX9_toward_49 : decode cX9_toward 49 = .ok (.aload_n 0, 1) := by decide +kernel
theorem dX9_toward_50 : decode cX9_toward 50 = .ok (.aload_n 0, 1) := by decide +kernel
theorem dX9_toward_51 : decode cX9_toward 51 = .ok (.getfield 56, 3) := by decide +kernel
theorem dX9_toward_54 : decode cX9_toward 54 = .ok (.iload 5, 2) := by decide +kernel
theorem dX9_toward_56 : decode cX9_toward 56 = .ok (.iaload, 1) := by decide +kernel
theorem dX9_toward_57 : decode cX9_toward 57 = .ok (.iload_n 1, 1) := by decide +kernel
theorem dX9_toward_58 : decode cX9_toward 58 = .ok (.invokevirtual 228, 3) := by decide +kernel
theorem dX9_toward_61 : decode cX9_toward 61 = .ok (.ifCond .eq 21, 3) := by decide +kernel
theorem dX9_toward_64 : decode cX9_toward 64 = .ok (.iload_n 2, 1) := by decide +kernel
theorem dX9_toward_65 : decode cX9_toward 65 = .ok (.ifCond .ne 7, 3) := by decide +kernel
theorem dX9_toward_68 : decode cX9_toward 68 = .ok (.lconst 1, 1) := by decide +kernel
theorem dX9_toward_69 : decode cX9_toward 69 = .ok (.goto 14, 3) := by decide +kernel
theorem dX9_toward_72 : decode cX9_toward 72 = .ok (.aload_n 0, 1) := by decide +kernel
theorem dX9_toward_73 : decode cX9_toward 73 = .ok (.getfield 59, 3) := by decide +kernel
theorem dX9_toward_76 : decode cX9_toward 76 = .ok (.iload 5, 2) := by decide +kernel
theorem dX9_toward_78 : decode cX9_toward 78 = .ok (.laload, 1) := by decide +kernel
theorem dX9_toward_79 : decode cX9_toward 79 = .ok (.goto 4, 3) := by decide +kernel
theorem dX9_toward_82 : decode cX9_toward 82 = .ok (.lconst 0, 1) := by decide +kernel
theorem dX9_toward_83 : decode cX9_toward 83 = .ok (.ladd, 1) := by decide +kernel
theorem dX9_toward_84 : decode cX9_toward 84 = .ok (.lstore_n 3, 1) := by decide +kernel
theorem dX9_toward_85 : decode cX9_toward 85 = .ok (.iinc 5 1, 3) := by decide +kernel
theorem dX9_toward_88 : decode cX9_toward 88 = .ok (.goto (-49), 3) := by decide +kernel
theorem dX9_toward_91 : decode cX9_toward 91 = .ok (.lload_n 3, 1) := by decide +kernel
theorem dX9_toward_92 : decode cX9_toward 92 = .ok (.lreturn, 1) := by decide +kernel
def bX9_toward_39 (F : Nat) (a1 : Int32) (a2 : Int32) : (Int64 × Int32 × Mem) → Option ((Int64 × Int32 × Mem) ⊕ (Int64 × Int32 × Mem))
  | (y4, y5, m6) => (if (m6.1 43 24) ≤ y5 then some (.inr (y4, y5, m6)) else chk (inb y5 1024) ((gX9_isToward F m6 (m6.1 58 (Int32.toNatClampNeg y5)) a1).bind (fun q8 => (if q8.1 = true then (if a2 = 0 then lete (y4 + 1) (fun x12 => some (.inl (x12, y5 + 1, q8.2))) else chk (inb y5 1024) (lete (y4 + (q8.2.2 59 (Int32.toNatClampNeg y5))) (fun x11 => some (.inl (x11, y5 + 1, q8.2))))) else lete (y4 + 0) (fun x9 => some (.inl (x9, y5 + 1, q8.2)))))))
def gX9_toward (F : Nat) (m : Mem) (a1 : Int32) (a2 : Int32) : Option (Int64 × Mem) := (gX9_isHouse m a1).bind (fun x1 => (if x1 = true then (gX9_isIn a2 0 1).bind (fun x2 => (if x2 = true then (gX9_findWays F m).bind (fun q3 => (iter F (bX9_toward_39 F a1 a2) (0, 0, q3)).bind (fun e13 => some (e13.1, e13.2.2))) else (gX9_lowest m (-2)).bind (fun q15 => some (q15.1, q15.2)))) else (gX9_lowest m (-1)).bind (fun q16 => some (q16.1, q16.2))))
set_option maxHeartbeats 4000000 in
set_option maxRecDepth 20000 in
theorem LX9_toward {n : Nat} {F : Nat} {m : Mem} {a1 : Int32} {a2 : Int32} {r : Int64 × Mem} (hn64 : 64 ≤ n) (hg : gX9_toward F m a1 a2 = some r) : MX yX9_toward cX9_toward 6 (some .long) { frames := 4, cells := 0, slots := 0, locals := 90 } n [.ref 43, .int a1, .int a2] m (some (.long r.1)) r.2 := by
  refine MX_of (by decide) (Nat.le_of_ble_eq_true rfl) (Or.inr (Or.inr (Or.inl ⟨rfl, _, rfl⟩))) (fun K hC hk hL hR => ?_)
  replace hn64 : 64 ≤ kn K := hk.symm ▸ hn64
  show RX K 0 [(0, .ref 43), (1, .int a1), (2, .int a2)] [] m
  rw [gX9_toward] at hg
  refine R_aload_n (pc := 0) hC 0 dX9_toward_0 rfl rfl ?_
  refine R_iload_n (pc := 1) hC 1 dX9_toward_1 rfl rfl ?_
  obtain ⟨x1, hx1, hg⟩ := bind_some hg
  refine R_callV (pc := 2) (av := [.int a1]) (rest := []) hC hR 43 (jx hn64 rfl) ly43 rfl mf_X9_isHouse wm_X9_113 (LX9_isHouse hn64 hx1) rfl rfl rfl (Nat.le_of_ble_eq_true rfl) dX9_toward_2 rfl ?_
  show RX K 5 [(0, .ref 43), (1, .int a1), (2, .int a2)] [.int (b2i x1)] m
  refine R_ifB_ne (tgt := 14) (pc := 5) hC dX9_toward_5 (by decide) (fun c => ?_) (fun c => ?_)
  · replace hg := (if_pos c).symm.trans hg
    refine R_iload_n (pc := 14) hC 2 dX9_toward_14 rfl rfl ?_
    refine R_iconst (pc := 15) hC dX9_toward_15 ki_0 ?_
    refine R_iconst (pc := 16) hC dX9_toward_16 ki_1 ?_
    obtain ⟨x2, hx2, hg⟩ := bind_some hg
    refine R_callS (pc := 17) (av := [.int a2, .int 0, .int 1]) (rest := []) hC hR mf_X9_isIn wm_X9_98 (LX9_isIn hn64 hx2) rfl rfl rfl (Nat.le_of_ble_eq_true rfl) dX9_toward_17 rfl ?_
    show RX K 20 [(0, .ref 43), (1, .int a1), (2, .int a2)] [.int (b2i x2)] m
    refine R_ifB_ne (tgt := 30) (pc := 20) hC dX9_toward_20 (by decide) (fun c => ?_) (fun c => ?_)
    · replace hg := (if_pos c).symm.trans hg
      refine R_aload_n (pc := 30) hC 0 dX9_toward_30 rfl rfl ?_
      obtain ⟨q3, hq3, hg⟩ := bind_some hg
      refine R_callV (pc := 31) (av := []) (rest := []) hC hR 43 (jx hn64 rfl) ly43 rfl mf_X9_findWays wm_X9_193 (LX9_findWays hn64 hq3) rfl rfl rfl (Nat.le_of_ble_eq_true rfl) dX9_toward_31 rfl ?_
      show RX K 34 [(0, .ref 43), (1, .int a1), (2, .int a2)] [] q3
      refine R_lconst (pc := 34) hC dX9_toward_34 kl_0 ?_
      refine R_lstore_n (pc := 35) hC dX9_toward_35 rfl hL rfl (show _ = [(3, .long 0), (0, .ref 43), (1, .int a1), (2, .int a2)] from rfl) ?_
      refine R_iconst (pc := 36) hC dX9_toward_36 ki_0 ?_
      refine R_istore (pc := 37) hC dX9_toward_37 hL rfl (show _ = [(5, .int 0), (3, .long 0), (0, .ref 43), (1, .int a1), (2, .int a2)] from rfl) ?_
      refine R_pick [2, 3, 4, 1, 0] (ls' := [(0, .ref 43), (1, .int a1), (2, .int a2), (3, .long 0), (5, .int 0)]) rfl ?_
      obtain ⟨e13, he13, hg⟩ := bind_some hg
      refine iter_walk (P := fun s : (Int64 × Int32 × Mem) => RX K 39 [(0, .ref 43), (1, .int a1), (2, .int a2), (3, .long s.1), (5, .int s.2.1)] [] s.2.2) (Qe := fun s : (Int64 × Int32 × Mem) => RX K 91 [(0, .ref 43), (1, .int a1), (2, .int a2), (3, .long s.1), (5, .int s.2.1)] [] s.2.2) (fun s14 o hg kL39 kE39 => ?_) _ _ _ he13 ?_
      · obtain ⟨y4, y5, m6⟩ := s14
        rw [bX9_toward_39] at hg
        show RX K 39 [(0, .ref 43), (1, .int a1), (2, .int a2), (3, .long y4), (5, .int y5)] [] m6
        refine R_iload (pc := 39) hC 4 dX9_toward_39 rfl ?_
        refine R_aload_n (pc := 41) hC 0 dX9_toward_41 rfl rfl ?_
        refine gf_X9_183 (pc := 42) hC hn64 dX9_toward_42 ?_
        refine R_icmp_ge (tgt := 91) (pc := 45) hC dX9_toward_45 (by decide) (fun c => ?_) (fun c => ?_)
        · replace hg := (if_pos c).symm.trans hg
          refine R_pick [0, 1, 2, 3, 4] (ls' := [(0, .ref 43), (1, .int a1), (2, .int a2), (3, .long y4), (5, .int y5)]) rfl ?_
          have h9 := kE39 _ (Option.some.inj hg).symm
          exact h9
        · replace hg := (if_neg c).symm.trans hg
          refine R_lload_n (pc := 48) hC 3 dX9_toward_48 rfl rfl ?_
          refine R_aload_n (pc := 49) hC 0 dX9_toward_49 rfl rfl ?_
          refine R_aload_n (pc := 50) hC 0 dX9_toward_50 rfl rfl ?_
          refine gf_X9_56 (pc := 51) hC hn64 dX9_toward_51 ?_
          refine R_iload (pc := 54) hC 4 dX9_toward_54 rfl ?_
          obtain ⟨c7, hg⟩ := chk_some hg
          refine R_iaload (pc := 56) hC 58 (jx hn64 rfl) ly58 (inb_vp c7) dX9_toward_56 ?_
          refine R_iload_n (pc := 57) hC 1 dX9_toward_57 rfl rfl ?_
          obtain ⟨q8, hq8, hg⟩ := bind_some hg
          refine R_callV (pc := 58) (av := [.int (m6.1 58 (Int32.toNatClampNeg y5)), .int a1]) (rest := [.long y4]) hC hR 43 (jx hn64 rfl) ly43 rfl mf_X9_isToward wm_X9_228 (LX9_isToward hn64 hq8) rfl rfl rfl (Nat.le_of_ble_eq_true rfl) dX9_toward_58 rfl ?_
          show RX K 61 [(0, .ref 43), (1, .int a1), (2, .int a2), (3, .long y4), (5, .int y5)] [.int (b2i q8.1), .long y4] q8.2
          refine R_ifB_eq (tgt := 82) (pc := 61) hC dX9_toward_61 (by decide) (fun c => ?_) (fun c => ?_)
          · replace hg := (if_neg c).symm.trans hg
            refine R_lconst (pc := 82) hC dX9_toward_82 kl_0 ?_
            refine R_ladd (pc := 83) hC dX9_toward_83 ?_
            obtain ⟨x9, hx9, hg⟩ := lete_some hg
            refine R_topL hx9 ?_
            refine R_lstore_n (pc := 84) hC dX9_toward_84 rfl hL rfl (show _ = [(3, .long x9), (0, .ref 43), (1, .int a1), (2, .int a2), (5, .int y5)] from rfl) ?_
            refine R_iinc (pc := 85) hC 4 dX9_toward_85 rfl (iv ki_1) hL rfl (show _ = [(5, .int (y5 + 1)), (3, .long x9), (0, .ref 43), (1, .int a1), (2, .int a2)] from rfl) ?_
            refine R_goto (tgt := 39) (pc := 88) hC dX9_toward_88 (by decide) ?_
            refine R_pick [2, 3, 4, 1, 0] (ls' := [(0, .ref 43), (1, .int a1), (2, .int a2), (3, .long x9), (5, .int (y5 + 1))]) rfl ?_
            have h9 := kL39 _ (Option.some.inj hg).symm
            exact h9
          · replace hg := (if_pos c).symm.trans hg
            refine R_iload_n (pc := 64) hC 2 dX9_toward_64 rfl rfl ?_
            refine R_if_ne (tgt := 72) (pc := 65) hC dX9_toward_65 (by decide) (fun c => ?_) (fun c => ?_)
            · replace hg := (if_neg c).symm.trans hg
              refine R_aload_n (pc := 72) hC 0 dX9_toward_72 rfl rfl ?_
              refine gf_X9_59 (pc := 73) hC hn64 dX9_toward_73 ?_
              refine R_iload (pc := 76) hC 4 dX9_toward_76 rfl ?_
              obtain ⟨c10, hg⟩ := chk_some hg
              refine R_laload (pc := 78) hC 59 (jx hn64 rfl) ly59 (inb_vp c10) dX9_toward_78 ?_
              refine R_goto (tgt := 83) (pc := 79) hC dX9_toward_79 (by decide) ?_
              refine R_ladd (pc := 83) hC dX9_toward_83 ?_
              obtain ⟨x11, hx11, hg⟩ := lete_some hg
              refine R_topL hx11 ?_
              refine R_lstore_n (pc := 84) hC dX9_toward_84 rfl hL rfl (show _ = [(3, .long x11), (0, .ref 43), (1, .int a1), (2, .int a2), (5, .int y5)] from rfl) ?_
              refine R_iinc (pc := 85) hC 4 dX9_toward_85 rfl (iv ki_1) hL rfl (show _ = [(5, .int (y5 + 1)), (3, .long x11), (0, .ref 43), (1, .int a1), (2, .int a2)] from rfl) ?_
              refine R_goto (tgt := 39) (pc := 88) hC dX9_toward_88 (by decide) ?_
              refine R_pick [2, 3, 4, 1, 0] (ls' := [(0, .ref 43), (1, .int a1), (2, .int a2), (3, .long x11), (5, .int (y5 + 1))]) rfl ?_
              have h9 := kL39 _ (Option.some.inj hg).symm
              exact h9
            · replace hg := (if_pos c).symm.trans hg
              refine R_lconst (pc := 68) hC dX9_toward_68 kl_1 ?_
              refine R_goto (tgt := 83) (pc := 69) hC dX9_toward_69 (by decide) ?_
              refine R_ladd (pc := 83) hC dX9_toward_83 ?_
              obtain ⟨x12, hx12, hg⟩ := lete_some hg
              refine R_topL hx12 ?_
              refine R_lstore_n (pc := 84) hC dX9_toward_84 rfl hL rfl (show _ = [(3, .long x12), (0, .ref 43), (1, .int a1), (2, .int a2), (5, .int y5)] from rfl) ?_
              refine R_iinc (pc := 85) hC 4 dX9_toward_85 rfl (iv ki_1) hL rfl (show _ = [(5, .int (y5 + 1)), (3, .long x12), (0, .ref 43), (1, .int a1), (2, .int a2)] from rfl) ?_
              refine R_goto (tgt := 39) (pc := 88) hC dX9_toward_88 (by decide) ?_
              refine R_pick [2, 3, 4, 1, 0] (ls' := [(0, .ref 43), (1, .int a1), (2, .int a2), (3, .long x12), (5, .int (y5 + 1))]) rfl ?_
              have h9 := kL39 _ (Option.some.inj hg).symm
              exact h9
      · show RX K 91 [(0, .ref 43), (1, .int a1), (2, .int a2), (3, .long e13.1), (5, .int e13.2.1)] [] e13.2.2
        refine R_lload_n (pc := 91) hC 3 dX9_toward_91 rfl rfl ?_
        have h9 := gxJM hg
        exact R_lreturn (pc := 92) hC dX9_toward_92 h9
    · replace hg := (if_neg c).symm.trans hg
      refine R_aload_n (pc := 23) hC 0 dX9_toward_23 rfl rfl ?_
      refine R_bipush (pc := 24) hC dX9_toward_24 kb_m2 ?_
      obtain ⟨q15, hq15, hg⟩ := bind_some hg
      refine R_callV (pc := 26) (av := [.int (-2)]) (rest := []) hC hR 43 (jx hn64 rfl) ly43 rfl mf_X9_lowest wm_X9_204 (LX9_lowest hn64 hq15) rfl rfl rfl (Nat.le_of_ble_eq_true rfl) dX9_toward_26 rfl ?_
      show RX K 29 [(0, .ref 43), (1, .int a1), (2, .int a2)] [.long q15.1] q15.2
      have h9 := gxJM hg
      exact R_lreturn (pc := 29) hC dX9_toward_29 h9
  · replace hg := (if_neg c).symm.trans hg
    refine R_aload_n (pc := 8) hC 0 dX9_toward_8 rfl rfl ?_
    refine R_iconst (pc := 9) hC dX9_toward_9 ki_m1 ?_
    obtain ⟨q16, hq16, hg⟩ := bind_some hg
    refine R_callV (pc := 10) (av := [.int (-1)]) (rest := []) hC hR 43 (jx hn64 rfl) ly43 rfl mf_X9_lowest wm_X9_204 (LX9_lowest hn64 hq16) rfl rfl rfl (Nat.le_of_ble_eq_true rfl) dX9_toward_10 rfl ?_
    show RX K 13 [(0, .ref 43), (1, .int a1), (2, .int a2)] [.long q16.1] q16.2
    have h9 := gxJM hg
    exact R_lreturn (pc := 13) hC dX9_toward_13 h9
theorem dX9_forests_0 : decode cX9_forests 0 = .ok (.iload_n 1, 1) := by decide +kernel
theorem dX9_forests_1 : decode cX9_forests 1 = .ok (.iconst 1, 1) := by decide +kernel
theorem dX9_forests_2 : decode cX9_forests 2 = .ok (.bipush 7, 2) := by decide +kernel
theorem dX9_forests_4 : decode cX9_forests 4 = .ok (.invokestatic 80, 3) := by decide +kernel
theorem dX9_forests_7 : decode cX9_forests 7 = .ok (.istore_n 2, 1) := by decide +kernel
theorem dX9_forests_8 : decode cX9_forests 8 = .ok (.iload_n 2, 1) := by decide +kernel
theorem dX9_forests_9 : decode cX9_forests 9 = .ok (.ifCond .eq 9, 3) := by decide +kernel
theorem dX9_forests_12 : decode cX9_forests 12 = .ok (.aload_n 0, 1) := by decide +kernel
theorem dX9_forests_13 : decode cX9_forests 13 = .ok (.iload_n 2, 1) := by decide +kernel
theorem dX9_forests_14 : decode cX9_forests 14 = .ok (.invokevirtual 87, 3) := by decide +kernel
theorem dX9_forests_17 : decode cX9_forests 17 = .ok (.ireturn, 1) := by decide +kernel
theorem dX9_forests_18 : decode cX9_forests 18 = .ok (.iconst 0, 1) := by decide +kernel
theorem dX9_forests_19 : decode cX9_forests 19 = .ok (.istore_n 3, 1) := by decide +kernel
theorem dX9_forests_20 : decode cX9_forests 20 = .ok (.iconst 0, 1) := by decide +kernel
theorem dX9_forests_21 : decode cX9_forests 21 = .ok (.istore 4, 2) := by decide +kernel
theorem dX9_forests_23 : decode cX9_forests 23 = .ok (.iload 4, 2) := by decide +kernel
theorem dX9_forests_25 : decode cX9_forests 25 = .ok (.aload_n 0, 1) := by decide +kernel
theorem dX9_forests_26 : decode cX9_forests 26 = .ok (.invokevirtual 162, 3) := by decide +kernel
theorem dX9_forests_29 : decode cX9_forests 29 = .ok (.if_icmp .gt 36, 3) := by decide +kernel
theorem dX9_forests_32 : decode cX9_forests 32 = .ok (.iload_n 3, 1) := by decide +kernel
theorem dX9_forests_33 : decode cX9_forests 33 = .ok (.aload_n 0, 1) := by decide +kernel
theorem dX9_forests_34 : decode cX9_forests 34 = .ok (.iload 4, 2) := by decide +kernel
theorem dX9_forests_36 : decode cX9_forests 36 = .ok (.invokevirtual 180, 3) := by decide +kernel
theorem dX9_forests_39 : decode cX9_forests 39 = .ok (.ifCond .eq 17, 3) := by decide +kernel
theorem dX9_forests_42 : decode cX9_forests 42 = .ok (.aload_n 0, 1) := by decide +kernel
theorem dX9_forests_43 : decode cX9_forests 43 = .ok (.iload 4, 2) := by decide +kernel
theorem dX9_forests_45 : decode cX9_forests 45 = .ok (.iload_n 1, 1) := by decide +kernel
theorem dX9_forests_46 : decode cX9_forests 46 = .ok (.invokevirtual 177, 3) := by decide +kernel
theorem dX9_forests_49 : decode cX9_forests 49 = .ok (.ifCond .eq 7, 3) := by decide +kernel
theorem dX9_forests_52 : decode cX9_forests 52 = .ok (.iconst 1, 1) := by decide +kernel
theorem dX9_forests_53 : decode cX9_forests 53 = .ok (.goto 4, 3) := by decide +kernel
theorem dX9_forests_56 : decode cX9_forests 56 = .ok (.iconst 0, 1) := by decide +kernel
theorem dX9_forests_57 : decode cX9_forests 57 = .ok (.iadd, 1) := by decide +kernel
theorem dX9_forests_58 : decode cX9_forests 58 = .ok (.istore_n 3, 1) := by decide +kernel
theorem dX9_forests_59 : decode cX9_forests 59 = .ok (.iinc 4 1, 3) := by decide +kernel
theorem dX9_forests_62 : decode cX9_forests 62 = .ok (.goto (-39), 3) := by decide +kernel
theorem dX9_forests_65 : decode cX9_forests 65 = .ok (.iload_n 3, 1) := by decide +kernel
theorem dX9_forests_66 : decode cX9_forests 66 = .ok (.ireturn, 1) := by decide +kernel
def bX9_forests_23 (F : Nat) (a1 : Int32) : (Int32 × Int32 × Mem) → Option ((Int32 × Int32 × Mem) ⊕ (Int32 × Int32 × Mem))
  | (y2, y3, m4) => (gX9_allLanes m4).bind (fun x5 => (if x5 < y3 then some (.inr (y2, y3, m4)) else (gX9_isRuled F m4 y3).bind (fun x6 => (if x6 = true then (gX9_isForest F m4 y3 a1).bind (fun q8 => (if q8.1 = true then lete (y2 + 1) (fun x10 => some (.inl (x10, y3 + 1, q8.2))) else lete (y2 + 0) (fun x9 => some (.inl (x9, y3 + 1, q8.2))))) else lete (y2 + 0) (fun x7 => some (.inl (x7, y3 + 1, m4)))))))
def gX9_forests (F : Nat) (m : Mem) (a1 : Int32) : Option (Int32 × Mem) := (gX9_bound a1 1 7).bind (fun x1 => (if x1 = 0 then (iter F (bX9_forests_23 F a1) (0, 0, m)).bind (fun e11 => some (e11.1, e11.2.2)) else (gX9_no m x1).bind (fun q13 => some (q13.1, q13.2))))
set_option maxHeartbeats 4000000 in
set_option maxRecDepth 20000 in
theorem LX9_forests {n : Nat} {F : Nat} {m : Mem} {a1 : Int32} {r : Int32 × Mem} (hn64 : 64 ≤ n) (hg : gX9_forests F m a1 = some r) : MX yX9_forests cX9_forests 5 (some .int) { frames := 2, cells := 0, slots := 0, locals := 48 } n [.ref 43, .int a1] m (some (.int r.1)) r.2 := by
  refine MX_of (by decide) (Nat.le_of_ble_eq_true rfl) (Or.inr (Or.inl ⟨rfl, _, rfl⟩)) (fun K hC hk hL hR => ?_)
  replace hn64 : 64 ≤ kn K := hk.symm ▸ hn64
  show RX K 0 [(0, .ref 43), (1, .int a1)] [] m
  rw [gX9_forests] at hg
  refine R_iload_n (pc := 0) hC 1 dX9_forests_0 rfl rfl ?_
  refine R_iconst (pc := 1) hC dX9_forests_1 ki_1 ?_
  refine R_bipush (pc := 2) hC dX9_forests_2 kb_7 ?_
  obtain ⟨x1, hx1, hg⟩ := bind_some hg
  refine R_callS (pc := 4) (av := [.int a1, .int 1, .int 7]) (rest := []) hC hR mf_X9_bound wm_X9_80 (LX9_bound hn64 hx1) rfl rfl rfl (Nat.le_of_ble_eq_true rfl) dX9_forests_4 rfl ?_
  show RX K 7 [(0, .ref 43), (1, .int a1)] [.int x1] m
  refine R_istore_n (pc := 7) hC dX9_forests_7 rfl hL rfl (show _ = [(2, .int x1), (0, .ref 43), (1, .int a1)] from rfl) ?_
  refine R_iload_n (pc := 8) hC 0 dX9_forests_8 rfl rfl ?_
  refine R_if_eq (tgt := 18) (pc := 9) hC dX9_forests_9 (by decide) (fun c => ?_) (fun c => ?_)
  · replace hg := (if_pos c).symm.trans hg
    refine R_iconst (pc := 18) hC dX9_forests_18 ki_0 ?_
    refine R_istore_n (pc := 19) hC dX9_forests_19 rfl hL rfl (show _ = [(3, .int 0), (2, .int x1), (0, .ref 43), (1, .int a1)] from rfl) ?_
    refine R_iconst (pc := 20) hC dX9_forests_20 ki_0 ?_
    refine R_istore (pc := 21) hC dX9_forests_21 hL rfl (show _ = [(4, .int 0), (3, .int 0), (2, .int x1), (0, .ref 43), (1, .int a1)] from rfl) ?_
    refine R_pick [3, 4, 2, 1, 0] (ls' := [(0, .ref 43), (1, .int a1), (2, .int x1), (3, .int 0), (4, .int 0)]) rfl ?_
    obtain ⟨e11, he11, hg⟩ := bind_some hg
    refine iter_walk (P := fun s : (Int32 × Int32 × Mem) => RX K 23 [(0, .ref 43), (1, .int a1), (2, .int x1), (3, .int s.1), (4, .int s.2.1)] [] s.2.2) (Qe := fun s : (Int32 × Int32 × Mem) => RX K 65 [(0, .ref 43), (1, .int a1), (2, .int x1), (3, .int s.1), (4, .int s.2.1)] [] s.2.2) (fun s12 o hg kL23 kE23 => ?_) _ _ _ he11 ?_
    · obtain ⟨y2, y3, m4⟩ := s12
      rw [bX9_forests_23] at hg
      show RX K 23 [(0, .ref 43), (1, .int a1), (2, .int x1), (3, .int y2), (4, .int y3)] [] m4
      refine R_iload (pc := 23) hC 4 dX9_forests_23 rfl ?_
      refine R_aload_n (pc := 25) hC 0 dX9_forests_25 rfl rfl ?_
      obtain ⟨x5, hx5, hg⟩ := bind_some hg
      refine R_callV (pc := 26) (av := []) (rest := [.int y3]) hC hR 43 (jx hn64 rfl) ly43 rfl mf_X9_allLanes wm_X9_162 (LX9_allLanes hn64 hx5) rfl rfl rfl (Nat.le_of_ble_eq_true rfl) dX9_forests_26 rfl ?_
      show RX K 29 [(0, .ref 43), (1, .int a1), (2, .int x1), (3, .int y2), (4, .int y3)] [.int x5, .int y3] m4
      refine R_icmp_gt (tgt := 65) (pc := 29) hC dX9_forests_29 (by decide) (fun c => ?_) (fun c => ?_)
      · replace hg := (if_pos c).symm.trans hg
        refine R_pick [0, 1, 2, 3, 4] (ls' := [(0, .ref 43), (1, .int a1), (2, .int x1), (3, .int y2), (4, .int y3)]) rfl ?_
        have h9 := kE23 _ (Option.some.inj hg).symm
        exact h9
      · replace hg := (if_neg c).symm.trans hg
        refine R_iload_n (pc := 32) hC 3 dX9_forests_32 rfl rfl ?_
        refine R_aload_n (pc := 33) hC 0 dX9_forests_33 rfl rfl ?_
        refine R_iload (pc := 34) hC 4 dX9_forests_34 rfl ?_
        obtain ⟨x6, hx6, hg⟩ := bind_some hg
        refine R_callV (pc := 36) (av := [.int y3]) (rest := [.int y2]) hC hR 43 (jx hn64 rfl) ly43 rfl mf_X9_isRuled wm_X9_180 (LX9_isRuled hn64 hx6) rfl rfl rfl (Nat.le_of_ble_eq_true rfl) dX9_forests_36 rfl ?_
        show RX K 39 [(0, .ref 43), (1, .int a1), (2, .int x1), (3, .int y2), (4, .int y3)] [.int (b2i x6), .int y2] m4
        refine R_ifB_eq (tgt := 56) (pc := 39) hC dX9_forests_39 (by decide) (fun c => ?_) (fun c => ?_)
        · replace hg := (if_neg c).symm.trans hg
          refine R_iconst (pc := 56) hC dX9_forests_56 ki_0 ?_
          refine R_iadd (pc := 57) hC dX9_forests_57 ?_
          obtain ⟨x7, hx7, hg⟩ := lete_some hg
          refine R_top hx7 ?_
          refine R_istore_n (pc := 58) hC dX9_forests_58 rfl hL rfl (show _ = [(3, .int x7), (0, .ref 43), (1, .int a1), (2, .int x1), (4, .int y3)] from rfl) ?_
          refine R_iinc (pc := 59) hC 4 dX9_forests_59 rfl (iv ki_1) hL rfl (show _ = [(4, .int (y3 + 1)), (3, .int x7), (0, .ref 43), (1, .int a1), (2, .int x1)] from rfl) ?_
          refine R_goto (tgt := 23) (pc := 62) hC dX9_forests_62 (by decide) ?_
          refine R_pick [2, 3, 4, 1, 0] (ls' := [(0, .ref 43), (1, .int a1), (2, .int x1), (3, .int x7), (4, .int (y3 + 1))]) rfl ?_
          have h9 := kL23 _ (Option.some.inj hg).symm
          exact h9
        · replace hg := (if_pos c).symm.trans hg
          refine R_aload_n (pc := 42) hC 0 dX9_forests_42 rfl rfl ?_
          refine R_iload (pc := 43) hC 4 dX9_forests_43 rfl ?_
          refine R_iload_n (pc := 45) hC 1 dX9_forests_45 rfl rfl ?_
          obtain ⟨q8, hq8, hg⟩ := bind_some hg
          refine R_callV (pc := 46) (av := [.int y3, .int a1]) (rest := [.int y2]) hC hR 43 (jx hn64 rfl) ly43 rfl mf_X9_isForest wm_X9_177 (LX9_isForest hn64 hq8) rfl rfl rfl (Nat.le_of_ble_eq_true rfl) dX9_forests_46 rfl ?_
          show RX K 49 [(0, .ref 43), (1, .int a1), (2, .int x1), (3, .int y2), (4, .int y3)] [.int (b2i q8.1), .int y2] q8.2
          refine R_ifB_eq (tgt := 56) (pc := 49) hC dX9_forests_49 (by decide) (fun c => ?_) (fun c => ?_)
          · replace hg := (if_neg c).symm.trans hg
            refine R_iconst (pc := 56) hC dX9_forests_56 ki_0 ?_
            refine R_iadd (pc := 57) hC dX9_forests_57 ?_
            obtain ⟨x9, hx9, hg⟩ := lete_some hg
            refine R_top hx9 ?_
            refine R_istore_n (pc := 58) hC dX9_forests_58 rfl hL rfl (show _ = [(3, .int x9), (0, .ref 43), (1, .int a1), (2, .int x1), (4, .int y3)] from rfl) ?_
            refine R_iinc (pc := 59) hC 4 dX9_forests_59 rfl (iv ki_1) hL rfl (show _ = [(4, .int (y3 + 1)), (3, .int x9), (0, .ref 43), (1, .int a1), (2, .int x1)] from rfl) ?_
            refine R_goto (tgt := 23) (pc := 62) hC dX9_forests_62 (by decide) ?_
            refine R_pick [2, 3, 4, 1, 0] (ls' := [(0, .ref 43), (1, .int a1), (2, .int x1), (3, .int x9), (4, .int (y3 + 1))]) rfl ?_
            have h9 := kL23 _ (Option.some.inj hg).symm
            exact h9
          · replace hg := (if_pos c).symm.trans hg
            refine R_iconst (pc := 52) hC dX9_forests_52 ki_1 ?_
            refine R_goto (tgt := 57) (pc := 53) hC dX9_forests_53 (by decide) ?_
            refine R_iadd (pc := 57) hC dX9_forests_57 ?_
            obtain ⟨x10, hx10, hg⟩ := lete_some hg
            refine R_top hx10 ?_
            refine R_istore_n (pc := 58) hC dX9_forests_58 rfl hL rfl (show _ = [(3, .int x10), (0, .ref 43), (1, .int a1), (2, .int x1), (4, .int y3)] from rfl) ?_
            refine R_iinc (pc := 59) hC 4 dX9_forests_59 rfl (iv ki_1) hL rfl (show _ = [(4, .int (y3 + 1)), (3, .int x10), (0, .ref 43), (1, .int a1), (2, .int x1)] from rfl) ?_
            refine R_goto (tgt := 23) (pc := 62) hC dX9_forests_62 (by decide) ?_
            refine R_pick [2, 3, 4, 1, 0] (ls' := [(0, .ref 43), (1, .int a1), (2, .int x1), (3, .int x10), (4, .int (y3 + 1))]) rfl ?_
            have h9 := kL23 _ (Option.some.inj hg).symm
            exact h9
    · show RX K 65 [(0, .ref 43), (1, .int a1), (2, .int x1), (3, .int e11.1), (4, .int e11.2.1)] [] e11.2.2
      refine R_iload_n (pc := 65) hC 3 dX9_forests_65 rfl rfl ?_
      have h9 := gxIM hg
      exact R_ireturn (pc := 66) hC dX9_forests_66 h9
  · replace hg := (if_neg c).symm.trans hg
    refine R_aload_n (pc := 12) hC 1 dX9_forests_12 rfl rfl ?_
    refine R_iload_n (pc := 13) hC 0 dX9_forests_13 rfl rfl ?_
    obtain ⟨q13, hq13, hg⟩ := bind_some hg
    refine R_callV (pc := 14) (av := [.int x1]) (rest := []) hC hR 43 (jx hn64 rfl) ly43 rfl mf_X9_no wm_X9_87 (LX9_no hn64 hq13) rfl rfl rfl (Nat.le_of_ble_eq_true rfl) dX9_forests_14 rfl ?_
    show RX K 17 [(2, .int x1), (0, .ref 43), (1, .int a1)] [.int q13.1] q13.2
    have h9 := gxIM hg
    exact R_ireturn (pc := 17) hC dX9_forests_17 h9
theorem dX9_isOneEach_0 : decode cX9_isOneEach 0 = .ok (.iconst 0, 1) := by decide +kernel
theorem dX9_isOneEach_1 : decode cX9_isOneEach 1 = .ok (.istore_n 2, 1) := by decide +kernel
theorem dX9_isOneEach_2 : decode cX9_isOneEach 2 = .ok (.iconst 0, 1) := by decide +kernel
theorem dX9_isOneEach_3 : decode cX9_isOneEach 3 = .ok (.istore_n 3, 1) := by decide +kernel
theorem dX9_isOneEach_4 : decode cX9_isOneEach 4 = .ok (.iload_n 3, 1) := by decide +kernel
theorem dX9_isOneEach_5 : decode cX9_isOneEach 5 = .ok (.aload_n 0, 1) := by decide +kernel
theorem dX9_isOneEach_6 : decode cX9_isOneEach 6 = .ok (.getfield 34, 3) := by decide +kernel
theorem dX9_isOneEach_9 : decode cX9_isOneEach 9 = .ok (.if_icmp .ge 47, 3) := by decide +kernel
theorem dX9_isOneEach_12 : decode cX9_isOneEach 12 = .ok (.iload_n 1, 1) := by decide +kernel
theorem dX9_isOneEach_13 : decode cX9_isOneEach 13 = .ok (.iload_n 3, 1) := by decide +kernel
theorem dX9_isOneEach_14 : decode cX9_isOneEach 14 = .ok (.ishr, 1) := by decide +kernel
theorem dX9_isOneEach_15 : decode cX9_isOneEach 15 = .ok (.iconst 1, 1) := by decide +kernel
theorem dX9_isOneEach_16 : decode cX9_isOneEach 16 = .ok (.iand, 1) := by decide +kernel
theorem dX9_isOneEach_17 : decode cX9_isOneEach 17 = .ok (.ifCond .ne 6, 3) := by decide +kernel
theorem dX9_isOneEach_20 : decode cX9_isOneEach 20 = .ok (.goto 30, 3) := by decide +kernel
theorem dX9_isOneEach_23 : decode cX9_isOneEach 23 = .ok (.iload_n 2, 1) := by decide +kernel
theorem dX9_isOneEach_24 : decode cX9_isOneEach 24 = .ok (.aload_n 0, 1) := by decide +kernel
theorem dX9_isOneEach_25 : decode cX9_isOneEach 25 = .ok (.getfield 53, 3) := by decide +kernel
theorem dX9_isOneEach_28 : decode cX9_isOneEach 28 = .ok (.iload_n 3, 1) := by decide +kernel
theorem dX9_isOneEach_29 : decode cX9_isOneEach 29 = .ok (.iaload, 1) := by decide +kernel
theorem dX9_isOneEach_30 : decode cX9_isOneEach 30 = .ok (.ishr, 1) := by decide +kernel
theorem dX9_isOneEach_31 : decode cX9_isOneEach 31 = .ok (.iconst 1, 1) := by decide +kernel
theorem dX9_isOneEach_32 : decode cX9_isOneEach 32 = .ok (.iand, 1) := by decide +kernel
theorem dX9_isOneEach_33 : decode cX9_isOneEach 33 = .ok (.iconst 1, 1) := by decide +kernel
theorem dX9_isOneEach_34 : decode cX9_isOneEach 34 = .ok (.if_icmp .ne 5, 3) := by decide +kernel
theorem dX9_isOneEach_37 : decode cX9_isOneEach 37 = .ok (.iconst 0, 1) := by decide +kernel
theorem dX9_isOneEach_38 : decode cX9_isOneEach 38 = .ok (.ireturn, 1) := by decide +kernel
theorem dX9_isOneEach_39 : decode cX9_isOneEach 39 = .ok (.iload_n 2, 1) := by decide +kernel
theorem dX9_isOneEach_40 : decode cX9_isOneEach 40 = .ok (.iconst 1, 1) := by decide +kernel
theorem dX9_isOneEach_41 : decode cX9_isOneEach 41 = .ok (.aload_n 0, 1) := by decide +kernel
theorem dX9_isOneEach_42 : decode cX9_isOneEach 42 = .ok (.getfield 53, 3) := by decide +kernel
theorem dX9_isOneEach_45 : decode cX9_isOneEach 45 = .ok (.iload_n 3, 1) := by decide +kernel
theorem dX9_isOneEach_46 : decode cX9_isOneEach 46 = .ok (.iaload, 1) := by decide +kernel
theorem dX9_isOneEach_47 : decode cX9_isOneEach 47 = .ok (.ishl, 1) := by decide +kernel
theorem dX9_isOneEach_48 : decode cX9_isOneEach 48 = .ok (.ior, 1) := by decide +kernel
theorem dX9_isOneEach_49 : decode cX9_isOneEach 49 = .ok (.istore_n 2, 1) := by decide +kernel
theorem dX9_isOneEach_50 : decode cX9_isOneEach 50 = .ok (.iinc 3 1, 3) := by decide +kernel
theorem dX9_isOneEach_53 : decode cX9_isOneEach 53 = .ok (.goto (-49), 3) := by decide +kernel
theorem dX9_isOneEach_56 : decode cX9_isOneEach 56 = .ok (.iconst 1, 1) := by decide +kernel
theorem dX9_isOneEach_57 : decode cX9_isOneEach 57 = .ok (.ireturn, 1) := by decide +kernel
def bX9_isOneEach_4 (m : Mem) (a1 : Int32) : (Int32 × Int32) → Option ((Int32 × Int32) ⊕ ((Int32 × Int32) ⊕ (Bool)))
  | (y1, y2) => (if (m.1 43 8) ≤ y2 then some (.inr (.inl (y1, y2))) else (if ((a1 >>> (y2 &&& 31)) &&& 1) = 0 then some (.inl (y1, y2 + 1)) else chk (inb y2 7) ((if ((y1 >>> ((m.1 57 (Int32.toNatClampNeg y2)) &&& 31)) &&& 1) = 1 then some (.inr (.inr false)) else chk (inb y2 7) (lete (y1 ||| ((1 : Int32) <<< ((m.1 57 (Int32.toNatClampNeg y2)) &&& 31))) (fun x5 => some (.inl (x5, y2 + 1))))))))
def gX9_isOneEach (F : Nat) (m : Mem) (a1 : Int32) : Option (Bool) := (iter F (bX9_isOneEach_4 m a1) (0, 0)).bind (fun e6 => Sum.elim (fun s8 => some true) (fun q => some q) e6)
set_option maxHeartbeats 4000000 in
set_option maxRecDepth 20000 in
theorem LX9_isOneEach {n : Nat} {F : Nat} {m : Mem} {a1 : Int32} {r : Bool} (hn64 : 64 ≤ n) (hg : gX9_isOneEach F m a1 = some r) : MX yX9_isOneEach cX9_isOneEach 4 (some .boolean) { frames := 0, cells := 0, slots := 0, locals := 0 } n [.ref 43, .int a1] m (some (.int (b2i r))) m := by
  refine MX_of (by decide) (Nat.le_of_ble_eq_true rfl) (Or.inr (Or.inr (Or.inr ⟨rfl, _, rfl⟩))) (fun K hC hk hL hR => ?_)
  replace hn64 : 64 ≤ kn K := hk.symm ▸ hn64
  show RX K 0 [(0, .ref 43), (1, .int a1)] [] m
  rw [gX9_isOneEach] at hg
  refine R_iconst (pc := 0) hC dX9_isOneEach_0 ki_0 ?_
  refine R_istore_n (pc := 1) hC dX9_isOneEach_1 rfl hL rfl (show _ = [(2, .int 0), (0, .ref 43), (1, .int a1)] from rfl) ?_
  refine R_iconst (pc := 2) hC dX9_isOneEach_2 ki_0 ?_
  refine R_istore_n (pc := 3) hC dX9_isOneEach_3 rfl hL rfl (show _ = [(3, .int 0), (2, .int 0), (0, .ref 43), (1, .int a1)] from rfl) ?_
  refine R_pick [2, 3, 1, 0] (ls' := [(0, .ref 43), (1, .int a1), (2, .int 0), (3, .int 0)]) rfl ?_
  obtain ⟨e6, he6, hg⟩ := bind_some hg
  refine iter_walk (P := fun s : (Int32 × Int32) => RX K 4 [(0, .ref 43), (1, .int a1), (2, .int s.1), (3, .int s.2)] [] m) (Qe := Sum.elim (fun s : (Int32 × Int32) => RX K 56 [(0, .ref 43), (1, .int a1), (2, .int s.1), (3, .int s.2)] [] m) (fun q : Bool => GX (some (.int (b2i r))) m (some (.int (b2i q))) m)) (fun s7 o hg kL4 kE4 => ?_) _ _ _ he6 ?_
  · obtain ⟨y1, y2⟩ := s7
    rw [bX9_isOneEach_4] at hg
    show RX K 4 [(0, .ref 43), (1, .int a1), (2, .int y1), (3, .int y2)] [] m
    refine R_iload_n (pc := 4) hC 3 dX9_isOneEach_4 rfl rfl ?_
    refine R_aload_n (pc := 5) hC 0 dX9_isOneEach_5 rfl rfl ?_
    refine gf_X9_34 (pc := 6) hC hn64 dX9_isOneEach_6 ?_
    refine R_icmp_ge (tgt := 56) (pc := 9) hC dX9_isOneEach_9 (by decide) (fun c => ?_) (fun c => ?_)
    · replace hg := (if_pos c).symm.trans hg
      refine R_pick [0, 1, 2, 3] (ls' := [(0, .ref 43), (1, .int a1), (2, .int y1), (3, .int y2)]) rfl ?_
      have h9 := kE4 _ (Option.some.inj hg).symm
      exact h9
    · replace hg := (if_neg c).symm.trans hg
      refine R_iload_n (pc := 12) hC 1 dX9_isOneEach_12 rfl rfl ?_
      refine R_iload_n (pc := 13) hC 3 dX9_isOneEach_13 rfl rfl ?_
      refine R_ishr (pc := 14) hC dX9_isOneEach_14 ?_
      refine R_iconst (pc := 15) hC dX9_isOneEach_15 ki_1 ?_
      refine R_iand (pc := 16) hC dX9_isOneEach_16 ?_
      refine R_if_ne (tgt := 23) (pc := 17) hC dX9_isOneEach_17 (by decide) (fun c => ?_) (fun c => ?_)
      · replace hg := (if_neg c).symm.trans hg
        refine R_iload_n (pc := 23) hC 2 dX9_isOneEach_23 rfl rfl ?_
        refine R_aload_n (pc := 24) hC 0 dX9_isOneEach_24 rfl rfl ?_
        refine gf_X9_53 (pc := 25) hC hn64 dX9_isOneEach_25 ?_
        refine R_iload_n (pc := 28) hC 3 dX9_isOneEach_28 rfl rfl ?_
        obtain ⟨c3, hg⟩ := chk_some hg
        refine R_iaload (pc := 29) hC 57 (jx hn64 rfl) ly57 (inb_vp c3) dX9_isOneEach_29 ?_
        refine R_ishr (pc := 30) hC dX9_isOneEach_30 ?_
        refine R_iconst (pc := 31) hC dX9_isOneEach_31 ki_1 ?_
        refine R_iand (pc := 32) hC dX9_isOneEach_32 ?_
        refine R_iconst (pc := 33) hC dX9_isOneEach_33 ki_1 ?_
        refine R_icmp_ne (tgt := 39) (pc := 34) hC dX9_isOneEach_34 (by decide) (fun c => ?_) (fun c => ?_)
        · replace hg := (if_neg c).symm.trans hg
          refine R_iload_n (pc := 39) hC 2 dX9_isOneEach_39 rfl rfl ?_
          refine R_iconst (pc := 40) hC dX9_isOneEach_40 ki_1 ?_
          refine R_aload_n (pc := 41) hC 0 dX9_isOneEach_41 rfl rfl ?_
          refine gf_X9_53 (pc := 42) hC hn64 dX9_isOneEach_42 ?_
          refine R_iload_n (pc := 45) hC 3 dX9_isOneEach_45 rfl rfl ?_
          obtain ⟨c4, hg⟩ := chk_some hg
          refine R_iaload (pc := 46) hC 57 (jx hn64 rfl) ly57 (inb_vp c4) dX9_isOneEach_46 ?_
          refine R_ishl (pc := 47) hC dX9_isOneEach_47 ?_
          refine R_ior (pc := 48) hC dX9_isOneEach_48 ?_
          obtain ⟨x5, hx5, hg⟩ := lete_some hg
          refine R_top hx5 ?_
          refine R_istore_n (pc := 49) hC dX9_isOneEach_49 rfl hL rfl (show _ = [(2, .int x5), (0, .ref 43), (1, .int a1), (3, .int y2)] from rfl) ?_
          refine R_iinc (pc := 50) hC 3 dX9_isOneEach_50 rfl (iv ki_1) hL rfl (show _ = [(3, .int (y2 + 1)), (2, .int x5), (0, .ref 43), (1, .int a1)] from rfl) ?_
          refine R_goto (tgt := 4) (pc := 53) hC dX9_isOneEach_53 (by decide) ?_
          refine R_pick [2, 3, 1, 0] (ls' := [(0, .ref 43), (1, .int a1), (2, .int x5), (3, .int (y2 + 1))]) rfl ?_
          have h9 := kL4 _ (Option.some.inj hg).symm
          exact h9
        · replace hg := (if_pos c).symm.trans hg
          refine R_iconst (pc := 37) hC dX9_isOneEach_37 ki_0 ?_
          have h9 := kE4 _ (Option.some.inj hg).symm
          exact R_ireturn (pc := 38) hC dX9_isOneEach_38 h9
      · replace hg := (if_pos c).symm.trans hg
        refine R_goto (tgt := 50) (pc := 20) hC dX9_isOneEach_20 (by decide) ?_
        refine R_iinc (pc := 50) hC 3 dX9_isOneEach_50 rfl (iv ki_1) hL rfl (show _ = [(3, .int (y2 + 1)), (0, .ref 43), (1, .int a1), (2, .int y1)] from rfl) ?_
        refine R_goto (tgt := 4) (pc := 53) hC dX9_isOneEach_53 (by decide) ?_
        refine R_pick [1, 2, 3, 0] (ls' := [(0, .ref 43), (1, .int a1), (2, .int y1), (3, .int (y2 + 1))]) rfl ?_
        have h9 := kL4 _ (Option.some.inj hg).symm
        exact h9
  · rcases e6 with s8 | q
    · replace hg := (Sum.elim_inl _ _ _).symm.trans hg
      show RX K 56 [(0, .ref 43), (1, .int a1), (2, .int s8.1), (3, .int s8.2)] [] m
      refine R_iconst (pc := 56) hC dX9_isOneEach_56 ki_1 ?_
      have h9 := gxZ (m := m) hg
      exact R_ireturn (pc := 57) hC dX9_isOneEach_57 h9
    · replace hg := (Sum.elim_inr _ _ _).symm.trans hg
      exact gxZ hg
theorem dX9_ploughs_0 : decode cX9_ploughs 0 = .ok (.iload_n 1, 1) := by decide +kernel
theorem dX9_ploughs_1 : decode cX9_ploughs 1 = .ok (.ifCond .le 12, 3) := by decide +kernel
theorem dX9_ploughs_4 : decode cX9_ploughs 4 = .ok (.iload_n 1, 1) := by decide +kernel
theorem dX9_ploughs_5 : decode cX9_ploughs 5 = .ok (.aload_n 0, 1) := by decide +kernel
theorem dX9_ploughs_6 : decode cX9_ploughs 6 = .ok (.getfield 34, 3) := by decide +kernel
theorem dX9_ploughs_9 : decode cX9_ploughs 9 = .ok (.ishr, 1) := by decide +kernel
theorem dX9_ploughs_10 : decode cX9_ploughs 10 = .ok (.ifCond .eq 9, 3) := by decide +kernel
theorem dX9_ploughs_13 : decode cX9_ploughs 13 = .ok (.aload_n 0, 1) := by decide +kernel
theorem dX9_ploughs_14 : decode cX9_ploughs 14 = .ok (.iconst (-1), 1) := by decide +kernel
theorem dX9_ploughs_15 : decode cX9_ploughs 15 = .ok (.invokevirtual 87, 3) := by decide +kernel
theorem dX9_ploughs_18 : decode cX9_ploughs 18 = .ok (.ireturn, 1) := by decide +kernel
theorem dX9_ploughs_19 : decode cX9_ploughs 19 = .ok (.iconst 0, 1) := by decide +kernel
theorem dX9_ploughs_20 : decode cX9_ploughs 20 = .ok (.istore_n 2, 1) := by decide +kernel
theorem dX9_ploughs_21 : decode cX9_ploughs 21 = .ok (.iconst 0, 1) := by decide +kernel
theorem dX9_ploughs_22 : decode cX9_ploughs 22 = .ok (.istore_n 3, 1) := by decide +kernel
theorem dX9_ploughs_23 : decode cX9_ploughs 23 = .ok (.iload_n 3, 1) := by decide +kernel
theorem dX9_ploughs_24 : decode cX9_ploughs 24 = .ok (.aload_n 0, 1) := by decide +kernel
theorem dX9_ploughs_25 : decode cX9_ploughs 25 = .ok (.invokevirtual 162, 3) := by decide +kernel
theorem dX9_ploughs_28 : decode cX9_ploughs 28 = .ok (.if_icmp .gt 45, 3) := by decide +kernel
theorem dX9_ploughs_31 : decode cX9_ploughs 31 = .ok (.iload_n 2, 1) := by decide +kernel
theorem dX9_ploughs_32 : decode cX9_ploughs 32 = .ok (.aload_n 0, 1) := by decide +kernel
theorem dX9_ploughs_33 : decode cX9_ploughs 33 = .ok (.iload_n 3, 1) := by decide +kernel
theorem dX9_ploughs_34 : decode cX9_ploughs 34 = .ok (.invokevirtual 180, 3) := by decide +kernel
theorem dX9_ploughs_37 : decode cX9_ploughs 37 = .ok (.ifCond .eq 27, 3) := by decide +kernel
theorem dX9_ploughs_40 : decode cX9_ploughs 40 = .ok (.aload_n 0, 1) := by decide +kernel
theorem dX9_ploughs_41 : decode cX9_ploughs 41 = .ok (.iload_n 3, 1) := by decide +kernel
theorem dX9_ploughs_42 : decode cX9_ploughs 42 = .ok (.iload_n 1, 1) := by decide +kernel
theorem dX9_ploughs_43 : decode cX9_ploughs 43 = .ok (.invokestatic 165, 3) := by decide +kernel
theorem dX9_ploughs_46 : decode cX9_ploughs 46 = .ok (.invokevirtual 177, 3) := by decide +kernel
theorem dX9_ploughs_49 : decode cX9_ploughs 49 = .ok (.ifCond .eq 15, 3) := by decide +kernel
theorem dX9_ploughs_52 : decode cX9_ploughs 52 = .ok (.aload_n 0, 1) := by decide +kernel
theorem dX9_ploughs_53 : decode cX9_ploughs 53 = .ok (.iload_n 1, 1) := by decide +kernel
theorem dX9_ploughs_54 : decode cX9_ploughs 54 = .ok (.invokevirtual 231, 3) := by decide +kernel
theorem dX9_ploughs_57 : decode cX9_ploughs 57 = .ok (.ifCond .eq 7, 3) := by decide +kernel
theorem dX9_ploughs_60 : decode cX9_ploughs 60 = .ok (.iconst 1, 1) := by decide +kernel
theorem dX9_ploughs_61 : decode cX9_ploughs 61 = .ok (.goto 4, 3) := by decide +kernel
theorem dX9_ploughs_64 : decode cX9_ploughs 64 = .ok (.iconst 0, 1) := by decide +kernel
theorem dX9_ploughs_65 : decode cX9_ploughs 65 = .ok (.iadd, 1) := by decide +kernel
theorem dX9_ploughs_66 : decode cX9_ploughs 66 = .ok (.istore_n 2, 1) := by decide +kernel
theorem dX9_ploughs_67 : decode cX9_ploughs 67 = .ok (.iinc 3 1, 3) := by decide +kernel
theorem dX9_ploughs_70 : decode cX9_ploughs 70 = .ok (.goto (-47), 3) := by decide +kernel
theorem dX9_ploughs_73 : decode cX9_ploughs 73 = .ok (.iload_n 2, 1) := by decide +kernel
theorem dX9_ploughs_74 : decode cX9_ploughs 74 = .ok (.ireturn, 1) := by decide +kernel
def bX9_ploughs_23 (F : Nat) (a1 : Int32) : (Int32 × Int32 × Mem) → Option ((Int32 × Int32 × Mem) ⊕ (Int32 × Int32 × Mem))
  | (y2, y3, m4) => (gX9_allLanes m4).bind (fun x5 => (if x5 < y3 then some (.inr (y2, y3, m4)) else (gX9_isRuled F m4 y3).bind (fun x6 => (if x6 = true then (gX9_bits F a1).bind (fun x8 => (gX9_isForest F m4 y3 x8).bind (fun q9 => (if q9.1 = true then (gX9_isOneEach F q9.2 a1).bind (fun x11 => (if x11 = true then lete (y2 + 1) (fun x13 => some (.inl (x13, y3 + 1, q9.2))) else lete (y2 + 0) (fun x12 => some (.inl (x12, y3 + 1, q9.2))))) else lete (y2 + 0) (fun x10 => some (.inl (x10, y3 + 1, q9.2)))))) else lete (y2 + 0) (fun x7 => some (.inl (x7, y3 + 1, m4)))))))
def gX9_ploughs (F : Nat) (m : Mem) (a1 : Int32) : Option (Int32 × Mem) := (if a1 ≤ 0 then (gX9_no m (-1)).bind (fun q1 => some (q1.1, q1.2)) else (if (a1 >>> ((m.1 43 8) &&& 31)) = 0 then (iter F (bX9_ploughs_23 F a1) (0, 0, m)).bind (fun e14 => some (e14.1, e14.2.2)) else (gX9_no m (-1)).bind (fun q16 => some (q16.1, q16.2))))
set_option maxHeartbeats 4000000 in
set_option maxRecDepth 20000 in
theorem LX9_ploughs {n : Nat} {F : Nat} {m : Mem} {a1 : Int32} {r : Int32 × Mem} (hn64 : 64 ≤ n) (hg : gX9_ploughs F m a1 = some r) : MX yX9_ploughs cX9_ploughs 4 (some .int) { frames := 2, cells := 0, slots := 0, locals := 48 } n [.ref 43, .int a1] m (some (.int r.1)) r.2 := by
  refine MX_of (by decide) (Nat.le_of_ble_eq_true rfl) (Or.inr (Or.inl ⟨rfl, _, rfl⟩)) (fun K hC hk hL hR => ?_)
  replace hn64 : 64 ≤ kn K := hk.symm ▸ hn64
  show RX K 0 [(0, .ref 43), (1, .int a1)] [] m
  rw [gX9_ploughs] at hg
  refine R_iload_n (pc := 0) hC 1 dX9_ploughs_0 rfl rfl ?_
  refine R_if_le (tgt := 13) (pc := 1) hC dX9_ploughs_1 (by decide) (fun c => ?_) (fun c => ?_)
  · replace hg := (if_pos c).symm.trans hg
    refine R_aload_n (pc := 13) hC 0 dX9_ploughs_13 rfl rfl ?_
    refine R_iconst (pc := 14) hC dX9_ploughs_14 ki_m1 ?_
    obtain ⟨q1, hq1, hg⟩ := bind_some hg
    refine R_callV (pc := 15) (av := [.int (-1)]) (rest := []) hC hR 43 (jx hn64 rfl) ly43 rfl mf_X9_no wm_X9_87 (LX9_no hn64 hq1) rfl rfl rfl (Nat.le_of_ble_eq_true rfl) dX9_ploughs_15 rfl ?_
    show RX K 18 [(0, .ref 43), (1, .int a1)] [.int q1.1] q1.2
    have h9 := gxIM hg
    exact R_ireturn (pc := 18) hC dX9_ploughs_18 h9
  · replace hg := (if_neg c).symm.trans hg
    refine R_iload_n (pc := 4) hC 1 dX9_ploughs_4 rfl rfl ?_
    refine R_aload_n (pc := 5) hC 0 dX9_ploughs_5 rfl rfl ?_
    refine gf_X9_34 (pc := 6) hC hn64 dX9_ploughs_6 ?_
    refine R_ishr (pc := 9) hC dX9_ploughs_9 ?_
    refine R_if_eq (tgt := 19) (pc := 10) hC dX9_ploughs_10 (by decide) (fun c => ?_) (fun c => ?_)
    · replace hg := (if_pos c).symm.trans hg
      refine R_iconst (pc := 19) hC dX9_ploughs_19 ki_0 ?_
      refine R_istore_n (pc := 20) hC dX9_ploughs_20 rfl hL rfl (show _ = [(2, .int 0), (0, .ref 43), (1, .int a1)] from rfl) ?_
      refine R_iconst (pc := 21) hC dX9_ploughs_21 ki_0 ?_
      refine R_istore_n (pc := 22) hC dX9_ploughs_22 rfl hL rfl (show _ = [(3, .int 0), (2, .int 0), (0, .ref 43), (1, .int a1)] from rfl) ?_
      refine R_pick [2, 3, 1, 0] (ls' := [(0, .ref 43), (1, .int a1), (2, .int 0), (3, .int 0)]) rfl ?_
      obtain ⟨e14, he14, hg⟩ := bind_some hg
      refine iter_walk (P := fun s : (Int32 × Int32 × Mem) => RX K 23 [(0, .ref 43), (1, .int a1), (2, .int s.1), (3, .int s.2.1)] [] s.2.2) (Qe := fun s : (Int32 × Int32 × Mem) => RX K 73 [(0, .ref 43), (1, .int a1), (2, .int s.1), (3, .int s.2.1)] [] s.2.2) (fun s15 o hg kL23 kE23 => ?_) _ _ _ he14 ?_
      · obtain ⟨y2, y3, m4⟩ := s15
        rw [bX9_ploughs_23] at hg
        show RX K 23 [(0, .ref 43), (1, .int a1), (2, .int y2), (3, .int y3)] [] m4
        refine R_iload_n (pc := 23) hC 3 dX9_ploughs_23 rfl rfl ?_
        refine R_aload_n (pc := 24) hC 0 dX9_ploughs_24 rfl rfl ?_
        obtain ⟨x5, hx5, hg⟩ := bind_some hg
        refine R_callV (pc := 25) (av := []) (rest := [.int y3]) hC hR 43 (jx hn64 rfl) ly43 rfl mf_X9_allLanes wm_X9_162 (LX9_allLanes hn64 hx5) rfl rfl rfl (Nat.le_of_ble_eq_true rfl) dX9_ploughs_25 rfl ?_
        show RX K 28 [(0, .ref 43), (1, .int a1), (2, .int y2), (3, .int y3)] [.int x5, .int y3] m4
        refine R_icmp_gt (tgt := 73) (pc := 28) hC dX9_ploughs_28 (by decide) (fun c => ?_) (fun c => ?_)
        · replace hg := (if_pos c).symm.trans hg
          refine R_pick [0, 1, 2, 3] (ls' := [(0, .ref 43), (1, .int a1), (2, .int y2), (3, .int y3)]) rfl ?_
          have h9 := kE23 _ (Option.some.inj hg).symm
          exact h9
        · replace hg := (if_neg c).symm.trans hg
          refine R_iload_n (pc := 31) hC 2 dX9_ploughs_31 rfl rfl ?_
          refine R_aload_n (pc := 32) hC 0 dX9_ploughs_32 rfl rfl ?_
          refine R_iload_n (pc := 33) hC 3 dX9_ploughs_33 rfl rfl ?_
          obtain ⟨x6, hx6, hg⟩ := bind_some hg
          refine R_callV (pc := 34) (av := [.int y3]) (rest := [.int y2]) hC hR 43 (jx hn64 rfl) ly43 rfl mf_X9_isRuled wm_X9_180 (LX9_isRuled hn64 hx6) rfl rfl rfl (Nat.le_of_ble_eq_true rfl) dX9_ploughs_34 rfl ?_
          show RX K 37 [(0, .ref 43), (1, .int a1), (2, .int y2), (3, .int y3)] [.int (b2i x6), .int y2] m4
          refine R_ifB_eq (tgt := 64) (pc := 37) hC dX9_ploughs_37 (by decide) (fun c => ?_) (fun c => ?_)
          · replace hg := (if_neg c).symm.trans hg
            refine R_iconst (pc := 64) hC dX9_ploughs_64 ki_0 ?_
            refine R_iadd (pc := 65) hC dX9_ploughs_65 ?_
            obtain ⟨x7, hx7, hg⟩ := lete_some hg
            refine R_top hx7 ?_
            refine R_istore_n (pc := 66) hC dX9_ploughs_66 rfl hL rfl (show _ = [(2, .int x7), (0, .ref 43), (1, .int a1), (3, .int y3)] from rfl) ?_
            refine R_iinc (pc := 67) hC 3 dX9_ploughs_67 rfl (iv ki_1) hL rfl (show _ = [(3, .int (y3 + 1)), (2, .int x7), (0, .ref 43), (1, .int a1)] from rfl) ?_
            refine R_goto (tgt := 23) (pc := 70) hC dX9_ploughs_70 (by decide) ?_
            refine R_pick [2, 3, 1, 0] (ls' := [(0, .ref 43), (1, .int a1), (2, .int x7), (3, .int (y3 + 1))]) rfl ?_
            have h9 := kL23 _ (Option.some.inj hg).symm
            exact h9
          · replace hg := (if_pos c).symm.trans hg
            refine R_aload_n (pc := 40) hC 0 dX9_ploughs_40 rfl rfl ?_
            refine R_iload_n (pc := 41) hC 3 dX9_ploughs_41 rfl rfl ?_
            refine R_iload_n (pc := 42) hC 1 dX9_ploughs_42 rfl rfl ?_
            obtain ⟨x8, hx8, hg⟩ := bind_some hg
            refine R_callS (pc := 43) (av := [.int a1]) (rest := [.int y3, .ref 43, .int y2]) hC hR mf_X9_bits wm_X9_165 (LX9_bits hn64 hx8) rfl rfl rfl (Nat.le_of_ble_eq_true rfl) dX9_ploughs_43 rfl ?_
            show RX K 46 [(0, .ref 43), (1, .int a1), (2, .int y2), (3, .int y3)] [.int x8, .int y3, .ref 43, .int y2] m4
            obtain ⟨q9, hq9, hg⟩ := bind_some hg
            refine R_callV (pc := 46) (av := [.int y3, .int x8]) (rest := [.int y2]) hC hR 43 (jx hn64 rfl) ly43 rfl mf_X9_isForest wm_X9_177 (LX9_isForest hn64 hq9) rfl rfl rfl (Nat.le_of_ble_eq_true rfl) dX9_ploughs_46 rfl ?_
            show RX K 49 [(0, .ref 43), (1, .int a1), (2, .int y2), (3, .int y3)] [.int (b2i q9.1), .int y2] q9.2
            refine R_ifB_eq (tgt := 64) (pc := 49) hC dX9_ploughs_49 (by decide) (fun c => ?_) (fun c => ?_)
            · replace hg := (if_neg c).symm.trans hg
              refine R_iconst (pc := 64) hC dX9_ploughs_64 ki_0 ?_
              refine R_iadd (pc := 65) hC dX9_ploughs_65 ?_
              obtain ⟨x10, hx10, hg⟩ := lete_some hg
              refine R_top hx10 ?_
              refine R_istore_n (pc := 66) hC dX9_ploughs_66 rfl hL rfl (show _ = [(2, .int x10), (0, .ref 43), (1, .int a1), (3, .int y3)] from rfl) ?_
              refine R_iinc (pc := 67) hC 3 dX9_ploughs_67 rfl (iv ki_1) hL rfl (show _ = [(3, .int (y3 + 1)), (2, .int x10), (0, .ref 43), (1, .int a1)] from rfl) ?_
              refine R_goto (tgt := 23) (pc := 70) hC dX9_ploughs_70 (by decide) ?_
              refine R_pick [2, 3, 1, 0] (ls' := [(0, .ref 43), (1, .int a1), (2, .int x10), (3, .int (y3 + 1))]) rfl ?_
              have h9 := kL23 _ (Option.some.inj hg).symm
              exact h9
            · replace hg := (if_pos c).symm.trans hg
              refine R_aload_n (pc := 52) hC 0 dX9_ploughs_52 rfl rfl ?_
              refine R_iload_n (pc := 53) hC 1 dX9_ploughs_53 rfl rfl ?_
              obtain ⟨x11, hx11, hg⟩ := bind_some hg
              refine R_callV (pc := 54) (av := [.int a1]) (rest := [.int y2]) hC hR 43 (jx hn64 rfl) ly43 rfl mf_X9_isOneEach wm_X9_231 (LX9_isOneEach hn64 hx11) rfl rfl rfl (Nat.le_of_ble_eq_true rfl) dX9_ploughs_54 rfl ?_
              show RX K 57 [(0, .ref 43), (1, .int a1), (2, .int y2), (3, .int y3)] [.int (b2i x11), .int y2] q9.2
              refine R_ifB_eq (tgt := 64) (pc := 57) hC dX9_ploughs_57 (by decide) (fun c => ?_) (fun c => ?_)
              · replace hg := (if_neg c).symm.trans hg
                refine R_iconst (pc := 64) hC dX9_ploughs_64 ki_0 ?_
                refine R_iadd (pc := 65) hC dX9_ploughs_65 ?_
                obtain ⟨x12, hx12, hg⟩ := lete_some hg
                refine R_top hx12 ?_
                refine R_istore_n (pc := 66) hC dX9_ploughs_66 rfl hL rfl (show _ = [(2, .int x12), (0, .ref 43), (1, .int a1), (3, .int y3)] from rfl) ?_
                refine R_iinc (pc := 67) hC 3 dX9_ploughs_67 rfl (iv ki_1) hL rfl (show _ = [(3, .int (y3 + 1)), (2, .int x12), (0, .ref 43), (1, .int a1)] from rfl) ?_
                refine R_goto (tgt := 23) (pc := 70) hC dX9_ploughs_70 (by decide) ?_
                refine R_pick [2, 3, 1, 0] (ls' := [(0, .ref 43), (1, .int a1), (2, .int x12), (3, .int (y3 + 1))]) rfl ?_
                have h9 := kL23 _ (Option.some.inj hg).symm
                exact h9
              · replace hg := (if_pos c).symm.trans hg
                refine R_iconst (pc := 60) hC dX9_ploughs_60 ki_1 ?_
                refine R_goto (tgt := 65) (pc := 61) hC dX9_ploughs_61 (by decide) ?_
                refine R_iadd (pc := 65) hC dX9_ploughs_65 ?_
                obtain ⟨x13, hx13, hg⟩ := lete_some hg
                refine R_top hx13 ?_
                refine R_istore_n (pc := 66) hC dX9_ploughs_66 rfl hL rfl (show _ = [(2, .int x13), (0, .ref 43), (1, .int a1), (3, .int y3)] from rfl) ?_
                refine R_iinc (pc := 67) hC 3 dX9_ploughs_67 rfl (iv ki_1) hL rfl (show _ = [(3, .int (y3 + 1)), (2, .int x13), (0, .ref 43), (1, .int a1)] from rfl) ?_
                refine R_goto (tgt := 23) (pc := 70) hC dX9_ploughs_70 (by decide) ?_
                refine R_pick [2, 3, 1, 0] (ls' := [(0, .ref 43), (1, .int a1), (2, .int x13), (3, .int (y3 + 1))]) rfl ?_
                have h9 := kL23 _ (Option.some.inj hg).symm
                exact h9
      · show RX K 73 [(0, .ref 43), (1, .int a1), (2, .int e14.1), (3, .int e14.2.1)] [] e14.2.2
        refine R_iload_n (pc := 73) hC 2 dX9_ploughs_73 rfl rfl ?_
        have h9 := gxIM hg
        exact R_ireturn (pc := 74) hC dX9_ploughs_74 h9
    · replace hg := (if_neg c).symm.trans hg
      refine R_aload_n (pc := 13) hC 0 dX9_ploughs_13 rfl rfl ?_
      refine R_iconst (pc := 14) hC dX9_ploughs_14 ki_m1 ?_
      obtain ⟨q16, hq16, hg⟩ := bind_some hg
      refine R_callV (pc := 15) (av := [.int (-1)]) (rest := []) hC hR 43 (jx hn64 rfl) ly43 rfl mf_X9_no wm_X9_87 (LX9_no hn64 hq16) rfl rfl rfl (Nat.le_of_ble_eq_true rfl) dX9_ploughs_15 rfl ?_
      show RX K 18 [(0, .ref 43), (1, .int a1)] [.int q16.1] q16.2
      have h9 := gxIM hg
      exact R_ireturn (pc := 18) hC dX9_ploughs_18 h9
