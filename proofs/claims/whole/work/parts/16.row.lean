theorem dX5_asWay_0 : decode cX5_asWay 0 = .ok (.iconst 0, 1) := by decide +kernel
theorem dX5_asWay_1 : decode cX5_asWay 1 = .ok (.istore_n 1, 1) := by decide +kernel
theorem dX5_asWay_2 : decode cX5_asWay 2 = .ok (.iconst 0, 1) := by decide +kernel
theorem dX5_asWay_3 : decode cX5_asWay 3 = .ok (.istore_n 2, 1) := by decide +kernel
theorem dX5_asWay_4 : decode cX5_asWay 4 = .ok (.iload_n 2, 1) := by decide +kernel
theorem dX5_asWay_5 : decode cX5_asWay 5 = .ok (.aload_n 0, 1) := by decide +kernel
theorem dX5_asWay_6 : decode cX5_asWay 6 = .ok (.getfield 23, 3) := by decide +kernel
theorem dX5_asWay_9 : decode cX5_asWay 9 = .ok (.if_icmp .ge 26, 3) := by decide +kernel
theorem dX5_asWay_12 : decode cX5_asWay 12 = .ok (.iload_n 2, 1) := by decide +kernel
theorem dX5_asWay_13 : decode cX5_asWay 13 = .ok (.bipush 10, 2) := by decide +kernel
theorem dX5_asWay_15 : decode cX5_asWay 15 = .ok (.if_icmp .ge 20, 3) := by decide +kernel
theorem dX5_asWay_18 : decode cX5_asWay 18 = .ok (.iload_n 1, 1) := by decide +kernel
theorem dX5_asWay_19 : decode cX5_asWay 19 = .ok (.iconst 1, 1) := by decide +kernel
theorem dX5_asWay_20 : decode cX5_asWay 20 = .ok (.aload_n 0, 1) := by decide +kernel
theorem dX5_asWay_21 : decode cX5_asWay 21 = .ok (.getfield 19, 3) := by decide +kernel
theorem dX5_asWay_24 : decode cX5_asWay 24 = .ok (.iload_n 2, 1) := by decide +kernel
theorem dX5_asWay_25 : decode cX5_asWay 25 = .ok (.iaload, 1) := by decide +kernel
theorem dX5_asWay_26 : decode cX5_asWay 26 = .ok (.ishl, 1) := by decide +kernel
theorem dX5_asWay_27 : decode cX5_asWay 27 = .ok (.ior, 1) := by decide +kernel
theorem dX5_asWay_28 : decode cX5_asWay 28 = .ok (.istore_n 1, 1) := by decide +kernel
theorem dX5_asWay_29 : decode cX5_asWay 29 = .ok (.iinc 2 1, 3) := by decide +kernel
theorem dX5_asWay_32 : decode cX5_asWay 32 = .ok (.goto (-28), 3) := by decide +kernel
theorem dX5_asWay_35 : decode cX5_asWay 35 = .ok (.aload_n 0, 1) := by decide +kernel
theorem dX5_asWay_36 : decode cX5_asWay 36 = .ok (.getfield 15, 3) := by decide +kernel
theorem dX5_asWay_39 : decode cX5_asWay 39 = .ok (.iload_n 1, 1) := by decide +kernel
theorem dX5_asWay_40 : decode cX5_asWay 40 = .ok (.invokevirtual 42, 3) := by decide +kernel
theorem dX5_asWay_43 : decode cX5_asWay 43 = .ok (.ifCond .eq 7, 3) := by decide +kernel
theorem dX5_asWay_46 : decode cX5_asWay 46 = .ok (.iload_n 1, 1) := by decide +kernel
theorem dX5_asWay_47 : decode cX5_asWay 47 = .ok (.goto 5, 3) := by decide +kernel
theorem dX5_asWay_50 : decode cX5_asWay 50 = .ok (.bipush (-9), 2) := by decide +kernel
theorem dX5_asWay_52 : decode cX5_asWay 52 = .ok (.ireturn, 1) := by decide +kernel
def bX5_asWay_4 (m : Mem) : (Int32 × Int32) → Option ((Int32 × Int32) ⊕ (Int32 × Int32))
  | (y1, y2) => (if (m.1 35 3) ≤ y2 then some (.inr (y1, y2)) else (if 10 ≤ y2 then some (.inr (y1, y2)) else chk (inb y2 10) (lete (y1 ||| ((1 : Int32) <<< ((m.1 36 (Int32.toNatClampNeg y2)) &&& 31))) (fun x4 => some (.inl (x4, y2 + 1))))))
def gX5_asWay (F : Nat) (m : Mem) : Option (Int32) := (iter F (bX5_asWay_4 m) (0, 0)).bind (fun e5 => (gX2_isWay m e5.1).bind (fun x7 => (if x7 = true then some e5.1 else some (-9))))
set_option maxHeartbeats 4000000 in
set_option maxRecDepth 20000 in
theorem LX5_asWay {n : Nat} {F : Nat} {m : Mem} {r : Int32} (hn : 43 ≤ n) (hg : gX5_asWay F m  = some r) : MX yX5_asWay cX5_asWay 3 (some .int) { frames := 3, cells := 0, slots := 0, locals := 64 } n [.ref 35] m (some (.int r)) m := by
  refine MX_of (by decide) (Nat.le_of_ble_eq_true rfl) (Or.inr (Or.inl ⟨rfl, _, rfl⟩)) (fun K hC hk hL hR => ?_)
  replace hn : 43 ≤ kn K := hk.symm ▸ hn
  show RX K 0 [(0, .ref 35)] [] m
  rw [gX5_asWay] at hg
  refine R_iconst (pc := 0) hC dX5_asWay_0 ki_0 ?_
  refine R_istore_n (pc := 1) hC dX5_asWay_1 rfl hL rfl (show _ = [(1, .int 0), (0, .ref 35)] from rfl) ?_
  refine R_iconst (pc := 2) hC dX5_asWay_2 ki_0 ?_
  refine R_istore_n (pc := 3) hC dX5_asWay_3 rfl hL rfl (show _ = [(2, .int 0), (1, .int 0), (0, .ref 35)] from rfl) ?_
  refine R_pick [2, 1, 0] (ls' := [(0, .ref 35), (1, .int 0), (2, .int 0)]) rfl ?_
  obtain ⟨e5, he5, hg⟩ := bind_some hg
  refine iter_walk (P := fun s : (Int32 × Int32) => RX K 4 [(0, .ref 35), (1, .int s.1), (2, .int s.2)] [] m) (Qe := fun s : (Int32 × Int32) => RX K 35 [(0, .ref 35), (1, .int s.1), (2, .int s.2)] [] m) (fun s6 o hg kL4 kE4 => ?_) _ _ _ he5 ?_
  · obtain ⟨y1, y2⟩ := s6
    rw [bX5_asWay_4] at hg
    show RX K 4 [(0, .ref 35), (1, .int y1), (2, .int y2)] [] m
    refine R_iload_n (pc := 4) hC 2 dX5_asWay_4 rfl rfl ?_
    refine R_aload_n (pc := 5) hC 0 dX5_asWay_5 rfl rfl ?_
    refine gf_X5_23 (pc := 6) hC hn dX5_asWay_6 ?_
    refine R_icmp_ge (tgt := 35) (pc := 9) hC dX5_asWay_9 (by decide) (fun c => ?_) (fun c => ?_)
    · replace hg := (if_pos c).symm.trans hg
      refine R_pick [0, 1, 2] (ls' := [(0, .ref 35), (1, .int y1), (2, .int y2)]) rfl ?_
      have h9 := kE4 _ (Option.some.inj hg).symm
      exact h9
    · replace hg := (if_neg c).symm.trans hg
      refine R_iload_n (pc := 12) hC 2 dX5_asWay_12 rfl rfl ?_
      refine R_bipush (pc := 13) hC dX5_asWay_13 kb_10 ?_
      refine R_icmp_ge (tgt := 35) (pc := 15) hC dX5_asWay_15 (by decide) (fun c => ?_) (fun c => ?_)
      · replace hg := (if_pos c).symm.trans hg
        refine R_pick [0, 1, 2] (ls' := [(0, .ref 35), (1, .int y1), (2, .int y2)]) rfl ?_
        have h9 := kE4 _ (Option.some.inj hg).symm
        exact h9
      · replace hg := (if_neg c).symm.trans hg
        refine R_iload_n (pc := 18) hC 1 dX5_asWay_18 rfl rfl ?_
        refine R_iconst (pc := 19) hC dX5_asWay_19 ki_1 ?_
        refine R_aload_n (pc := 20) hC 0 dX5_asWay_20 rfl rfl ?_
        refine gf_X5_19 (pc := 21) hC hn dX5_asWay_21 ?_
        refine R_iload_n (pc := 24) hC 2 dX5_asWay_24 rfl rfl ?_
        obtain ⟨c3, hg⟩ := chk_some hg
        refine R_iaload (pc := 25) hC 36 (jx hn rfl) ly36 (inb_vp c3) dX5_asWay_25 ?_
        refine R_ishl (pc := 26) hC dX5_asWay_26 ?_
        refine R_ior (pc := 27) hC dX5_asWay_27 ?_
        obtain ⟨x4, hx4, hg⟩ := lete_some hg
        refine R_top hx4 ?_
        refine R_istore_n (pc := 28) hC dX5_asWay_28 rfl hL rfl (show _ = [(1, .int x4), (0, .ref 35), (2, .int y2)] from rfl) ?_
        refine R_iinc (pc := 29) hC 2 dX5_asWay_29 rfl (iv ki_1) hL rfl (show _ = [(2, .int (y2 + 1)), (1, .int x4), (0, .ref 35)] from rfl) ?_
        refine R_goto (tgt := 4) (pc := 32) hC dX5_asWay_32 (by decide) ?_
        refine R_pick [2, 1, 0] (ls' := [(0, .ref 35), (1, .int x4), (2, .int (y2 + 1))]) rfl ?_
        have h9 := kL4 _ (Option.some.inj hg).symm
        exact h9
  · show RX K 35 [(0, .ref 35), (1, .int e5.1), (2, .int e5.2)] [] m
    refine R_aload_n (pc := 35) hC 0 dX5_asWay_35 rfl rfl ?_
    refine gf_X5_15 (pc := 36) hC hn dX5_asWay_36 ?_
    refine R_iload_n (pc := 39) hC 1 dX5_asWay_39 rfl rfl ?_
    obtain ⟨x7, hx7, hg⟩ := bind_some hg
    refine R_callVN (pc := 40) (av := [.int e5.1]) (rest := []) hC hR 24 (jx hn rfl) ly24 rfl mf_X2_isWay wm_X5_42 (LX2_isWay hn hx7) rfl rfl rfl (Nat.le_of_ble_eq_true rfl) dX5_asWay_40 rfl ?_
    show RX K 43 [(0, .ref 35), (1, .int e5.1), (2, .int e5.2)] [.int (b2i x7)] m
    refine R_ifB_eq (tgt := 50) (pc := 43) hC dX5_asWay_43 (by decide) (fun c => ?_) (fun c => ?_)
    · replace hg := (if_neg c).symm.trans hg
      refine R_bipush (pc := 50) hC dX5_asWay_50 kb_m9 ?_
      have h9 := gxI (m := m) hg
      exact R_ireturn (pc := 52) hC dX5_asWay_52 h9
    · replace hg := (if_pos c).symm.trans hg
      refine R_iload_n (pc := 46) hC 1 dX5_asWay_46 rfl rfl ?_
      refine R_goto (tgt := 52) (pc := 47) hC dX5_asWay_47 (by decide) ?_
      have h9 := gxI (m := m) hg
      exact R_ireturn (pc := 52) hC dX5_asWay_52 h9
theorem dX5_hasRoom_0 : decode cX5_hasRoom 0 = .ok (.aload_n 0, 1) := by decide +kernel
theorem dX5_hasRoom_1 : decode cX5_hasRoom 1 = .ok (.getfield 23, 3) := by decide +kernel
theorem dX5_hasRoom_4 : decode cX5_hasRoom 4 = .ok (.bipush 10, 2) := by decide +kernel
theorem dX5_hasRoom_6 : decode cX5_hasRoom 6 = .ok (.if_icmp .ge 7, 3) := by decide +kernel
theorem dX5_hasRoom_9 : decode cX5_hasRoom 9 = .ok (.iconst 1, 1) := by decide +kernel
theorem dX5_hasRoom_10 : decode cX5_hasRoom 10 = .ok (.goto 4, 3) := by decide +kernel
theorem dX5_hasRoom_13 : decode cX5_hasRoom 13 = .ok (.iconst 0, 1) := by decide +kernel
theorem dX5_hasRoom_14 : decode cX5_hasRoom 14 = .ok (.ireturn, 1) := by decide +kernel
def gX5_hasRoom (m : Mem) : Option (Bool) := (if 10 ≤ (m.1 35 3) then some false else some true)
set_option maxHeartbeats 4000000 in
set_option maxRecDepth 20000 in
theorem LX5_hasRoom {n : Nat} {m : Mem} {r : Bool} (hn : 43 ≤ n) (hg : gX5_hasRoom m  = some r) : MX yX5_hasRoom cX5_hasRoom 1 (some .boolean) { frames := 0, cells := 0, slots := 0, locals := 0 } n [.ref 35] m (some (.int (b2i r))) m := by
  refine MX_of (by decide) (Nat.le_of_ble_eq_true rfl) (Or.inr (Or.inr (Or.inr ⟨rfl, _, rfl⟩))) (fun K hC hk hL hR => ?_)
  replace hn : 43 ≤ kn K := hk.symm ▸ hn
  show RX K 0 [(0, .ref 35)] [] m
  rw [gX5_hasRoom] at hg
  refine R_aload_n (pc := 0) hC 0 dX5_hasRoom_0 rfl rfl ?_
  refine gf_X5_23 (pc := 1) hC hn dX5_hasRoom_1 ?_
  refine R_bipush (pc := 4) hC dX5_hasRoom_4 kb_10 ?_
  refine R_icmp_ge (tgt := 13) (pc := 6) hC dX5_hasRoom_6 (by decide) (fun c => ?_) (fun c => ?_)
  · replace hg := (if_pos c).symm.trans hg
    refine R_iconst (pc := 13) hC dX5_hasRoom_13 ki_0 ?_
    have h9 := gxZ (m := m) hg
    exact R_ireturn (pc := 14) hC dX5_hasRoom_14 h9
  · replace hg := (if_neg c).symm.trans hg
    refine R_iconst (pc := 9) hC dX5_hasRoom_9 ki_1 ?_
    refine R_goto (tgt := 14) (pc := 10) hC dX5_hasRoom_10 (by decide) ?_
    have h9 := gxZ (m := m) hg
    exact R_ireturn (pc := 14) hC dX5_hasRoom_14 h9
theorem dX5_append_0 : decode cX5_append 0 = .ok (.aload_n 0, 1) := by decide +kernel
theorem dX5_append_1 : decode cX5_append 1 = .ok (.getfield 23, 3) := by decide +kernel
theorem dX5_append_4 : decode cX5_append 4 = .ok (.bipush 10, 2) := by decide +kernel
theorem dX5_append_6 : decode cX5_append 6 = .ok (.if_icmp .ge 23, 3) := by decide +kernel
theorem dX5_append_9 : decode cX5_append 9 = .ok (.aload_n 0, 1) := by decide +kernel
theorem dX5_append_10 : decode cX5_append 10 = .ok (.getfield 19, 3) := by decide +kernel
theorem dX5_append_13 : decode cX5_append 13 = .ok (.aload_n 0, 1) := by decide +kernel
theorem dX5_append_14 : decode cX5_append 14 = .ok (.getfield 23, 3) := by decide +kernel
theorem dX5_append_17 : decode cX5_append 17 = .ok (.iload_n 1, 1) := by decide +kernel
theorem dX5_append_18 : decode cX5_append 18 = .ok (.iastore, 1) := by decide +kernel
theorem dX5_append_19 : decode cX5_append 19 = .ok (.aload_n 0, 1) := by decide +kernel
theorem dX5_append_20 : decode cX5_append 20 = .ok (.dup, 1) := by decide +kernel
theorem dX5_append_21 : decode cX5_append 21 = .ok (.getfield 23, 3) := by decide +kernel
theorem dX5_append_24 : decode cX5_append 24 = .ok (.iconst 1, 1) := by decide +kernel
theorem dX5_append_25 : decode cX5_append 25 = .ok (.iadd, 1) := by decide +kernel
theorem dX5_append_26 : decode cX5_append 26 = .ok (.putfield 23, 3) := by decide +kernel
theorem dX5_append_29 : decode cX5_append 29 = .ok (.aload_n 0, 1) := by decide +kernel
theorem dX5_append_30 : decode cX5_append 30 = .ok (.getfield 23, 3) := by decide +kernel
theorem dX5_append_33 : decode cX5_append 33 = .ok (.ireturn, 1) := by decide +kernel
def gX5_append (m : Mem) (a1 : Int32) : Option (Int32 × Mem) := (if 10 ≤ (m.1 35 3) then some (m.1 35 3, m) else chk (inb (m.1 35 3) 10) (lete (mu m 36 (Int32.toNatClampNeg (m.1 35 3)) a1) (fun m2 => lete (mu m2 35 3 ((m2.1 35 3) + 1)) (fun m3 => some (m3.1 35 3, m3)))))
set_option maxHeartbeats 4000000 in
set_option maxRecDepth 20000 in
theorem LX5_append {n : Nat} {m : Mem} {a1 : Int32} {r : Int32 × Mem} (hn : 43 ≤ n) (hg : gX5_append m a1 = some r) : MX yX5_append cX5_append 2 (some .int) { frames := 0, cells := 0, slots := 0, locals := 0 } n [.ref 35, .int a1] m (some (.int r.1)) r.2 := by
  refine MX_of (by decide) (Nat.le_of_ble_eq_true rfl) (Or.inr (Or.inl ⟨rfl, _, rfl⟩)) (fun K hC hk hL hR => ?_)
  replace hn : 43 ≤ kn K := hk.symm ▸ hn
  show RX K 0 [(0, .ref 35), (1, .int a1)] [] m
  rw [gX5_append] at hg
  refine R_aload_n (pc := 0) hC 0 dX5_append_0 rfl rfl ?_
  refine gf_X5_23 (pc := 1) hC hn dX5_append_1 ?_
  refine R_bipush (pc := 4) hC dX5_append_4 kb_10 ?_
  refine R_icmp_ge (tgt := 29) (pc := 6) hC dX5_append_6 (by decide) (fun c => ?_) (fun c => ?_)
  · replace hg := (if_pos c).symm.trans hg
    refine R_aload_n (pc := 29) hC 0 dX5_append_29 rfl rfl ?_
    refine gf_X5_23 (pc := 30) hC hn dX5_append_30 ?_
    have h9 := gxIM hg
    exact R_ireturn (pc := 33) hC dX5_append_33 h9
  · replace hg := (if_neg c).symm.trans hg
    refine R_aload_n (pc := 9) hC 0 dX5_append_9 rfl rfl ?_
    refine gf_X5_19 (pc := 10) hC hn dX5_append_10 ?_
    refine R_aload_n (pc := 13) hC 0 dX5_append_13 rfl rfl ?_
    refine gf_X5_23 (pc := 14) hC hn dX5_append_14 ?_
    refine R_iload_n (pc := 17) hC 1 dX5_append_17 rfl rfl ?_
    obtain ⟨c1, hg⟩ := chk_some hg
    obtain ⟨m2, hm2, hg⟩ := lete_some hg
    refine R_iastore (pc := 18) hC 36 (jx hn rfl) ly36 (inb_vp c1) dX5_append_18 ?_
    refine R_mem hm2 ?_
    refine R_aload_n (pc := 19) hC 0 dX5_append_19 rfl rfl ?_
    refine R_dup (pc := 20) hC dX5_append_20 rfl ?_
    refine gf_X5_23 (pc := 21) hC hn dX5_append_21 ?_
    refine R_iconst (pc := 24) hC dX5_append_24 ki_1 ?_
    refine R_iadd (pc := 25) hC dX5_append_25 ?_
    obtain ⟨m3, hm3, hg⟩ := lete_some hg
    refine pf_X5_23 (pc := 26) hC hn dX5_append_26 ?_
    refine R_mem hm3 ?_
    refine R_aload_n (pc := 29) hC 0 dX5_append_29 rfl rfl ?_
    refine gf_X5_23 (pc := 30) hC hn dX5_append_30 ?_
    have h9 := gxIM hg
    exact R_ireturn (pc := 33) hC dX5_append_33 h9
theorem dX5_clear_0 : decode cX5_clear 0 = .ok (.aload_n 0, 1) := by decide +kernel
theorem dX5_clear_1 : decode cX5_clear 1 = .ok (.iconst 0, 1) := by decide +kernel
theorem dX5_clear_2 : decode cX5_clear 2 = .ok (.putfield 23, 3) := by decide +kernel
theorem dX5_clear_5 : decode cX5_clear 5 = .ok (.return_, 1) := by decide +kernel
def gX5_clear (m : Mem) : Option (Mem) := lete (mu m 35 3 0) (fun m1 => some m1)
set_option maxHeartbeats 4000000 in
set_option maxRecDepth 20000 in
theorem LX5_clear {n : Nat} {m : Mem} {r : Mem} (hn : 43 ≤ n) (hg : gX5_clear m  = some r) : MX yX5_clear cX5_clear 1 none { frames := 0, cells := 0, slots := 0, locals := 0 } n [.ref 35] m (none) r := by
  refine MX_of (by decide) (Nat.le_of_ble_eq_true rfl) (Or.inl ⟨rfl, rfl⟩) (fun K hC hk hL hR => ?_)
  replace hn : 43 ≤ kn K := hk.symm ▸ hn
  show RX K 0 [(0, .ref 35)] [] m
  rw [gX5_clear] at hg
  refine R_aload_n (pc := 0) hC 0 dX5_clear_0 rfl rfl ?_
  refine R_iconst (pc := 1) hC dX5_clear_1 ki_0 ?_
  obtain ⟨m1, hm1, hg⟩ := lete_some hg
  refine pf_X5_23 (pc := 2) hC hn dX5_clear_2 ?_
  refine R_mem hm1 ?_
  have h9 := gxV hg
  exact R_return (pc := 5) hC dX5_clear_5 h9
theorem dX5_judged_0 : decode cX5_judged 0 = .ok (.iconst 0, 1) := by decide +kernel
theorem dX5_judged_1 : decode cX5_judged 1 = .ok (.istore_n 1, 1) := by decide +kernel
theorem dX5_judged_2 : decode cX5_judged 2 = .ok (.iconst 0, 1) := by decide +kernel
theorem dX5_judged_3 : decode cX5_judged 3 = .ok (.istore_n 2, 1) := by decide +kernel
theorem dX5_judged_4 : decode cX5_judged 4 = .ok (.iload_n 2, 1) := by decide +kernel
theorem dX5_judged_5 : decode cX5_judged 5 = .ok (.aload_n 0, 1) := by decide +kernel
theorem dX5_judged_6 : decode cX5_judged 6 = .ok (.getfield 23, 3) := by decide +kernel
theorem dX5_judged_9 : decode cX5_judged 9 = .ok (.if_icmp .ge 80, 3) := by decide +kernel
theorem dX5_judged_12 : decode cX5_judged 12 = .ok (.iload_n 2, 1) := by decide +kernel
theorem dX5_judged_13 : decode cX5_judged 13 = .ok (.bipush 10, 2) := by decide +kernel
theorem dX5_judged_15 : decode cX5_judged 15 = .ok (.if_icmp .ge 74, 3) := by decide +kernel
theorem dX5_judged_18 : decode cX5_judged 18 = .ok (.aload_n 0, 1) := by decide +kernel
theorem dX5_judged_19 : decode cX5_judged 19 = .ok (.getfield 19, 3) := by decide +kernel
theorem dX5_judged_22 : decode cX5_judged 22 = .ok (.iload_n 2, 1) := by decide +kernel
theorem dX5_judged_23 : decode cX5_judged 23 = .ok (.iaload, 1) := by decide +kernel
theorem dX5_judged_24 : decode cX5_judged 24 = .ok (.istore_n 3, 1) := by decide +kernel
theorem dX5_judged_25 : decode cX5_judged 25 = .ok (.aload_n 0, 1) := by decide +kernel
theorem dX5_judged_26 : decode cX5_judged 26 = .ok (.getfield 9, 3) := by decide +kernel
theorem dX5_judged_29 : decode cX5_judged 29 = .ok (.iload_n 3, 1) := by decide +kernel
theorem dX5_judged_30 : decode cX5_judged 30 = .ok (.invokevirtual 27, 3) := by decide +kernel
theorem dX5_judged_33 : decode cX5_judged 33 = .ok (.ifCond .eq 15, 3) := by decide +kernel
theorem dX5_judged_36 : decode cX5_judged 36 = .ok (.aload_n 0, 1) := by decide +kernel
theorem dX5_judged_37 : decode cX5_judged 37 = .ok (.getfield 9, 3) := by decide +kernel
theorem dX5_judged_40 : decode cX5_judged 40 = .ok (.iload_n 3, 1) := by decide +kernel
theorem dX5_judged_41 : decode cX5_judged 41 = .ok (.invokevirtual 33, 3) := by decide +kernel
theorem dX5_judged_44 : decode cX5_judged 44 = .ok (.iconst 2, 1) := by decide +kernel
theorem dX5_judged_45 : decode cX5_judged 45 = .ok (.if_icmp .ne 5, 3) := by decide +kernel
theorem dX5_judged_48 : decode cX5_judged 48 = .ok (.iload_n 2, 1) := by decide +kernel
theorem dX5_judged_49 : decode cX5_judged 49 = .ok (.ireturn, 1) := by decide +kernel
theorem dX5_judged_50 : decode cX5_judged 50 = .ok (.iconst 1, 1) := by decide +kernel
theorem dX5_judged_51 : decode cX5_judged 51 = .ok (.iload_n 3, 1) := by decide +kernel
theorem dX5_judged_52 : decode cX5_judged 52 = .ok (.ishl, 1) := by decide +kernel
theorem dX5_judged_53 : decode cX5_judged 53 = .ok (.istore 4, 2) := by decide +kernel
theorem dX5_judged_55 : decode cX5_judged 55 = .ok (.iload_n 1, 1) := by decide +kernel
theorem dX5_judged_56 : decode cX5_judged 56 = .ok (.iload 4, 2) := by decide +kernel
theorem dX5_judged_58 : decode cX5_judged 58 = .ok (.iand, 1) := by decide +kernel
theorem dX5_judged_59 : decode cX5_judged 59 = .ok (.ifCond .ne 17, 3) := by decide +kernel
theorem dX5_judged_62 : decode cX5_judged 62 = .ok (.aload_n 0, 1) := by decide +kernel
theorem dX5_judged_63 : decode cX5_judged 63 = .ok (.getfield 15, 3) := by decide +kernel
theorem dX5_judged_66 : decode cX5_judged 66 = .ok (.iload_n 1, 1) := by decide +kernel
theorem dX5_judged_67 : decode cX5_judged 67 = .ok (.iload 4, 2) := by decide +kernel
theorem dX5_judged_69 : decode cX5_judged 69 = .ok (.ior, 1) := by decide +kernel
theorem dX5_judged_70 : decode cX5_judged 70 = .ok (.invokevirtual 37, 3) := by decide +kernel
theorem dX5_judged_73 : decode cX5_judged 73 = .ok (.ifCond .eq 5, 3) := by decide +kernel
theorem dX5_judged_76 : decode cX5_judged 76 = .ok (.iload_n 2, 1) := by decide +kernel
theorem dX5_judged_77 : decode cX5_judged 77 = .ok (.ireturn, 1) := by decide +kernel
theorem dX5_judged_78 : decode cX5_judged 78 = .ok (.iload_n 1, 1) := by decide +kernel
theorem dX5_judged_79 : decode cX5_judged 79 = .ok (.iload 4, 2) := by decide +kernel
theorem dX5_judged_81 : decode cX5_judged 81 = .ok (.ior, 1) := by decide +kernel
theorem dX5_judged_82 : decode cX5_judged 82 = .ok (.istore_n 1, 1) := by decide +kernel
theorem dX5_judged_83 : decode cX5_judged 83 = .ok (.iinc 2 1, 3) := by decide +kernel
theorem dX5_judged_86 : decode cX5_judged 86 = .ok (.goto (-82), 3) := by decide +kernel
theorem dX5_judged_89 : decode cX5_judged 89 = .ok (.aload_n 0, 1) := by decide +kernel
theorem dX5_judged_90 : decode cX5_judged 90 = .ok (.getfield 15, 3) := by decide +kernel
theorem dX5_judged_93 : decode cX5_judged 93 = .ok (.iload_n 1, 1) := by decide +kernel
theorem dX5_judged_94 : decode cX5_judged 94 = .ok (.invokevirtual 42, 3) := by decide +kernel
theorem dX5_judged_97 : decode cX5_judged 97 = .ok (.ifCond .eq 8, 3) := by decide +kernel
theorem dX5_judged_100 : decode cX5_judged 100 = .ok (.bipush (-9), 2) := by decide +kernel
theorem dX5_judged_102 : decode cX5_judged 102 = .ok (.goto 7, 3) := by decide +kernel
theorem dX5_judged_105 : decode cX5_judged 105 = .ok (.aload_n 0, 1) := by decide +kernel
theorem dX5_judged_106 : decode cX5_judged 106 = .ok (.getfield 23, 3) := by decide +kernel
theorem dX5_judged_109 : decode cX5_judged 109 = .ok (.ireturn, 1) := by decide +kernel
def bX5_judged_4 (m : Mem) : (Int32 × Int32) → Option ((Int32 × Int32) ⊕ ((Int32 × Int32) ⊕ (Int32)))
  | (y1, y2) => (if (m.1 35 3) ≤ y2 then some (.inr (.inl (y1, y2))) else (if 10 ≤ y2 then some (.inr (.inl (y1, y2))) else chk (inb y2 10) (lete (m.1 36 (Int32.toNatClampNeg y2)) (fun x4 => (gX6_hasLane m 1 x4).bind (fun x5 => (if x5 = true then (gX6_ruleOf m 1 x4).bind (fun x6 => (if x6 = 2 then some (.inr (.inr y2)) else lete ((1 : Int32) <<< (x4 &&& 31)) (fun x7 => (if (y1 &&& x7) = 0 then (gX2_hasRing m (y1 ||| x7)).bind (fun x8 => (if x8 = true then some (.inr (.inr y2)) else lete (y1 ||| x7) (fun x9 => some (.inl (x9, y2 + 1))))) else some (.inr (.inr y2)))))) else some (.inr (.inr y2))))))))
def gX5_judged (F : Nat) (m : Mem) : Option (Int32) := (iter F (bX5_judged_4 m) (0, 0)).bind (fun e10 => Sum.elim (fun s12 => (gX2_isWay m s12.1).bind (fun x13 => (if x13 = true then some (-9) else some (m.1 35 3)))) (fun q => some q) e10)
set_option maxHeartbeats 4000000 in
set_option maxRecDepth 20000 in
theorem LX5_judged {n : Nat} {F : Nat} {m : Mem} {r : Int32} (hn : 43 ≤ n) (hg : gX5_judged F m  = some r) : MX yX5_judged cX5_judged 5 (some .int) { frames := 3, cells := 0, slots := 0, locals := 64 } n [.ref 35] m (some (.int r)) m := by
  refine MX_of (by decide) (Nat.le_of_ble_eq_true rfl) (Or.inr (Or.inl ⟨rfl, _, rfl⟩)) (fun K hC hk hL hR => ?_)
  replace hn : 43 ≤ kn K := hk.symm ▸ hn
  show RX K 0 [(0, .ref 35)] [] m
  rw [gX5_judged] at hg
  refine R_iconst (pc := 0) hC dX5_judged_0 ki_0 ?_
  refine R_istore_n (pc := 1) hC dX5_judged_1 rfl hL rfl (show _ = [(1, .int 0), (0, .ref 35)] from rfl) ?_
  refine R_iconst (pc := 2) hC dX5_judged_2 ki_0 ?_
  refine R_istore_n (pc := 3) hC dX5_judged_3 rfl hL rfl (show _ = [(2, .int 0), (1, .int 0), (0, .ref 35)] from rfl) ?_
  refine R_pick [2, 1, 0] (ls' := [(0, .ref 35), (1, .int 0), (2, .int 0)]) rfl ?_
  obtain ⟨e10, he10, hg⟩ := bind_some hg
  refine iter_walk (P := fun s : (Int32 × Int32) => RX K 4 [(0, .ref 35), (1, .int s.1), (2, .int s.2)] [] m) (Qe := Sum.elim (fun s : (Int32 × Int32) => RX K 89 [(0, .ref 35), (1, .int s.1), (2, .int s.2)] [] m) (fun q : Int32 => GX (some (.int r)) m (some (.int q)) m)) (fun s11 o hg kL4 kE4 => ?_) _ _ _ he10 ?_
  · obtain ⟨y1, y2⟩ := s11
    rw [bX5_judged_4] at hg
    show RX K 4 [(0, .ref 35), (1, .int y1), (2, .int y2)] [] m
    refine R_iload_n (pc := 4) hC 2 dX5_judged_4 rfl rfl ?_
    refine R_aload_n (pc := 5) hC 0 dX5_judged_5 rfl rfl ?_
    refine gf_X5_23 (pc := 6) hC hn dX5_judged_6 ?_
    refine R_icmp_ge (tgt := 89) (pc := 9) hC dX5_judged_9 (by decide) (fun c => ?_) (fun c => ?_)
    · replace hg := (if_pos c).symm.trans hg
      refine R_pick [0, 1, 2] (ls' := [(0, .ref 35), (1, .int y1), (2, .int y2)]) rfl ?_
      have h9 := kE4 _ (Option.some.inj hg).symm
      exact h9
    · replace hg := (if_neg c).symm.trans hg
      refine R_iload_n (pc := 12) hC 2 dX5_judged_12 rfl rfl ?_
      refine R_bipush (pc := 13) hC dX5_judged_13 kb_10 ?_
      refine R_icmp_ge (tgt := 89) (pc := 15) hC dX5_judged_15 (by decide) (fun c => ?_) (fun c => ?_)
      · replace hg := (if_pos c).symm.trans hg
        refine R_pick [0, 1, 2] (ls' := [(0, .ref 35), (1, .int y1), (2, .int y2)]) rfl ?_
        have h9 := kE4 _ (Option.some.inj hg).symm
        exact h9
      · replace hg := (if_neg c).symm.trans hg
        refine R_aload_n (pc := 18) hC 0 dX5_judged_18 rfl rfl ?_
        refine gf_X5_19 (pc := 19) hC hn dX5_judged_19 ?_
        refine R_iload_n (pc := 22) hC 2 dX5_judged_22 rfl rfl ?_
        obtain ⟨c3, hg⟩ := chk_some hg
        refine R_iaload (pc := 23) hC 36 (jx hn rfl) ly36 (inb_vp c3) dX5_judged_23 ?_
        obtain ⟨x4, hx4, hg⟩ := lete_some hg
        refine R_top hx4 ?_
        refine R_istore_n (pc := 24) hC dX5_judged_24 rfl hL rfl (show _ = [(3, .int x4), (0, .ref 35), (1, .int y1), (2, .int y2)] from rfl) ?_
        refine R_aload_n (pc := 25) hC 1 dX5_judged_25 rfl rfl ?_
        refine gf_X5_9 (pc := 26) hC hn dX5_judged_26 ?_
        refine R_iload_n (pc := 29) hC 0 dX5_judged_29 rfl rfl ?_
        obtain ⟨x5, hx5, hg⟩ := bind_some hg
        refine R_callVN (pc := 30) (av := [.int x4]) (rest := []) hC hR 1 (jx hn rfl) ly1 rfl mf_X6_hasLane wm_X5_27 (LX6_hasLane hn isv1 hx5) rfl rfl rfl (Nat.le_of_ble_eq_true rfl) dX5_judged_30 rfl ?_
        show RX K 33 [(3, .int x4), (0, .ref 35), (1, .int y1), (2, .int y2)] [.int (b2i x5)] m
        refine R_ifB_eq (tgt := 48) (pc := 33) hC dX5_judged_33 (by decide) (fun c => ?_) (fun c => ?_)
        · replace hg := (if_neg c).symm.trans hg
          refine R_iload_n (pc := 48) hC 3 dX5_judged_48 rfl rfl ?_
          have h9 := kE4 _ (Option.some.inj hg).symm
          exact R_ireturn (pc := 49) hC dX5_judged_49 h9
        · replace hg := (if_pos c).symm.trans hg
          refine R_aload_n (pc := 36) hC 1 dX5_judged_36 rfl rfl ?_
          refine gf_X5_9 (pc := 37) hC hn dX5_judged_37 ?_
          refine R_iload_n (pc := 40) hC 0 dX5_judged_40 rfl rfl ?_
          obtain ⟨x6, hx6, hg⟩ := bind_some hg
          refine R_callVN (pc := 41) (av := [.int x4]) (rest := []) hC hR 1 (jx hn rfl) ly1 rfl mf_X6_ruleOf wm_X5_33 (LX6_ruleOf hn isv1 hx6) rfl rfl rfl (Nat.le_of_ble_eq_true rfl) dX5_judged_41 rfl ?_
          show RX K 44 [(3, .int x4), (0, .ref 35), (1, .int y1), (2, .int y2)] [.int x6] m
          refine R_iconst (pc := 44) hC dX5_judged_44 ki_2 ?_
          refine R_icmp_ne (tgt := 50) (pc := 45) hC dX5_judged_45 (by decide) (fun c => ?_) (fun c => ?_)
          · replace hg := (if_neg c).symm.trans hg
            refine R_iconst (pc := 50) hC dX5_judged_50 ki_1 ?_
            refine R_iload_n (pc := 51) hC 0 dX5_judged_51 rfl rfl ?_
            refine R_ishl (pc := 52) hC dX5_judged_52 ?_
            obtain ⟨x7, hx7, hg⟩ := lete_some hg
            refine R_top hx7 ?_
            refine R_istore (pc := 53) hC dX5_judged_53 hL rfl (show _ = [(4, .int x7), (3, .int x4), (0, .ref 35), (1, .int y1), (2, .int y2)] from rfl) ?_
            refine R_iload_n (pc := 55) hC 3 dX5_judged_55 rfl rfl ?_
            refine R_iload (pc := 56) hC 0 dX5_judged_56 rfl ?_
            refine R_iand (pc := 58) hC dX5_judged_58 ?_
            refine R_if_ne (tgt := 76) (pc := 59) hC dX5_judged_59 (by decide) (fun c => ?_) (fun c => ?_)
            · replace hg := (if_neg c).symm.trans hg
              refine R_iload_n (pc := 76) hC 4 dX5_judged_76 rfl rfl ?_
              have h9 := kE4 _ (Option.some.inj hg).symm
              exact R_ireturn (pc := 77) hC dX5_judged_77 h9
            · replace hg := (if_pos c).symm.trans hg
              refine R_aload_n (pc := 62) hC 2 dX5_judged_62 rfl rfl ?_
              refine gf_X5_15 (pc := 63) hC hn dX5_judged_63 ?_
              refine R_iload_n (pc := 66) hC 3 dX5_judged_66 rfl rfl ?_
              refine R_iload (pc := 67) hC 0 dX5_judged_67 rfl ?_
              refine R_ior (pc := 69) hC dX5_judged_69 ?_
              obtain ⟨x8, hx8, hg⟩ := bind_some hg
              refine R_callVN (pc := 70) (av := [.int (y1 ||| x7)]) (rest := []) hC hR 24 (jx hn rfl) ly24 rfl mf_X2_hasRing wm_X5_37 (LX2_hasRing hn hx8) rfl rfl rfl (Nat.le_of_ble_eq_true rfl) dX5_judged_70 rfl ?_
              show RX K 73 [(4, .int x7), (3, .int x4), (0, .ref 35), (1, .int y1), (2, .int y2)] [.int (b2i x8)] m
              refine R_ifB_eq (tgt := 78) (pc := 73) hC dX5_judged_73 (by decide) (fun c => ?_) (fun c => ?_)
              · replace hg := (if_neg c).symm.trans hg
                refine R_iload_n (pc := 78) hC 3 dX5_judged_78 rfl rfl ?_
                refine R_iload (pc := 79) hC 0 dX5_judged_79 rfl ?_
                refine R_ior (pc := 81) hC dX5_judged_81 ?_
                obtain ⟨x9, hx9, hg⟩ := lete_some hg
                refine R_top hx9 ?_
                refine R_istore_n (pc := 82) hC dX5_judged_82 rfl hL rfl (show _ = [(1, .int x9), (4, .int x7), (3, .int x4), (0, .ref 35), (2, .int y2)] from rfl) ?_
                refine R_iinc (pc := 83) hC 4 dX5_judged_83 rfl (iv ki_1) hL rfl (show _ = [(2, .int (y2 + 1)), (1, .int x9), (4, .int x7), (3, .int x4), (0, .ref 35)] from rfl) ?_
                refine R_goto (tgt := 4) (pc := 86) hC dX5_judged_86 (by decide) ?_
                refine R_pick [4, 1, 0] (ls' := [(0, .ref 35), (1, .int x9), (2, .int (y2 + 1))]) rfl ?_
                have h9 := kL4 _ (Option.some.inj hg).symm
                exact h9
              · replace hg := (if_pos c).symm.trans hg
                refine R_iload_n (pc := 76) hC 4 dX5_judged_76 rfl rfl ?_
                have h9 := kE4 _ (Option.some.inj hg).symm
                exact R_ireturn (pc := 77) hC dX5_judged_77 h9
          · replace hg := (if_pos c).symm.trans hg
            refine R_iload_n (pc := 48) hC 3 dX5_judged_48 rfl rfl ?_
            have h9 := kE4 _ (Option.some.inj hg).symm
            exact R_ireturn (pc := 49) hC dX5_judged_49 h9
  · rcases e10 with s12 | q
    · replace hg := (Sum.elim_inl _ _ _).symm.trans hg
      show RX K 89 [(0, .ref 35), (1, .int s12.1), (2, .int s12.2)] [] m
      refine R_aload_n (pc := 89) hC 0 dX5_judged_89 rfl rfl ?_
      refine gf_X5_15 (pc := 90) hC hn dX5_judged_90 ?_
      refine R_iload_n (pc := 93) hC 1 dX5_judged_93 rfl rfl ?_
      obtain ⟨x13, hx13, hg⟩ := bind_some hg
      refine R_callVN (pc := 94) (av := [.int s12.1]) (rest := []) hC hR 24 (jx hn rfl) ly24 rfl mf_X2_isWay wm_X5_42 (LX2_isWay hn hx13) rfl rfl rfl (Nat.le_of_ble_eq_true rfl) dX5_judged_94 rfl ?_
      show RX K 97 [(0, .ref 35), (1, .int s12.1), (2, .int s12.2)] [.int (b2i x13)] m
      refine R_ifB_eq (tgt := 105) (pc := 97) hC dX5_judged_97 (by decide) (fun c => ?_) (fun c => ?_)
      · replace hg := (if_neg c).symm.trans hg
        refine R_aload_n (pc := 105) hC 0 dX5_judged_105 rfl rfl ?_
        refine gf_X5_23 (pc := 106) hC hn dX5_judged_106 ?_
        have h9 := gxI (m := m) hg
        exact R_ireturn (pc := 109) hC dX5_judged_109 h9
      · replace hg := (if_pos c).symm.trans hg
        refine R_bipush (pc := 100) hC dX5_judged_100 kb_m9 ?_
        refine R_goto (tgt := 109) (pc := 102) hC dX5_judged_102 (by decide) ?_
        have h9 := gxI (m := m) hg
        exact R_ireturn (pc := 109) hC dX5_judged_109 h9
    · replace hg := (Sum.elim_inr _ _ _).symm.trans hg
      exact gxI hg
