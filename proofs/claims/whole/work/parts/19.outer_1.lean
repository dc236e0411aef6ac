theorem dX8_refuse_0 : decode cX8_refuse 0 = .ok (.iload_n 1, 1) := by decide +kernel
theorem dX8_refuse_1 : decode cX8_refuse 1 = .ok (.ineg, 1) := by decide +kernel
theorem dX8_refuse_2 : decode cX8_refuse 2 = .ok (.istore_n 2, 1) := by decide +kernel
theorem dX8_refuse_3 : decode cX8_refuse 3 = .ok (.iload_n 2, 1) := by decide +kernel
theorem dX8_refuse_4 : decode cX8_refuse 4 = .ok (.iconst 1, 1) := by decide +kernel
theorem dX8_refuse_5 : decode cX8_refuse 5 = .ok (.if_icmp .lt 22, 3) := by decide +kernel
theorem dX8_refuse_8 : decode cX8_refuse 8 = .ok (.iload_n 2, 1) := by decide +kernel
theorem dX8_refuse_9 : decode cX8_refuse 9 = .ok (.aload_n 0, 1) := by decide +kernel
theorem dX8_refuse_10 : decode cX8_refuse 10 = .ok (.getfield 81, 3) := by decide +kernel
theorem dX8_refuse_13 : decode cX8_refuse 13 = .ok (.arraylength, 1) := by decide +kernel
theorem dX8_refuse_14 : decode cX8_refuse 14 = .ok (.if_icmp .ge 13, 3) := by decide +kernel
theorem dX8_refuse_17 : decode cX8_refuse 17 = .ok (.aload_n 0, 1) := by decide +kernel
theorem dX8_refuse_18 : decode cX8_refuse 18 = .ok (.getfield 81, 3) := by decide +kernel
theorem dX8_refuse_21 : decode cX8_refuse 21 = .ok (.iload_n 2, 1) := by decide +kernel
theorem dX8_refuse_22 : decode cX8_refuse 22 = .ok (.dup2, 1) := by decide +kernel
theorem dX8_refuse_23 : decode cX8_refuse 23 = .ok (.iaload, 1) := by decide +kernel
theorem dX8_refuse_24 : decode cX8_refuse 24 = .ok (.iconst 1, 1) := by decide +kernel
theorem dX8_refuse_25 : decode cX8_refuse 25 = .ok (.iadd, 1) := by decide +kernel
theorem dX8_refuse_26 : decode cX8_refuse 26 = .ok (.iastore, 1) := by decide +kernel
theorem dX8_refuse_27 : decode cX8_refuse 27 = .ok (.iload_n 1, 1) := by decide +kernel
theorem dX8_refuse_28 : decode cX8_refuse 28 = .ok (.ireturn, 1) := by decide +kernel
def gX8_refuse (m : Mem) (a1 : Int32) : Option (Int32 × Mem) := lete (-a1) (fun x1 => (if x1 < 1 then some (a1, m) else (if 7 ≤ x1 then some (a1, m) else chk (inb x1 7) (chk (inb x1 7) (lete (mu m 42 (Int32.toNatClampNeg x1) ((m.1 42 (Int32.toNatClampNeg x1)) + 1)) (fun m4 => some (a1, m4)))))))
set_option maxHeartbeats 4000000 in
set_option maxRecDepth 20000 in
theorem LX8_refuse {n : Nat} {m : Mem} {a1 : Int32} {r : Int32 × Mem} (hn : 43 ≤ n) (hg : gX8_refuse m a1 = some r) : MX yX8_refuse cX8_refuse 3 (some .int) { frames := 0, cells := 0, slots := 0, locals := 0 } n [.ref 0, .int a1] m (some (.int r.1)) r.2 := by
  refine MX_of (by decide) (Nat.le_of_ble_eq_true rfl) (Or.inr (Or.inl ⟨rfl, _, rfl⟩)) (fun K hC hk hL hR => ?_)
  replace hn : 43 ≤ kn K := hk.symm ▸ hn
  show RX K 0 [(0, .ref 0), (1, .int a1)] [] m
  rw [gX8_refuse] at hg
  refine R_iload_n (pc := 0) hC 1 dX8_refuse_0 rfl rfl ?_
  refine R_ineg (pc := 1) hC dX8_refuse_1 ?_
  obtain ⟨x1, hx1, hg⟩ := lete_some hg
  refine R_top hx1 ?_
  refine R_istore_n (pc := 2) hC dX8_refuse_2 rfl hL rfl (show _ = [(2, .int x1), (0, .ref 0), (1, .int a1)] from rfl) ?_
  refine R_iload_n (pc := 3) hC 0 dX8_refuse_3 rfl rfl ?_
  refine R_iconst (pc := 4) hC dX8_refuse_4 ki_1 ?_
  refine R_icmp_lt (tgt := 27) (pc := 5) hC dX8_refuse_5 (by decide) (fun c => ?_) (fun c => ?_)
  · replace hg := (if_pos c).symm.trans hg
    refine R_iload_n (pc := 27) hC 2 dX8_refuse_27 rfl rfl ?_
    have h9 := gxIM hg
    exact R_ireturn (pc := 28) hC dX8_refuse_28 h9
  · replace hg := (if_neg c).symm.trans hg
    refine R_iload_n (pc := 8) hC 0 dX8_refuse_8 rfl rfl ?_
    refine R_aload_n (pc := 9) hC 1 dX8_refuse_9 rfl rfl ?_
    refine gf_X8_81 (pc := 10) hC hn dX8_refuse_10 ?_
    refine R_alen (pc := 13) hC 42 (jx hn rfl) ly42 dX8_refuse_13 ?_
    show RX K 14 [(2, .int x1), (0, .ref 0), (1, .int a1)] [.int 7, .int x1] m
    refine R_icmp_ge (tgt := 27) (pc := 14) hC dX8_refuse_14 (by decide) (fun c => ?_) (fun c => ?_)
    · replace hg := (if_pos c).symm.trans hg
      refine R_iload_n (pc := 27) hC 2 dX8_refuse_27 rfl rfl ?_
      have h9 := gxIM hg
      exact R_ireturn (pc := 28) hC dX8_refuse_28 h9
    · replace hg := (if_neg c).symm.trans hg
      refine R_aload_n (pc := 17) hC 1 dX8_refuse_17 rfl rfl ?_
      refine gf_X8_81 (pc := 18) hC hn dX8_refuse_18 ?_
      refine R_iload_n (pc := 21) hC 0 dX8_refuse_21 rfl rfl ?_
      refine R_dup2 (pc := 22) hC dX8_refuse_22 rfl rfl ?_
      obtain ⟨c2, hg⟩ := chk_some hg
      refine R_iaload (pc := 23) hC 42 (jx hn rfl) ly42 (inb_vp c2) dX8_refuse_23 ?_
      refine R_iconst (pc := 24) hC dX8_refuse_24 ki_1 ?_
      refine R_iadd (pc := 25) hC dX8_refuse_25 ?_
      obtain ⟨c3, hg⟩ := chk_some hg
      obtain ⟨m4, hm4, hg⟩ := lete_some hg
      refine R_iastore (pc := 26) hC 42 (jx hn rfl) ly42 (inb_vp c3) dX8_refuse_26 ?_
      refine R_mem hm4 ?_
      refine R_iload_n (pc := 27) hC 2 dX8_refuse_27 rfl rfl ?_
      have h9 := gxIM hg
      exact R_ireturn (pc := 28) hC dX8_refuse_28 h9
theorem dX8_feed_0 : decode cX8_feed 0 = .ok (.iload_n 1, 1) := by decide +kernel
theorem dX8_feed_1 : decode cX8_feed 1 = .ok (.ifCond .ge 10, 3) := by decide +kernel
theorem dX8_feed_4 : decode cX8_feed 4 = .ok (.aload_n 0, 1) := by decide +kernel
theorem dX8_feed_5 : decode cX8_feed 5 = .ok (.bipush (-4), 2) := by decide +kernel
theorem dX8_feed_7 : decode cX8_feed 7 = .ok (.invokevirtual 91, 3) := by decide +kernel
theorem dX8_feed_10 : decode cX8_feed 10 = .ok (.ireturn, 1) := by decide +kernel
theorem dX8_feed_11 : decode cX8_feed 11 = .ok (.iload_n 1, 1) := by decide +kernel
theorem dX8_feed_12 : decode cX8_feed 12 = .ok (.sipush 255, 3) := by decide +kernel
theorem dX8_feed_15 : decode cX8_feed 15 = .ok (.if_icmp .gt 13, 3) := by decide +kernel
theorem dX8_feed_18 : decode cX8_feed 18 = .ok (.aload_n 0, 1) := by decide +kernel
theorem dX8_feed_19 : decode cX8_feed 19 = .ok (.getfield 29, 3) := by decide +kernel
theorem dX8_feed_22 : decode cX8_feed 22 = .ok (.invokevirtual 95, 3) := by decide +kernel
theorem dX8_feed_25 : decode cX8_feed 25 = .ok (.ifCond .ne 10, 3) := by decide +kernel
theorem dX8_feed_28 : decode cX8_feed 28 = .ok (.aload_n 0, 1) := by decide +kernel
theorem dX8_feed_29 : decode cX8_feed 29 = .ok (.bipush (-6), 2) := by decide +kernel
theorem dX8_feed_31 : decode cX8_feed 31 = .ok (.invokevirtual 91, 3) := by decide +kernel
theorem dX8_feed_34 : decode cX8_feed 34 = .ok (.ireturn, 1) := by decide +kernel
theorem dX8_feed_35 : decode cX8_feed 35 = .ok (.aload_n 0, 1) := by decide +kernel
theorem dX8_feed_36 : decode cX8_feed 36 = .ok (.getfield 29, 3) := by decide +kernel
theorem dX8_feed_39 : decode cX8_feed 39 = .ok (.iload_n 1, 1) := by decide +kernel
theorem dX8_feed_40 : decode cX8_feed 40 = .ok (.invokevirtual 99, 3) := by decide +kernel
theorem dX8_feed_43 : decode cX8_feed 43 = .ok (.ireturn, 1) := by decide +kernel
def gX8_feed (m : Mem) (a1 : Int32) : Option (Int32 × Mem) := (if 0 ≤ a1 then (if 255 < a1 then (gX8_refuse m (-6)).bind (fun q1 => some (q1.1, q1.2)) else (gX3_haveRoom m).bind (fun x2 => (if x2 = true then (gX3_append m a1).bind (fun q3 => some (q3.1, q3.2)) else (gX8_refuse m (-6)).bind (fun q4 => some (q4.1, q4.2))))) else (gX8_refuse m (-4)).bind (fun q5 => some (q5.1, q5.2)))
set_option maxHeartbeats 4000000 in
set_option maxRecDepth 20000 in
theorem LX8_feed {n : Nat} {m : Mem} {a1 : Int32} {r : Int32 × Mem} (hn : 43 ≤ n) (hg : gX8_feed m a1 = some r) : MX yX8_feed cX8_feed 2 (some .int) { frames := 1, cells := 0, slots := 0, locals := 22 } n [.ref 0, .int a1] m (some (.int r.1)) r.2 := by
  refine MX_of (by decide) (Nat.le_of_ble_eq_true rfl) (Or.inr (Or.inl ⟨rfl, _, rfl⟩)) (fun K hC hk hL hR => ?_)
  replace hn : 43 ≤ kn K := hk.symm ▸ hn
  show RX K 0 [(0, .ref 0), (1, .int a1)] [] m
  rw [gX8_feed] at hg
  refine R_iload_n (pc := 0) hC 1 dX8_feed_0 rfl rfl ?_
  refine R_if_ge (tgt := 11) (pc := 1) hC dX8_feed_1 (by decide) (fun c => ?_) (fun c => ?_)
  · replace hg := (if_pos c).symm.trans hg
    refine R_iload_n (pc := 11) hC 1 dX8_feed_11 rfl rfl ?_
    refine R_sipush (pc := 12) hC dX8_feed_12 ks_255 ?_
    refine R_icmp_gt (tgt := 28) (pc := 15) hC dX8_feed_15 (by decide) (fun c => ?_) (fun c => ?_)
    · replace hg := (if_pos c).symm.trans hg
      refine R_aload_n (pc := 28) hC 0 dX8_feed_28 rfl rfl ?_
      refine R_bipush (pc := 29) hC dX8_feed_29 kb_m6 ?_
      obtain ⟨q1, hq1, hg⟩ := bind_some hg
      refine R_callV (pc := 31) (av := [.int (-6)]) (rest := []) hC hR 0 (jx hn rfl) ly0 rfl mf_X8_refuse wm_X8_91 (LX8_refuse hn hq1) rfl rfl rfl (Nat.le_of_ble_eq_true rfl) dX8_feed_31 rfl ?_
      show RX K 34 [(0, .ref 0), (1, .int a1)] [.int q1.1] q1.2
      have h9 := gxIM hg
      exact R_ireturn (pc := 34) hC dX8_feed_34 h9
    · replace hg := (if_neg c).symm.trans hg
      refine R_aload_n (pc := 18) hC 0 dX8_feed_18 rfl rfl ?_
      refine gf_X8_29 (pc := 19) hC hn dX8_feed_19 ?_
      obtain ⟨x2, hx2, hg⟩ := bind_some hg
      refine R_callVN (pc := 22) (av := []) (rest := []) hC hR 22 (jx hn rfl) ly22 rfl mf_X3_haveRoom wm_X8_95 (LX3_haveRoom hn hx2) rfl rfl rfl (Nat.le_of_ble_eq_true rfl) dX8_feed_22 rfl ?_
      show RX K 25 [(0, .ref 0), (1, .int a1)] [.int (b2i x2)] m
      refine R_ifB_ne (tgt := 35) (pc := 25) hC dX8_feed_25 (by decide) (fun c => ?_) (fun c => ?_)
      · replace hg := (if_pos c).symm.trans hg
        refine R_aload_n (pc := 35) hC 0 dX8_feed_35 rfl rfl ?_
        refine gf_X8_29 (pc := 36) hC hn dX8_feed_36 ?_
        refine R_iload_n (pc := 39) hC 1 dX8_feed_39 rfl rfl ?_
        obtain ⟨q3, hq3, hg⟩ := bind_some hg
        refine R_callVN (pc := 40) (av := [.int a1]) (rest := []) hC hR 22 (jx hn rfl) ly22 rfl mf_X3_append wm_X8_99 (LX3_append hn hq3) rfl rfl rfl (Nat.le_of_ble_eq_true rfl) dX8_feed_40 rfl ?_
        show RX K 43 [(0, .ref 0), (1, .int a1)] [.int q3.1] q3.2
        have h9 := gxIM hg
        exact R_ireturn (pc := 43) hC dX8_feed_43 h9
      · replace hg := (if_neg c).symm.trans hg
        refine R_aload_n (pc := 28) hC 0 dX8_feed_28 rfl rfl ?_
        refine R_bipush (pc := 29) hC dX8_feed_29 kb_m6 ?_
        obtain ⟨q4, hq4, hg⟩ := bind_some hg
        refine R_callV (pc := 31) (av := [.int (-6)]) (rest := []) hC hR 0 (jx hn rfl) ly0 rfl mf_X8_refuse wm_X8_91 (LX8_refuse hn hq4) rfl rfl rfl (Nat.le_of_ble_eq_true rfl) dX8_feed_31 rfl ?_
        show RX K 34 [(0, .ref 0), (1, .int a1)] [.int q4.1] q4.2
        have h9 := gxIM hg
        exact R_ireturn (pc := 34) hC dX8_feed_34 h9
  · replace hg := (if_neg c).symm.trans hg
    refine R_aload_n (pc := 4) hC 0 dX8_feed_4 rfl rfl ?_
    refine R_bipush (pc := 5) hC dX8_feed_5 kb_m4 ?_
    obtain ⟨q5, hq5, hg⟩ := bind_some hg
    refine R_callV (pc := 7) (av := [.int (-4)]) (rest := []) hC hR 0 (jx hn rfl) ly0 rfl mf_X8_refuse wm_X8_91 (LX8_refuse hn hq5) rfl rfl rfl (Nat.le_of_ble_eq_true rfl) dX8_feed_7 rfl ?_
    show RX K 10 [(0, .ref 0), (1, .int a1)] [.int q5.1] q5.2
    have h9 := gxIM hg
    exact R_ireturn (pc := 10) hC dX8_feed_10 h9
theorem dX8_lanesChanged_0 : decode cX8_lanesChanged 0 = .ok (.aload_n 0, 1) := by decide +kernel
theorem dX8_lanesChanged_1 : decode cX8_lanesChanged 1 = .ok (.getfield 38, 3) := by decide +kernel
theorem dX8_lanesChanged_4 : decode cX8_lanesChanged 4 = .ok (.invokevirtual 85, 3) := by decide +kernel
theorem dX8_lanesChanged_7 : decode cX8_lanesChanged 7 = .ok (.aload_n 0, 1) := by decide +kernel
theorem dX8_lanesChanged_8 : decode cX8_lanesChanged 8 = .ok (.getfield 47, 3) := by decide +kernel
theorem dX8_lanesChanged_11 : decode cX8_lanesChanged 11 = .ok (.invokevirtual 88, 3) := by decide +kernel
theorem dX8_lanesChanged_14 : decode cX8_lanesChanged 14 = .ok (.return_, 1) := by decide +kernel
def gX8_lanesChanged (F : Nat) (m : Mem) : Option (Mem) := (gX2_build F m).bind (fun q1 => (gX7_list F q1).bind (fun q2 => some q2))
set_option maxHeartbeats 4000000 in
set_option maxRecDepth 20000 in
theorem LX8_lanesChanged {n : Nat} {F : Nat} {m : Mem} {r : Mem} (hn : 43 ≤ n) (hg : gX8_lanesChanged F m  = some r) : MX yX8_lanesChanged cX8_lanesChanged 1 none { frames := 4, cells := 0, slots := 0, locals := 95 } n [.ref 0] m (none) r := by
  refine MX_of (by decide) (Nat.le_of_ble_eq_true rfl) (Or.inl ⟨rfl, rfl⟩) (fun K hC hk hL hR => ?_)
  replace hn : 43 ≤ kn K := hk.symm ▸ hn
  show RX K 0 [(0, .ref 0)] [] m
  rw [gX8_lanesChanged] at hg
  refine R_aload_n (pc := 0) hC 0 dX8_lanesChanged_0 rfl rfl ?_
  refine gf_X8_38 (pc := 1) hC hn dX8_lanesChanged_1 ?_
  obtain ⟨q1, hq1, hg⟩ := bind_some hg
  refine R_callVN (pc := 4) (av := []) (rest := []) hC hR 24 (jx hn rfl) ly24 rfl mf_X2_build wm_X8_85 (LX2_build hn hq1) rfl rfl rfl (Nat.le_of_ble_eq_true rfl) dX8_lanesChanged_4 rfl ?_
  show RX K 7 [(0, .ref 0)] [] q1
  refine R_aload_n (pc := 7) hC 0 dX8_lanesChanged_7 rfl rfl ?_
  refine gf_X8_47 (pc := 8) hC hn dX8_lanesChanged_8 ?_
  obtain ⟨q2, hq2, hg⟩ := bind_some hg
  refine R_callVN (pc := 11) (av := []) (rest := []) hC hR 26 (jx hn rfl) ly26 rfl mf_X7_list wm_X8_88 (LX7_list hn hq2) rfl rfl rfl (Nat.le_of_ble_eq_true rfl) dX8_lanesChanged_11 rfl ?_
  show RX K 14 [(0, .ref 0)] [] q2
  have h9 := gxV hg
  exact R_return (pc := 14) hC dX8_lanesChanged_14 h9
theorem dX8_village_0 : decode cX8_village 0 = .ok (.aload_n 0, 1) := by decide +kernel
theorem dX8_village_1 : decode cX8_village 1 = .ok (.getfield 16, 3) := by decide +kernel
theorem dX8_village_4 : decode cX8_village 4 = .ok (.aload_n 0, 1) := by decide +kernel
theorem dX8_village_5 : decode cX8_village 5 = .ok (.getfield 10, 3) := by decide +kernel
theorem dX8_village_8 : decode cX8_village 8 = .ok (.invokevirtual 102, 3) := by decide +kernel
theorem dX8_village_11 : decode cX8_village 11 = .ok (.aload_n 0, 1) := by decide +kernel
theorem dX8_village_12 : decode cX8_village 12 = .ok (.getfield 29, 3) := by decide +kernel
theorem dX8_village_15 : decode cX8_village 15 = .ok (.aload_n 0, 1) := by decide +kernel
theorem dX8_village_16 : decode cX8_village 16 = .ok (.getfield 16, 3) := by decide +kernel
theorem dX8_village_19 : decode cX8_village 19 = .ok (.invokevirtual 105, 3) := by decide +kernel
theorem dX8_village_22 : decode cX8_village 22 = .ok (.istore_n 1, 1) := by decide +kernel
theorem dX8_village_23 : decode cX8_village 23 = .ok (.aload_n 0, 1) := by decide +kernel
theorem dX8_village_24 : decode cX8_village 24 = .ok (.getfield 29, 3) := by decide +kernel
theorem dX8_village_27 : decode cX8_village 27 = .ok (.invokevirtual 109, 3) := by decide +kernel
theorem dX8_village_30 : decode cX8_village 30 = .ok (.iload_n 1, 1) := by decide +kernel
theorem dX8_village_31 : decode cX8_village 31 = .ok (.ifCond .le 18, 3) := by decide +kernel
theorem dX8_village_34 : decode cX8_village 34 = .ok (.aload_n 0, 1) := by decide +kernel
theorem dX8_village_35 : decode cX8_village 35 = .ok (.getfield 10, 3) := by decide +kernel
theorem dX8_village_38 : decode cX8_village 38 = .ok (.aload_n 0, 1) := by decide +kernel
theorem dX8_village_39 : decode cX8_village 39 = .ok (.getfield 16, 3) := by decide +kernel
theorem dX8_village_42 : decode cX8_village 42 = .ok (.invokevirtual 102, 3) := by decide +kernel
theorem dX8_village_45 : decode cX8_village 45 = .ok (.aload_n 0, 1) := by decide +kernel
theorem dX8_village_46 : decode cX8_village 46 = .ok (.invokevirtual 112, 3) := by decide +kernel
theorem dX8_village_49 : decode cX8_village 49 = .ok (.iload_n 1, 1) := by decide +kernel
theorem dX8_village_50 : decode cX8_village 50 = .ok (.ireturn, 1) := by decide +kernel
def gX8_village (F : Nat) (m : Mem) : Option (Int32 × Mem) := (gX6_copy F m 8 1).bind (fun q1 => (gX3_tellTo F q1).bind (fun q2 => (gX3_clear q2.2).bind (fun q3 => (if q2.1 ≤ 0 then some (q2.1, q3) else (gX6_copy F q3 1 8).bind (fun q4 => (gX8_lanesChanged F q4).bind (fun q5 => some (q2.1, q5)))))))
set_option maxHeartbeats 4000000 in
set_option maxRecDepth 20000 in
theorem LX8_village {n : Nat} {F : Nat} {m : Mem} {r : Int32 × Mem} (hn : 43 ≤ n) (hg : gX8_village F m  = some r) : MX yX8_village cX8_village 2 (some .int) { frames := 6, cells := 0, slots := 0, locals := 141 } n [.ref 0] m (some (.int r.1)) r.2 := by
  refine MX_of (by decide) (Nat.le_of_ble_eq_true rfl) (Or.inr (Or.inl ⟨rfl, _, rfl⟩)) (fun K hC hk hL hR => ?_)
  replace hn : 43 ≤ kn K := hk.symm ▸ hn
  show RX K 0 [(0, .ref 0)] [] m
  rw [gX8_village] at hg
  refine R_aload_n (pc := 0) hC 0 dX8_village_0 rfl rfl ?_
  refine gf_X8_16 (pc := 1) hC hn dX8_village_1 ?_
  refine R_aload_n (pc := 4) hC 0 dX8_village_4 rfl rfl ?_
  refine gf_X8_10 (pc := 5) hC hn dX8_village_5 ?_
  obtain ⟨q1, hq1, hg⟩ := bind_some hg
  refine R_callVN (pc := 8) (av := [.ref 1]) (rest := []) hC hR 8 (jx hn rfl) ly8 rfl mf_X6_copy wm_X8_102 (LX6_copy hn isv8 isv1 hq1) rfl rfl rfl (Nat.le_of_ble_eq_true rfl) dX8_village_8 rfl ?_
  show RX K 11 [(0, .ref 0)] [] q1
  refine R_aload_n (pc := 11) hC 0 dX8_village_11 rfl rfl ?_
  refine gf_X8_29 (pc := 12) hC hn dX8_village_12 ?_
  refine R_aload_n (pc := 15) hC 0 dX8_village_15 rfl rfl ?_
  refine gf_X8_16 (pc := 16) hC hn dX8_village_16 ?_
  obtain ⟨q2, hq2, hg⟩ := bind_some hg
  refine R_callVN (pc := 19) (av := [.ref 8]) (rest := []) hC hR 22 (jx hn rfl) ly22 rfl mf_X3_tellTo wm_X8_105 (LX3_tellTo hn hq2) rfl rfl rfl (Nat.le_of_ble_eq_true rfl) dX8_village_19 rfl ?_
  show RX K 22 [(0, .ref 0)] [.int q2.1] q2.2
  refine R_istore_n (pc := 22) hC dX8_village_22 rfl hL rfl (show _ = [(1, .int q2.1), (0, .ref 0)] from rfl) ?_
  refine R_aload_n (pc := 23) hC 1 dX8_village_23 rfl rfl ?_
  refine gf_X8_29 (pc := 24) hC hn dX8_village_24 ?_
  obtain ⟨q3, hq3, hg⟩ := bind_some hg
  refine R_callVN (pc := 27) (av := []) (rest := []) hC hR 22 (jx hn rfl) ly22 rfl mf_X3_clear wm_X8_109 (LX3_clear hn hq3) rfl rfl rfl (Nat.le_of_ble_eq_true rfl) dX8_village_27 rfl ?_
  show RX K 30 [(1, .int q2.1), (0, .ref 0)] [] q3
  refine R_iload_n (pc := 30) hC 0 dX8_village_30 rfl rfl ?_
  refine R_if_le (tgt := 49) (pc := 31) hC dX8_village_31 (by decide) (fun c => ?_) (fun c => ?_)
  · replace hg := (if_pos c).symm.trans hg
    refine R_iload_n (pc := 49) hC 0 dX8_village_49 rfl rfl ?_
    have h9 := gxIM hg
    exact R_ireturn (pc := 50) hC dX8_village_50 h9
  · replace hg := (if_neg c).symm.trans hg
    refine R_aload_n (pc := 34) hC 1 dX8_village_34 rfl rfl ?_
    refine gf_X8_10 (pc := 35) hC hn dX8_village_35 ?_
    refine R_aload_n (pc := 38) hC 1 dX8_village_38 rfl rfl ?_
    refine gf_X8_16 (pc := 39) hC hn dX8_village_39 ?_
    obtain ⟨q4, hq4, hg⟩ := bind_some hg
    refine R_callVN (pc := 42) (av := [.ref 8]) (rest := []) hC hR 1 (jx hn rfl) ly1 rfl mf_X6_copy wm_X8_102 (LX6_copy hn isv1 isv8 hq4) rfl rfl rfl (Nat.le_of_ble_eq_true rfl) dX8_village_42 rfl ?_
    show RX K 45 [(1, .int q2.1), (0, .ref 0)] [] q4
    refine R_aload_n (pc := 45) hC 1 dX8_village_45 rfl rfl ?_
    obtain ⟨q5, hq5, hg⟩ := bind_some hg
    refine R_callV (pc := 46) (av := []) (rest := []) hC hR 0 (jx hn rfl) ly0 rfl mf_X8_lanesChanged wm_X8_112 (LX8_lanesChanged hn hq5) rfl rfl rfl (Nat.le_of_ble_eq_true rfl) dX8_village_46 rfl ?_
    show RX K 49 [(1, .int q2.1), (0, .ref 0)] [] q5
    refine R_iload_n (pc := 49) hC 0 dX8_village_49 rfl rfl ?_
    have h9 := gxIM hg
    exact R_ireturn (pc := 50) hC dX8_village_50 h9
theorem dX8_lane_0 : decode cX8_lane 0 = .ok (.aload_n 0, 1) := by decide +kernel
theorem dX8_lane_1 : decode cX8_lane 1 = .ok (.getfield 10, 3) := by decide +kernel
theorem dX8_lane_4 : decode cX8_lane 4 = .ok (.iload_n 1, 1) := by decide +kernel
theorem dX8_lane_5 : decode cX8_lane 5 = .ok (.invokevirtual 115, 3) := by decide +kernel
theorem dX8_lane_8 : decode cX8_lane 8 = .ok (.ifCond .ne 9, 3) := by decide +kernel
theorem dX8_lane_11 : decode cX8_lane 11 = .ok (.aload_n 0, 1) := by decide +kernel
theorem dX8_lane_12 : decode cX8_lane 12 = .ok (.iconst (-1), 1) := by decide +kernel
theorem dX8_lane_13 : decode cX8_lane 13 = .ok (.invokevirtual 91, 3) := by decide +kernel
theorem dX8_lane_16 : decode cX8_lane 16 = .ok (.ireturn, 1) := by decide +kernel
theorem dX8_lane_17 : decode cX8_lane 17 = .ok (.iload_n 2, 1) := by decide +kernel
theorem dX8_lane_18 : decode cX8_lane 18 = .ok (.tableswitch 111 0 6 #[42, 52, 62, 72, 82, 92, 102], 42) := by decide +kernel
theorem dX8_lane_60 : decode cX8_lane 60 = .ok (.aload_n 0, 1) := by decide +kernel
theorem dX8_lane_61 : decode cX8_lane 61 = .ok (.getfield 10, 3) := by decide +kernel
theorem dX8_lane_64 : decode cX8_lane 64 = .ok (.getfield 119, 3) := by decide +kernel
theorem dX8_lane_67 : decode cX8_lane 67 = .ok (.iload_n 1, 1) := by decide +kernel
theorem dX8_lane_68 : decode cX8_lane 68 = .ok (.iaload, 1) := by decide +kernel
theorem dX8_lane_69 : decode cX8_lane 69 = .ok (.ireturn, 1) := by decide +kernel
theorem dX8_lane_70 : decode cX8_lane 70 = .ok (.aload_n 0, 1) := by decide +kernel
theorem dX8_lane_71 : decode cX8_lane 71 = .ok (.getfield 10, 3) := by decide +kernel
theorem dX8_lane_74 : decode cX8_lane 74 = .ok (.getfield 122, 3) := by decide +kernel
theorem dX8_lane_77 : decode cX8_lane 77 = .ok (.iload_n 1, 1) := by decide +kernel
theorem dX8_lane_78 : decode cX8_lane 78 = .ok (.iaload, 1) := by decide +kernel
theorem dX8_lane_79 : decode cX8_lane 79 = .ok (.ireturn, 1) := by decide +kernel
theorem dX8_lane_80 : decode cX8_lane 80 = .ok (.aload_n 0, 1) := by decide +kernel
theorem dX8_lane_81 : decode cX8_lane 81 = .ok (.getfield 10, 3) := by decide +kernel
theorem dX8_lane_84 : decode cX8_lane 84 = .ok (.getfield 125, 3) := by decide +kernel
theorem dX8_lane_87 : decode cX8_lane 87 = .ok (.iload_n 1, 1) := by decide +kernel
theorem dX8_lane_88 : decode cX8_lane 88 = .ok (.iaload, 1) := by decide +kernel
theorem dX8_lane_89 : decode cX8_lane 89 = .ok (.ireturn, 1) := by decide +kernel
theorem dX8_lane_90 : decode cX8_lane 90 = .ok (.aload_n 0, 1) := by decide +kernel
theorem dX8_lane_91 : decode cX8_lane 91 = .ok (.getfield 10, 3) := by decide +kernel
theorem dX8_lane_94 : decode cX8_lane 94 = .ok (.getfield 128, 3) := by decide +kernel
theorem dX8_lane_97 : decode cX8_lane 97 = .ok (.iload_n 1, 1) := by decide +kernel
theorem dX8_lane_98 : decode cX8_lane 98 = .ok (.iaload, 1) := by decide +kernel
theorem dX8_lane_99 : decode cX8_lane 99 = .ok (.ireturn, 1) := by decide +kernel
theorem dX8_lane_100 : decode cX8_lane 100 = .ok (.aload_n 0, 1) := by decide +kernel
theorem dX8_lane_101 : decode cX8_lane 101 = .ok (.getfield 10, 3) := by decide +kernel
theorem dX8_lane_104 : decode cX8_lane 104 = .ok (.getfield 131, 3) := by decide +kernel
theorem dX8_lane_107 : decode cX8_lane 107 = .ok (.iload_n 1, 1) := by decide +kernel
theorem dX8_lane_108 : decode cX8_lane 108 = .ok (.iaload, 1) := by decide +kernel
theorem dX8_lane_109 : decode cX8_lane 109 = .ok (.ireturn, 1) := by decide +kernel
theorem dX8_lane_110 : decode cX8_lane 110 = .ok (.aload_n 0, 1) := by decide +kernel
theorem dX8_lane_111 : decode cX8_lane 111 = .ok (.getfield 10, 3) := by decide +kernel
theorem dX8_lane_114 : decode cX8_lane 114 = .ok (.getfield 134, 3) := by decide +kernel
theorem dX8_lane_117 : decode cX8_lane 117 = .ok (.iload_n 1, 1) := by decide +kernel
theorem dX8_lane_118 : decode cX8_lane 118 = .ok (.iaload, 1) := by decide +kernel
theorem dX8_lane_119 : decode cX8_lane 119 = .ok (.ireturn, 1) := by decide +kernel
theorem dX8_lane_120 : decode cX8_lane 120 = .ok (.aload_n 0, 1) := by decide +kernel
theorem dX8_lane_121 : decode cX8_lane 121 = .ok (.getfield 10, 3) := by decide +kernel
theorem dX8_lane_124 : decode cX8_lane 124 = .ok (.iload_n 1, 1) := by decide +kernel
theorem dX8_lane_125 : decode cX8_lane 125 = .ok (.invokevirtual 137, 3) := by decide +kernel
theorem dX8_lane_128 : decode cX8_lane 128 = .ok (.ireturn, 1) := by decide +kernel
theorem dX8_lane_129 : decode cX8_lane 129 = .ok (.aload_n 0, 1) := by decide +kernel
theorem dX8_lane_130 : decode cX8_lane 130 = .ok (.bipush (-2), 2) := by decide +kernel
theorem dX8_lane_132 : decode cX8_lane 132 = .ok (.invokevirtual 91, 3) := by decide +kernel
theorem dX8_lane_135 : decode cX8_lane 135 = .ok (.ireturn, 1) := by decide +kernel
def gX8_lane (m : Mem) (a1 : Int32) (a2 : Int32) : Option (Int32 × Mem) := (gX6_hasLane m 1 a1).bind (fun x1 => (if x1 = true then (if a2 = 0 then chk (inb a1 10) (some (m.1 2 (Int32.toNatClampNeg a1), m)) else (if a2 = 1 then chk (inb a1 10) (some (m.1 3 (Int32.toNatClampNeg a1), m)) else (if a2 = 2 then chk (inb a1 10) (some (m.1 4 (Int32.toNatClampNeg a1), m)) else (if a2 = 3 then chk (inb a1 10) (some (m.1 5 (Int32.toNatClampNeg a1), m)) else (if a2 = 4 then chk (inb a1 10) (some (m.1 6 (Int32.toNatClampNeg a1), m)) else (if a2 = 5 then chk (inb a1 10) (some (m.1 7 (Int32.toNatClampNeg a1), m)) else (if a2 = 6 then (gX6_ruleOf m 1 a1).bind (fun x15 => some (x15, m)) else (gX8_refuse m (-2)).bind (fun q16 => some (q16.1, q16.2))))))))) else (gX8_refuse m (-1)).bind (fun q17 => some (q17.1, q17.2))))
set_option maxHeartbeats 4000000 in
set_option maxRecDepth 20000 in
theorem LX8_lane {n : Nat} {m : Mem} {a1 : Int32} {a2 : Int32} {r : Int32 × Mem} (hn : 43 ≤ n) (hg : gX8_lane m a1 a2 = some r) : MX yX8_lane cX8_lane 3 (some .int) { frames := 1, cells := 0, slots := 0, locals := 22 } n [.ref 0, .int a1, .int a2] m (some (.int r.1)) r.2 := by
  refine MX_of (by decide) (Nat.le_of_ble_eq_true rfl) (Or.inr (Or.inl ⟨rfl, _, rfl⟩)) (fun K hC hk hL hR => ?_)
  replace hn : 43 ≤ kn K := hk.symm ▸ hn
  show RX K 0 [(0, .ref 0), (1, .int a1), (2, .int a2)] [] m
  rw [gX8_lane] at hg
  refine R_aload_n (pc := 0) hC 0 dX8_lane_0 rfl rfl ?_
  refine gf_X8_10 (pc := 1) hC hn dX8_lane_1 ?_
  refine R_iload_n (pc := 4) hC 1 dX8_lane_4 rfl rfl ?_
  obtain ⟨x1, hx1, hg⟩ := bind_some hg
  refine R_callVN (pc := 5) (av := [.int a1]) (rest := []) hC hR 1 (jx hn rfl) ly1 rfl mf_X6_hasLane wm_X8_115 (LX6_hasLane hn isv1 hx1) rfl rfl rfl (Nat.le_of_ble_eq_true rfl) dX8_lane_5 rfl ?_
  show RX K 8 [(0, .ref 0), (1, .int a1), (2, .int a2)] [.int (b2i x1)] m
  refine R_ifB_ne (tgt := 17) (pc := 8) hC dX8_lane_8 (by decide) (fun c => ?_) (fun c => ?_)
  · replace hg := (if_pos c).symm.trans hg
    refine R_iload_n (pc := 17) hC 2 dX8_lane_17 rfl rfl ?_
    by_cases c2 : a2 = 0
    · replace hg := (if_pos c2).symm.trans hg
      refine R_top c2 ?_
      refine R_tableIn (tgt := 60) (x := 0) (pc := 18) hC dX8_lane_18 (by decide) (by decide) (by rfl) (by decide) ?_
      refine R_aload_n (pc := 60) hC 0 dX8_lane_60 rfl rfl ?_
      refine gf_X8_10 (pc := 61) hC hn dX8_lane_61 ?_
      refine gf_X8_119 (pc := 64) hC hn isv1 dX8_lane_64 ?_
      refine R_iload_n (pc := 67) hC 1 dX8_lane_67 rfl rfl ?_
      obtain ⟨c3, hg⟩ := chk_some hg
      refine R_iaload (pc := 68) hC 2 (jx hn rfl) ly2 (inb_vp c3) dX8_lane_68 ?_
      have h9 := gxIM hg
      exact R_ireturn (pc := 69) hC dX8_lane_69 h9
    replace hg := (if_neg c2).symm.trans hg
    by_cases c4 : a2 = 1
    · replace hg := (if_pos c4).symm.trans hg
      refine R_top c4 ?_
      refine R_tableIn (tgt := 70) (x := 1) (pc := 18) hC dX8_lane_18 (by decide) (by decide) (by rfl) (by decide) ?_
      refine R_aload_n (pc := 70) hC 0 dX8_lane_70 rfl rfl ?_
      refine gf_X8_10 (pc := 71) hC hn dX8_lane_71 ?_
      refine gf_X8_122 (pc := 74) hC hn isv1 dX8_lane_74 ?_
      refine R_iload_n (pc := 77) hC 1 dX8_lane_77 rfl rfl ?_
      obtain ⟨c5, hg⟩ := chk_some hg
      refine R_iaload (pc := 78) hC 3 (jx hn rfl) ly3 (inb_vp c5) dX8_lane_78 ?_
      have h9 := gxIM hg
      exact R_ireturn (pc := 79) hC dX8_lane_79 h9
    replace hg := (if_neg c4).symm.trans hg
    by_cases c6 : a2 = 2
    · replace hg := (if_pos c6).symm.trans hg
      refine R_top c6 ?_
      refine R_tableIn (tgt := 80) (x := 2) (pc := 18) hC dX8_lane_18 (by decide) (by decide) (by rfl) (by decide) ?_
      refine R_aload_n (pc := 80) hC 0 dX8_lane_80 rfl rfl ?_
      refine gf_X8_10 (pc := 81) hC hn dX8_lane_81 ?_
      refine gf_X8_125 (pc := 84) hC hn isv1 dX8_lane_84 ?_
      refine R_iload_n (pc := 87) hC 1 dX8_lane_87 rfl rfl ?_
      obtain ⟨c7, hg⟩ := chk_some hg
      refine R_iaload (pc := 88) hC 4 (jx hn rfl) ly4 (inb_vp c7) dX8_lane_88 ?_
      have h9 := gxIM hg
      exact R_ireturn (pc := 89) hC dX8_lane_89 h9
    replace hg := (if_neg c6).symm.trans hg
    by_cases c8 : a2 = 3
    · replace hg := (if_pos c8).symm.trans hg
      refine R_top c8 ?_
      refine R_tableIn (tgt := 90) (x := 3) (pc := 18) hC dX8_lane_18 (by decide) (by decide) (by rfl) (by decide) ?_
      refine R_aload_n (pc := 90) hC 0 dX8_lane_90 rfl rfl ?_
      refine gf_X8_10 (pc := 91) hC hn dX8_lane_91 ?_
      refine gf_X8_128 (pc := 94) hC hn isv1 dX8_lane_94 ?_
      refine R_iload_n (pc := 97) hC 1 dX8_lane_97 rfl rfl ?_
      obtain ⟨c9, hg⟩ := chk_some hg
      refine R_iaload (pc := 98) hC 5 (jx hn rfl) ly5 (inb_vp c9) dX8_lane_98 ?_
      have h9 := gxIM hg
      exact R_ireturn (pc := 99) hC dX8_lane_99 h9
    replace hg := (if_neg c8).symm.trans hg
    by_cases c10 : a2 = 4
    · replace hg := (if_pos c10).symm.trans hg
      refine R_top c10 ?_
      refine R_tableIn (tgt := 100) (x := 4) (pc := 18) hC dX8_lane_18 (by decide) (by decide) (by rfl) (by decide) ?_
      refine R_aload_n (pc := 100) hC 0 dX8_lane_100 rfl rfl ?_
      refine gf_X8_10 (pc := 101) hC hn dX8_lane_101 ?_
      refine gf_X8_131 (pc := 104) hC hn isv1 dX8_lane_104 ?_
      refine R_iload_n (pc := 107) hC 1 dX8_lane_107 rfl rfl ?_
      obtain ⟨c11, hg⟩ := chk_some hg
      refine R_iaload (pc := 108) hC 6 (jx hn rfl) ly6 (inb_vp c11) dX8_lane_108 ?_
      have h9 := gxIM hg
      exact R_ireturn (pc := 109) hC dX8_lane_109 h9
    replace hg := (if_neg c10).symm.trans hg
    by_cases c12 : a2 = 5
    · replace hg := (if_pos c12).symm.trans hg
      refine R_top c12 ?_
      refine R_tableIn (tgt := 110) (x := 5) (pc := 18) hC dX8_lane_18 (by decide) (by decide) (by rfl) (by decide) ?_
      refine R_aload_n (pc := 110) hC 0 dX8_lane_110 rfl rfl ?_
      refine gf_X8_10 (pc := 111) hC hn dX8_lane_111 ?_
      refine gf_X8_134 (pc := 114) hC hn isv1 dX8_lane_114 ?_
      refine R_iload_n (pc := 117) hC 1 dX8_lane_117 rfl rfl ?_
      obtain ⟨c13, hg⟩ := chk_some hg
      refine R_iaload (pc := 118) hC 7 (jx hn rfl) ly7 (inb_vp c13) dX8_lane_118 ?_
      have h9 := gxIM hg
      exact R_ireturn (pc := 119) hC dX8_lane_119 h9
    replace hg := (if_neg c12).symm.trans hg
    by_cases c14 : a2 = 6
    · replace hg := (if_pos c14).symm.trans hg
      refine R_top c14 ?_
      refine R_tableIn (tgt := 120) (x := 6) (pc := 18) hC dX8_lane_18 (by decide) (by decide) (by rfl) (by decide) ?_
      refine R_aload_n (pc := 120) hC 0 dX8_lane_120 rfl rfl ?_
      refine gf_X8_10 (pc := 121) hC hn dX8_lane_121 ?_
      refine R_iload_n (pc := 124) hC 1 dX8_lane_124 rfl rfl ?_
      obtain ⟨x15, hx15, hg⟩ := bind_some hg
      refine R_callVN (pc := 125) (av := [.int a1]) (rest := []) hC hR 1 (jx hn rfl) ly1 rfl mf_X6_ruleOf wm_X8_137 (LX6_ruleOf hn isv1 hx15) rfl rfl rfl (Nat.le_of_ble_eq_true rfl) dX8_lane_125 rfl ?_
      show RX K 128 [(0, .ref 0), (1, .int a1), (2, .int a2)] [.int x15] m
      have h9 := gxIM hg
      exact R_ireturn (pc := 128) hC dX8_lane_128 h9
    replace hg := (if_neg c14).symm.trans hg
    refine R_tableOut (tgt := 129) (pc := 18) hC dX8_lane_18 (tab_out (fun k hk => ?_)) (by decide) ?_
    · have h9 : k = 0 ∨ k = 1 ∨ k = 2 ∨ k = 3 ∨ k = 4 ∨ k = 5 ∨ k = 6 := by omega
      rcases h9 with rfl | rfl | rfl | rfl | rfl | rfl | rfl
      · exact i32_ne c2 (by decide)
      · exact i32_ne c4 (by decide)
      · exact i32_ne c6 (by decide)
      · exact i32_ne c8 (by decide)
      · exact i32_ne c10 (by decide)
      · exact i32_ne c12 (by decide)
      · exact i32_ne c14 (by decide)
    refine R_aload_n (pc := 129) hC 0 dX8_lane_129 rfl rfl ?_
    refine R_bipush (pc := 130) hC dX8_lane_130 kb_m2 ?_
    obtain ⟨q16, hq16, hg⟩ := bind_some hg
    refine R_callV (pc := 132) (av := [.int (-2)]) (rest := []) hC hR 0 (jx hn rfl) ly0 rfl mf_X8_refuse wm_X8_91 (LX8_refuse hn hq16) rfl rfl rfl (Nat.le_of_ble_eq_true rfl) dX8_lane_132 rfl ?_
    show RX K 135 [(0, .ref 0), (1, .int a1), (2, .int a2)] [.int q16.1] q16.2
    have h9 := gxIM hg
    exact R_ireturn (pc := 135) hC dX8_lane_135 h9
  · replace hg := (if_neg c).symm.trans hg
    refine R_aload_n (pc := 11) hC 0 dX8_lane_11 rfl rfl ?_
    refine R_iconst (pc := 12) hC dX8_lane_12 ki_m1 ?_
    obtain ⟨q17, hq17, hg⟩ := bind_some hg
    refine R_callV (pc := 13) (av := [.int (-1)]) (rest := []) hC hR 0 (jx hn rfl) ly0 rfl mf_X8_refuse wm_X8_91 (LX8_refuse hn hq17) rfl rfl rfl (Nat.le_of_ble_eq_true rfl) dX8_lane_13 rfl ?_
    show RX K 16 [(0, .ref 0), (1, .int a1), (2, .int a2)] [.int q17.1] q17.2
    have h9 := gxIM hg
    exact R_ireturn (pc := 16) hC dX8_lane_16 h9
theorem dX8_rule_0 : decode cX8_rule 0 = .ok (.aload_n 0, 1) := by decide +kernel
theorem dX8_rule_1 : decode cX8_rule 1 = .ok (.getfield 10, 3) := by decide +kernel
theorem dX8_rule_4 : decode cX8_rule 4 = .ok (.iload_n 1, 1) := by decide +kernel
theorem dX8_rule_5 : decode cX8_rule 5 = .ok (.invokevirtual 115, 3) := by decide +kernel
theorem dX8_rule_8 : decode cX8_rule 8 = .ok (.ifCond .ne 9, 3) := by decide +kernel
theorem dX8_rule_11 : decode cX8_rule 11 = .ok (.aload_n 0, 1) := by decide +kernel
theorem dX8_rule_12 : decode cX8_rule 12 = .ok (.iconst (-1), 1) := by decide +kernel
theorem dX8_rule_13 : decode cX8_rule 13 = .ok (.invokevirtual 91, 3) := by decide +kernel
theorem dX8_rule_16 : decode cX8_rule 16 = .ok (.ireturn, 1) := by decide +kernel
theorem dX8_rule_17 : decode cX8_rule 17 = .ok (.iload_n 2, 1) := by decide +kernel
theorem dX8_rule_18 : decode cX8_rule 18 = .ok (.ifCond .lt 8, 3) := by decide +kernel
theorem dX8_rule_21 : decode cX8_rule 21 = .ok (.iload_n 2, 1) := by decide +kernel
theorem dX8_rule_22 : decode cX8_rule 22 = .ok (.iconst 2, 1) := by decide +kernel
theorem dX8_rule_23 : decode cX8_rule 23 = .ok (.if_icmp .le 10, 3) := by decide +kernel
theorem dX8_rule_26 : decode cX8_rule 26 = .ok (.aload_n 0, 1) := by decide +kernel
theorem dX8_rule_27 : decode cX8_rule 27 = .ok (.bipush (-2), 2) := by decide +kernel
theorem dX8_rule_29 : decode cX8_rule 29 = .ok (.invokevirtual 91, 3) := by decide +kernel
theorem dX8_rule_32 : decode cX8_rule 32 = .ok (.ireturn, 1) := by decide +kernel
theorem dX8_rule_33 : decode cX8_rule 33 = .ok (.aload_n 0, 1) := by decide +kernel
theorem dX8_rule_34 : decode cX8_rule 34 = .ok (.getfield 10, 3) := by decide +kernel
theorem dX8_rule_37 : decode cX8_rule 37 = .ok (.iload_n 1, 1) := by decide +kernel
theorem dX8_rule_38 : decode cX8_rule 38 = .ok (.invokevirtual 137, 3) := by decide +kernel
theorem dX8_rule_41 : decode cX8_rule 41 = .ok (.istore_n 3, 1) := by decide +kernel
theorem dX8_rule_42 : decode cX8_rule 42 = .ok (.aload_n 0, 1) := by decide +kernel
theorem dX8_rule_43 : decode cX8_rule 43 = .ok (.getfield 10, 3) := by decide +kernel
theorem dX8_rule_46 : decode cX8_rule 46 = .ok (.iload_n 1, 1) := by decide +kernel
theorem dX8_rule_47 : decode cX8_rule 47 = .ok (.iload_n 2, 1) := by decide +kernel
theorem dX8_rule_48 : decode cX8_rule 48 = .ok (.invokevirtual 140, 3) := by decide +kernel
theorem dX8_rule_51 : decode cX8_rule 51 = .ok (.aload_n 0, 1) := by decide +kernel
theorem dX8_rule_52 : decode cX8_rule 52 = .ok (.getfield 47, 3) := by decide +kernel
theorem dX8_rule_55 : decode cX8_rule 55 = .ok (.invokevirtual 88, 3) := by decide +kernel
theorem dX8_rule_58 : decode cX8_rule 58 = .ok (.iload_n 3, 1) := by decide +kernel
theorem dX8_rule_59 : decode cX8_rule 59 = .ok (.ireturn, 1) := by decide +kernel
def gX8_rule (F : Nat) (m : Mem) (a1 : Int32) (a2 : Int32) : Option (Int32 × Mem) := (gX6_hasLane m 1 a1).bind (fun x1 => (if x1 = true then (if a2 < 0 then (gX8_refuse m (-2)).bind (fun q2 => some (q2.1, q2.2)) else (if a2 ≤ 2 then (gX6_ruleOf m 1 a1).bind (fun x3 => (gX6_setRule m 1 a1 a2).bind (fun q4 => (gX7_list F q4).bind (fun q5 => some (x3, q5)))) else (gX8_refuse m (-2)).bind (fun q6 => some (q6.1, q6.2)))) else (gX8_refuse m (-1)).bind (fun q7 => some (q7.1, q7.2))))
set_option maxHeartbeats 4000000 in
set_option maxRecDepth 20000 in
theorem LX8_rule {n : Nat} {F : Nat} {m : Mem} {a1 : Int32} {a2 : Int32} {r : Int32 × Mem} (hn : 43 ≤ n) (hg : gX8_rule F m a1 a2 = some r) : MX yX8_rule cX8_rule 4 (some .int) { frames := 3, cells := 0, slots := 0, locals := 65 } n [.ref 0, .int a1, .int a2] m (some (.int r.1)) r.2 := by
  refine MX_of (by decide) (Nat.le_of_ble_eq_true rfl) (Or.inr (Or.inl ⟨rfl, _, rfl⟩)) (fun K hC hk hL hR => ?_)
  replace hn : 43 ≤ kn K := hk.symm ▸ hn
  show RX K 0 [(0, .ref 0), (1, .int a1), (2, .int a2)] [] m
  rw [gX8_rule] at hg
  refine R_aload_n (pc := 0) hC 0 dX8_rule_0 rfl rfl ?_
  refine gf_X8_10 (pc := 1) hC hn dX8_rule_1 ?_
  refine R_iload_n (pc := 4) hC 1 dX8_rule_4 rfl rfl ?_
  obtain ⟨x1, hx1, hg⟩ := bind_some hg
  refine R_callVN (pc := 5) (av := [.int a1]) (rest := []) hC hR 1 (jx hn rfl) ly1 rfl mf_X6_hasLane wm_X8_115 (LX6_hasLane hn isv1 hx1) rfl rfl rfl (Nat.le_of_ble_eq_true rfl) dX8_rule_5 rfl ?_
  show RX K 8 [(0, .ref 0), (1, .int a1), (2, .int a2)] [.int (b2i x1)] m
  refine R_ifB_ne (tgt := 17) (pc := 8) hC dX8_rule_8 (by decide) (fun c => ?_) (fun c => ?_)
  · replace hg := (if_pos c).symm.trans hg
    refine R_iload_n (pc := 17) hC 2 dX8_rule_17 rfl rfl ?_
    refine R_if_lt (tgt := 26) (pc := 18) hC dX8_rule_18 (by decide) (fun c => ?_) (fun c => ?_)
    · replace hg := (if_pos c).symm.trans hg
      refine R_aload_n (pc := 26) hC 0 dX8_rule_26 rfl rfl ?_
      refine R_bipush (pc := 27) hC dX8_rule_27 kb_m2 ?_
      obtain ⟨q2, hq2, hg⟩ := bind_some hg
      refine R_callV (pc := 29) (av := [.int (-2)]) (rest := []) hC hR 0 (jx hn rfl) ly0 rfl mf_X8_refuse wm_X8_91 (LX8_refuse hn hq2) rfl rfl rfl (Nat.le_of_ble_eq_true rfl) dX8_rule_29 rfl ?_
      show RX K 32 [(0, .ref 0), (1, .int a1), (2, .int a2)] [.int q2.1] q2.2
      have h9 := gxIM hg
      exact R_ireturn (pc := 32) hC dX8_rule_32 h9
    · replace hg := (if_neg c).symm.trans hg
      refine R_iload_n (pc := 21) hC 2 dX8_rule_21 rfl rfl ?_
      refine R_iconst (pc := 22) hC dX8_rule_22 ki_2 ?_
      refine R_icmp_le (tgt := 33) (pc := 23) hC dX8_rule_23 (by decide) (fun c => ?_) (fun c => ?_)
      · replace hg := (if_pos c).symm.trans hg
        refine R_aload_n (pc := 33) hC 0 dX8_rule_33 rfl rfl ?_
        refine gf_X8_10 (pc := 34) hC hn dX8_rule_34 ?_
        refine R_iload_n (pc := 37) hC 1 dX8_rule_37 rfl rfl ?_
        obtain ⟨x3, hx3, hg⟩ := bind_some hg
        refine R_callVN (pc := 38) (av := [.int a1]) (rest := []) hC hR 1 (jx hn rfl) ly1 rfl mf_X6_ruleOf wm_X8_137 (LX6_ruleOf hn isv1 hx3) rfl rfl rfl (Nat.le_of_ble_eq_true rfl) dX8_rule_38 rfl ?_
        show RX K 41 [(0, .ref 0), (1, .int a1), (2, .int a2)] [.int x3] m
        refine R_istore_n (pc := 41) hC dX8_rule_41 rfl hL rfl (show _ = [(3, .int x3), (0, .ref 0), (1, .int a1), (2, .int a2)] from rfl) ?_
        refine R_aload_n (pc := 42) hC 1 dX8_rule_42 rfl rfl ?_
        refine gf_X8_10 (pc := 43) hC hn dX8_rule_43 ?_
        refine R_iload_n (pc := 46) hC 2 dX8_rule_46 rfl rfl ?_
        refine R_iload_n (pc := 47) hC 3 dX8_rule_47 rfl rfl ?_
        obtain ⟨q4, hq4, hg⟩ := bind_some hg
        refine R_callVN (pc := 48) (av := [.int a1, .int a2]) (rest := []) hC hR 1 (jx hn rfl) ly1 rfl mf_X6_setRule wm_X8_140 (LX6_setRule hn isv1 hq4) rfl rfl rfl (Nat.le_of_ble_eq_true rfl) dX8_rule_48 rfl ?_
        show RX K 51 [(3, .int x3), (0, .ref 0), (1, .int a1), (2, .int a2)] [] q4
        refine R_aload_n (pc := 51) hC 1 dX8_rule_51 rfl rfl ?_
        refine gf_X8_47 (pc := 52) hC hn dX8_rule_52 ?_
        obtain ⟨q5, hq5, hg⟩ := bind_some hg
        refine R_callVN (pc := 55) (av := []) (rest := []) hC hR 26 (jx hn rfl) ly26 rfl mf_X7_list wm_X8_88 (LX7_list hn hq5) rfl rfl rfl (Nat.le_of_ble_eq_true rfl) dX8_rule_55 rfl ?_
        show RX K 58 [(3, .int x3), (0, .ref 0), (1, .int a1), (2, .int a2)] [] q5
        refine R_iload_n (pc := 58) hC 0 dX8_rule_58 rfl rfl ?_
        have h9 := gxIM hg
        exact R_ireturn (pc := 59) hC dX8_rule_59 h9
      · replace hg := (if_neg c).symm.trans hg
        refine R_aload_n (pc := 26) hC 0 dX8_rule_26 rfl rfl ?_
        refine R_bipush (pc := 27) hC dX8_rule_27 kb_m2 ?_
        obtain ⟨q6, hq6, hg⟩ := bind_some hg
        refine R_callV (pc := 29) (av := [.int (-2)]) (rest := []) hC hR 0 (jx hn rfl) ly0 rfl mf_X8_refuse wm_X8_91 (LX8_refuse hn hq6) rfl rfl rfl (Nat.le_of_ble_eq_true rfl) dX8_rule_29 rfl ?_
        show RX K 32 [(0, .ref 0), (1, .int a1), (2, .int a2)] [.int q6.1] q6.2
        have h9 := gxIM hg
        exact R_ireturn (pc := 32) hC dX8_rule_32 h9
  · replace hg := (if_neg c).symm.trans hg
    refine R_aload_n (pc := 11) hC 0 dX8_rule_11 rfl rfl ?_
    refine R_iconst (pc := 12) hC dX8_rule_12 ki_m1 ?_
    obtain ⟨q7, hq7, hg⟩ := bind_some hg
    refine R_callV (pc := 13) (av := [.int (-1)]) (rest := []) hC hR 0 (jx hn rfl) ly0 rfl mf_X8_refuse wm_X8_91 (LX8_refuse hn hq7) rfl rfl rfl (Nat.le_of_ble_eq_true rfl) dX8_rule_13 rfl ?_
    show RX K 16 [(0, .ref 0), (1, .int a1), (2, .int a2)] [.int q7.1] q7.2
    have h9 := gxIM hg
    exact R_ireturn (pc := 16) hC dX8_rule_16 h9
theorem dX8_takeUp_0 : decode cX8_takeUp 0 = .ok (.aload_n 0, 1) := by decide +kernel
theorem dX8_takeUp_1 : decode cX8_takeUp 1 = .ok (.getfield 10, 3) := by decide +kernel
theorem dX8_takeUp_4 : decode cX8_takeUp 4 = .ok (.getfield 144, 3) := by decide +kernel
theorem dX8_takeUp_7 : decode cX8_takeUp 7 = .ok (.ifCond .ne 10, 3) := by decide +kernel
theorem dX8_takeUp_10 : decode cX8_takeUp 10 = .ok (.aload_n 0, 1) := by decide +kernel
theorem dX8_takeUp_11 : decode cX8_takeUp 11 = .ok (.bipush (-3), 2) := by decide +kernel
theorem dX8_takeUp_13 : decode cX8_takeUp 13 = .ok (.invokevirtual 91, 3) := by decide +kernel
theorem dX8_takeUp_16 : decode cX8_takeUp 16 = .ok (.ireturn, 1) := by decide +kernel
theorem dX8_takeUp_17 : decode cX8_takeUp 17 = .ok (.aload_n 0, 1) := by decide +kernel
theorem dX8_takeUp_18 : decode cX8_takeUp 18 = .ok (.getfield 10, 3) := by decide +kernel
theorem dX8_takeUp_21 : decode cX8_takeUp 21 = .ok (.invokevirtual 148, 3) := by decide +kernel
theorem dX8_takeUp_24 : decode cX8_takeUp 24 = .ok (.aload_n 0, 1) := by decide +kernel
theorem dX8_takeUp_25 : decode cX8_takeUp 25 = .ok (.getfield 47, 3) := by decide +kernel
theorem dX8_takeUp_28 : decode cX8_takeUp 28 = .ok (.invokevirtual 88, 3) := by decide +kernel
theorem dX8_takeUp_31 : decode cX8_takeUp 31 = .ok (.aload_n 0, 1) := by decide +kernel
theorem dX8_takeUp_32 : decode cX8_takeUp 32 = .ok (.getfield 10, 3) := by decide +kernel
theorem dX8_takeUp_35 : decode cX8_takeUp 35 = .ok (.getfield 144, 3) := by decide +kernel
theorem dX8_takeUp_38 : decode cX8_takeUp 38 = .ok (.ireturn, 1) := by decide +kernel
def gX8_takeUp (F : Nat) (m : Mem) : Option (Int32 × Mem) := (if (m.1 1 1) = 0 then (gX8_refuse m (-3)).bind (fun q3 => some (q3.1, q3.2)) else (gX6_removeLatest m 1).bind (fun q1 => (gX7_list F q1).bind (fun q2 => some (q2.1 1 1, q2))))
set_option maxHeartbeats 4000000 in
set_option maxRecDepth 20000 in
theorem LX8_takeUp {n : Nat} {F : Nat} {m : Mem} {r : Int32 × Mem} (hn : 43 ≤ n) (hg : gX8_takeUp F m  = some r) : MX yX8_takeUp cX8_takeUp 1 (some .int) { frames := 3, cells := 0, slots := 0, locals := 65 } n [.ref 0] m (some (.int r.1)) r.2 := by
  refine MX_of (by decide) (Nat.le_of_ble_eq_true rfl) (Or.inr (Or.inl ⟨rfl, _, rfl⟩)) (fun K hC hk hL hR => ?_)
  replace hn : 43 ≤ kn K := hk.symm ▸ hn
  show RX K 0 [(0, .ref 0)] [] m
  rw [gX8_takeUp] at hg
  refine R_aload_n (pc := 0) hC 0 dX8_takeUp_0 rfl rfl ?_
  refine gf_X8_10 (pc := 1) hC hn dX8_takeUp_1 ?_
  refine gf_X8_144 (pc := 4) hC hn isv1 dX8_takeUp_4 ?_
  refine R_if_ne (tgt := 17) (pc := 7) hC dX8_takeUp_7 (by decide) (fun c => ?_) (fun c => ?_)
  · replace hg := (if_neg c).symm.trans hg
    refine R_aload_n (pc := 17) hC 0 dX8_takeUp_17 rfl rfl ?_
    refine gf_X8_10 (pc := 18) hC hn dX8_takeUp_18 ?_
    obtain ⟨q1, hq1, hg⟩ := bind_some hg
    refine R_callVN (pc := 21) (av := []) (rest := []) hC hR 1 (jx hn rfl) ly1 rfl mf_X6_removeLatest wm_X8_148 (LX6_removeLatest hn isv1 hq1) rfl rfl rfl (Nat.le_of_ble_eq_true rfl) dX8_takeUp_21 rfl ?_
    show RX K 24 [(0, .ref 0)] [] q1
    refine R_aload_n (pc := 24) hC 0 dX8_takeUp_24 rfl rfl ?_
    refine gf_X8_47 (pc := 25) hC hn dX8_takeUp_25 ?_
    obtain ⟨q2, hq2, hg⟩ := bind_some hg
    refine R_callVN (pc := 28) (av := []) (rest := []) hC hR 26 (jx hn rfl) ly26 rfl mf_X7_list wm_X8_88 (LX7_list hn hq2) rfl rfl rfl (Nat.le_of_ble_eq_true rfl) dX8_takeUp_28 rfl ?_
    show RX K 31 [(0, .ref 0)] [] q2
    refine R_aload_n (pc := 31) hC 0 dX8_takeUp_31 rfl rfl ?_
    refine gf_X8_10 (pc := 32) hC hn dX8_takeUp_32 ?_
    refine gf_X8_144 (pc := 35) hC hn isv1 dX8_takeUp_35 ?_
    have h9 := gxIM hg
    exact R_ireturn (pc := 38) hC dX8_takeUp_38 h9
  · replace hg := (if_pos c).symm.trans hg
    refine R_aload_n (pc := 10) hC 0 dX8_takeUp_10 rfl rfl ?_
    refine R_bipush (pc := 11) hC dX8_takeUp_11 kb_m3 ?_
    obtain ⟨q3, hq3, hg⟩ := bind_some hg
    refine R_callV (pc := 13) (av := [.int (-3)]) (rest := []) hC hR 0 (jx hn rfl) ly0 rfl mf_X8_refuse wm_X8_91 (LX8_refuse hn hq3) rfl rfl rfl (Nat.le_of_ble_eq_true rfl) dX8_takeUp_13 rfl ?_
    show RX K 16 [(0, .ref 0)] [.int q3.1] q3.2
    have h9 := gxIM hg
    exact R_ireturn (pc := 16) hC dX8_takeUp_16 h9
theorem dX8_is_0 : decode cX8_is 0 = .ok (.aload_n 0, 1) := by decide +kernel
theorem dX8_is_1 : decode cX8_is 1 = .ok (.getfield 10, 3) := by decide +kernel
theorem dX8_is_4 : decode cX8_is 4 = .ok (.iload_n 1, 1) := by decide +kernel
theorem dX8_is_5 : decode cX8_is 5 = .ok (.invokevirtual 151, 3) := by decide +kernel
theorem dX8_is_8 : decode cX8_is 8 = .ok (.ifCond .ne 9, 3) := by decide +kernel
theorem dX8_is_11 : decode cX8_is 11 = .ok (.aload_n 0, 1) := by decide +kernel
theorem dX8_is_12 : decode cX8_is 12 = .ok (.iconst (-1), 1) := by decide +kernel
theorem dX8_is_13 : decode cX8_is 13 = .ok (.invokevirtual 91, 3) := by decide +kernel
theorem dX8_is_16 : decode cX8_is 16 = .ok (.ireturn, 1) := by decide +kernel
theorem dX8_is_17 : decode cX8_is 17 = .ok (.aload_n 0, 1) := by decide +kernel
theorem dX8_is_18 : decode cX8_is 18 = .ok (.getfield 38, 3) := by decide +kernel
theorem dX8_is_21 : decode cX8_is 21 = .ok (.iload_n 1, 1) := by decide +kernel
theorem dX8_is_22 : decode cX8_is 22 = .ok (.invokevirtual 154, 3) := by decide +kernel
theorem dX8_is_25 : decode cX8_is 25 = .ok (.invokestatic 157, 3) := by decide +kernel
theorem dX8_is_28 : decode cX8_is 28 = .ok (.ireturn, 1) := by decide +kernel
def gX8_is (m : Mem) (a1 : Int32) : Option (Int32 × Mem) := (gX6_hasAll m 1 a1).bind (fun x1 => (if x1 = true then (gX2_isWay m a1).bind (fun x2 => (gX8_yesNo x2).bind (fun x3 => some (x3, m))) else (gX8_refuse m (-1)).bind (fun q4 => some (q4.1, q4.2))))
set_option maxHeartbeats 4000000 in
set_option maxRecDepth 20000 in
theorem LX8_is {n : Nat} {m : Mem} {a1 : Int32} {r : Int32 × Mem} (hn : 43 ≤ n) (hg : gX8_is m a1 = some r) : MX yX8_is cX8_is 2 (some .int) { frames := 3, cells := 0, slots := 0, locals := 64 } n [.ref 0, .int a1] m (some (.int r.1)) r.2 := by
  refine MX_of (by decide) (Nat.le_of_ble_eq_true rfl) (Or.inr (Or.inl ⟨rfl, _, rfl⟩)) (fun K hC hk hL hR => ?_)
  replace hn : 43 ≤ kn K := hk.symm ▸ hn
  show RX K 0 [(0, .ref 0), (1, .int a1)] [] m
  rw [gX8_is] at hg
  refine R_aload_n (pc := 0) hC 0 dX8_is_0 rfl rfl ?_
  refine gf_X8_10 (pc := 1) hC hn dX8_is_1 ?_
  refine R_iload_n (pc := 4) hC 1 dX8_is_4 rfl rfl ?_
  obtain ⟨x1, hx1, hg⟩ := bind_some hg
  refine R_callVN (pc := 5) (av := [.int a1]) (rest := []) hC hR 1 (jx hn rfl) ly1 rfl mf_X6_hasAll wm_X8_151 (LX6_hasAll hn isv1 hx1) rfl rfl rfl (Nat.le_of_ble_eq_true rfl) dX8_is_5 rfl ?_
  show RX K 8 [(0, .ref 0), (1, .int a1)] [.int (b2i x1)] m
  refine R_ifB_ne (tgt := 17) (pc := 8) hC dX8_is_8 (by decide) (fun c => ?_) (fun c => ?_)
  · replace hg := (if_pos c).symm.trans hg
    refine R_aload_n (pc := 17) hC 0 dX8_is_17 rfl rfl ?_
    refine gf_X8_38 (pc := 18) hC hn dX8_is_18 ?_
    refine R_iload_n (pc := 21) hC 1 dX8_is_21 rfl rfl ?_
    obtain ⟨x2, hx2, hg⟩ := bind_some hg
    refine R_callVN (pc := 22) (av := [.int a1]) (rest := []) hC hR 24 (jx hn rfl) ly24 rfl mf_X2_isWay wm_X8_154 (LX2_isWay hn hx2) rfl rfl rfl (Nat.le_of_ble_eq_true rfl) dX8_is_22 rfl ?_
    show RX K 25 [(0, .ref 0), (1, .int a1)] [.int (b2i x2)] m
    obtain ⟨x3, hx3, hg⟩ := bind_some hg
    refine R_callS (pc := 25) (av := [.int (b2i x2)]) (rest := []) hC hR mf_X8_yesNo wm_X8_157 (LX8_yesNo hn hx3) rfl rfl rfl (Nat.le_of_ble_eq_true rfl) dX8_is_25 rfl ?_
    show RX K 28 [(0, .ref 0), (1, .int a1)] [.int x3] m
    have h9 := gxIM hg
    exact R_ireturn (pc := 28) hC dX8_is_28 h9
  · replace hg := (if_neg c).symm.trans hg
    refine R_aload_n (pc := 11) hC 0 dX8_is_11 rfl rfl ?_
    refine R_iconst (pc := 12) hC dX8_is_12 ki_m1 ?_
    obtain ⟨q4, hq4, hg⟩ := bind_some hg
    refine R_callV (pc := 13) (av := [.int (-1)]) (rest := []) hC hR 0 (jx hn rfl) ly0 rfl mf_X8_refuse wm_X8_91 (LX8_refuse hn hq4) rfl rfl rfl (Nat.le_of_ble_eq_true rfl) dX8_is_13 rfl ?_
    show RX K 16 [(0, .ref 0), (1, .int a1)] [.int q4.1] q4.2
    have h9 := gxIM hg
    exact R_ireturn (pc := 16) hC dX8_is_16 h9
theorem dX8_hangs_0 : decode cX8_hangs 0 = .ok (.aload_n 0, 1) := by decide +kernel
theorem dX8_hangs_1 : decode cX8_hangs 1 = .ok (.getfield 10, 3) := by decide +kernel
theorem dX8_hangs_4 : decode cX8_hangs 4 = .ok (.iload_n 1, 1) := by decide +kernel
theorem dX8_hangs_5 : decode cX8_hangs 5 = .ok (.invokevirtual 151, 3) := by decide +kernel
theorem dX8_hangs_8 : decode cX8_hangs 8 = .ok (.ifCond .ne 9, 3) := by decide +kernel
theorem dX8_hangs_11 : decode cX8_hangs 11 = .ok (.aload_n 0, 1) := by decide +kernel
theorem dX8_hangs_12 : decode cX8_hangs 12 = .ok (.iconst (-1), 1) := by decide +kernel
theorem dX8_hangs_13 : decode cX8_hangs 13 = .ok (.invokevirtual 91, 3) := by decide +kernel
theorem dX8_hangs_16 : decode cX8_hangs 16 = .ok (.ireturn, 1) := by decide +kernel
theorem dX8_hangs_17 : decode cX8_hangs 17 = .ok (.aload_n 0, 1) := by decide +kernel
theorem dX8_hangs_18 : decode cX8_hangs 18 = .ok (.getfield 38, 3) := by decide +kernel
theorem dX8_hangs_21 : decode cX8_hangs 21 = .ok (.iload_n 1, 1) := by decide +kernel
theorem dX8_hangs_22 : decode cX8_hangs 22 = .ok (.invokevirtual 161, 3) := by decide +kernel
theorem dX8_hangs_25 : decode cX8_hangs 25 = .ok (.iconst 1, 1) := by decide +kernel
theorem dX8_hangs_26 : decode cX8_hangs 26 = .ok (.if_icmp .ne 7, 3) := by decide +kernel
theorem dX8_hangs_29 : decode cX8_hangs 29 = .ok (.iconst 1, 1) := by decide +kernel
theorem dX8_hangs_30 : decode cX8_hangs 30 = .ok (.goto 4, 3) := by decide +kernel
theorem dX8_hangs_33 : decode cX8_hangs 33 = .ok (.iconst 0, 1) := by decide +kernel
theorem dX8_hangs_34 : decode cX8_hangs 34 = .ok (.invokestatic 157, 3) := by decide +kernel
theorem dX8_hangs_37 : decode cX8_hangs 37 = .ok (.ireturn, 1) := by decide +kernel
def gX8_hangs (m : Mem) (a1 : Int32) : Option (Int32 × Mem) := (gX6_hasAll m 1 a1).bind (fun x1 => (if x1 = true then (gX2_partsLeft m a1).bind (fun x2 => (if x2 = 1 then (gX8_yesNo true).bind (fun x4 => some (x4, m)) else (gX8_yesNo false).bind (fun x3 => some (x3, m)))) else (gX8_refuse m (-1)).bind (fun q5 => some (q5.1, q5.2))))
set_option maxHeartbeats 4000000 in
set_option maxRecDepth 20000 in
theorem LX8_hangs {n : Nat} {m : Mem} {a1 : Int32} {r : Int32 × Mem} (hn : 43 ≤ n) (hg : gX8_hangs m a1 = some r) : MX yX8_hangs cX8_hangs 2 (some .int) { frames := 2, cells := 0, slots := 0, locals := 42 } n [.ref 0, .int a1] m (some (.int r.1)) r.2 := by
  refine MX_of (by decide) (Nat.le_of_ble_eq_true rfl) (Or.inr (Or.inl ⟨rfl, _, rfl⟩)) (fun K hC hk hL hR => ?_)
  replace hn : 43 ≤ kn K := hk.symm ▸ hn
  show RX K 0 [(0, .ref 0), (1, .int a1)] [] m
  rw [gX8_hangs] at hg
  refine R_aload_n (pc := 0) hC 0 dX8_hangs_0 rfl rfl ?_
  refine gf_X8_10 (pc := 1) hC hn dX8_hangs_1 ?_
  refine R_iload_n (pc := 4) hC 1 dX8_hangs_4 rfl rfl ?_
  obtain ⟨x1, hx1, hg⟩ := bind_some hg
  refine R_callVN (pc := 5) (av := [.int a1]) (rest := []) hC hR 1 (jx hn rfl) ly1 rfl mf_X6_hasAll wm_X8_151 (LX6_hasAll hn isv1 hx1) rfl rfl rfl (Nat.le_of_ble_eq_true rfl) dX8_hangs_5 rfl ?_
  show RX K 8 [(0, .ref 0), (1, .int a1)] [.int (b2i x1)] m
  refine R_ifB_ne (tgt := 17) (pc := 8) hC dX8_hangs_8 (by decide) (fun c => ?_) (fun c => ?_)
  · replace hg := (if_pos c).symm.trans hg
    refine R_aload_n (pc := 17) hC 0 dX8_hangs_17 rfl rfl ?_
    refine gf_X8_38 (pc := 18) hC hn dX8_hangs_18 ?_
    refine R_iload_n (pc := 21) hC 1 dX8_hangs_21 rfl rfl ?_
    obtain ⟨x2, hx2, hg⟩ := bind_some hg
    refine R_callVN (pc := 22) (av := [.int a1]) (rest := []) hC hR 24 (jx hn rfl) ly24 rfl mf_X2_partsLeft wm_X8_161 (LX2_partsLeft hn hx2) rfl rfl rfl (Nat.le_of_ble_eq_true rfl) dX8_hangs_22 rfl ?_
    show RX K 25 [(0, .ref 0), (1, .int a1)] [.int x2] m
    refine R_iconst (pc := 25) hC dX8_hangs_25 ki_1 ?_
    refine R_icmp_ne (tgt := 33) (pc := 26) hC dX8_hangs_26 (by decide) (fun c => ?_) (fun c => ?_)
    · replace hg := (if_neg c).symm.trans hg
      refine R_iconst (pc := 33) hC dX8_hangs_33 ki_0 ?_
      obtain ⟨x3, hx3, hg⟩ := bind_some hg
      refine R_callS (pc := 34) (av := [.int (b2i false)]) (rest := []) hC hR mf_X8_yesNo wm_X8_157 (LX8_yesNo hn hx3) rfl rfl rfl (Nat.le_of_ble_eq_true rfl) dX8_hangs_34 rfl ?_
      show RX K 37 [(0, .ref 0), (1, .int a1)] [.int x3] m
      have h9 := gxIM hg
      exact R_ireturn (pc := 37) hC dX8_hangs_37 h9
    · replace hg := (if_pos c).symm.trans hg
      refine R_iconst (pc := 29) hC dX8_hangs_29 ki_1 ?_
      refine R_goto (tgt := 34) (pc := 30) hC dX8_hangs_30 (by decide) ?_
      obtain ⟨x4, hx4, hg⟩ := bind_some hg
      refine R_callS (pc := 34) (av := [.int (b2i true)]) (rest := []) hC hR mf_X8_yesNo wm_X8_157 (LX8_yesNo hn hx4) rfl rfl rfl (Nat.le_of_ble_eq_true rfl) dX8_hangs_34 rfl ?_
      show RX K 37 [(0, .ref 0), (1, .int a1)] [.int x4] m
      have h9 := gxIM hg
      exact R_ireturn (pc := 37) hC dX8_hangs_37 h9
  · replace hg := (if_neg c).symm.trans hg
    refine R_aload_n (pc := 11) hC 0 dX8_hangs_11 rfl rfl ?_
    refine R_iconst (pc := 12) hC dX8_hangs_12 ki_m1 ?_
    obtain ⟨q5, hq5, hg⟩ := bind_some hg
    refine R_callV (pc := 13) (av := [.int (-1)]) (rest := []) hC hR 0 (jx hn rfl) ly0 rfl mf_X8_refuse wm_X8_91 (LX8_refuse hn hq5) rfl rfl rfl (Nat.le_of_ble_eq_true rfl) dX8_hangs_13 rfl ?_
    show RX K 16 [(0, .ref 0), (1, .int a1)] [.int q5.1] q5.2
    have h9 := gxIM hg
    exact R_ireturn (pc := 16) hC dX8_hangs_16 h9
theorem dX8_parts_0 : decode cX8_parts 0 = .ok (.aload_n 0, 1) := by decide +kernel
theorem dX8_parts_1 : decode cX8_parts 1 = .ok (.getfield 10, 3) := by decide +kernel
theorem dX8_parts_4 : decode cX8_parts 4 = .ok (.iload_n 1, 1) := by decide +kernel
theorem dX8_parts_5 : decode cX8_parts 5 = .ok (.invokevirtual 151, 3) := by decide +kernel
theorem dX8_parts_8 : decode cX8_parts 8 = .ok (.ifCond .ne 9, 3) := by decide +kernel
theorem dX8_parts_11 : decode cX8_parts 11 = .ok (.aload_n 0, 1) := by decide +kernel
theorem dX8_parts_12 : decode cX8_parts 12 = .ok (.iconst (-1), 1) := by decide +kernel
theorem dX8_parts_13 : decode cX8_parts 13 = .ok (.invokevirtual 91, 3) := by decide +kernel
theorem dX8_parts_16 : decode cX8_parts 16 = .ok (.ireturn, 1) := by decide +kernel
theorem dX8_parts_17 : decode cX8_parts 17 = .ok (.aload_n 0, 1) := by decide +kernel
theorem dX8_parts_18 : decode cX8_parts 18 = .ok (.getfield 38, 3) := by decide +kernel
theorem dX8_parts_21 : decode cX8_parts 21 = .ok (.iload_n 1, 1) := by decide +kernel
theorem dX8_parts_22 : decode cX8_parts 22 = .ok (.invokevirtual 161, 3) := by decide +kernel
theorem dX8_parts_25 : decode cX8_parts 25 = .ok (.ireturn, 1) := by decide +kernel
def gX8_parts (m : Mem) (a1 : Int32) : Option (Int32 × Mem) := (gX6_hasAll m 1 a1).bind (fun x1 => (if x1 = true then (gX2_partsLeft m a1).bind (fun x2 => some (x2, m)) else (gX8_refuse m (-1)).bind (fun q3 => some (q3.1, q3.2))))
set_option maxHeartbeats 4000000 in
set_option maxRecDepth 20000 in
theorem LX8_parts {n : Nat} {m : Mem} {a1 : Int32} {r : Int32 × Mem} (hn : 43 ≤ n) (hg : gX8_parts m a1 = some r) : MX yX8_parts cX8_parts 2 (some .int) { frames := 2, cells := 0, slots := 0, locals := 42 } n [.ref 0, .int a1] m (some (.int r.1)) r.2 := by
  refine MX_of (by decide) (Nat.le_of_ble_eq_true rfl) (Or.inr (Or.inl ⟨rfl, _, rfl⟩)) (fun K hC hk hL hR => ?_)
  replace hn : 43 ≤ kn K := hk.symm ▸ hn
  show RX K 0 [(0, .ref 0), (1, .int a1)] [] m
  rw [gX8_parts] at hg
  refine R_aload_n (pc := 0) hC 0 dX8_parts_0 rfl rfl ?_
  refine gf_X8_10 (pc := 1) hC hn dX8_parts_1 ?_
  refine R_iload_n (pc := 4) hC 1 dX8_parts_4 rfl rfl ?_
  obtain ⟨x1, hx1, hg⟩ := bind_some hg
  refine R_callVN (pc := 5) (av := [.int a1]) (rest := []) hC hR 1 (jx hn rfl) ly1 rfl mf_X6_hasAll wm_X8_151 (LX6_hasAll hn isv1 hx1) rfl rfl rfl (Nat.le_of_ble_eq_true rfl) dX8_parts_5 rfl ?_
  show RX K 8 [(0, .ref 0), (1, .int a1)] [.int (b2i x1)] m
  refine R_ifB_ne (tgt := 17) (pc := 8) hC dX8_parts_8 (by decide) (fun c => ?_) (fun c => ?_)
  · replace hg := (if_pos c).symm.trans hg
    refine R_aload_n (pc := 17) hC 0 dX8_parts_17 rfl rfl ?_
    refine gf_X8_38 (pc := 18) hC hn dX8_parts_18 ?_
    refine R_iload_n (pc := 21) hC 1 dX8_parts_21 rfl rfl ?_
    obtain ⟨x2, hx2, hg⟩ := bind_some hg
    refine R_callVN (pc := 22) (av := [.int a1]) (rest := []) hC hR 24 (jx hn rfl) ly24 rfl mf_X2_partsLeft wm_X8_161 (LX2_partsLeft hn hx2) rfl rfl rfl (Nat.le_of_ble_eq_true rfl) dX8_parts_22 rfl ?_
    show RX K 25 [(0, .ref 0), (1, .int a1)] [.int x2] m
    have h9 := gxIM hg
    exact R_ireturn (pc := 25) hC dX8_parts_25 h9
  · replace hg := (if_neg c).symm.trans hg
    refine R_aload_n (pc := 11) hC 0 dX8_parts_11 rfl rfl ?_
    refine R_iconst (pc := 12) hC dX8_parts_12 ki_m1 ?_
    obtain ⟨q3, hq3, hg⟩ := bind_some hg
    refine R_callV (pc := 13) (av := [.int (-1)]) (rest := []) hC hR 0 (jx hn rfl) ly0 rfl mf_X8_refuse wm_X8_91 (LX8_refuse hn hq3) rfl rfl rfl (Nat.le_of_ble_eq_true rfl) dX8_parts_13 rfl ?_
    show RX K 16 [(0, .ref 0), (1, .int a1)] [.int q3.1] q3.2
    have h9 := gxIM hg
    exact R_ireturn (pc := 16) hC dX8_parts_16 h9
theorem dX8_many_0 : decode cX8_many 0 = .ok (.aload_n 0, 1) := by decide +kernel
theorem dX8_many_1 : decode cX8_many 1 = .ok (.getfield 47, 3) := by decide +kernel
theorem dX8_many_4 : decode cX8_many 4 = .ok (.getfield 164, 3) := by decide +kernel
theorem dX8_many_7 : decode cX8_many 7 = .ok (.ireturn, 1) := by decide +kernel
def gX8_many (m : Mem) : Option (Int32) := some (m.1 26 2)
set_option maxHeartbeats 4000000 in
set_option maxRecDepth 20000 in
theorem LX8_many {n : Nat} {m : Mem} {r : Int32} (hn : 43 ≤ n) (hg : gX8_many m  = some r) : MX yX8_many cX8_many 1 (some .int) { frames := 0, cells := 0, slots := 0, locals := 0 } n [.ref 0] m (some (.int r)) m := by
  refine MX_of (by decide) (Nat.le_of_ble_eq_true rfl) (Or.inr (Or.inl ⟨rfl, _, rfl⟩)) (fun K hC hk hL hR => ?_)
  replace hn : 43 ≤ kn K := hk.symm ▸ hn
  show RX K 0 [(0, .ref 0)] [] m
  rw [gX8_many] at hg
  refine R_aload_n (pc := 0) hC 0 dX8_many_0 rfl rfl ?_
  refine gf_X8_47 (pc := 1) hC hn dX8_many_1 ?_
  refine gf_X8_164 (pc := 4) hC hn dX8_many_4 ?_
  have h9 := gxI (m := m) hg
  exact R_ireturn (pc := 7) hC dX8_many_7 h9
theorem dX8_sum_0 : decode cX8_sum 0 = .ok (.aload_n 0, 1) := by decide +kernel
theorem dX8_sum_1 : decode cX8_sum 1 = .ok (.getfield 47, 3) := by decide +kernel
theorem dX8_sum_4 : decode cX8_sum 4 = .ok (.iconst 0, 1) := by decide +kernel
theorem dX8_sum_5 : decode cX8_sum 5 = .ok (.invokevirtual 167, 3) := by decide +kernel
theorem dX8_sum_8 : decode cX8_sum 8 = .ok (.lreturn, 1) := by decide +kernel
def gX8_sum (F : Nat) (m : Mem) : Option (Int64) := (gX7_worthWith F m 0).bind (fun x1 => some x1)
set_option maxHeartbeats 4000000 in
set_option maxRecDepth 20000 in
theorem LX8_sum {n : Nat} {F : Nat} {m : Mem} {r : Int64} (hn : 43 ≤ n) (hg : gX8_sum F m  = some r) : MX yX8_sum cX8_sum 1 (some .long) { frames := 1, cells := 0, slots := 0, locals := 24 } n [.ref 0] m (some (.long r)) m := by
  refine MX_of (by decide) (Nat.le_of_ble_eq_true rfl) (Or.inr (Or.inr (Or.inl ⟨rfl, _, rfl⟩))) (fun K hC hk hL hR => ?_)
  replace hn : 43 ≤ kn K := hk.symm ▸ hn
  show RX K 0 [(0, .ref 0)] [] m
  rw [gX8_sum] at hg
  refine R_aload_n (pc := 0) hC 0 dX8_sum_0 rfl rfl ?_
  refine gf_X8_47 (pc := 1) hC hn dX8_sum_1 ?_
  refine R_iconst (pc := 4) hC dX8_sum_4 ki_0 ?_
  obtain ⟨x1, hx1, hg⟩ := bind_some hg
  refine R_callVN (pc := 5) (av := [.int 0]) (rest := []) hC hR 26 (jx hn rfl) ly26 rfl mf_X7_worthWith wm_X8_167 (LX7_worthWith hn hx1) rfl rfl rfl (Nat.le_of_ble_eq_true rfl) dX8_sum_5 rfl ?_
  show RX K 8 [(0, .ref 0)] [.long x1] m
  have h9 := gxJ (m := m) hg
  exact R_lreturn (pc := 8) hC dX8_sum_8 h9
theorem dX8_way_0 : decode cX8_way 0 = .ok (.iload_n 1, 1) := by decide +kernel
theorem dX8_way_1 : decode cX8_way 1 = .ok (.ifCond .ge 10, 3) := by decide +kernel
theorem dX8_way_4 : decode cX8_way 4 = .ok (.aload_n 0, 1) := by decide +kernel
theorem dX8_way_5 : decode cX8_way 5 = .ok (.bipush (-4), 2) := by decide +kernel
theorem dX8_way_7 : decode cX8_way 7 = .ok (.invokevirtual 91, 3) := by decide +kernel
theorem dX8_way_10 : decode cX8_way 10 = .ok (.ireturn, 1) := by decide +kernel
theorem dX8_way_11 : decode cX8_way 11 = .ok (.aload_n 0, 1) := by decide +kernel
theorem dX8_way_12 : decode cX8_way 12 = .ok (.getfield 47, 3) := by decide +kernel
theorem dX8_way_15 : decode cX8_way 15 = .ok (.iload_n 1, 1) := by decide +kernel
theorem dX8_way_16 : decode cX8_way 16 = .ok (.invokevirtual 171, 3) := by decide +kernel
theorem dX8_way_19 : decode cX8_way 19 = .ok (.ireturn, 1) := by decide +kernel
def gX8_way (m : Mem) (a1 : Int32) : Option (Int32 × Mem) := (if 0 ≤ a1 then (gX7_at m a1).bind (fun x1 => some (x1, m)) else (gX8_refuse m (-4)).bind (fun q2 => some (q2.1, q2.2)))
set_option maxHeartbeats 4000000 in
set_option maxRecDepth 20000 in
theorem LX8_way {n : Nat} {m : Mem} {a1 : Int32} {r : Int32 × Mem} (hn : 43 ≤ n) (hg : gX8_way m a1 = some r) : MX yX8_way cX8_way 2 (some .int) { frames := 2, cells := 0, slots := 0, locals := 42 } n [.ref 0, .int a1] m (some (.int r.1)) r.2 := by
  refine MX_of (by decide) (Nat.le_of_ble_eq_true rfl) (Or.inr (Or.inl ⟨rfl, _, rfl⟩)) (fun K hC hk hL hR => ?_)
  replace hn : 43 ≤ kn K := hk.symm ▸ hn
  show RX K 0 [(0, .ref 0), (1, .int a1)] [] m
  rw [gX8_way] at hg
  refine R_iload_n (pc := 0) hC 1 dX8_way_0 rfl rfl ?_
  refine R_if_ge (tgt := 11) (pc := 1) hC dX8_way_1 (by decide) (fun c => ?_) (fun c => ?_)
  · replace hg := (if_pos c).symm.trans hg
    refine R_aload_n (pc := 11) hC 0 dX8_way_11 rfl rfl ?_
    refine gf_X8_47 (pc := 12) hC hn dX8_way_12 ?_
    refine R_iload_n (pc := 15) hC 1 dX8_way_15 rfl rfl ?_
    obtain ⟨x1, hx1, hg⟩ := bind_some hg
    refine R_callVN (pc := 16) (av := [.int a1]) (rest := []) hC hR 26 (jx hn rfl) ly26 rfl mf_X7_at wm_X8_171 (LX7_at hn hx1) rfl rfl rfl (Nat.le_of_ble_eq_true rfl) dX8_way_16 rfl ?_
    show RX K 19 [(0, .ref 0), (1, .int a1)] [.int x1] m
    have h9 := gxIM hg
    exact R_ireturn (pc := 19) hC dX8_way_19 h9
  · replace hg := (if_neg c).symm.trans hg
    refine R_aload_n (pc := 4) hC 0 dX8_way_4 rfl rfl ?_
    refine R_bipush (pc := 5) hC dX8_way_5 kb_m4 ?_
    obtain ⟨q2, hq2, hg⟩ := bind_some hg
    refine R_callV (pc := 7) (av := [.int (-4)]) (rest := []) hC hR 0 (jx hn rfl) ly0 rfl mf_X8_refuse wm_X8_91 (LX8_refuse hn hq2) rfl rfl rfl (Nat.le_of_ble_eq_true rfl) dX8_way_7 rfl ?_
    show RX K 10 [(0, .ref 0), (1, .int a1)] [.int q2.1] q2.2
    have h9 := gxIM hg
    exact R_ireturn (pc := 10) hC dX8_way_10 h9
theorem dX8_refuseLong_0 : decode cX8_refuseLong 0 = .ok (.ldc2_w 293, 3) := by decide +kernel
theorem dX8_refuseLong_3 : decode cX8_refuseLong 3 = .ok (.aload_n 0, 1) := by decide +kernel
theorem dX8_refuseLong_4 : decode cX8_refuseLong 4 = .ok (.iload_n 1, 1) := by decide +kernel
theorem dX8_refuseLong_5 : decode cX8_refuseLong 5 = .ok (.invokevirtual 91, 3) := by decide +kernel
theorem dX8_refuseLong_8 : decode cX8_refuseLong 8 = .ok (.i2l, 1) := by decide +kernel
theorem dX8_refuseLong_9 : decode cX8_refuseLong 9 = .ok (.lsub, 1) := by decide +kernel
theorem dX8_refuseLong_10 : decode cX8_refuseLong 10 = .ok (.lreturn, 1) := by decide +kernel
def gX8_refuseLong (m : Mem) (a1 : Int32) : Option (Int64 × Mem) := (gX8_refuse m a1).bind (fun q1 => some (4000000000000000000 - (Int32.toInt64 q1.1), q1.2))
set_option maxHeartbeats 4000000 in
set_option maxRecDepth 20000 in
theorem LX8_refuseLong {n : Nat} {m : Mem} {a1 : Int32} {r : Int64 × Mem} (hn : 43 ≤ n) (hg : gX8_refuseLong m a1 = some r) : MX yX8_refuseLong cX8_refuseLong 2 (some .long) { frames := 1, cells := 0, slots := 0, locals := 22 } n [.ref 0, .int a1] m (some (.long r.1)) r.2 := by
  refine MX_of (by decide) (Nat.le_of_ble_eq_true rfl) (Or.inr (Or.inr (Or.inl ⟨rfl, _, rfl⟩))) (fun K hC hk hL hR => ?_)
  replace hn : 43 ≤ kn K := hk.symm ▸ hn
  show RX K 0 [(0, .ref 0), (1, .int a1)] [] m
  rw [gX8_refuseLong] at hg
  refine R_ldc2 (pc := 0) hC wc_X8_293 dX8_refuseLong_0 ?_
  refine R_aload_n (pc := 3) hC 0 dX8_refuseLong_3 rfl rfl ?_
  refine R_iload_n (pc := 4) hC 1 dX8_refuseLong_4 rfl rfl ?_
  obtain ⟨q1, hq1, hg⟩ := bind_some hg
  refine R_callV (pc := 5) (av := [.int a1]) (rest := [.long 4000000000000000000]) hC hR 0 (jx hn rfl) ly0 rfl mf_X8_refuse wm_X8_91 (LX8_refuse hn hq1) rfl rfl rfl (Nat.le_of_ble_eq_true rfl) dX8_refuseLong_5 rfl ?_
  show RX K 8 [(0, .ref 0), (1, .int a1)] [.int q1.1, .long 4000000000000000000] q1.2
  refine R_i2l (pc := 8) hC dX8_refuseLong_8 ?_
  refine R_lsub (pc := 9) hC dX8_refuseLong_9 ?_
  have h9 := gxJM hg
  exact R_lreturn (pc := 10) hC dX8_refuseLong_10 h9
theorem dX8_likelyAll_0 : decode cX8_likelyAll 0 = .ok (.iload_n 2, 1) := by decide +kernel
theorem dX8_likelyAll_1 : decode cX8_likelyAll 1 = .ok (.invokestatic 225, 3) := by decide +kernel
theorem dX8_likelyAll_4 : decode cX8_likelyAll 4 = .ok (.ifCond .ne 10, 3) := by decide +kernel
theorem dX8_likelyAll_7 : decode cX8_likelyAll 7 = .ok (.aload_n 0, 1) := by decide +kernel
theorem dX8_likelyAll_8 : decode cX8_likelyAll 8 = .ok (.bipush (-2), 2) := by decide +kernel
theorem dX8_likelyAll_10 : decode cX8_likelyAll 10 = .ok (.invokevirtual 174, 3) := by decide +kernel
theorem dX8_likelyAll_13 : decode cX8_likelyAll 13 = .ok (.lreturn, 1) := by decide +kernel
theorem dX8_likelyAll_14 : decode cX8_likelyAll 14 = .ok (.aload_n 0, 1) := by decide +kernel
theorem dX8_likelyAll_15 : decode cX8_likelyAll 15 = .ok (.getfield 47, 3) := by decide +kernel
theorem dX8_likelyAll_18 : decode cX8_likelyAll 18 = .ok (.getfield 164, 3) := by decide +kernel
theorem dX8_likelyAll_21 : decode cX8_likelyAll 21 = .ok (.ifCond .ne 10, 3) := by decide +kernel
theorem dX8_likelyAll_24 : decode cX8_likelyAll 24 = .ok (.aload_n 0, 1) := by decide +kernel
theorem dX8_likelyAll_25 : decode cX8_likelyAll 25 = .ok (.bipush (-3), 2) := by decide +kernel
theorem dX8_likelyAll_27 : decode cX8_likelyAll 27 = .ok (.invokevirtual 174, 3) := by decide +kernel
theorem dX8_likelyAll_30 : decode cX8_likelyAll 30 = .ok (.lreturn, 1) := by decide +kernel
theorem dX8_likelyAll_31 : decode cX8_likelyAll 31 = .ok (.aload_n 0, 1) := by decide +kernel
theorem dX8_likelyAll_32 : decode cX8_likelyAll 32 = .ok (.getfield 47, 3) := by decide +kernel
theorem dX8_likelyAll_35 : decode cX8_likelyAll 35 = .ok (.iload_n 1, 1) := by decide +kernel
theorem dX8_likelyAll_36 : decode cX8_likelyAll 36 = .ok (.invokevirtual 167, 3) := by decide +kernel
theorem dX8_likelyAll_39 : decode cX8_likelyAll 39 = .ok (.aload_n 0, 1) := by decide +kernel
theorem dX8_likelyAll_40 : decode cX8_likelyAll 40 = .ok (.getfield 47, 3) := by decide +kernel
theorem dX8_likelyAll_43 : decode cX8_likelyAll 43 = .ok (.iconst 0, 1) := by decide +kernel
theorem dX8_likelyAll_44 : decode cX8_likelyAll 44 = .ok (.invokevirtual 167, 3) := by decide +kernel
theorem dX8_likelyAll_47 : decode cX8_likelyAll 47 = .ok (.iload_n 2, 1) := by decide +kernel
theorem dX8_likelyAll_48 : decode cX8_likelyAll 48 = .ok (.invokestatic 236, 3) := by decide +kernel
theorem dX8_likelyAll_51 : decode cX8_likelyAll 51 = .ok (.lreturn, 1) := by decide +kernel
def gX8_likelyAll (F : Nat) (m : Mem) (a1 : Int32) (a2 : Int32) : Option (Int64 × Mem) := (gX8_isPart a2).bind (fun x1 => (if x1 = true then (if (m.1 26 2) = 0 then (gX8_refuseLong m (-3)).bind (fun q5 => some (q5.1, q5.2)) else (gX7_worthWith F m a1).bind (fun x2 => (gX7_worthWith F m 0).bind (fun x3 => (gX8_leastTerms F x2 x3 a2).bind (fun x4 => some (x4, m))))) else (gX8_refuseLong m (-2)).bind (fun q6 => some (q6.1, q6.2))))
set_option maxHeartbeats 4000000 in
set_option maxRecDepth 20000 in
theorem LX8_likelyAll {n : Nat} {F : Nat} {m : Mem} {a1 : Int32} {a2 : Int32} {r : Int64 × Mem} (hn : 43 ≤ n) (hg : gX8_likelyAll F m a1 a2 = some r) : MX yX8_likelyAll cX8_likelyAll 3 (some .long) { frames := 2, cells := 0, slots := 0, locals := 56 } n [.ref 0, .int a1, .int a2] m (some (.long r.1)) r.2 := by
  refine MX_of (by decide) (Nat.le_of_ble_eq_true rfl) (Or.inr (Or.inr (Or.inl ⟨rfl, _, rfl⟩))) (fun K hC hk hL hR => ?_)
  replace hn : 43 ≤ kn K := hk.symm ▸ hn
  show RX K 0 [(0, .ref 0), (1, .int a1), (2, .int a2)] [] m
  rw [gX8_likelyAll] at hg
  refine R_iload_n (pc := 0) hC 2 dX8_likelyAll_0 rfl rfl ?_
  obtain ⟨x1, hx1, hg⟩ := bind_some hg
  refine R_callS (pc := 1) (av := [.int a2]) (rest := []) hC hR mf_X8_isPart wm_X8_225 (LX8_isPart hn hx1) rfl rfl rfl (Nat.le_of_ble_eq_true rfl) dX8_likelyAll_1 rfl ?_
  show RX K 4 [(0, .ref 0), (1, .int a1), (2, .int a2)] [.int (b2i x1)] m
  refine R_ifB_ne (tgt := 14) (pc := 4) hC dX8_likelyAll_4 (by decide) (fun c => ?_) (fun c => ?_)
  · replace hg := (if_pos c).symm.trans hg
    refine R_aload_n (pc := 14) hC 0 dX8_likelyAll_14 rfl rfl ?_
    refine gf_X8_47 (pc := 15) hC hn dX8_likelyAll_15 ?_
    refine gf_X8_164 (pc := 18) hC hn dX8_likelyAll_18 ?_
    refine R_if_ne (tgt := 31) (pc := 21) hC dX8_likelyAll_21 (by decide) (fun c => ?_) (fun c => ?_)
    · replace hg := (if_neg c).symm.trans hg
      refine R_aload_n (pc := 31) hC 0 dX8_likelyAll_31 rfl rfl ?_
      refine gf_X8_47 (pc := 32) hC hn dX8_likelyAll_32 ?_
      refine R_iload_n (pc := 35) hC 1 dX8_likelyAll_35 rfl rfl ?_
      obtain ⟨x2, hx2, hg⟩ := bind_some hg
      refine R_callVN (pc := 36) (av := [.int a1]) (rest := []) hC hR 26 (jx hn rfl) ly26 rfl mf_X7_worthWith wm_X8_167 (LX7_worthWith hn hx2) rfl rfl rfl (Nat.le_of_ble_eq_true rfl) dX8_likelyAll_36 rfl ?_
      show RX K 39 [(0, .ref 0), (1, .int a1), (2, .int a2)] [.long x2] m
      refine R_aload_n (pc := 39) hC 0 dX8_likelyAll_39 rfl rfl ?_
      refine gf_X8_47 (pc := 40) hC hn dX8_likelyAll_40 ?_
      refine R_iconst (pc := 43) hC dX8_likelyAll_43 ki_0 ?_
      obtain ⟨x3, hx3, hg⟩ := bind_some hg
      refine R_callVN (pc := 44) (av := [.int 0]) (rest := [.long x2]) hC hR 26 (jx hn rfl) ly26 rfl mf_X7_worthWith wm_X8_167 (LX7_worthWith hn hx3) rfl rfl rfl (Nat.le_of_ble_eq_true rfl) dX8_likelyAll_44 rfl ?_
      show RX K 47 [(0, .ref 0), (1, .int a1), (2, .int a2)] [.long x3, .long x2] m
      refine R_iload_n (pc := 47) hC 2 dX8_likelyAll_47 rfl rfl ?_
      obtain ⟨x4, hx4, hg⟩ := bind_some hg
      refine R_callS (pc := 48) (av := [.long x2, .long x3, .int a2]) (rest := []) hC hR mf_X8_leastTerms wm_X8_236 (LX8_leastTerms hn hx4) rfl rfl rfl (Nat.le_of_ble_eq_true rfl) dX8_likelyAll_48 rfl ?_
      show RX K 51 [(0, .ref 0), (1, .int a1), (2, .int a2)] [.long x4] m
      have h9 := gxJM hg
      exact R_lreturn (pc := 51) hC dX8_likelyAll_51 h9
    · replace hg := (if_pos c).symm.trans hg
      refine R_aload_n (pc := 24) hC 0 dX8_likelyAll_24 rfl rfl ?_
      refine R_bipush (pc := 25) hC dX8_likelyAll_25 kb_m3 ?_
      obtain ⟨q5, hq5, hg⟩ := bind_some hg
      refine R_callV (pc := 27) (av := [.int (-3)]) (rest := []) hC hR 0 (jx hn rfl) ly0 rfl mf_X8_refuseLong wm_X8_174 (LX8_refuseLong hn hq5) rfl rfl rfl (Nat.le_of_ble_eq_true rfl) dX8_likelyAll_27 rfl ?_
      show RX K 30 [(0, .ref 0), (1, .int a1), (2, .int a2)] [.long q5.1] q5.2
      have h9 := gxJM hg
      exact R_lreturn (pc := 30) hC dX8_likelyAll_30 h9
  · replace hg := (if_neg c).symm.trans hg
    refine R_aload_n (pc := 7) hC 0 dX8_likelyAll_7 rfl rfl ?_
    refine R_bipush (pc := 8) hC dX8_likelyAll_8 kb_m2 ?_
    obtain ⟨q6, hq6, hg⟩ := bind_some hg
    refine R_callV (pc := 10) (av := [.int (-2)]) (rest := []) hC hR 0 (jx hn rfl) ly0 rfl mf_X8_refuseLong wm_X8_174 (LX8_refuseLong hn hq6) rfl rfl rfl (Nat.le_of_ble_eq_true rfl) dX8_likelyAll_10 rfl ?_
    show RX K 13 [(0, .ref 0), (1, .int a1), (2, .int a2)] [.long q6.1] q6.2
    have h9 := gxJM hg
    exact R_lreturn (pc := 13) hC dX8_likelyAll_13 h9
theorem dX8_likely_0 : decode cX8_likely 0 = .ok (.aload_n 0, 1) := by decide +kernel
theorem dX8_likely_1 : decode cX8_likely 1 = .ok (.getfield 10, 3) := by decide +kernel
theorem dX8_likely_4 : decode cX8_likely 4 = .ok (.iload_n 1, 1) := by decide +kernel
theorem dX8_likely_5 : decode cX8_likely 5 = .ok (.invokevirtual 115, 3) := by decide +kernel
theorem dX8_likely_8 : decode cX8_likely 8 = .ok (.ifCond .ne 9, 3) := by decide +kernel
theorem dX8_likely_11 : decode cX8_likely 11 = .ok (.aload_n 0, 1) := by decide +kernel
theorem dX8_likely_12 : decode cX8_likely 12 = .ok (.iconst (-1), 1) := by decide +kernel
theorem dX8_likely_13 : decode cX8_likely 13 = .ok (.invokevirtual 174, 3) := by decide +kernel
theorem dX8_likely_16 : decode cX8_likely 16 = .ok (.lreturn, 1) := by decide +kernel
theorem dX8_likely_17 : decode cX8_likely 17 = .ok (.aload_n 0, 1) := by decide +kernel
theorem dX8_likely_18 : decode cX8_likely 18 = .ok (.iconst 1, 1) := by decide +kernel
theorem dX8_likely_19 : decode cX8_likely 19 = .ok (.iload_n 1, 1) := by decide +kernel
theorem dX8_likely_20 : decode cX8_likely 20 = .ok (.ishl, 1) := by decide +kernel
theorem dX8_likely_21 : decode cX8_likely 21 = .ok (.iload_n 2, 1) := by decide +kernel
theorem dX8_likely_22 : decode cX8_likely 22 = .ok (.invokevirtual 177, 3) := by decide +kernel
theorem dX8_likely_25 : decode cX8_likely 25 = .ok (.lreturn, 1) := by decide +kernel
def gX8_likely (F : Nat) (m : Mem) (a1 : Int32) (a2 : Int32) : Option (Int64 × Mem) := (gX6_hasLane m 1 a1).bind (fun x1 => (if x1 = true then (gX8_likelyAll F m ((1 : Int32) <<< (a1 &&& 31)) a2).bind (fun q2 => some (q2.1, q2.2)) else (gX8_refuseLong m (-1)).bind (fun q3 => some (q3.1, q3.2))))
set_option maxHeartbeats 4000000 in
set_option maxRecDepth 20000 in
theorem LX8_likely {n : Nat} {F : Nat} {m : Mem} {a1 : Int32} {a2 : Int32} {r : Int64 × Mem} (hn : 43 ≤ n) (hg : gX8_likely F m a1 a2 = some r) : MX yX8_likely cX8_likely 3 (some .long) { frames := 3, cells := 0, slots := 0, locals := 78 } n [.ref 0, .int a1, .int a2] m (some (.long r.1)) r.2 := by
  refine MX_of (by decide) (Nat.le_of_ble_eq_true rfl) (Or.inr (Or.inr (Or.inl ⟨rfl, _, rfl⟩))) (fun K hC hk hL hR => ?_)
  replace hn : 43 ≤ kn K := hk.symm ▸ hn
  show RX K 0 [(0, .ref 0), (1, .int a1), (2, .int a2)] [] m
  rw [gX8_likely] at hg
  refine R_aload_n (pc := 0) hC 0 dX8_likely_0 rfl rfl ?_
  refine gf_X8_10 (pc := 1) hC hn dX8_likely_1 ?_
  refine R_iload_n (pc := 4) hC 1 dX8_likely_4 rfl rfl ?_
  obtain ⟨x1, hx1, hg⟩ := bind_some hg
  refine R_callVN (pc := 5) (av := [.int a1]) (rest := []) hC hR 1 (jx hn rfl) ly1 rfl mf_X6_hasLane wm_X8_115 (LX6_hasLane hn isv1 hx1) rfl rfl rfl (Nat.le_of_ble_eq_true rfl) dX8_likely_5 rfl ?_
  show RX K 8 [(0, .ref 0), (1, .int a1), (2, .int a2)] [.int (b2i x1)] m
  refine R_ifB_ne (tgt := 17) (pc := 8) hC dX8_likely_8 (by decide) (fun c => ?_) (fun c => ?_)
  · replace hg := (if_pos c).symm.trans hg
    refine R_aload_n (pc := 17) hC 0 dX8_likely_17 rfl rfl ?_
    refine R_iconst (pc := 18) hC dX8_likely_18 ki_1 ?_
    refine R_iload_n (pc := 19) hC 1 dX8_likely_19 rfl rfl ?_
    refine R_ishl (pc := 20) hC dX8_likely_20 ?_
    refine R_iload_n (pc := 21) hC 2 dX8_likely_21 rfl rfl ?_
    obtain ⟨q2, hq2, hg⟩ := bind_some hg
    refine R_callV (pc := 22) (av := [.int ((1 : Int32) <<< (a1 &&& 31)), .int a2]) (rest := []) hC hR 0 (jx hn rfl) ly0 rfl mf_X8_likelyAll wm_X8_177 (LX8_likelyAll hn hq2) rfl rfl rfl (Nat.le_of_ble_eq_true rfl) dX8_likely_22 rfl ?_
    show RX K 25 [(0, .ref 0), (1, .int a1), (2, .int a2)] [.long q2.1] q2.2
    have h9 := gxJM hg
    exact R_lreturn (pc := 25) hC dX8_likely_25 h9
  · replace hg := (if_neg c).symm.trans hg
    refine R_aload_n (pc := 11) hC 0 dX8_likely_11 rfl rfl ?_
    refine R_iconst (pc := 12) hC dX8_likely_12 ki_m1 ?_
    obtain ⟨q3, hq3, hg⟩ := bind_some hg
    refine R_callV (pc := 13) (av := [.int (-1)]) (rest := []) hC hR 0 (jx hn rfl) ly0 rfl mf_X8_refuseLong wm_X8_174 (LX8_refuseLong hn hq3) rfl rfl rfl (Nat.le_of_ble_eq_true rfl) dX8_likely_13 rfl ?_
    show RX K 16 [(0, .ref 0), (1, .int a1), (2, .int a2)] [.long q3.1] q3.2
    have h9 := gxJM hg
    exact R_lreturn (pc := 16) hC dX8_likely_16 h9
theorem dX8_pair_0 : decode cX8_pair 0 = .ok (.aload_n 0, 1) := by decide +kernel
theorem dX8_pair_1 : decode cX8_pair 1 = .ok (.getfield 10, 3) := by decide +kernel
theorem dX8_pair_4 : decode cX8_pair 4 = .ok (.iload_n 1, 1) := by decide +kernel
theorem dX8_pair_5 : decode cX8_pair 5 = .ok (.invokevirtual 115, 3) := by decide +kernel
theorem dX8_pair_8 : decode cX8_pair 8 = .ok (.ifCond .eq 14, 3) := by decide +kernel
theorem dX8_pair_11 : decode cX8_pair 11 = .ok (.aload_n 0, 1) := by decide +kernel
theorem dX8_pair_12 : decode cX8_pair 12 = .ok (.getfield 10, 3) := by decide +kernel
theorem dX8_pair_15 : decode cX8_pair 15 = .ok (.iload_n 2, 1) := by decide +kernel
theorem dX8_pair_16 : decode cX8_pair 16 = .ok (.invokevirtual 115, 3) := by decide +kernel
theorem dX8_pair_19 : decode cX8_pair 19 = .ok (.ifCond .ne 9, 3) := by decide +kernel
theorem dX8_pair_22 : decode cX8_pair 22 = .ok (.aload_n 0, 1) := by decide +kernel
theorem dX8_pair_23 : decode cX8_pair 23 = .ok (.iconst (-1), 1) := by decide +kernel
theorem dX8_pair_24 : decode cX8_pair 24 = .ok (.invokevirtual 174, 3) := by decide +kernel
theorem dX8_pair_27 : decode cX8_pair 27 = .ok (.lreturn, 1) := by decide +kernel
theorem dX8_pair_28 : decode cX8_pair 28 = .ok (.aload_n 0, 1) := by decide +kernel
theorem dX8_pair_29 : decode cX8_pair 29 = .ok (.iconst 1, 1) := by decide +kernel
theorem dX8_pair_30 : decode cX8_pair 30 = .ok (.iload_n 1, 1) := by decide +kernel
theorem dX8_pair_31 : decode cX8_pair 31 = .ok (.ishl, 1) := by decide +kernel
theorem dX8_pair_32 : decode cX8_pair 32 = .ok (.iconst 1, 1) := by decide +kernel
theorem dX8_pair_33 : decode cX8_pair 33 = .ok (.iload_n 2, 1) := by decide +kernel
theorem dX8_pair_34 : decode cX8_pair 34 = .ok (.ishl, 1) := by decide +kernel
theorem dX8_pair_35 : decode cX8_pair 35 = .ok (.ior, 1) := by decide +kernel
theorem dX8_pair_36 : decode cX8_pair 36 = .ok (.iload_n 3, 1) := by decide +kernel
theorem dX8_pair_37 : decode cX8_pair 37 = .ok (.invokevirtual 177, 3) := by decide +kernel
theorem dX8_pair_40 : decode cX8_pair 40 = .ok (.lreturn, 1) := by decide +kernel
def gX8_pair (F : Nat) (m : Mem) (a1 : Int32) (a2 : Int32) (a3 : Int32) : Option (Int64 × Mem) := (gX6_hasLane m 1 a1).bind (fun x1 => (if x1 = true then (gX6_hasLane m 1 a2).bind (fun x3 => (if x3 = true then (gX8_likelyAll F m (((1 : Int32) <<< (a1 &&& 31)) ||| ((1 : Int32) <<< (a2 &&& 31))) a3).bind (fun q4 => some (q4.1, q4.2)) else (gX8_refuseLong m (-1)).bind (fun q5 => some (q5.1, q5.2)))) else (gX8_refuseLong m (-1)).bind (fun q2 => some (q2.1, q2.2))))
set_option maxHeartbeats 4000000 in
set_option maxRecDepth 20000 in
theorem LX8_pair {n : Nat} {F : Nat} {m : Mem} {a1 : Int32} {a2 : Int32} {a3 : Int32} {r : Int64 × Mem} (hn : 43 ≤ n) (hg : gX8_pair F m a1 a2 a3 = some r) : MX yX8_pair cX8_pair 4 (some .long) { frames := 3, cells := 0, slots := 0, locals := 78 } n [.ref 0, .int a1, .int a2, .int a3] m (some (.long r.1)) r.2 := by
  refine MX_of (by decide) (Nat.le_of_ble_eq_true rfl) (Or.inr (Or.inr (Or.inl ⟨rfl, _, rfl⟩))) (fun K hC hk hL hR => ?_)
  replace hn : 43 ≤ kn K := hk.symm ▸ hn
  show RX K 0 [(0, .ref 0), (1, .int a1), (2, .int a2), (3, .int a3)] [] m
  rw [gX8_pair] at hg
  refine R_aload_n (pc := 0) hC 0 dX8_pair_0 rfl rfl ?_
  refine gf_X8_10 (pc := 1) hC hn dX8_pair_1 ?_
  refine R_iload_n (pc := 4) hC 1 dX8_pair_4 rfl rfl ?_
  obtain ⟨x1, hx1, hg⟩ := bind_some hg
  refine R_callVN (pc := 5) (av := [.int a1]) (rest := []) hC hR 1 (jx hn rfl) ly1 rfl mf_X6_hasLane wm_X8_115 (LX6_hasLane hn isv1 hx1) rfl rfl rfl (Nat.le_of_ble_eq_true rfl) dX8_pair_5 rfl ?_
  show RX K 8 [(0, .ref 0), (1, .int a1), (2, .int a2), (3, .int a3)] [.int (b2i x1)] m
  refine R_ifB_eq (tgt := 22) (pc := 8) hC dX8_pair_8 (by decide) (fun c => ?_) (fun c => ?_)
  · replace hg := (if_neg c).symm.trans hg
    refine R_aload_n (pc := 22) hC 0 dX8_pair_22 rfl rfl ?_
    refine R_iconst (pc := 23) hC dX8_pair_23 ki_m1 ?_
    obtain ⟨q2, hq2, hg⟩ := bind_some hg
    refine R_callV (pc := 24) (av := [.int (-1)]) (rest := []) hC hR 0 (jx hn rfl) ly0 rfl mf_X8_refuseLong wm_X8_174 (LX8_refuseLong hn hq2) rfl rfl rfl (Nat.le_of_ble_eq_true rfl) dX8_pair_24 rfl ?_
    show RX K 27 [(0, .ref 0), (1, .int a1), (2, .int a2), (3, .int a3)] [.long q2.1] q2.2
    have h9 := gxJM hg
    exact R_lreturn (pc := 27) hC dX8_pair_27 h9
  · replace hg := (if_pos c).symm.trans hg
    refine R_aload_n (pc := 11) hC 0 dX8_pair_11 rfl rfl ?_
    refine gf_X8_10 (pc := 12) hC hn dX8_pair_12 ?_
    refine R_iload_n (pc := 15) hC 2 dX8_pair_15 rfl rfl ?_
    obtain ⟨x3, hx3, hg⟩ := bind_some hg
    refine R_callVN (pc := 16) (av := [.int a2]) (rest := []) hC hR 1 (jx hn rfl) ly1 rfl mf_X6_hasLane wm_X8_115 (LX6_hasLane hn isv1 hx3) rfl rfl rfl (Nat.le_of_ble_eq_true rfl) dX8_pair_16 rfl ?_
    show RX K 19 [(0, .ref 0), (1, .int a1), (2, .int a2), (3, .int a3)] [.int (b2i x3)] m
    refine R_ifB_ne (tgt := 28) (pc := 19) hC dX8_pair_19 (by decide) (fun c => ?_) (fun c => ?_)
    · replace hg := (if_pos c).symm.trans hg
      refine R_aload_n (pc := 28) hC 0 dX8_pair_28 rfl rfl ?_
      refine R_iconst (pc := 29) hC dX8_pair_29 ki_1 ?_
      refine R_iload_n (pc := 30) hC 1 dX8_pair_30 rfl rfl ?_
      refine R_ishl (pc := 31) hC dX8_pair_31 ?_
      refine R_iconst (pc := 32) hC dX8_pair_32 ki_1 ?_
      refine R_iload_n (pc := 33) hC 2 dX8_pair_33 rfl rfl ?_
      refine R_ishl (pc := 34) hC dX8_pair_34 ?_
      refine R_ior (pc := 35) hC dX8_pair_35 ?_
      refine R_iload_n (pc := 36) hC 3 dX8_pair_36 rfl rfl ?_
      obtain ⟨q4, hq4, hg⟩ := bind_some hg
      refine R_callV (pc := 37) (av := [.int (((1 : Int32) <<< (a1 &&& 31)) ||| ((1 : Int32) <<< (a2 &&& 31))), .int a3]) (rest := []) hC hR 0 (jx hn rfl) ly0 rfl mf_X8_likelyAll wm_X8_177 (LX8_likelyAll hn hq4) rfl rfl rfl (Nat.le_of_ble_eq_true rfl) dX8_pair_37 rfl ?_
      show RX K 40 [(0, .ref 0), (1, .int a1), (2, .int a2), (3, .int a3)] [.long q4.1] q4.2
      have h9 := gxJM hg
      exact R_lreturn (pc := 40) hC dX8_pair_40 h9
    · replace hg := (if_neg c).symm.trans hg
      refine R_aload_n (pc := 22) hC 0 dX8_pair_22 rfl rfl ?_
      refine R_iconst (pc := 23) hC dX8_pair_23 ki_m1 ?_
      obtain ⟨q5, hq5, hg⟩ := bind_some hg
      refine R_callV (pc := 24) (av := [.int (-1)]) (rest := []) hC hR 0 (jx hn rfl) ly0 rfl mf_X8_refuseLong wm_X8_174 (LX8_refuseLong hn hq5) rfl rfl rfl (Nat.le_of_ble_eq_true rfl) dX8_pair_24 rfl ?_
      show RX K 27 [(0, .ref 0), (1, .int a1), (2, .int a2), (3, .int a3)] [.long q5.1] q5.2
      have h9 := gxJM hg
      exact R_lreturn (pc := 27) hC dX8_pair_27 h9
theorem dX8_less_0 : decode cX8_less 0 = .ok (.aload_n 0, 1) := by decide +kernel
theorem dX8_less_1 : decode cX8_less 1 = .ok (.getfield 10, 3) := by decide +kernel
theorem dX8_less_4 : decode cX8_less 4 = .ok (.iload_n 1, 1) := by decide +kernel
theorem dX8_less_5 : decode cX8_less 5 = .ok (.invokevirtual 115, 3) := by decide +kernel
theorem dX8_less_8 : decode cX8_less 8 = .ok (.ifCond .eq 19, 3) := by decide +kernel
theorem dX8_less_11 : decode cX8_less 11 = .ok (.aload_n 0, 1) := by decide +kernel
theorem dX8_less_12 : decode cX8_less 12 = .ok (.getfield 10, 3) := by decide +kernel
theorem dX8_less_15 : decode cX8_less 15 = .ok (.iload_n 2, 1) := by decide +kernel
theorem dX8_less_16 : decode cX8_less 16 = .ok (.invokevirtual 115, 3) := by decide +kernel
theorem dX8_less_19 : decode cX8_less 19 = .ok (.ifCond .eq 8, 3) := by decide +kernel
theorem dX8_less_22 : decode cX8_less 22 = .ok (.iload_n 1, 1) := by decide +kernel
theorem dX8_less_23 : decode cX8_less 23 = .ok (.iload_n 2, 1) := by decide +kernel
theorem dX8_less_24 : decode cX8_less 24 = .ok (.if_icmp .ne 9, 3) := by decide +kernel
theorem dX8_less_27 : decode cX8_less 27 = .ok (.aload_n 0, 1) := by decide +kernel
theorem dX8_less_28 : decode cX8_less 28 = .ok (.iconst (-1), 1) := by decide +kernel
theorem dX8_less_29 : decode cX8_less 29 = .ok (.invokevirtual 91, 3) := by decide +kernel
theorem dX8_less_32 : decode cX8_less 32 = .ok (.ireturn, 1) := by decide +kernel
theorem dX8_less_33 : decode cX8_less 33 = .ok (.aload_n 0, 1) := by decide +kernel
theorem dX8_less_34 : decode cX8_less 34 = .ok (.getfield 47, 3) := by decide +kernel
theorem dX8_less_37 : decode cX8_less 37 = .ok (.getfield 164, 3) := by decide +kernel
theorem dX8_less_40 : decode cX8_less 40 = .ok (.ifCond .ne 10, 3) := by decide +kernel
theorem dX8_less_43 : decode cX8_less 43 = .ok (.aload_n 0, 1) := by decide +kernel
theorem dX8_less_44 : decode cX8_less 44 = .ok (.bipush (-3), 2) := by decide +kernel
theorem dX8_less_46 : decode cX8_less 46 = .ok (.invokevirtual 91, 3) := by decide +kernel
theorem dX8_less_49 : decode cX8_less 49 = .ok (.ireturn, 1) := by decide +kernel
theorem dX8_less_50 : decode cX8_less 50 = .ok (.aload_n 0, 1) := by decide +kernel
theorem dX8_less_51 : decode cX8_less 51 = .ok (.getfield 47, 3) := by decide +kernel
theorem dX8_less_54 : decode cX8_less 54 = .ok (.iconst 1, 1) := by decide +kernel
theorem dX8_less_55 : decode cX8_less 55 = .ok (.iload_n 1, 1) := by decide +kernel
theorem dX8_less_56 : decode cX8_less 56 = .ok (.ishl, 1) := by decide +kernel
theorem dX8_less_57 : decode cX8_less 57 = .ok (.iconst 1, 1) := by decide +kernel
theorem dX8_less_58 : decode cX8_less 58 = .ok (.iload_n 2, 1) := by decide +kernel
theorem dX8_less_59 : decode cX8_less 59 = .ok (.ishl, 1) := by decide +kernel
theorem dX8_less_60 : decode cX8_less 60 = .ok (.ior, 1) := by decide +kernel
theorem dX8_less_61 : decode cX8_less 61 = .ok (.invokevirtual 167, 3) := by decide +kernel
theorem dX8_less_64 : decode cX8_less 64 = .ok (.aload_n 0, 1) := by decide +kernel
theorem dX8_less_65 : decode cX8_less 65 = .ok (.getfield 47, 3) := by decide +kernel
theorem dX8_less_68 : decode cX8_less 68 = .ok (.iconst 0, 1) := by decide +kernel
theorem dX8_less_69 : decode cX8_less 69 = .ok (.invokevirtual 167, 3) := by decide +kernel
theorem dX8_less_72 : decode cX8_less 72 = .ok (.lmul, 1) := by decide +kernel
theorem dX8_less_73 : decode cX8_less 73 = .ok (.lstore_n 3, 1) := by decide +kernel
theorem dX8_less_74 : decode cX8_less 74 = .ok (.aload_n 0, 1) := by decide +kernel
theorem dX8_less_75 : decode cX8_less 75 = .ok (.getfield 47, 3) := by decide +kernel
theorem dX8_less_78 : decode cX8_less 78 = .ok (.iconst 1, 1) := by decide +kernel
theorem dX8_less_79 : decode cX8_less 79 = .ok (.iload_n 1, 1) := by decide +kernel
theorem dX8_less_80 : decode cX8_less 80 = .ok (.ishl, 1) := by decide +kernel
theorem dX8_less_81 : decode cX8_less 81 = .ok (.invokevirtual 167, 3) := by decide +kernel
theorem dX8_less_84 : decode cX8_less 84 = .ok (.aload_n 0, 1) := by decide +kernel
theorem dX8_less_85 : decode cX8_less 85 = .ok (.getfield 47, 3) := by decide +kernel
theorem dX8_less_88 : decode cX8_less 88 = .ok (.iconst 1, 1) := by decide +kernel
theorem dX8_less_89 : decode cX8_less 89 = .ok (.iload_n 2, 1) := by decide +kernel
theorem dX8_less_90 : decode cX8_less 90 = .ok (.ishl, 1) := by decide +kernel
theorem dX8_less_91 : decode cX8_less 91 = .ok (.invokevirtual 167, 3) := by decide +kernel
theorem dX8_less_94 : decode cX8_less 94 = .ok (.lmul, 1) := by decide +kernel
theorem dX8_less_95 : decode cX8_less 95 = .ok (.lstore 5, 2) := by decide +kernel
theorem dX8_less_97 : decode cX8_less 97 = .ok (.lload_n 3, 1) := by decide +kernel
theorem dX8_less_98 : decode cX8_less 98 = .ok (.lload 5, 2) := by decide +kernel
theorem dX8_less_100 : decode cX8_less 100 = .ok (.lcmp, 1) := by decide +kernel
theorem dX8_less_101 : decode cX8_less 101 = .ok (.ifCond .ne 5, 3) := by decide +kernel
theorem dX8_less_104 : decode cX8_less 104 = .ok (.iconst 0, 1) := by decide +kernel
theorem dX8_less_105 : decode cX8_less 105 = .ok (.ireturn, 1) := by decide +kernel
theorem dX8_less_106 : decode cX8_less 106 = .ok (.lload_n 3, 1) := by decide +kernel
theorem dX8_less_107 : decode cX8_less 107 = .ok (.lload 5, 2) := by decide +kernel
theorem dX8_less_109 : decode cX8_less 109 = .ok (.lcmp, 1) := by decide +kernel
theorem dX8_less_110 : decode cX8_less 110 = .ok (.ifCond .ge 7, 3) := by decide +kernel
theorem dX8_less_113 : decode cX8_less 113 = .ok (.iconst 1, 1) := by decide +kernel
theorem dX8_less_114 : decode cX8_less 114 = .ok (.goto 4, 3) := by decide +kernel
theorem dX8_less_117 : decode cX8_less 117 = .ok (.iconst 2, 1) := by decide +kernel
theorem dX8_less_118 : decode cX8_less 118 = .ok (.ireturn, 1) := by decide +kernel
def gX8_less (F : Nat) (m : Mem) (a1 : Int32) (a2 : Int32) : Option (Int32 × Mem) := (gX6_hasLane m 1 a1).bind (fun x1 => (if x1 = true then (gX6_hasLane m 1 a2).bind (fun x3 => (if x3 = true then (if a1 = a2 then (gX8_refuse m (-1)).bind (fun q12 => some (q12.1, q12.2)) else (if (m.1 26 2) = 0 then (gX8_refuse m (-3)).bind (fun q11 => some (q11.1, q11.2)) else (gX7_worthWith F m (((1 : Int32) <<< (a1 &&& 31)) ||| ((1 : Int32) <<< (a2 &&& 31)))).bind (fun x5 => (gX7_worthWith F m 0).bind (fun x6 => lete (x5 * x6) (fun x7 => (gX7_worthWith F m ((1 : Int32) <<< (a1 &&& 31))).bind (fun x8 => (gX7_worthWith F m ((1 : Int32) <<< (a2 &&& 31))).bind (fun x9 => lete (x8 * x9) (fun x10 => (if (lg_cmp x7 x10) = 0 then some (0, m) else (if 0 ≤ (lg_cmp x7 x10) then some (2, m) else some (1, m))))))))))) else (gX8_refuse m (-1)).bind (fun q4 => some (q4.1, q4.2)))) else (gX8_refuse m (-1)).bind (fun q2 => some (q2.1, q2.2))))
set_option maxHeartbeats 4000000 in
set_option maxRecDepth 20000 in
theorem LX8_less {n : Nat} {F : Nat} {m : Mem} {a1 : Int32} {a2 : Int32} {r : Int32 × Mem} (hn : 43 ≤ n) (hg : gX8_less F m a1 a2 = some r) : MX yX8_less cX8_less 7 (some .int) { frames := 1, cells := 0, slots := 0, locals := 24 } n [.ref 0, .int a1, .int a2] m (some (.int r.1)) r.2 := by
  refine MX_of (by decide) (Nat.le_of_ble_eq_true rfl) (Or.inr (Or.inl ⟨rfl, _, rfl⟩)) (fun K hC hk hL hR => ?_)
  replace hn : 43 ≤ kn K := hk.symm ▸ hn
  show RX K 0 [(0, .ref 0), (1, .int a1), (2, .int a2)] [] m
  rw [gX8_less] at hg
  refine R_aload_n (pc := 0) hC 0 dX8_less_0 rfl rfl ?_
  refine gf_X8_10 (pc := 1) hC hn dX8_less_1 ?_
  refine R_iload_n (pc := 4) hC 1 dX8_less_4 rfl rfl ?_
  obtain ⟨x1, hx1, hg⟩ := bind_some hg
  refine R_callVN (pc := 5) (av := [.int a1]) (rest := []) hC hR 1 (jx hn rfl) ly1 rfl mf_X6_hasLane wm_X8_115 (LX6_hasLane hn isv1 hx1) rfl rfl rfl (Nat.le_of_ble_eq_true rfl) dX8_less_5 rfl ?_
  show RX K 8 [(0, .ref 0), (1, .int a1), (2, .int a2)] [.int (b2i x1)] m
  refine R_ifB_eq (tgt := 27) (pc := 8) hC dX8_less_8 (by decide) (fun c => ?_) (fun c => ?_)
  · replace hg := (if_neg c).symm.trans hg
    refine R_aload_n (pc := 27) hC 0 dX8_less_27 rfl rfl ?_
    refine R_iconst (pc := 28) hC dX8_less_28 ki_m1 ?_
    obtain ⟨q2, hq2, hg⟩ := bind_some hg
    refine R_callV (pc := 29) (av := [.int (-1)]) (rest := []) hC hR 0 (jx hn rfl) ly0 rfl mf_X8_refuse wm_X8_91 (LX8_refuse hn hq2) rfl rfl rfl (Nat.le_of_ble_eq_true rfl) dX8_less_29 rfl ?_
    show RX K 32 [(0, .ref 0), (1, .int a1), (2, .int a2)] [.int q2.1] q2.2
    have h9 := gxIM hg
    exact R_ireturn (pc := 32) hC dX8_less_32 h9
  · replace hg := (if_pos c).symm.trans hg
    refine R_aload_n (pc := 11) hC 0 dX8_less_11 rfl rfl ?_
    refine gf_X8_10 (pc := 12) hC hn dX8_less_12 ?_
    refine R_iload_n (pc := 15) hC 2 dX8_less_15 rfl rfl ?_
    obtain ⟨x3, hx3, hg⟩ := bind_some hg
    refine R_callVN (pc := 16) (av := [.int a2]) (rest := []) hC hR 1 (jx hn rfl) ly1 rfl mf_X6_hasLane wm_X8_115 (LX6_hasLane hn isv1 hx3) rfl rfl rfl (Nat.le_of_ble_eq_true rfl) dX8_less_16 rfl ?_
    show RX K 19 [(0, .ref 0), (1, .int a1), (2, .int a2)] [.int (b2i x3)] m
    refine R_ifB_eq (tgt := 27) (pc := 19) hC dX8_less_19 (by decide) (fun c => ?_) (fun c => ?_)
    · replace hg := (if_neg c).symm.trans hg
      refine R_aload_n (pc := 27) hC 0 dX8_less_27 rfl rfl ?_
      refine R_iconst (pc := 28) hC dX8_less_28 ki_m1 ?_
      obtain ⟨q4, hq4, hg⟩ := bind_some hg
      refine R_callV (pc := 29) (av := [.int (-1)]) (rest := []) hC hR 0 (jx hn rfl) ly0 rfl mf_X8_refuse wm_X8_91 (LX8_refuse hn hq4) rfl rfl rfl (Nat.le_of_ble_eq_true rfl) dX8_less_29 rfl ?_
      show RX K 32 [(0, .ref 0), (1, .int a1), (2, .int a2)] [.int q4.1] q4.2
      have h9 := gxIM hg
      exact R_ireturn (pc := 32) hC dX8_less_32 h9
    · replace hg := (if_pos c).symm.trans hg
      refine R_iload_n (pc := 22) hC 1 dX8_less_22 rfl rfl ?_
      refine R_iload_n (pc := 23) hC 2 dX8_less_23 rfl rfl ?_
      refine R_icmp_ne (tgt := 33) (pc := 24) hC dX8_less_24 (by decide) (fun c => ?_) (fun c => ?_)
      · replace hg := (if_neg c).symm.trans hg
        refine R_aload_n (pc := 33) hC 0 dX8_less_33 rfl rfl ?_
        refine gf_X8_47 (pc := 34) hC hn dX8_less_34 ?_
        refine gf_X8_164 (pc := 37) hC hn dX8_less_37 ?_
        refine R_if_ne (tgt := 50) (pc := 40) hC dX8_less_40 (by decide) (fun c => ?_) (fun c => ?_)
        · replace hg := (if_neg c).symm.trans hg
          refine R_aload_n (pc := 50) hC 0 dX8_less_50 rfl rfl ?_
          refine gf_X8_47 (pc := 51) hC hn dX8_less_51 ?_
          refine R_iconst (pc := 54) hC dX8_less_54 ki_1 ?_
          refine R_iload_n (pc := 55) hC 1 dX8_less_55 rfl rfl ?_
          refine R_ishl (pc := 56) hC dX8_less_56 ?_
          refine R_iconst (pc := 57) hC dX8_less_57 ki_1 ?_
          refine R_iload_n (pc := 58) hC 2 dX8_less_58 rfl rfl ?_
          refine R_ishl (pc := 59) hC dX8_less_59 ?_
          refine R_ior (pc := 60) hC dX8_less_60 ?_
          obtain ⟨x5, hx5, hg⟩ := bind_some hg
          refine R_callVN (pc := 61) (av := [.int (((1 : Int32) <<< (a1 &&& 31)) ||| ((1 : Int32) <<< (a2 &&& 31)))]) (rest := []) hC hR 26 (jx hn rfl) ly26 rfl mf_X7_worthWith wm_X8_167 (LX7_worthWith hn hx5) rfl rfl rfl (Nat.le_of_ble_eq_true rfl) dX8_less_61 rfl ?_
          show RX K 64 [(0, .ref 0), (1, .int a1), (2, .int a2)] [.long x5] m
          refine R_aload_n (pc := 64) hC 0 dX8_less_64 rfl rfl ?_
          refine gf_X8_47 (pc := 65) hC hn dX8_less_65 ?_
          refine R_iconst (pc := 68) hC dX8_less_68 ki_0 ?_
          obtain ⟨x6, hx6, hg⟩ := bind_some hg
          refine R_callVN (pc := 69) (av := [.int 0]) (rest := [.long x5]) hC hR 26 (jx hn rfl) ly26 rfl mf_X7_worthWith wm_X8_167 (LX7_worthWith hn hx6) rfl rfl rfl (Nat.le_of_ble_eq_true rfl) dX8_less_69 rfl ?_
          show RX K 72 [(0, .ref 0), (1, .int a1), (2, .int a2)] [.long x6, .long x5] m
          refine R_lmul (pc := 72) hC dX8_less_72 ?_
          obtain ⟨x7, hx7, hg⟩ := lete_some hg
          refine R_topL hx7 ?_
          refine R_lstore_n (pc := 73) hC dX8_less_73 rfl hL rfl (show _ = [(3, .long x7), (0, .ref 0), (1, .int a1), (2, .int a2)] from rfl) ?_
          refine R_aload_n (pc := 74) hC 1 dX8_less_74 rfl rfl ?_
          refine gf_X8_47 (pc := 75) hC hn dX8_less_75 ?_
          refine R_iconst (pc := 78) hC dX8_less_78 ki_1 ?_
          refine R_iload_n (pc := 79) hC 2 dX8_less_79 rfl rfl ?_
          refine R_ishl (pc := 80) hC dX8_less_80 ?_
          obtain ⟨x8, hx8, hg⟩ := bind_some hg
          refine R_callVN (pc := 81) (av := [.int ((1 : Int32) <<< (a1 &&& 31))]) (rest := []) hC hR 26 (jx hn rfl) ly26 rfl mf_X7_worthWith wm_X8_167 (LX7_worthWith hn hx8) rfl rfl rfl (Nat.le_of_ble_eq_true rfl) dX8_less_81 rfl ?_
          show RX K 84 [(3, .long x7), (0, .ref 0), (1, .int a1), (2, .int a2)] [.long x8] m
          refine R_aload_n (pc := 84) hC 1 dX8_less_84 rfl rfl ?_
          refine gf_X8_47 (pc := 85) hC hn dX8_less_85 ?_
          refine R_iconst (pc := 88) hC dX8_less_88 ki_1 ?_
          refine R_iload_n (pc := 89) hC 3 dX8_less_89 rfl rfl ?_
          refine R_ishl (pc := 90) hC dX8_less_90 ?_
          obtain ⟨x9, hx9, hg⟩ := bind_some hg
          refine R_callVN (pc := 91) (av := [.int ((1 : Int32) <<< (a2 &&& 31))]) (rest := [.long x8]) hC hR 26 (jx hn rfl) ly26 rfl mf_X7_worthWith wm_X8_167 (LX7_worthWith hn hx9) rfl rfl rfl (Nat.le_of_ble_eq_true rfl) dX8_less_91 rfl ?_
          show RX K 94 [(3, .long x7), (0, .ref 0), (1, .int a1), (2, .int a2)] [.long x9, .long x8] m
          refine R_lmul (pc := 94) hC dX8_less_94 ?_
          obtain ⟨x10, hx10, hg⟩ := lete_some hg
          refine R_topL hx10 ?_
          refine R_lstore (pc := 95) hC dX8_less_95 hL rfl (show _ = [(5, .long x10), (3, .long x7), (0, .ref 0), (1, .int a1), (2, .int a2)] from rfl) ?_
          refine R_lload_n (pc := 97) hC 1 dX8_less_97 rfl rfl ?_
          refine R_lload (pc := 98) hC 0 dX8_less_98 rfl ?_
          refine R_lcmp (pc := 100) hC dX8_less_100 ?_
          refine R_if_ne (tgt := 106) (pc := 101) hC dX8_less_101 (by decide) (fun c => ?_) (fun c => ?_)
          · replace hg := (if_neg c).symm.trans hg
            refine R_lload_n (pc := 106) hC 1 dX8_less_106 rfl rfl ?_
            refine R_lload (pc := 107) hC 0 dX8_less_107 rfl ?_
            refine R_lcmp (pc := 109) hC dX8_less_109 ?_
            refine R_if_ge (tgt := 117) (pc := 110) hC dX8_less_110 (by decide) (fun c => ?_) (fun c => ?_)
            · replace hg := (if_pos c).symm.trans hg
              refine R_iconst (pc := 117) hC dX8_less_117 ki_2 ?_
              have h9 := gxIM hg
              exact R_ireturn (pc := 118) hC dX8_less_118 h9
            · replace hg := (if_neg c).symm.trans hg
              refine R_iconst (pc := 113) hC dX8_less_113 ki_1 ?_
              refine R_goto (tgt := 118) (pc := 114) hC dX8_less_114 (by decide) ?_
              have h9 := gxIM hg
              exact R_ireturn (pc := 118) hC dX8_less_118 h9
          · replace hg := (if_pos c).symm.trans hg
            refine R_iconst (pc := 104) hC dX8_less_104 ki_0 ?_
            have h9 := gxIM hg
            exact R_ireturn (pc := 105) hC dX8_less_105 h9
        · replace hg := (if_pos c).symm.trans hg
          refine R_aload_n (pc := 43) hC 0 dX8_less_43 rfl rfl ?_
          refine R_bipush (pc := 44) hC dX8_less_44 kb_m3 ?_
          obtain ⟨q11, hq11, hg⟩ := bind_some hg
          refine R_callV (pc := 46) (av := [.int (-3)]) (rest := []) hC hR 0 (jx hn rfl) ly0 rfl mf_X8_refuse wm_X8_91 (LX8_refuse hn hq11) rfl rfl rfl (Nat.le_of_ble_eq_true rfl) dX8_less_46 rfl ?_
          show RX K 49 [(0, .ref 0), (1, .int a1), (2, .int a2)] [.int q11.1] q11.2
          have h9 := gxIM hg
          exact R_ireturn (pc := 49) hC dX8_less_49 h9
      · replace hg := (if_pos c).symm.trans hg
        refine R_aload_n (pc := 27) hC 0 dX8_less_27 rfl rfl ?_
        refine R_iconst (pc := 28) hC dX8_less_28 ki_m1 ?_
        obtain ⟨q12, hq12, hg⟩ := bind_some hg
        refine R_callV (pc := 29) (av := [.int (-1)]) (rest := []) hC hR 0 (jx hn rfl) ly0 rfl mf_X8_refuse wm_X8_91 (LX8_refuse hn hq12) rfl rfl rfl (Nat.le_of_ble_eq_true rfl) dX8_less_29 rfl ?_
        show RX K 32 [(0, .ref 0), (1, .int a1), (2, .int a2)] [.int q12.1] q12.2
        have h9 := gxIM hg
        exact R_ireturn (pc := 32) hC dX8_less_32 h9
theorem dX8_inAll_0 : decode cX8_inAll 0 = .ok (.aload_n 0, 1) := by decide +kernel
theorem dX8_inAll_1 : decode cX8_inAll 1 = .ok (.getfield 47, 3) := by decide +kernel
theorem dX8_inAll_4 : decode cX8_inAll 4 = .ok (.invokevirtual 181, 3) := by decide +kernel
theorem dX8_inAll_7 : decode cX8_inAll 7 = .ok (.ireturn, 1) := by decide +kernel
def gX8_inAll (F : Nat) (m : Mem) : Option (Int32) := (gX7_lanesInAll F m).bind (fun x1 => some x1)
set_option maxHeartbeats 4000000 in
set_option maxRecDepth 20000 in
theorem LX8_inAll {n : Nat} {F : Nat} {m : Mem} {r : Int32} (hn : 43 ≤ n) (hg : gX8_inAll F m  = some r) : MX yX8_inAll cX8_inAll 1 (some .int) { frames := 2, cells := 0, slots := 0, locals := 42 } n [.ref 0] m (some (.int r)) m := by
  refine MX_of (by decide) (Nat.le_of_ble_eq_true rfl) (Or.inr (Or.inl ⟨rfl, _, rfl⟩)) (fun K hC hk hL hR => ?_)
  replace hn : 43 ≤ kn K := hk.symm ▸ hn
  show RX K 0 [(0, .ref 0)] [] m
  rw [gX8_inAll] at hg
  refine R_aload_n (pc := 0) hC 0 dX8_inAll_0 rfl rfl ?_
  refine gf_X8_47 (pc := 1) hC hn dX8_inAll_1 ?_
  obtain ⟨x1, hx1, hg⟩ := bind_some hg
  refine R_callVN (pc := 4) (av := []) (rest := []) hC hR 26 (jx hn rfl) ly26 rfl mf_X7_lanesInAll wm_X8_181 (LX7_lanesInAll hn hx1) rfl rfl rfl (Nat.le_of_ble_eq_true rfl) dX8_inAll_4 rfl ?_
  show RX K 7 [(0, .ref 0)] [.int x1] m
  have h9 := gxI (m := m) hg
  exact R_ireturn (pc := 7) hC dX8_inAll_7 h9
theorem dX8_inNone_0 : decode cX8_inNone 0 = .ok (.aload_n 0, 1) := by decide +kernel
theorem dX8_inNone_1 : decode cX8_inNone 1 = .ok (.getfield 47, 3) := by decide +kernel
theorem dX8_inNone_4 : decode cX8_inNone 4 = .ok (.invokevirtual 185, 3) := by decide +kernel
theorem dX8_inNone_7 : decode cX8_inNone 7 = .ok (.ireturn, 1) := by decide +kernel
def gX8_inNone (F : Nat) (m : Mem) : Option (Int32) := (gX7_lanesInNone F m).bind (fun x1 => some x1)
set_option maxHeartbeats 4000000 in
set_option maxRecDepth 20000 in
theorem LX8_inNone {n : Nat} {F : Nat} {m : Mem} {r : Int32} (hn : 43 ≤ n) (hg : gX8_inNone F m  = some r) : MX yX8_inNone cX8_inNone 1 (some .int) { frames := 2, cells := 0, slots := 0, locals := 42 } n [.ref 0] m (some (.int r)) m := by
  refine MX_of (by decide) (Nat.le_of_ble_eq_true rfl) (Or.inr (Or.inl ⟨rfl, _, rfl⟩)) (fun K hC hk hL hR => ?_)
  replace hn : 43 ≤ kn K := hk.symm ▸ hn
  show RX K 0 [(0, .ref 0)] [] m
  rw [gX8_inNone] at hg
  refine R_aload_n (pc := 0) hC 0 dX8_inNone_0 rfl rfl ?_
  refine gf_X8_47 (pc := 1) hC hn dX8_inNone_1 ?_
  obtain ⟨x1, hx1, hg⟩ := bind_some hg
  refine R_callVN (pc := 4) (av := []) (rest := []) hC hR 26 (jx hn rfl) ly26 rfl mf_X7_lanesInNone wm_X8_185 (LX7_lanesInNone hn hx1) rfl rfl rfl (Nat.le_of_ble_eq_true rfl) dX8_inNone_4 rfl ?_
  show RX K 7 [(0, .ref 0)] [.int x1] m
  have h9 := gxI (m := m) hg
  exact R_ireturn (pc := 7) hC dX8_inNone_7 h9
theorem dX8_cheap_0 : decode cX8_cheap 0 = .ok (.iload_n 2, 1) := by decide +kernel
theorem dX8_cheap_1 : decode cX8_cheap 1 = .ok (.ifCond .eq 15, 3) := by decide +kernel
theorem dX8_cheap_4 : decode cX8_cheap 4 = .ok (.iload_n 2, 1) := by decide +kernel
theorem dX8_cheap_5 : decode cX8_cheap 5 = .ok (.iconst 1, 1) := by decide +kernel
theorem dX8_cheap_6 : decode cX8_cheap 6 = .ok (.if_icmp .eq 10, 3) := by decide +kernel
theorem dX8_cheap_9 : decode cX8_cheap 9 = .ok (.aload_n 0, 1) := by decide +kernel
theorem dX8_cheap_10 : decode cX8_cheap 10 = .ok (.bipush (-2), 2) := by decide +kernel
theorem dX8_cheap_12 : decode cX8_cheap 12 = .ok (.invokevirtual 91, 3) := by decide +kernel
theorem dX8_cheap_15 : decode cX8_cheap 15 = .ok (.ireturn, 1) := by decide +kernel
theorem dX8_cheap_16 : decode cX8_cheap 16 = .ok (.iload_n 1, 1) := by decide +kernel
theorem dX8_cheap_17 : decode cX8_cheap 17 = .ok (.ifCond .ge 10, 3) := by decide +kernel
theorem dX8_cheap_20 : decode cX8_cheap 20 = .ok (.aload_n 0, 1) := by decide +kernel
theorem dX8_cheap_21 : decode cX8_cheap 21 = .ok (.bipush (-4), 2) := by decide +kernel
theorem dX8_cheap_23 : decode cX8_cheap 23 = .ok (.invokevirtual 91, 3) := by decide +kernel
theorem dX8_cheap_26 : decode cX8_cheap 26 = .ok (.ireturn, 1) := by decide +kernel
theorem dX8_cheap_27 : decode cX8_cheap 27 = .ok (.iload_n 2, 1) := by decide +kernel
theorem dX8_cheap_28 : decode cX8_cheap 28 = .ok (.ifCond .ne 14, 3) := by decide +kernel
theorem dX8_cheap_31 : decode cX8_cheap 31 = .ok (.aload_n 0, 1) := by decide +kernel
theorem dX8_cheap_32 : decode cX8_cheap 32 = .ok (.getfield 47, 3) := by decide +kernel
theorem dX8_cheap_35 : decode cX8_cheap 35 = .ok (.iload_n 1, 1) := by decide +kernel
theorem dX8_cheap_36 : decode cX8_cheap 36 = .ok (.invokevirtual 188, 3) := by decide +kernel
theorem dX8_cheap_39 : decode cX8_cheap 39 = .ok (.goto 11, 3) := by decide +kernel
theorem dX8_cheap_42 : decode cX8_cheap 42 = .ok (.aload_n 0, 1) := by decide +kernel
theorem dX8_cheap_43 : decode cX8_cheap 43 = .ok (.getfield 47, 3) := by decide +kernel
theorem dX8_cheap_46 : decode cX8_cheap 46 = .ok (.iload_n 1, 1) := by decide +kernel
theorem dX8_cheap_47 : decode cX8_cheap 47 = .ok (.invokevirtual 191, 3) := by decide +kernel
theorem dX8_cheap_50 : decode cX8_cheap 50 = .ok (.ireturn, 1) := by decide +kernel
def gX8_cheap (F : Nat) (m : Mem) (a1 : Int32) (a2 : Int32) : Option (Int32 × Mem) := (if a2 = 0 then (if 0 ≤ a1 then (if a2 = 0 then (gX7_bitsByCost F m a1).bind (fun q2 => some (q2.1, q2.2)) else (gX7_costByCost F m a1).bind (fun q1 => some (q1.1, q1.2))) else (gX8_refuse m (-4)).bind (fun q3 => some (q3.1, q3.2))) else (if a2 = 1 then (if 0 ≤ a1 then (if a2 = 0 then (gX7_bitsByCost F m a1).bind (fun q5 => some (q5.1, q5.2)) else (gX7_costByCost F m a1).bind (fun q4 => some (q4.1, q4.2))) else (gX8_refuse m (-4)).bind (fun q6 => some (q6.1, q6.2))) else (gX8_refuse m (-2)).bind (fun q7 => some (q7.1, q7.2))))
set_option maxHeartbeats 4000000 in
set_option maxRecDepth 20000 in
theorem LX8_cheap {n : Nat} {F : Nat} {m : Mem} {a1 : Int32} {a2 : Int32} {r : Int32 × Mem} (hn : 43 ≤ n) (hg : gX8_cheap F m a1 a2 = some r) : MX yX8_cheap cX8_cheap 3 (some .int) { frames := 3, cells := 0, slots := 0, locals := 66 } n [.ref 0, .int a1, .int a2] m (some (.int r.1)) r.2 := by
  refine MX_of (by decide) (Nat.le_of_ble_eq_true rfl) (Or.inr (Or.inl ⟨rfl, _, rfl⟩)) (fun K hC hk hL hR => ?_)
  replace hn : 43 ≤ kn K := hk.symm ▸ hn
  show RX K 0 [(0, .ref 0), (1, .int a1), (2, .int a2)] [] m
  rw [gX8_cheap] at hg
  refine R_iload_n (pc := 0) hC 2 dX8_cheap_0 rfl rfl ?_
  refine R_if_eq (tgt := 16) (pc := 1) hC dX8_cheap_1 (by decide) (fun c => ?_) (fun c => ?_)
  · replace hg := (if_pos c).symm.trans hg
    refine R_iload_n (pc := 16) hC 1 dX8_cheap_16 rfl rfl ?_
    refine R_if_ge (tgt := 27) (pc := 17) hC dX8_cheap_17 (by decide) (fun c => ?_) (fun c => ?_)
    · replace hg := (if_pos c).symm.trans hg
      refine R_iload_n (pc := 27) hC 2 dX8_cheap_27 rfl rfl ?_
      refine R_if_ne (tgt := 42) (pc := 28) hC dX8_cheap_28 (by decide) (fun c => ?_) (fun c => ?_)
      · replace hg := (if_neg c).symm.trans hg
        refine R_aload_n (pc := 42) hC 0 dX8_cheap_42 rfl rfl ?_
        refine gf_X8_47 (pc := 43) hC hn dX8_cheap_43 ?_
        refine R_iload_n (pc := 46) hC 1 dX8_cheap_46 rfl rfl ?_
        obtain ⟨q1, hq1, hg⟩ := bind_some hg
        refine R_callVN (pc := 47) (av := [.int a1]) (rest := []) hC hR 26 (jx hn rfl) ly26 rfl mf_X7_costByCost wm_X8_191 (LX7_costByCost hn hq1) rfl rfl rfl (Nat.le_of_ble_eq_true rfl) dX8_cheap_47 rfl ?_
        show RX K 50 [(0, .ref 0), (1, .int a1), (2, .int a2)] [.int q1.1] q1.2
        have h9 := gxIM hg
        exact R_ireturn (pc := 50) hC dX8_cheap_50 h9
      · replace hg := (if_pos c).symm.trans hg
        refine R_aload_n (pc := 31) hC 0 dX8_cheap_31 rfl rfl ?_
        refine gf_X8_47 (pc := 32) hC hn dX8_cheap_32 ?_
        refine R_iload_n (pc := 35) hC 1 dX8_cheap_35 rfl rfl ?_
        obtain ⟨q2, hq2, hg⟩ := bind_some hg
        refine R_callVN (pc := 36) (av := [.int a1]) (rest := []) hC hR 26 (jx hn rfl) ly26 rfl mf_X7_bitsByCost wm_X8_188 (LX7_bitsByCost hn hq2) rfl rfl rfl (Nat.le_of_ble_eq_true rfl) dX8_cheap_36 rfl ?_
        show RX K 39 [(0, .ref 0), (1, .int a1), (2, .int a2)] [.int q2.1] q2.2
        refine R_goto (tgt := 50) (pc := 39) hC dX8_cheap_39 (by decide) ?_
        have h9 := gxIM hg
        exact R_ireturn (pc := 50) hC dX8_cheap_50 h9
    · replace hg := (if_neg c).symm.trans hg
      refine R_aload_n (pc := 20) hC 0 dX8_cheap_20 rfl rfl ?_
      refine R_bipush (pc := 21) hC dX8_cheap_21 kb_m4 ?_
      obtain ⟨q3, hq3, hg⟩ := bind_some hg
      refine R_callV (pc := 23) (av := [.int (-4)]) (rest := []) hC hR 0 (jx hn rfl) ly0 rfl mf_X8_refuse wm_X8_91 (LX8_refuse hn hq3) rfl rfl rfl (Nat.le_of_ble_eq_true rfl) dX8_cheap_23 rfl ?_
      show RX K 26 [(0, .ref 0), (1, .int a1), (2, .int a2)] [.int q3.1] q3.2
      have h9 := gxIM hg
      exact R_ireturn (pc := 26) hC dX8_cheap_26 h9
  · replace hg := (if_neg c).symm.trans hg
    refine R_iload_n (pc := 4) hC 2 dX8_cheap_4 rfl rfl ?_
    refine R_iconst (pc := 5) hC dX8_cheap_5 ki_1 ?_
    refine R_icmp_eq (tgt := 16) (pc := 6) hC dX8_cheap_6 (by decide) (fun c => ?_) (fun c => ?_)
    · replace hg := (if_pos c).symm.trans hg
      refine R_iload_n (pc := 16) hC 1 dX8_cheap_16 rfl rfl ?_
      refine R_if_ge (tgt := 27) (pc := 17) hC dX8_cheap_17 (by decide) (fun c => ?_) (fun c => ?_)
      · replace hg := (if_pos c).symm.trans hg
        refine R_iload_n (pc := 27) hC 2 dX8_cheap_27 rfl rfl ?_
        refine R_if_ne (tgt := 42) (pc := 28) hC dX8_cheap_28 (by decide) (fun c => ?_) (fun c => ?_)
        · replace hg := (if_neg c).symm.trans hg
          refine R_aload_n (pc := 42) hC 0 dX8_cheap_42 rfl rfl ?_
          refine gf_X8_47 (pc := 43) hC hn dX8_cheap_43 ?_
          refine R_iload_n (pc := 46) hC 1 dX8_cheap_46 rfl rfl ?_
          obtain ⟨q4, hq4, hg⟩ := bind_some hg
          refine R_callVN (pc := 47) (av := [.int a1]) (rest := []) hC hR 26 (jx hn rfl) ly26 rfl mf_X7_costByCost wm_X8_191 (LX7_costByCost hn hq4) rfl rfl rfl (Nat.le_of_ble_eq_true rfl) dX8_cheap_47 rfl ?_
          show RX K 50 [(0, .ref 0), (1, .int a1), (2, .int a2)] [.int q4.1] q4.2
          have h9 := gxIM hg
          exact R_ireturn (pc := 50) hC dX8_cheap_50 h9
        · replace hg := (if_pos c).symm.trans hg
          refine R_aload_n (pc := 31) hC 0 dX8_cheap_31 rfl rfl ?_
          refine gf_X8_47 (pc := 32) hC hn dX8_cheap_32 ?_
          refine R_iload_n (pc := 35) hC 1 dX8_cheap_35 rfl rfl ?_
          obtain ⟨q5, hq5, hg⟩ := bind_some hg
          refine R_callVN (pc := 36) (av := [.int a1]) (rest := []) hC hR 26 (jx hn rfl) ly26 rfl mf_X7_bitsByCost wm_X8_188 (LX7_bitsByCost hn hq5) rfl rfl rfl (Nat.le_of_ble_eq_true rfl) dX8_cheap_36 rfl ?_
          show RX K 39 [(0, .ref 0), (1, .int a1), (2, .int a2)] [.int q5.1] q5.2
          refine R_goto (tgt := 50) (pc := 39) hC dX8_cheap_39 (by decide) ?_
          have h9 := gxIM hg
          exact R_ireturn (pc := 50) hC dX8_cheap_50 h9
      · replace hg := (if_neg c).symm.trans hg
        refine R_aload_n (pc := 20) hC 0 dX8_cheap_20 rfl rfl ?_
        refine R_bipush (pc := 21) hC dX8_cheap_21 kb_m4 ?_
        obtain ⟨q6, hq6, hg⟩ := bind_some hg
        refine R_callV (pc := 23) (av := [.int (-4)]) (rest := []) hC hR 0 (jx hn rfl) ly0 rfl mf_X8_refuse wm_X8_91 (LX8_refuse hn hq6) rfl rfl rfl (Nat.le_of_ble_eq_true rfl) dX8_cheap_23 rfl ?_
        show RX K 26 [(0, .ref 0), (1, .int a1), (2, .int a2)] [.int q6.1] q6.2
        have h9 := gxIM hg
        exact R_ireturn (pc := 26) hC dX8_cheap_26 h9
    · replace hg := (if_neg c).symm.trans hg
      refine R_aload_n (pc := 9) hC 0 dX8_cheap_9 rfl rfl ?_
      refine R_bipush (pc := 10) hC dX8_cheap_10 kb_m2 ?_
      obtain ⟨q7, hq7, hg⟩ := bind_some hg
      refine R_callV (pc := 12) (av := [.int (-2)]) (rest := []) hC hR 0 (jx hn rfl) ly0 rfl mf_X8_refuse wm_X8_91 (LX8_refuse hn hq7) rfl rfl rfl (Nat.le_of_ble_eq_true rfl) dX8_cheap_12 rfl ?_
      show RX K 15 [(0, .ref 0), (1, .int a1), (2, .int a2)] [.int q7.1] q7.2
      have h9 := gxIM hg
      exact R_ireturn (pc := 15) hC dX8_cheap_15 h9
theorem dX8_nights_0 : decode cX8_nights 0 = .ok (.aload_n 0, 1) := by decide +kernel
theorem dX8_nights_1 : decode cX8_nights 1 = .ok (.getfield 38, 3) := by decide +kernel
theorem dX8_nights_4 : decode cX8_nights 4 = .ok (.iload_n 1, 1) := by decide +kernel
theorem dX8_nights_5 : decode cX8_nights 5 = .ok (.invokevirtual 154, 3) := by decide +kernel
theorem dX8_nights_8 : decode cX8_nights 8 = .ok (.ifCond .eq 14, 3) := by decide +kernel
theorem dX8_nights_11 : decode cX8_nights 11 = .ok (.aload_n 0, 1) := by decide +kernel
theorem dX8_nights_12 : decode cX8_nights 12 = .ok (.getfield 38, 3) := by decide +kernel
theorem dX8_nights_15 : decode cX8_nights 15 = .ok (.iload_n 2, 1) := by decide +kernel
theorem dX8_nights_16 : decode cX8_nights 16 = .ok (.invokevirtual 154, 3) := by decide +kernel
theorem dX8_nights_19 : decode cX8_nights 19 = .ok (.ifCond .ne 10, 3) := by decide +kernel
theorem dX8_nights_22 : decode cX8_nights 22 = .ok (.aload_n 0, 1) := by decide +kernel
theorem dX8_nights_23 : decode cX8_nights 23 = .ok (.bipush (-3), 2) := by decide +kernel
theorem dX8_nights_25 : decode cX8_nights 25 = .ok (.invokevirtual 91, 3) := by decide +kernel
theorem dX8_nights_28 : decode cX8_nights 28 = .ok (.ireturn, 1) := by decide +kernel
theorem dX8_nights_29 : decode cX8_nights 29 = .ok (.iload_n 1, 1) := by decide +kernel
theorem dX8_nights_30 : decode cX8_nights 30 = .ok (.iload_n 2, 1) := by decide +kernel
theorem dX8_nights_31 : decode cX8_nights 31 = .ok (.iconst (-1), 1) := by decide +kernel
theorem dX8_nights_32 : decode cX8_nights 32 = .ok (.ixor, 1) := by decide +kernel
theorem dX8_nights_33 : decode cX8_nights 33 = .ok (.iand, 1) := by decide +kernel
theorem dX8_nights_34 : decode cX8_nights 34 = .ok (.invokestatic 194, 3) := by decide +kernel
theorem dX8_nights_37 : decode cX8_nights 37 = .ok (.ireturn, 1) := by decide +kernel
def gX8_nights (m : Mem) (a1 : Int32) (a2 : Int32) : Option (Int32 × Mem) := (gX2_isWay m a1).bind (fun x1 => (if x1 = true then (gX2_isWay m a2).bind (fun x3 => (if x3 = true then (gJ6_bitCount (a1 &&& (a2 ^^^ (-1)))).bind (fun x4 => some (x4, m)) else (gX8_refuse m (-3)).bind (fun q5 => some (q5.1, q5.2)))) else (gX8_refuse m (-3)).bind (fun q2 => some (q2.1, q2.2))))
set_option maxHeartbeats 4000000 in
set_option maxRecDepth 20000 in
theorem LX8_nights {n : Nat} {m : Mem} {a1 : Int32} {a2 : Int32} {r : Int32 × Mem} (hn : 43 ≤ n) (hg : gX8_nights m a1 a2 = some r) : MX yX8_nights cX8_nights 3 (some .int) { frames := 3, cells := 0, slots := 0, locals := 64 } n [.ref 0, .int a1, .int a2] m (some (.int r.1)) r.2 := by
  refine MX_of (by decide) (Nat.le_of_ble_eq_true rfl) (Or.inr (Or.inl ⟨rfl, _, rfl⟩)) (fun K hC hk hL hR => ?_)
  replace hn : 43 ≤ kn K := hk.symm ▸ hn
  show RX K 0 [(0, .ref 0), (1, .int a1), (2, .int a2)] [] m
  rw [gX8_nights] at hg
  refine R_aload_n (pc := 0) hC 0 dX8_nights_0 rfl rfl ?_
  refine gf_X8_38 (pc := 1) hC hn dX8_nights_1 ?_
  refine R_iload_n (pc := 4) hC 1 dX8_nights_4 rfl rfl ?_
  obtain ⟨x1, hx1, hg⟩ := bind_some hg
  refine R_callVN (pc := 5) (av := [.int a1]) (rest := []) hC hR 24 (jx hn rfl) ly24 rfl mf_X2_isWay wm_X8_154 (LX2_isWay hn hx1) rfl rfl rfl (Nat.le_of_ble_eq_true rfl) dX8_nights_5 rfl ?_
  show RX K 8 [(0, .ref 0), (1, .int a1), (2, .int a2)] [.int (b2i x1)] m
  refine R_ifB_eq (tgt := 22) (pc := 8) hC dX8_nights_8 (by decide) (fun c => ?_) (fun c => ?_)
  · replace hg := (if_neg c).symm.trans hg
    refine R_aload_n (pc := 22) hC 0 dX8_nights_22 rfl rfl ?_
    refine R_bipush (pc := 23) hC dX8_nights_23 kb_m3 ?_
    obtain ⟨q2, hq2, hg⟩ := bind_some hg
    refine R_callV (pc := 25) (av := [.int (-3)]) (rest := []) hC hR 0 (jx hn rfl) ly0 rfl mf_X8_refuse wm_X8_91 (LX8_refuse hn hq2) rfl rfl rfl (Nat.le_of_ble_eq_true rfl) dX8_nights_25 rfl ?_
    show RX K 28 [(0, .ref 0), (1, .int a1), (2, .int a2)] [.int q2.1] q2.2
    have h9 := gxIM hg
    exact R_ireturn (pc := 28) hC dX8_nights_28 h9
  · replace hg := (if_pos c).symm.trans hg
    refine R_aload_n (pc := 11) hC 0 dX8_nights_11 rfl rfl ?_
    refine gf_X8_38 (pc := 12) hC hn dX8_nights_12 ?_
    refine R_iload_n (pc := 15) hC 2 dX8_nights_15 rfl rfl ?_
    obtain ⟨x3, hx3, hg⟩ := bind_some hg
    refine R_callVN (pc := 16) (av := [.int a2]) (rest := []) hC hR 24 (jx hn rfl) ly24 rfl mf_X2_isWay wm_X8_154 (LX2_isWay hn hx3) rfl rfl rfl (Nat.le_of_ble_eq_true rfl) dX8_nights_16 rfl ?_
    show RX K 19 [(0, .ref 0), (1, .int a1), (2, .int a2)] [.int (b2i x3)] m
    refine R_ifB_ne (tgt := 29) (pc := 19) hC dX8_nights_19 (by decide) (fun c => ?_) (fun c => ?_)
    · replace hg := (if_pos c).symm.trans hg
      refine R_iload_n (pc := 29) hC 1 dX8_nights_29 rfl rfl ?_
      refine R_iload_n (pc := 30) hC 2 dX8_nights_30 rfl rfl ?_
      refine R_iconst (pc := 31) hC dX8_nights_31 ki_m1 ?_
      refine R_ixor (pc := 32) hC dX8_nights_32 ?_
      refine R_iand (pc := 33) hC dX8_nights_33 ?_
      obtain ⟨x4, hx4, hg⟩ := bind_some hg
      refine R_callS (pc := 34) (av := [.int (a1 &&& (a2 ^^^ (-1)))]) (rest := []) hC hR mf_J6_bitCount wm_X8_194 (LJ6_bitCount hx4) rfl rfl rfl (Nat.le_of_ble_eq_true rfl) dX8_nights_34 rfl ?_
      show RX K 37 [(0, .ref 0), (1, .int a1), (2, .int a2)] [.int x4] m
      have h9 := gxIM hg
      exact R_ireturn (pc := 37) hC dX8_nights_37 h9
    · replace hg := (if_neg c).symm.trans hg
      refine R_aload_n (pc := 22) hC 0 dX8_nights_22 rfl rfl ?_
      refine R_bipush (pc := 23) hC dX8_nights_23 kb_m3 ?_
      obtain ⟨q5, hq5, hg⟩ := bind_some hg
      refine R_callV (pc := 25) (av := [.int (-3)]) (rest := []) hC hR 0 (jx hn rfl) ly0 rfl mf_X8_refuse wm_X8_91 (LX8_refuse hn hq5) rfl rfl rfl (Nat.le_of_ble_eq_true rfl) dX8_nights_25 rfl ?_
      show RX K 28 [(0, .ref 0), (1, .int a1), (2, .int a2)] [.int q5.1] q5.2
      have h9 := gxIM hg
      exact R_ireturn (pc := 28) hC dX8_nights_28 h9
theorem dX8_step_0 : decode cX8_step 0 = .ok (.aload_n 0, 1) := by decide +kernel
theorem dX8_step_1 : decode cX8_step 1 = .ok (.getfield 38, 3) := by decide +kernel
theorem dX8_step_4 : decode cX8_step 4 = .ok (.iload_n 1, 1) := by decide +kernel
theorem dX8_step_5 : decode cX8_step 5 = .ok (.invokevirtual 154, 3) := by decide +kernel
theorem dX8_step_8 : decode cX8_step 8 = .ok (.ifCond .eq 14, 3) := by decide +kernel
theorem dX8_step_11 : decode cX8_step 11 = .ok (.aload_n 0, 1) := by decide +kernel
theorem dX8_step_12 : decode cX8_step 12 = .ok (.getfield 38, 3) := by decide +kernel
theorem dX8_step_15 : decode cX8_step 15 = .ok (.iload_n 2, 1) := by decide +kernel
theorem dX8_step_16 : decode cX8_step 16 = .ok (.invokevirtual 154, 3) := by decide +kernel
theorem dX8_step_19 : decode cX8_step 19 = .ok (.ifCond .ne 10, 3) := by decide +kernel
theorem dX8_step_22 : decode cX8_step 22 = .ok (.aload_n 0, 1) := by decide +kernel
theorem dX8_step_23 : decode cX8_step 23 = .ok (.bipush (-3), 2) := by decide +kernel
theorem dX8_step_25 : decode cX8_step 25 = .ok (.invokevirtual 91, 3) := by decide +kernel
theorem dX8_step_28 : decode cX8_step 28 = .ok (.ireturn, 1) := by decide +kernel
theorem dX8_step_29 : decode cX8_step 29 = .ok (.aload_n 0, 1) := by decide +kernel
theorem dX8_step_30 : decode cX8_step 30 = .ok (.getfield 47, 3) := by decide +kernel
theorem dX8_step_33 : decode cX8_step 33 = .ok (.iload_n 1, 1) := by decide +kernel
theorem dX8_step_34 : decode cX8_step 34 = .ok (.iload_n 2, 1) := by decide +kernel
theorem dX8_step_35 : decode cX8_step 35 = .ok (.invokevirtual 199, 3) := by decide +kernel
theorem dX8_step_38 : decode cX8_step 38 = .ok (.ireturn, 1) := by decide +kernel
def gX8_step (F : Nat) (m : Mem) (a1 : Int32) (a2 : Int32) : Option (Int32 × Mem) := (gX2_isWay m a1).bind (fun x1 => (if x1 = true then (gX2_isWay m a2).bind (fun x3 => (if x3 = true then (gX7_stepBetween F m a1 a2).bind (fun x4 => some (x4, m)) else (gX8_refuse m (-3)).bind (fun q5 => some (q5.1, q5.2)))) else (gX8_refuse m (-3)).bind (fun q2 => some (q2.1, q2.2))))
set_option maxHeartbeats 4000000 in
set_option maxRecDepth 20000 in
theorem LX8_step {n : Nat} {F : Nat} {m : Mem} {a1 : Int32} {a2 : Int32} {r : Int32 × Mem} (hn : 43 ≤ n) (hg : gX8_step F m a1 a2 = some r) : MX yX8_step cX8_step 3 (some .int) { frames := 3, cells := 0, slots := 0, locals := 64 } n [.ref 0, .int a1, .int a2] m (some (.int r.1)) r.2 := by
  refine MX_of (by decide) (Nat.le_of_ble_eq_true rfl) (Or.inr (Or.inl ⟨rfl, _, rfl⟩)) (fun K hC hk hL hR => ?_)
  replace hn : 43 ≤ kn K := hk.symm ▸ hn
  show RX K 0 [(0, .ref 0), (1, .int a1), (2, .int a2)] [] m
  rw [gX8_step] at hg
  refine R_aload_n (pc := 0) hC 0 dX8_step_0 rfl rfl ?_
  refine gf_X8_38 (pc := 1) hC hn dX8_step_1 ?_
  refine R_iload_n (pc := 4) hC 1 dX8_step_4 rfl rfl ?_
  obtain ⟨x1, hx1, hg⟩ := bind_some hg
  refine R_callVN (pc := 5) (av := [.int a1]) (rest := []) hC hR 24 (jx hn rfl) ly24 rfl mf_X2_isWay wm_X8_154 (LX2_isWay hn hx1) rfl rfl rfl (Nat.le_of_ble_eq_true rfl) dX8_step_5 rfl ?_
  show RX K 8 [(0, .ref 0), (1, .int a1), (2, .int a2)] [.int (b2i x1)] m
  refine R_ifB_eq (tgt := 22) (pc := 8) hC dX8_step_8 (by decide) (fun c => ?_) (fun c => ?_)
  · replace hg := (if_neg c).symm.trans hg
    refine R_aload_n (pc := 22) hC 0 dX8_step_22 rfl rfl ?_
    refine R_bipush (pc := 23) hC dX8_step_23 kb_m3 ?_
    obtain ⟨q2, hq2, hg⟩ := bind_some hg
    refine R_callV (pc := 25) (av := [.int (-3)]) (rest := []) hC hR 0 (jx hn rfl) ly0 rfl mf_X8_refuse wm_X8_91 (LX8_refuse hn hq2) rfl rfl rfl (Nat.le_of_ble_eq_true rfl) dX8_step_25 rfl ?_
    show RX K 28 [(0, .ref 0), (1, .int a1), (2, .int a2)] [.int q2.1] q2.2
    have h9 := gxIM hg
    exact R_ireturn (pc := 28) hC dX8_step_28 h9
  · replace hg := (if_pos c).symm.trans hg
    refine R_aload_n (pc := 11) hC 0 dX8_step_11 rfl rfl ?_
    refine gf_X8_38 (pc := 12) hC hn dX8_step_12 ?_
    refine R_iload_n (pc := 15) hC 2 dX8_step_15 rfl rfl ?_
    obtain ⟨x3, hx3, hg⟩ := bind_some hg
    refine R_callVN (pc := 16) (av := [.int a2]) (rest := []) hC hR 24 (jx hn rfl) ly24 rfl mf_X2_isWay wm_X8_154 (LX2_isWay hn hx3) rfl rfl rfl (Nat.le_of_ble_eq_true rfl) dX8_step_16 rfl ?_
    show RX K 19 [(0, .ref 0), (1, .int a1), (2, .int a2)] [.int (b2i x3)] m
    refine R_ifB_ne (tgt := 29) (pc := 19) hC dX8_step_19 (by decide) (fun c => ?_) (fun c => ?_)
    · replace hg := (if_pos c).symm.trans hg
      refine R_aload_n (pc := 29) hC 0 dX8_step_29 rfl rfl ?_
      refine gf_X8_47 (pc := 30) hC hn dX8_step_30 ?_
      refine R_iload_n (pc := 33) hC 1 dX8_step_33 rfl rfl ?_
      refine R_iload_n (pc := 34) hC 2 dX8_step_34 rfl rfl ?_
      obtain ⟨x4, hx4, hg⟩ := bind_some hg
      refine R_callVN (pc := 35) (av := [.int a1, .int a2]) (rest := []) hC hR 26 (jx hn rfl) ly26 rfl mf_X7_stepBetween wm_X8_199 (LX7_stepBetween hn hx4) rfl rfl rfl (Nat.le_of_ble_eq_true rfl) dX8_step_35 rfl ?_
      show RX K 38 [(0, .ref 0), (1, .int a1), (2, .int a2)] [.int x4] m
      have h9 := gxIM hg
      exact R_ireturn (pc := 38) hC dX8_step_38 h9
    · replace hg := (if_neg c).symm.trans hg
      refine R_aload_n (pc := 22) hC 0 dX8_step_22 rfl rfl ?_
      refine R_bipush (pc := 23) hC dX8_step_23 kb_m3 ?_
      obtain ⟨q5, hq5, hg⟩ := bind_some hg
      refine R_callV (pc := 25) (av := [.int (-3)]) (rest := []) hC hR 0 (jx hn rfl) ly0 rfl mf_X8_refuse wm_X8_91 (LX8_refuse hn hq5) rfl rfl rfl (Nat.le_of_ble_eq_true rfl) dX8_step_25 rfl ?_
      show RX K 28 [(0, .ref 0), (1, .int a1), (2, .int a2)] [.int q5.1] q5.2
      have h9 := gxIM hg
      exact R_ireturn (pc := 28) hC dX8_step_28 h9
theorem dX8_toward_0 : decode cX8_toward 0 = .ok (.aload_n 0, 1) := by decide +kernel
theorem dX8_toward_1 : decode cX8_toward 1 = .ok (.getfield 10, 3) := by decide +kernel
theorem dX8_toward_4 : decode cX8_toward 4 = .ok (.iload_n 1, 1) := by decide +kernel
theorem dX8_toward_5 : decode cX8_toward 5 = .ok (.invokevirtual 203, 3) := by decide +kernel
theorem dX8_toward_8 : decode cX8_toward 8 = .ok (.ifCond .ne 9, 3) := by decide +kernel
theorem dX8_toward_11 : decode cX8_toward 11 = .ok (.aload_n 0, 1) := by decide +kernel
theorem dX8_toward_12 : decode cX8_toward 12 = .ok (.iconst (-1), 1) := by decide +kernel
theorem dX8_toward_13 : decode cX8_toward 13 = .ok (.invokevirtual 174, 3) := by decide +kernel
theorem dX8_toward_16 : decode cX8_toward 16 = .ok (.lreturn, 1) := by decide +kernel
theorem dX8_toward_17 : decode cX8_toward 17 = .ok (.iload_n 2, 1) := by decide +kernel
theorem dX8_toward_18 : decode cX8_toward 18 = .ok (.ifCond .eq 15, 3) := by decide +kernel
theorem dX8_toward_21 : decode cX8_toward 21 = .ok (.iload_n 2, 1) := by decide +kernel
theorem dX8_toward_22 : decode cX8_toward 22 = .ok (.iconst 1, 1) := by decide +kernel
theorem dX8_toward_23 : decode cX8_toward 23 = .ok (.if_icmp .eq 10, 3) := by decide +kernel
theorem dX8_toward_26 : decode cX8_toward 26 = .ok (.aload_n 0, 1) := by decide +kernel
theorem dX8_toward_27 : decode cX8_toward 27 = .ok (.bipush (-2), 2) := by decide +kernel
theorem dX8_toward_29 : decode cX8_toward 29 = .ok (.invokevirtual 174, 3) := by decide +kernel
theorem dX8_toward_32 : decode cX8_toward 32 = .ok (.lreturn, 1) := by decide +kernel
theorem dX8_toward_33 : decode cX8_toward 33 = .ok (.iload_n 2, 1) := by decide +kernel
theorem dX8_toward_34 : decode cX8_toward 34 = .ok (.ifCond .ne 15, 3) := by decide +kernel
theorem dX8_toward_37 : decode cX8_toward 37 = .ok (.aload_n 0, 1) := by decide +kernel
theorem dX8_toward_38 : decode cX8_toward 38 = .ok (.getfield 47, 3) := by decide +kernel
theorem dX8_toward_41 : decode cX8_toward 41 = .ok (.iload_n 1, 1) := by decide +kernel
theorem dX8_toward_42 : decode cX8_toward 42 = .ok (.invokevirtual 206, 3) := by decide +kernel
theorem dX8_toward_45 : decode cX8_toward 45 = .ok (.i2l, 1) := by decide +kernel
theorem dX8_toward_46 : decode cX8_toward 46 = .ok (.goto 11, 3) := by decide +kernel
theorem dX8_toward_49 : decode cX8_toward 49 = .ok (.aload_n 0, 1) := by decide +kernel
theorem dX8_toward_50 : decode cX8_toward 50 = .ok (.getfield 47, 3) := by decide +kernel
theorem dX8_toward_53 : decode cX8_toward 53 = .ok (.iload_n 1, 1) := by decide +kernel
theorem dX8_toward_54 : decode cX8_toward 54 = .ok (.invokevirtual 209, 3) := by decide +kernel
theorem dX8_toward_57 : decode cX8_toward 57 = .ok (.lreturn, 1) := by decide +kernel
def gX8_toward (F : Nat) (m : Mem) (a1 : Int32) (a2 : Int32) : Option (Int64 × Mem) := (gX6_hasHouse m 1 a1).bind (fun x1 => (if x1 = true then (if a2 = 0 then (if a2 = 0 then (gX7_manyToward F m a1).bind (fun x3 => some (Int32.toInt64 x3, m)) else (gX7_worthToward F m a1).bind (fun x2 => some (x2, m))) else (if a2 = 1 then (if a2 = 0 then (gX7_manyToward F m a1).bind (fun x5 => some (Int32.toInt64 x5, m)) else (gX7_worthToward F m a1).bind (fun x4 => some (x4, m))) else (gX8_refuseLong m (-2)).bind (fun q6 => some (q6.1, q6.2)))) else (gX8_refuseLong m (-1)).bind (fun q7 => some (q7.1, q7.2))))
set_option maxHeartbeats 4000000 in
set_option maxRecDepth 20000 in
theorem LX8_toward {n : Nat} {F : Nat} {m : Mem} {a1 : Int32} {a2 : Int32} {r : Int64 × Mem} (hn : 43 ≤ n) (hg : gX8_toward F m a1 a2 = some r) : MX yX8_toward cX8_toward 3 (some .long) { frames := 4, cells := 0, slots := 0, locals := 93 } n [.ref 0, .int a1, .int a2] m (some (.long r.1)) r.2 := by
  refine MX_of (by decide) (Nat.le_of_ble_eq_true rfl) (Or.inr (Or.inr (Or.inl ⟨rfl, _, rfl⟩))) (fun K hC hk hL hR => ?_)
  replace hn : 43 ≤ kn K := hk.symm ▸ hn
  show RX K 0 [(0, .ref 0), (1, .int a1), (2, .int a2)] [] m
  rw [gX8_toward] at hg
  refine R_aload_n (pc := 0) hC 0 dX8_toward_0 rfl rfl ?_
  refine gf_X8_10 (pc := 1) hC hn dX8_toward_1 ?_
  refine R_iload_n (pc := 4) hC 1 dX8_toward_4 rfl rfl ?_
  obtain ⟨x1, hx1, hg⟩ := bind_some hg
  refine R_callVN (pc := 5) (av := [.int a1]) (rest := []) hC hR 1 (jx hn rfl) ly1 rfl mf_X6_hasHouse wm_X8_203 (LX6_hasHouse hn isv1 hx1) rfl rfl rfl (Nat.le_of_ble_eq_true rfl) dX8_toward_5 rfl ?_
  show RX K 8 [(0, .ref 0), (1, .int a1), (2, .int a2)] [.int (b2i x1)] m
  refine R_ifB_ne (tgt := 17) (pc := 8) hC dX8_toward_8 (by decide) (fun c => ?_) (fun c => ?_)
  · replace hg := (if_pos c).symm.trans hg
    refine R_iload_n (pc := 17) hC 2 dX8_toward_17 rfl rfl ?_
    refine R_if_eq (tgt := 33) (pc := 18) hC dX8_toward_18 (by decide) (fun c => ?_) (fun c => ?_)
    · replace hg := (if_pos c).symm.trans hg
      refine R_iload_n (pc := 33) hC 2 dX8_toward_33 rfl rfl ?_
      refine R_if_ne (tgt := 49) (pc := 34) hC dX8_toward_34 (by decide) (fun c => ?_) (fun c => ?_)
      · replace hg := (if_neg c).symm.trans hg
        refine R_aload_n (pc := 49) hC 0 dX8_toward_49 rfl rfl ?_
        refine gf_X8_47 (pc := 50) hC hn dX8_toward_50 ?_
        refine R_iload_n (pc := 53) hC 1 dX8_toward_53 rfl rfl ?_
        obtain ⟨x2, hx2, hg⟩ := bind_some hg
        refine R_callVN (pc := 54) (av := [.int a1]) (rest := []) hC hR 26 (jx hn rfl) ly26 rfl mf_X7_worthToward wm_X8_209 (LX7_worthToward hn hx2) rfl rfl rfl (Nat.le_of_ble_eq_true rfl) dX8_toward_54 rfl ?_
        show RX K 57 [(0, .ref 0), (1, .int a1), (2, .int a2)] [.long x2] m
        have h9 := gxJM hg
        exact R_lreturn (pc := 57) hC dX8_toward_57 h9
      · replace hg := (if_pos c).symm.trans hg
        refine R_aload_n (pc := 37) hC 0 dX8_toward_37 rfl rfl ?_
        refine gf_X8_47 (pc := 38) hC hn dX8_toward_38 ?_
        refine R_iload_n (pc := 41) hC 1 dX8_toward_41 rfl rfl ?_
        obtain ⟨x3, hx3, hg⟩ := bind_some hg
        refine R_callVN (pc := 42) (av := [.int a1]) (rest := []) hC hR 26 (jx hn rfl) ly26 rfl mf_X7_manyToward wm_X8_206 (LX7_manyToward hn hx3) rfl rfl rfl (Nat.le_of_ble_eq_true rfl) dX8_toward_42 rfl ?_
        show RX K 45 [(0, .ref 0), (1, .int a1), (2, .int a2)] [.int x3] m
        refine R_i2l (pc := 45) hC dX8_toward_45 ?_
        refine R_goto (tgt := 57) (pc := 46) hC dX8_toward_46 (by decide) ?_
        have h9 := gxJM hg
        exact R_lreturn (pc := 57) hC dX8_toward_57 h9
    · replace hg := (if_neg c).symm.trans hg
      refine R_iload_n (pc := 21) hC 2 dX8_toward_21 rfl rfl ?_
      refine R_iconst (pc := 22) hC dX8_toward_22 ki_1 ?_
      refine R_icmp_eq (tgt := 33) (pc := 23) hC dX8_toward_23 (by decide) (fun c => ?_) (fun c => ?_)
      · replace hg := (if_pos c).symm.trans hg
        refine R_iload_n (pc := 33) hC 2 dX8_toward_33 rfl rfl ?_
        refine R_if_ne (tgt := 49) (pc := 34) hC dX8_toward_34 (by decide) (fun c => ?_) (fun c => ?_)
        · replace hg := (if_neg c).symm.trans hg
          refine R_aload_n (pc := 49) hC 0 dX8_toward_49 rfl rfl ?_
          refine gf_X8_47 (pc := 50) hC hn dX8_toward_50 ?_
          refine R_iload_n (pc := 53) hC 1 dX8_toward_53 rfl rfl ?_
          obtain ⟨x4, hx4, hg⟩ := bind_some hg
          refine R_callVN (pc := 54) (av := [.int a1]) (rest := []) hC hR 26 (jx hn rfl) ly26 rfl mf_X7_worthToward wm_X8_209 (LX7_worthToward hn hx4) rfl rfl rfl (Nat.le_of_ble_eq_true rfl) dX8_toward_54 rfl ?_
          show RX K 57 [(0, .ref 0), (1, .int a1), (2, .int a2)] [.long x4] m
          have h9 := gxJM hg
          exact R_lreturn (pc := 57) hC dX8_toward_57 h9
        · replace hg := (if_pos c).symm.trans hg
          refine R_aload_n (pc := 37) hC 0 dX8_toward_37 rfl rfl ?_
          refine gf_X8_47 (pc := 38) hC hn dX8_toward_38 ?_
          refine R_iload_n (pc := 41) hC 1 dX8_toward_41 rfl rfl ?_
          obtain ⟨x5, hx5, hg⟩ := bind_some hg
          refine R_callVN (pc := 42) (av := [.int a1]) (rest := []) hC hR 26 (jx hn rfl) ly26 rfl mf_X7_manyToward wm_X8_206 (LX7_manyToward hn hx5) rfl rfl rfl (Nat.le_of_ble_eq_true rfl) dX8_toward_42 rfl ?_
          show RX K 45 [(0, .ref 0), (1, .int a1), (2, .int a2)] [.int x5] m
          refine R_i2l (pc := 45) hC dX8_toward_45 ?_
          refine R_goto (tgt := 57) (pc := 46) hC dX8_toward_46 (by decide) ?_
          have h9 := gxJM hg
          exact R_lreturn (pc := 57) hC dX8_toward_57 h9
      · replace hg := (if_neg c).symm.trans hg
        refine R_aload_n (pc := 26) hC 0 dX8_toward_26 rfl rfl ?_
        refine R_bipush (pc := 27) hC dX8_toward_27 kb_m2 ?_
        obtain ⟨q6, hq6, hg⟩ := bind_some hg
        refine R_callV (pc := 29) (av := [.int (-2)]) (rest := []) hC hR 0 (jx hn rfl) ly0 rfl mf_X8_refuseLong wm_X8_174 (LX8_refuseLong hn hq6) rfl rfl rfl (Nat.le_of_ble_eq_true rfl) dX8_toward_29 rfl ?_
        show RX K 32 [(0, .ref 0), (1, .int a1), (2, .int a2)] [.long q6.1] q6.2
        have h9 := gxJM hg
        exact R_lreturn (pc := 32) hC dX8_toward_32 h9
  · replace hg := (if_neg c).symm.trans hg
    refine R_aload_n (pc := 11) hC 0 dX8_toward_11 rfl rfl ?_
    refine R_iconst (pc := 12) hC dX8_toward_12 ki_m1 ?_
    obtain ⟨q7, hq7, hg⟩ := bind_some hg
    refine R_callV (pc := 13) (av := [.int (-1)]) (rest := []) hC hR 0 (jx hn rfl) ly0 rfl mf_X8_refuseLong wm_X8_174 (LX8_refuseLong hn hq7) rfl rfl rfl (Nat.le_of_ble_eq_true rfl) dX8_toward_13 rfl ?_
    show RX K 16 [(0, .ref 0), (1, .int a1), (2, .int a2)] [.long q7.1] q7.2
    have h9 := gxJM hg
    exact R_lreturn (pc := 16) hC dX8_toward_16 h9
theorem dX8_forests_0 : decode cX8_forests 0 = .ok (.iload_n 1, 1) := by decide +kernel
theorem dX8_forests_1 : decode cX8_forests 1 = .ok (.iconst 1, 1) := by decide +kernel
theorem dX8_forests_2 : decode cX8_forests 2 = .ok (.if_icmp .ge 10, 3) := by decide +kernel
theorem dX8_forests_5 : decode cX8_forests 5 = .ok (.aload_n 0, 1) := by decide +kernel
theorem dX8_forests_6 : decode cX8_forests 6 = .ok (.bipush (-4), 2) := by decide +kernel
theorem dX8_forests_8 : decode cX8_forests 8 = .ok (.invokevirtual 91, 3) := by decide +kernel
theorem dX8_forests_11 : decode cX8_forests 11 = .ok (.ireturn, 1) := by decide +kernel
theorem dX8_forests_12 : decode cX8_forests 12 = .ok (.iload_n 1, 1) := by decide +kernel
theorem dX8_forests_13 : decode cX8_forests 13 = .ok (.bipush 7, 2) := by decide +kernel
theorem dX8_forests_15 : decode cX8_forests 15 = .ok (.if_icmp .le 10, 3) := by decide +kernel
theorem dX8_forests_18 : decode cX8_forests 18 = .ok (.aload_n 0, 1) := by decide +kernel
theorem dX8_forests_19 : decode cX8_forests 19 = .ok (.bipush (-6), 2) := by decide +kernel
theorem dX8_forests_21 : decode cX8_forests 21 = .ok (.invokevirtual 91, 3) := by decide +kernel
theorem dX8_forests_24 : decode cX8_forests 24 = .ok (.ireturn, 1) := by decide +kernel
theorem dX8_forests_25 : decode cX8_forests 25 = .ok (.aload_n 0, 1) := by decide +kernel
theorem dX8_forests_26 : decode cX8_forests 26 = .ok (.getfield 54, 3) := by decide +kernel
theorem dX8_forests_29 : decode cX8_forests 29 = .ok (.iload_n 1, 1) := by decide +kernel
theorem dX8_forests_30 : decode cX8_forests 30 = .ok (.invokevirtual 212, 3) := by decide +kernel
theorem dX8_forests_33 : decode cX8_forests 33 = .ok (.ireturn, 1) := by decide +kernel
def gX8_forests (F : Nat) (m : Mem) (a1 : Int32) : Option (Int32 × Mem) := (if 1 ≤ a1 then (if a1 ≤ 7 then (gX1_manyOf F m a1).bind (fun x1 => some (x1, m)) else (gX8_refuse m (-6)).bind (fun q2 => some (q2.1, q2.2))) else (gX8_refuse m (-4)).bind (fun q3 => some (q3.1, q3.2)))
set_option maxHeartbeats 4000000 in
set_option maxRecDepth 20000 in
theorem LX8_forests {n : Nat} {F : Nat} {m : Mem} {a1 : Int32} {r : Int32 × Mem} (hn : 43 ≤ n) (hg : gX8_forests F m a1 = some r) : MX yX8_forests cX8_forests 2 (some .int) { frames := 3, cells := 0, slots := 0, locals := 67 } n [.ref 0, .int a1] m (some (.int r.1)) r.2 := by
  refine MX_of (by decide) (Nat.le_of_ble_eq_true rfl) (Or.inr (Or.inl ⟨rfl, _, rfl⟩)) (fun K hC hk hL hR => ?_)
  replace hn : 43 ≤ kn K := hk.symm ▸ hn
  show RX K 0 [(0, .ref 0), (1, .int a1)] [] m
  rw [gX8_forests] at hg
  refine R_iload_n (pc := 0) hC 1 dX8_forests_0 rfl rfl ?_
  refine R_iconst (pc := 1) hC dX8_forests_1 ki_1 ?_
  refine R_icmp_ge (tgt := 12) (pc := 2) hC dX8_forests_2 (by decide) (fun c => ?_) (fun c => ?_)
  · replace hg := (if_pos c).symm.trans hg
    refine R_iload_n (pc := 12) hC 1 dX8_forests_12 rfl rfl ?_
    refine R_bipush (pc := 13) hC dX8_forests_13 kb_7 ?_
    refine R_icmp_le (tgt := 25) (pc := 15) hC dX8_forests_15 (by decide) (fun c => ?_) (fun c => ?_)
    · replace hg := (if_pos c).symm.trans hg
      refine R_aload_n (pc := 25) hC 0 dX8_forests_25 rfl rfl ?_
      refine gf_X8_54 (pc := 26) hC hn dX8_forests_26 ?_
      refine R_iload_n (pc := 29) hC 1 dX8_forests_29 rfl rfl ?_
      obtain ⟨x1, hx1, hg⟩ := bind_some hg
      refine R_callVN (pc := 30) (av := [.int a1]) (rest := []) hC hR 30 (jx hn rfl) ly30 rfl mf_X1_manyOf wm_X8_212 (LX1_manyOf hn hx1) rfl rfl rfl (Nat.le_of_ble_eq_true rfl) dX8_forests_30 rfl ?_
      show RX K 33 [(0, .ref 0), (1, .int a1)] [.int x1] m
      have h9 := gxIM hg
      exact R_ireturn (pc := 33) hC dX8_forests_33 h9
    · replace hg := (if_neg c).symm.trans hg
      refine R_aload_n (pc := 18) hC 0 dX8_forests_18 rfl rfl ?_
      refine R_bipush (pc := 19) hC dX8_forests_19 kb_m6 ?_
      obtain ⟨q2, hq2, hg⟩ := bind_some hg
      refine R_callV (pc := 21) (av := [.int (-6)]) (rest := []) hC hR 0 (jx hn rfl) ly0 rfl mf_X8_refuse wm_X8_91 (LX8_refuse hn hq2) rfl rfl rfl (Nat.le_of_ble_eq_true rfl) dX8_forests_21 rfl ?_
      show RX K 24 [(0, .ref 0), (1, .int a1)] [.int q2.1] q2.2
      have h9 := gxIM hg
      exact R_ireturn (pc := 24) hC dX8_forests_24 h9
  · replace hg := (if_neg c).symm.trans hg
    refine R_aload_n (pc := 5) hC 0 dX8_forests_5 rfl rfl ?_
    refine R_bipush (pc := 6) hC dX8_forests_6 kb_m4 ?_
    obtain ⟨q3, hq3, hg⟩ := bind_some hg
    refine R_callV (pc := 8) (av := [.int (-4)]) (rest := []) hC hR 0 (jx hn rfl) ly0 rfl mf_X8_refuse wm_X8_91 (LX8_refuse hn hq3) rfl rfl rfl (Nat.le_of_ble_eq_true rfl) dX8_forests_8 rfl ?_
    show RX K 11 [(0, .ref 0), (1, .int a1)] [.int q3.1] q3.2
    have h9 := gxIM hg
    exact R_ireturn (pc := 11) hC dX8_forests_11 h9
theorem dX8_ploughs_0 : decode cX8_ploughs 0 = .ok (.iload_n 1, 1) := by decide +kernel
theorem dX8_ploughs_1 : decode cX8_ploughs 1 = .ok (.ifCond .eq 14, 3) := by decide +kernel
theorem dX8_ploughs_4 : decode cX8_ploughs 4 = .ok (.aload_n 0, 1) := by decide +kernel
theorem dX8_ploughs_5 : decode cX8_ploughs 5 = .ok (.getfield 10, 3) := by decide +kernel
theorem dX8_ploughs_8 : decode cX8_ploughs 8 = .ok (.iload_n 1, 1) := by decide +kernel
theorem dX8_ploughs_9 : decode cX8_ploughs 9 = .ok (.invokevirtual 215, 3) := by decide +kernel
theorem dX8_ploughs_12 : decode cX8_ploughs 12 = .ok (.ifCond .ne 9, 3) := by decide +kernel
theorem dX8_ploughs_15 : decode cX8_ploughs 15 = .ok (.aload_n 0, 1) := by decide +kernel
theorem dX8_ploughs_16 : decode cX8_ploughs 16 = .ok (.iconst (-1), 1) := by decide +kernel
theorem dX8_ploughs_17 : decode cX8_ploughs 17 = .ok (.invokevirtual 91, 3) := by decide +kernel
theorem dX8_ploughs_20 : decode cX8_ploughs 20 = .ok (.ireturn, 1) := by decide +kernel
theorem dX8_ploughs_21 : decode cX8_ploughs 21 = .ok (.aload_n 0, 1) := by decide +kernel
theorem dX8_ploughs_22 : decode cX8_ploughs 22 = .ok (.getfield 54, 3) := by decide +kernel
theorem dX8_ploughs_25 : decode cX8_ploughs 25 = .ok (.iload_n 1, 1) := by decide +kernel
theorem dX8_ploughs_26 : decode cX8_ploughs 26 = .ok (.invokevirtual 218, 3) := by decide +kernel
theorem dX8_ploughs_29 : decode cX8_ploughs 29 = .ok (.ireturn, 1) := by decide +kernel
def gX8_ploughs (F : Nat) (m : Mem) (a1 : Int32) : Option (Int32 × Mem) := (if a1 = 0 then (gX8_refuse m (-1)).bind (fun q1 => some (q1.1, q1.2)) else (gX6_hasAllHouses m 1 a1).bind (fun x2 => (if x2 = true then (gX1_manyWithOneEach F m a1).bind (fun x3 => some (x3, m)) else (gX8_refuse m (-1)).bind (fun q4 => some (q4.1, q4.2)))))
set_option maxHeartbeats 4000000 in
set_option maxRecDepth 20000 in
theorem LX8_ploughs {n : Nat} {F : Nat} {m : Mem} {a1 : Int32} {r : Int32 × Mem} (hn : 43 ≤ n) (hg : gX8_ploughs F m a1 = some r) : MX yX8_ploughs cX8_ploughs 2 (some .int) { frames := 3, cells := 0, slots := 0, locals := 72 } n [.ref 0, .int a1] m (some (.int r.1)) r.2 := by
  refine MX_of (by decide) (Nat.le_of_ble_eq_true rfl) (Or.inr (Or.inl ⟨rfl, _, rfl⟩)) (fun K hC hk hL hR => ?_)
  replace hn : 43 ≤ kn K := hk.symm ▸ hn
  show RX K 0 [(0, .ref 0), (1, .int a1)] [] m
  rw [gX8_ploughs] at hg
  refine R_iload_n (pc := 0) hC 1 dX8_ploughs_0 rfl rfl ?_
  refine R_if_eq (tgt := 15) (pc := 1) hC dX8_ploughs_1 (by decide) (fun c => ?_) (fun c => ?_)
  · replace hg := (if_pos c).symm.trans hg
    refine R_aload_n (pc := 15) hC 0 dX8_ploughs_15 rfl rfl ?_
    refine R_iconst (pc := 16) hC dX8_ploughs_16 ki_m1 ?_
    obtain ⟨q1, hq1, hg⟩ := bind_some hg
    refine R_callV (pc := 17) (av := [.int (-1)]) (rest := []) hC hR 0 (jx hn rfl) ly0 rfl mf_X8_refuse wm_X8_91 (LX8_refuse hn hq1) rfl rfl rfl (Nat.le_of_ble_eq_true rfl) dX8_ploughs_17 rfl ?_
    show RX K 20 [(0, .ref 0), (1, .int a1)] [.int q1.1] q1.2
    have h9 := gxIM hg
    exact R_ireturn (pc := 20) hC dX8_ploughs_20 h9
  · replace hg := (if_neg c).symm.trans hg
    refine R_aload_n (pc := 4) hC 0 dX8_ploughs_4 rfl rfl ?_
    refine gf_X8_10 (pc := 5) hC hn dX8_ploughs_5 ?_
    refine R_iload_n (pc := 8) hC 1 dX8_ploughs_8 rfl rfl ?_
    obtain ⟨x2, hx2, hg⟩ := bind_some hg
    refine R_callVN (pc := 9) (av := [.int a1]) (rest := []) hC hR 1 (jx hn rfl) ly1 rfl mf_X6_hasAllHouses wm_X8_215 (LX6_hasAllHouses hn isv1 hx2) rfl rfl rfl (Nat.le_of_ble_eq_true rfl) dX8_ploughs_9 rfl ?_
    show RX K 12 [(0, .ref 0), (1, .int a1)] [.int (b2i x2)] m
    refine R_ifB_ne (tgt := 21) (pc := 12) hC dX8_ploughs_12 (by decide) (fun c => ?_) (fun c => ?_)
    · replace hg := (if_pos c).symm.trans hg
      refine R_aload_n (pc := 21) hC 0 dX8_ploughs_21 rfl rfl ?_
      refine gf_X8_54 (pc := 22) hC hn dX8_ploughs_22 ?_
      refine R_iload_n (pc := 25) hC 1 dX8_ploughs_25 rfl rfl ?_
      obtain ⟨x3, hx3, hg⟩ := bind_some hg
      refine R_callVN (pc := 26) (av := [.int a1]) (rest := []) hC hR 30 (jx hn rfl) ly30 rfl mf_X1_manyWithOneEach wm_X8_218 (LX1_manyWithOneEach hn hx3) rfl rfl rfl (Nat.le_of_ble_eq_true rfl) dX8_ploughs_26 rfl ?_
      show RX K 29 [(0, .ref 0), (1, .int a1)] [.int x3] m
      have h9 := gxIM hg
      exact R_ireturn (pc := 29) hC dX8_ploughs_29 h9
    · replace hg := (if_neg c).symm.trans hg
      refine R_aload_n (pc := 15) hC 0 dX8_ploughs_15 rfl rfl ?_
      refine R_iconst (pc := 16) hC dX8_ploughs_16 ki_m1 ?_
      obtain ⟨q4, hq4, hg⟩ := bind_some hg
      refine R_callV (pc := 17) (av := [.int (-1)]) (rest := []) hC hR 0 (jx hn rfl) ly0 rfl mf_X8_refuse wm_X8_91 (LX8_refuse hn hq4) rfl rfl rfl (Nat.le_of_ble_eq_true rfl) dX8_ploughs_17 rfl ?_
      show RX K 20 [(0, .ref 0), (1, .int a1)] [.int q4.1] q4.2
      have h9 := gxIM hg
      exact R_ireturn (pc := 20) hC dX8_ploughs_20 h9
theorem dX8_areTwoHouses_0 : decode cX8_areTwoHouses 0 = .ok (.aload_n 0, 1) := by decide +kernel
theorem dX8_areTwoHouses_1 : decode cX8_areTwoHouses 1 = .ok (.getfield 10, 3) := by decide +kernel
theorem dX8_areTwoHouses_4 : decode cX8_areTwoHouses 4 = .ok (.iload_n 1, 1) := by decide +kernel
theorem dX8_areTwoHouses_5 : decode cX8_areTwoHouses 5 = .ok (.invokevirtual 203, 3) := by decide +kernel
theorem dX8_areTwoHouses_8 : decode cX8_areTwoHouses 8 = .ok (.ifCond .eq 23, 3) := by decide +kernel
theorem dX8_areTwoHouses_11 : decode cX8_areTwoHouses 11 = .ok (.aload_n 0, 1) := by decide +kernel
theorem dX8_areTwoHouses_12 : decode cX8_areTwoHouses 12 = .ok (.getfield 10, 3) := by decide +kernel
theorem dX8_areTwoHouses_15 : decode cX8_areTwoHouses 15 = .ok (.iload_n 2, 1) := by decide +kernel
theorem dX8_areTwoHouses_16 : decode cX8_areTwoHouses 16 = .ok (.invokevirtual 203, 3) := by decide +kernel
theorem dX8_areTwoHouses_19 : decode cX8_areTwoHouses 19 = .ok (.ifCond .eq 12, 3) := by decide +kernel
theorem dX8_areTwoHouses_22 : decode cX8_areTwoHouses 22 = .ok (.iload_n 1, 1) := by decide +kernel
theorem dX8_areTwoHouses_23 : decode cX8_areTwoHouses 23 = .ok (.iload_n 2, 1) := by decide +kernel
theorem dX8_areTwoHouses_24 : decode cX8_areTwoHouses 24 = .ok (.if_icmp .eq 7, 3) := by decide +kernel
theorem dX8_areTwoHouses_27 : decode cX8_areTwoHouses 27 = .ok (.iconst 1, 1) := by decide +kernel
theorem dX8_areTwoHouses_28 : decode cX8_areTwoHouses 28 = .ok (.goto 4, 3) := by decide +kernel
theorem dX8_areTwoHouses_31 : decode cX8_areTwoHouses 31 = .ok (.iconst 0, 1) := by decide +kernel
theorem dX8_areTwoHouses_32 : decode cX8_areTwoHouses 32 = .ok (.ireturn, 1) := by decide +kernel
def gX8_areTwoHouses (m : Mem) (a1 : Int32) (a2 : Int32) : Option (Bool) := (gX6_hasHouse m 1 a1).bind (fun x1 => (if x1 = true then (gX6_hasHouse m 1 a2).bind (fun x2 => (if x2 = true then (if a1 = a2 then some false else some true) else some false)) else some false))
set_option maxHeartbeats 4000000 in
set_option maxRecDepth 20000 in
theorem LX8_areTwoHouses {n : Nat} {m : Mem} {a1 : Int32} {a2 : Int32} {r : Bool} (hn : 43 ≤ n) (hg : gX8_areTwoHouses m a1 a2 = some r) : MX yX8_areTwoHouses cX8_areTwoHouses 3 (some .boolean) { frames := 1, cells := 0, slots := 0, locals := 21 } n [.ref 0, .int a1, .int a2] m (some (.int (b2i r))) m := by
  refine MX_of (by decide) (Nat.le_of_ble_eq_true rfl) (Or.inr (Or.inr (Or.inr ⟨rfl, _, rfl⟩))) (fun K hC hk hL hR => ?_)
  replace hn : 43 ≤ kn K := hk.symm ▸ hn
  show RX K 0 [(0, .ref 0), (1, .int a1), (2, .int a2)] [] m
  rw [gX8_areTwoHouses] at hg
  refine R_aload_n (pc := 0) hC 0 dX8_areTwoHouses_0 rfl rfl ?_
  refine gf_X8_10 (pc := 1) hC hn dX8_areTwoHouses_1 ?_
  refine R_iload_n (pc := 4) hC 1 dX8_areTwoHouses_4 rfl rfl ?_
  obtain ⟨x1, hx1, hg⟩ := bind_some hg
  refine R_callVN (pc := 5) (av := [.int a1]) (rest := []) hC hR 1 (jx hn rfl) ly1 rfl mf_X6_hasHouse wm_X8_203 (LX6_hasHouse hn isv1 hx1) rfl rfl rfl (Nat.le_of_ble_eq_true rfl) dX8_areTwoHouses_5 rfl ?_
  show RX K 8 [(0, .ref 0), (1, .int a1), (2, .int a2)] [.int (b2i x1)] m
  refine R_ifB_eq (tgt := 31) (pc := 8) hC dX8_areTwoHouses_8 (by decide) (fun c => ?_) (fun c => ?_)
  · replace hg := (if_neg c).symm.trans hg
    refine R_iconst (pc := 31) hC dX8_areTwoHouses_31 ki_0 ?_
    have h9 := gxZ (m := m) hg
    exact R_ireturn (pc := 32) hC dX8_areTwoHouses_32 h9
  · replace hg := (if_pos c).symm.trans hg
    refine R_aload_n (pc := 11) hC 0 dX8_areTwoHouses_11 rfl rfl ?_
    refine gf_X8_10 (pc := 12) hC hn dX8_areTwoHouses_12 ?_
    refine R_iload_n (pc := 15) hC 2 dX8_areTwoHouses_15 rfl rfl ?_
    obtain ⟨x2, hx2, hg⟩ := bind_some hg
    refine R_callVN (pc := 16) (av := [.int a2]) (rest := []) hC hR 1 (jx hn rfl) ly1 rfl mf_X6_hasHouse wm_X8_203 (LX6_hasHouse hn isv1 hx2) rfl rfl rfl (Nat.le_of_ble_eq_true rfl) dX8_areTwoHouses_16 rfl ?_
    show RX K 19 [(0, .ref 0), (1, .int a1), (2, .int a2)] [.int (b2i x2)] m
    refine R_ifB_eq (tgt := 31) (pc := 19) hC dX8_areTwoHouses_19 (by decide) (fun c => ?_) (fun c => ?_)
    · replace hg := (if_neg c).symm.trans hg
      refine R_iconst (pc := 31) hC dX8_areTwoHouses_31 ki_0 ?_
      have h9 := gxZ (m := m) hg
      exact R_ireturn (pc := 32) hC dX8_areTwoHouses_32 h9
    · replace hg := (if_pos c).symm.trans hg
      refine R_iload_n (pc := 22) hC 1 dX8_areTwoHouses_22 rfl rfl ?_
      refine R_iload_n (pc := 23) hC 2 dX8_areTwoHouses_23 rfl rfl ?_
      refine R_icmp_eq (tgt := 31) (pc := 24) hC dX8_areTwoHouses_24 (by decide) (fun c => ?_) (fun c => ?_)
      · replace hg := (if_pos c).symm.trans hg
        refine R_iconst (pc := 31) hC dX8_areTwoHouses_31 ki_0 ?_
        have h9 := gxZ (m := m) hg
        exact R_ireturn (pc := 32) hC dX8_areTwoHouses_32 h9
      · replace hg := (if_neg c).symm.trans hg
        refine R_iconst (pc := 27) hC dX8_areTwoHouses_27 ki_1 ?_
        refine R_goto (tgt := 32) (pc := 28) hC dX8_areTwoHouses_28 (by decide) ?_
        have h9 := gxZ (m := m) hg
        exact R_ireturn (pc := 32) hC dX8_areTwoHouses_32 h9
theorem dX8_hard_0 : decode cX8_hard 0 = .ok (.aload_n 0, 1) := by decide +kernel
theorem dX8_hard_1 : decode cX8_hard 1 = .ok (.iload_n 1, 1) := by decide +kernel
theorem dX8_hard_2 : decode cX8_hard 2 = .ok (.iload_n 2, 1) := by decide +kernel
theorem dX8_hard_3 : decode cX8_hard 3 = .ok (.invokevirtual 221, 3) := by decide +kernel
theorem dX8_hard_6 : decode cX8_hard 6 = .ok (.ifCond .ne 9, 3) := by decide +kernel
theorem dX8_hard_9 : decode cX8_hard 9 = .ok (.aload_n 0, 1) := by decide +kernel
theorem dX8_hard_10 : decode cX8_hard 10 = .ok (.iconst (-1), 1) := by decide +kernel
theorem dX8_hard_11 : decode cX8_hard 11 = .ok (.invokevirtual 174, 3) := by decide +kernel
theorem dX8_hard_14 : decode cX8_hard 14 = .ok (.lreturn, 1) := by decide +kernel
theorem dX8_hard_15 : decode cX8_hard 15 = .ok (.iload_n 3, 1) := by decide +kernel
theorem dX8_hard_16 : decode cX8_hard 16 = .ok (.invokestatic 225, 3) := by decide +kernel
theorem dX8_hard_19 : decode cX8_hard 19 = .ok (.ifCond .ne 10, 3) := by decide +kernel
theorem dX8_hard_22 : decode cX8_hard 22 = .ok (.aload_n 0, 1) := by decide +kernel
theorem dX8_hard_23 : decode cX8_hard 23 = .ok (.bipush (-2), 2) := by decide +kernel
theorem dX8_hard_25 : decode cX8_hard 25 = .ok (.invokevirtual 174, 3) := by decide +kernel
theorem dX8_hard_28 : decode cX8_hard 28 = .ok (.lreturn, 1) := by decide +kernel
theorem dX8_hard_29 : decode cX8_hard 29 = .ok (.aload_n 0, 1) := by decide +kernel
theorem dX8_hard_30 : decode cX8_hard 30 = .ok (.getfield 54, 3) := by decide +kernel
theorem dX8_hard_33 : decode cX8_hard 33 = .ok (.invokevirtual 228, 3) := by decide +kernel
theorem dX8_hard_36 : decode cX8_hard 36 = .ok (.lstore 4, 2) := by decide +kernel
theorem dX8_hard_38 : decode cX8_hard 38 = .ok (.lload 4, 2) := by decide +kernel
theorem dX8_hard_40 : decode cX8_hard 40 = .ok (.lconst 0, 1) := by decide +kernel
theorem dX8_hard_41 : decode cX8_hard 41 = .ok (.lcmp, 1) := by decide +kernel
theorem dX8_hard_42 : decode cX8_hard 42 = .ok (.ifCond .ne 10, 3) := by decide +kernel
theorem dX8_hard_45 : decode cX8_hard 45 = .ok (.aload_n 0, 1) := by decide +kernel
theorem dX8_hard_46 : decode cX8_hard 46 = .ok (.bipush (-3), 2) := by decide +kernel
theorem dX8_hard_48 : decode cX8_hard 48 = .ok (.invokevirtual 174, 3) := by decide +kernel
theorem dX8_hard_51 : decode cX8_hard 51 = .ok (.lreturn, 1) := by decide +kernel
theorem dX8_hard_52 : decode cX8_hard 52 = .ok (.aload_n 0, 1) := by decide +kernel
theorem dX8_hard_53 : decode cX8_hard 53 = .ok (.getfield 54, 3) := by decide +kernel
theorem dX8_hard_56 : decode cX8_hard 56 = .ok (.iload_n 1, 1) := by decide +kernel
theorem dX8_hard_57 : decode cX8_hard 57 = .ok (.iload_n 2, 1) := by decide +kernel
theorem dX8_hard_58 : decode cX8_hard 58 = .ok (.iconst 0, 1) := by decide +kernel
theorem dX8_hard_59 : decode cX8_hard 59 = .ok (.invokevirtual 232, 3) := by decide +kernel
theorem dX8_hard_62 : decode cX8_hard 62 = .ok (.lload 4, 2) := by decide +kernel
theorem dX8_hard_64 : decode cX8_hard 64 = .ok (.iload_n 3, 1) := by decide +kernel
theorem dX8_hard_65 : decode cX8_hard 65 = .ok (.invokestatic 236, 3) := by decide +kernel
theorem dX8_hard_68 : decode cX8_hard 68 = .ok (.lreturn, 1) := by decide +kernel
def gX8_hard (F : Nat) (m : Mem) (a1 : Int32) (a2 : Int32) (a3 : Int32) : Option (Int64 × Mem) := (gX8_areTwoHouses m a1 a2).bind (fun x1 => (if x1 = true then (gX8_isPart a3).bind (fun x2 => (if x2 = true then (gX1_worthOfWhole F m).bind (fun x3 => (if (lg_cmp x3 0) = 0 then (gX8_refuseLong m (-3)).bind (fun q6 => some (q6.1, q6.2)) else (gX1_worthApart F m a1 a2 0).bind (fun x4 => (gX8_leastTerms F x4 x3 a3).bind (fun x5 => some (x5, m))))) else (gX8_refuseLong m (-2)).bind (fun q7 => some (q7.1, q7.2)))) else (gX8_refuseLong m (-1)).bind (fun q8 => some (q8.1, q8.2))))
set_option maxHeartbeats 4000000 in
set_option maxRecDepth 20000 in
theorem LX8_hard {n : Nat} {F : Nat} {m : Mem} {a1 : Int32} {a2 : Int32} {a3 : Int32} {r : Int64 × Mem} (hn : 43 ≤ n) (hg : gX8_hard F m a1 a2 a3 = some r) : MX yX8_hard cX8_hard 6 (some .long) { frames := 3, cells := 0, slots := 0, locals := 72 } n [.ref 0, .int a1, .int a2, .int a3] m (some (.long r.1)) r.2 := by
  refine MX_of (by decide) (Nat.le_of_ble_eq_true rfl) (Or.inr (Or.inr (Or.inl ⟨rfl, _, rfl⟩))) (fun K hC hk hL hR => ?_)
  replace hn : 43 ≤ kn K := hk.symm ▸ hn
  show RX K 0 [(0, .ref 0), (1, .int a1), (2, .int a2), (3, .int a3)] [] m
  rw [gX8_hard] at hg
  refine R_aload_n (pc := 0) hC 0 dX8_hard_0 rfl rfl ?_
  refine R_iload_n (pc := 1) hC 1 dX8_hard_1 rfl rfl ?_
  refine R_iload_n (pc := 2) hC 2 dX8_hard_2 rfl rfl ?_
  obtain ⟨x1, hx1, hg⟩ := bind_some hg
  refine R_callV (pc := 3) (av := [.int a1, .int a2]) (rest := []) hC hR 0 (jx hn rfl) ly0 rfl mf_X8_areTwoHouses wm_X8_221 (LX8_areTwoHouses hn hx1) rfl rfl rfl (Nat.le_of_ble_eq_true rfl) dX8_hard_3 rfl ?_
  show RX K 6 [(0, .ref 0), (1, .int a1), (2, .int a2), (3, .int a3)] [.int (b2i x1)] m
  refine R_ifB_ne (tgt := 15) (pc := 6) hC dX8_hard_6 (by decide) (fun c => ?_) (fun c => ?_)
  · replace hg := (if_pos c).symm.trans hg
    refine R_iload_n (pc := 15) hC 3 dX8_hard_15 rfl rfl ?_
    obtain ⟨x2, hx2, hg⟩ := bind_some hg
    refine R_callS (pc := 16) (av := [.int a3]) (rest := []) hC hR mf_X8_isPart wm_X8_225 (LX8_isPart hn hx2) rfl rfl rfl (Nat.le_of_ble_eq_true rfl) dX8_hard_16 rfl ?_
    show RX K 19 [(0, .ref 0), (1, .int a1), (2, .int a2), (3, .int a3)] [.int (b2i x2)] m
    refine R_ifB_ne (tgt := 29) (pc := 19) hC dX8_hard_19 (by decide) (fun c => ?_) (fun c => ?_)
    · replace hg := (if_pos c).symm.trans hg
      refine R_aload_n (pc := 29) hC 0 dX8_hard_29 rfl rfl ?_
      refine gf_X8_54 (pc := 30) hC hn dX8_hard_30 ?_
      obtain ⟨x3, hx3, hg⟩ := bind_some hg
      refine R_callVN (pc := 33) (av := []) (rest := []) hC hR 30 (jx hn rfl) ly30 rfl mf_X1_worthOfWhole wm_X8_228 (LX1_worthOfWhole hn hx3) rfl rfl rfl (Nat.le_of_ble_eq_true rfl) dX8_hard_33 rfl ?_
      show RX K 36 [(0, .ref 0), (1, .int a1), (2, .int a2), (3, .int a3)] [.long x3] m
      refine R_lstore (pc := 36) hC dX8_hard_36 hL rfl (show _ = [(4, .long x3), (0, .ref 0), (1, .int a1), (2, .int a2), (3, .int a3)] from rfl) ?_
      refine R_lload (pc := 38) hC 0 dX8_hard_38 rfl ?_
      refine R_lconst (pc := 40) hC dX8_hard_40 kl_0 ?_
      refine R_lcmp (pc := 41) hC dX8_hard_41 ?_
      refine R_if_ne (tgt := 52) (pc := 42) hC dX8_hard_42 (by decide) (fun c => ?_) (fun c => ?_)
      · replace hg := (if_neg c).symm.trans hg
        refine R_aload_n (pc := 52) hC 1 dX8_hard_52 rfl rfl ?_
        refine gf_X8_54 (pc := 53) hC hn dX8_hard_53 ?_
        refine R_iload_n (pc := 56) hC 2 dX8_hard_56 rfl rfl ?_
        refine R_iload_n (pc := 57) hC 3 dX8_hard_57 rfl rfl ?_
        refine R_iconst (pc := 58) hC dX8_hard_58 ki_0 ?_
        obtain ⟨x4, hx4, hg⟩ := bind_some hg
        refine R_callVN (pc := 59) (av := [.int a1, .int a2, .int 0]) (rest := []) hC hR 30 (jx hn rfl) ly30 rfl mf_X1_worthApart wm_X8_232 (LX1_worthApart hn hx4) rfl rfl rfl (Nat.le_of_ble_eq_true rfl) dX8_hard_59 rfl ?_
        show RX K 62 [(4, .long x3), (0, .ref 0), (1, .int a1), (2, .int a2), (3, .int a3)] [.long x4] m
        refine R_lload (pc := 62) hC 0 dX8_hard_62 rfl ?_
        refine R_iload_n (pc := 64) hC 4 dX8_hard_64 rfl rfl ?_
        obtain ⟨x5, hx5, hg⟩ := bind_some hg
        refine R_callS (pc := 65) (av := [.long x4, .long x3, .int a3]) (rest := []) hC hR mf_X8_leastTerms wm_X8_236 (LX8_leastTerms hn hx5) rfl rfl rfl (Nat.le_of_ble_eq_true rfl) dX8_hard_65 rfl ?_
        show RX K 68 [(4, .long x3), (0, .ref 0), (1, .int a1), (2, .int a2), (3, .int a3)] [.long x5] m
        have h9 := gxJM hg
        exact R_lreturn (pc := 68) hC dX8_hard_68 h9
      · replace hg := (if_pos c).symm.trans hg
        refine R_aload_n (pc := 45) hC 1 dX8_hard_45 rfl rfl ?_
        refine R_bipush (pc := 46) hC dX8_hard_46 kb_m3 ?_
        obtain ⟨q6, hq6, hg⟩ := bind_some hg
        refine R_callV (pc := 48) (av := [.int (-3)]) (rest := []) hC hR 0 (jx hn rfl) ly0 rfl mf_X8_refuseLong wm_X8_174 (LX8_refuseLong hn hq6) rfl rfl rfl (Nat.le_of_ble_eq_true rfl) dX8_hard_48 rfl ?_
        show RX K 51 [(4, .long x3), (0, .ref 0), (1, .int a1), (2, .int a2), (3, .int a3)] [.long q6.1] q6.2
        have h9 := gxJM hg
        exact R_lreturn (pc := 51) hC dX8_hard_51 h9
    · replace hg := (if_neg c).symm.trans hg
      refine R_aload_n (pc := 22) hC 0 dX8_hard_22 rfl rfl ?_
      refine R_bipush (pc := 23) hC dX8_hard_23 kb_m2 ?_
      obtain ⟨q7, hq7, hg⟩ := bind_some hg
      refine R_callV (pc := 25) (av := [.int (-2)]) (rest := []) hC hR 0 (jx hn rfl) ly0 rfl mf_X8_refuseLong wm_X8_174 (LX8_refuseLong hn hq7) rfl rfl rfl (Nat.le_of_ble_eq_true rfl) dX8_hard_25 rfl ?_
      show RX K 28 [(0, .ref 0), (1, .int a1), (2, .int a2), (3, .int a3)] [.long q7.1] q7.2
      have h9 := gxJM hg
      exact R_lreturn (pc := 28) hC dX8_hard_28 h9
  · replace hg := (if_neg c).symm.trans hg
    refine R_aload_n (pc := 9) hC 0 dX8_hard_9 rfl rfl ?_
    refine R_iconst (pc := 10) hC dX8_hard_10 ki_m1 ?_
    obtain ⟨q8, hq8, hg⟩ := bind_some hg
    refine R_callV (pc := 11) (av := [.int (-1)]) (rest := []) hC hR 0 (jx hn rfl) ly0 rfl mf_X8_refuseLong wm_X8_174 (LX8_refuseLong hn hq8) rfl rfl rfl (Nat.le_of_ble_eq_true rfl) dX8_hard_11 rfl ?_
    show RX K 14 [(0, .ref 0), (1, .int a1), (2, .int a2), (3, .int a3)] [.long q8.1] q8.2
    have h9 := gxJM hg
    exact R_lreturn (pc := 14) hC dX8_hard_14 h9
