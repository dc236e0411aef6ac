theorem dX3_haveRoom_0 : decode cX3_haveRoom 0 = .ok (.aload_n 0, 1) := by decide +kernel
theorem dX3_haveRoom_1 : decode cX3_haveRoom 1 = .ok (.getfield 15, 3) := by decide +kernel
theorem dX3_haveRoom_4 : decode cX3_haveRoom 4 = .ok (.bipush 72, 2) := by decide +kernel
theorem dX3_haveRoom_6 : decode cX3_haveRoom 6 = .ok (.if_icmp .ge 7, 3) := by decide +kernel
theorem dX3_haveRoom_9 : decode cX3_haveRoom 9 = .ok (.iconst 1, 1) := by decide +kernel
theorem dX3_haveRoom_10 : decode cX3_haveRoom 10 = .ok (.goto 4, 3) := by decide +kernel
theorem dX3_haveRoom_13 : decode cX3_haveRoom 13 = .ok (.iconst 0, 1) := by decide +kernel
theorem dX3_haveRoom_14 : decode cX3_haveRoom 14 = .ok (.ireturn, 1) := by decide +kernel
def gX3_haveRoom (m : Mem) : Option (Bool) := (if 72 ≤ (m.1 22 1) then some false else some true)
set_option maxHeartbeats 4000000 in
set_option maxRecDepth 20000 in
theorem LX3_haveRoom {n : Nat} {m : Mem} {r : Bool} (hn : 43 ≤ n) (hg : gX3_haveRoom m  = some r) : MX yX3_haveRoom cX3_haveRoom 1 (some .boolean) { frames := 0, cells := 0, slots := 0, locals := 0 } n [.ref 22] m (some (.int (b2i r))) m := by
  refine MX_of (by decide) (Nat.le_of_ble_eq_true rfl) (Or.inr (Or.inr (Or.inr ⟨rfl, _, rfl⟩))) (fun K hC hk hL hR => ?_)
  replace hn : 43 ≤ kn K := hk.symm ▸ hn
  show RX K 0 [(0, .ref 22)] [] m
  rw [gX3_haveRoom] at hg
  refine R_aload_n (pc := 0) hC 0 dX3_haveRoom_0 rfl rfl ?_
  refine gf_X3_15 (pc := 1) hC hn dX3_haveRoom_1 ?_
  refine R_bipush (pc := 4) hC dX3_haveRoom_4 kb_72 ?_
  refine R_icmp_ge (tgt := 13) (pc := 6) hC dX3_haveRoom_6 (by decide) (fun c => ?_) (fun c => ?_)
  · replace hg := (if_pos c).symm.trans hg
    refine R_iconst (pc := 13) hC dX3_haveRoom_13 ki_0 ?_
    have h9 := gxZ (m := m) hg
    exact R_ireturn (pc := 14) hC dX3_haveRoom_14 h9
  · replace hg := (if_neg c).symm.trans hg
    refine R_iconst (pc := 9) hC dX3_haveRoom_9 ki_1 ?_
    refine R_goto (tgt := 14) (pc := 10) hC dX3_haveRoom_10 (by decide) ?_
    have h9 := gxZ (m := m) hg
    exact R_ireturn (pc := 14) hC dX3_haveRoom_14 h9
theorem dX3_append_0 : decode cX3_append 0 = .ok (.aload_n 0, 1) := by decide +kernel
theorem dX3_append_1 : decode cX3_append 1 = .ok (.getfield 15, 3) := by decide +kernel
theorem dX3_append_4 : decode cX3_append 4 = .ok (.bipush 72, 2) := by decide +kernel
theorem dX3_append_6 : decode cX3_append 6 = .ok (.if_icmp .ge 23, 3) := by decide +kernel
theorem dX3_append_9 : decode cX3_append 9 = .ok (.aload_n 0, 1) := by decide +kernel
theorem dX3_append_10 : decode cX3_append 10 = .ok (.getfield 9, 3) := by decide +kernel
theorem dX3_append_13 : decode cX3_append 13 = .ok (.aload_n 0, 1) := by decide +kernel
theorem dX3_append_14 : decode cX3_append 14 = .ok (.getfield 15, 3) := by decide +kernel
theorem dX3_append_17 : decode cX3_append 17 = .ok (.iload_n 1, 1) := by decide +kernel
theorem dX3_append_18 : decode cX3_append 18 = .ok (.iastore, 1) := by decide +kernel
theorem dX3_append_19 : decode cX3_append 19 = .ok (.aload_n 0, 1) := by decide +kernel
theorem dX3_append_20 : decode cX3_append 20 = .ok (.dup, 1) := by decide +kernel
theorem dX3_append_21 : decode cX3_append 21 = .ok (.getfield 15, 3) := by decide +kernel
theorem dX3_append_24 : decode cX3_append 24 = .ok (.iconst 1, 1) := by decide +kernel
theorem dX3_append_25 : decode cX3_append 25 = .ok (.iadd, 1) := by decide +kernel
theorem dX3_append_26 : decode cX3_append 26 = .ok (.putfield 15, 3) := by decide +kernel
theorem dX3_append_29 : decode cX3_append 29 = .ok (.aload_n 0, 1) := by decide +kernel
theorem dX3_append_30 : decode cX3_append 30 = .ok (.getfield 15, 3) := by decide +kernel
theorem dX3_append_33 : decode cX3_append 33 = .ok (.ireturn, 1) := by decide +kernel
def gX3_append (m : Mem) (a1 : Int32) : Option (Int32 × Mem) := (if 72 ≤ (m.1 22 1) then some (m.1 22 1, m) else chk (inb (m.1 22 1) 72) (lete (mu m 23 (Int32.toNatClampNeg (m.1 22 1)) a1) (fun m2 => lete (mu m2 22 1 ((m2.1 22 1) + 1)) (fun m3 => some (m3.1 22 1, m3)))))
set_option maxHeartbeats 4000000 in
set_option maxRecDepth 20000 in
theorem LX3_append {n : Nat} {m : Mem} {a1 : Int32} {r : Int32 × Mem} (hn : 43 ≤ n) (hg : gX3_append m a1 = some r) : MX yX3_append cX3_append 2 (some .int) { frames := 0, cells := 0, slots := 0, locals := 0 } n [.ref 22, .int a1] m (some (.int r.1)) r.2 := by
  refine MX_of (by decide) (Nat.le_of_ble_eq_true rfl) (Or.inr (Or.inl ⟨rfl, _, rfl⟩)) (fun K hC hk hL hR => ?_)
  replace hn : 43 ≤ kn K := hk.symm ▸ hn
  show RX K 0 [(0, .ref 22), (1, .int a1)] [] m
  rw [gX3_append] at hg
  refine R_aload_n (pc := 0) hC 0 dX3_append_0 rfl rfl ?_
  refine gf_X3_15 (pc := 1) hC hn dX3_append_1 ?_
  refine R_bipush (pc := 4) hC dX3_append_4 kb_72 ?_
  refine R_icmp_ge (tgt := 29) (pc := 6) hC dX3_append_6 (by decide) (fun c => ?_) (fun c => ?_)
  · replace hg := (if_pos c).symm.trans hg
    refine R_aload_n (pc := 29) hC 0 dX3_append_29 rfl rfl ?_
    refine gf_X3_15 (pc := 30) hC hn dX3_append_30 ?_
    have h9 := gxIM hg
    exact R_ireturn (pc := 33) hC dX3_append_33 h9
  · replace hg := (if_neg c).symm.trans hg
    refine R_aload_n (pc := 9) hC 0 dX3_append_9 rfl rfl ?_
    refine gf_X3_9 (pc := 10) hC hn dX3_append_10 ?_
    refine R_aload_n (pc := 13) hC 0 dX3_append_13 rfl rfl ?_
    refine gf_X3_15 (pc := 14) hC hn dX3_append_14 ?_
    refine R_iload_n (pc := 17) hC 1 dX3_append_17 rfl rfl ?_
    obtain ⟨c1, hg⟩ := chk_some hg
    obtain ⟨m2, hm2, hg⟩ := lete_some hg
    refine R_iastore (pc := 18) hC 23 (jx hn rfl) ly23 (inb_vp c1) dX3_append_18 ?_
    refine R_mem hm2 ?_
    refine R_aload_n (pc := 19) hC 0 dX3_append_19 rfl rfl ?_
    refine R_dup (pc := 20) hC dX3_append_20 rfl ?_
    refine gf_X3_15 (pc := 21) hC hn dX3_append_21 ?_
    refine R_iconst (pc := 24) hC dX3_append_24 ki_1 ?_
    refine R_iadd (pc := 25) hC dX3_append_25 ?_
    obtain ⟨m3, hm3, hg⟩ := lete_some hg
    refine pf_X3_15 (pc := 26) hC hn dX3_append_26 ?_
    refine R_mem hm3 ?_
    refine R_aload_n (pc := 29) hC 0 dX3_append_29 rfl rfl ?_
    refine gf_X3_15 (pc := 30) hC hn dX3_append_30 ?_
    have h9 := gxIM hg
    exact R_ireturn (pc := 33) hC dX3_append_33 h9
theorem dX3_clear_0 : decode cX3_clear 0 = .ok (.aload_n 0, 1) := by decide +kernel
theorem dX3_clear_1 : decode cX3_clear 1 = .ok (.iconst 0, 1) := by decide +kernel
theorem dX3_clear_2 : decode cX3_clear 2 = .ok (.putfield 15, 3) := by decide +kernel
theorem dX3_clear_5 : decode cX3_clear 5 = .ok (.return_, 1) := by decide +kernel
def gX3_clear (m : Mem) : Option (Mem) := lete (mu m 22 1 0) (fun m1 => some m1)
set_option maxHeartbeats 4000000 in
set_option maxRecDepth 20000 in
theorem LX3_clear {n : Nat} {m : Mem} {r : Mem} (hn : 43 ≤ n) (hg : gX3_clear m  = some r) : MX yX3_clear cX3_clear 1 none { frames := 0, cells := 0, slots := 0, locals := 0 } n [.ref 22] m (none) r := by
  refine MX_of (by decide) (Nat.le_of_ble_eq_true rfl) (Or.inl ⟨rfl, rfl⟩) (fun K hC hk hL hR => ?_)
  replace hn : 43 ≤ kn K := hk.symm ▸ hn
  show RX K 0 [(0, .ref 22)] [] m
  rw [gX3_clear] at hg
  refine R_aload_n (pc := 0) hC 0 dX3_clear_0 rfl rfl ?_
  refine R_iconst (pc := 1) hC dX3_clear_1 ki_0 ?_
  obtain ⟨m1, hm1, hg⟩ := lete_some hg
  refine pf_X3_15 (pc := 2) hC hn dX3_clear_2 ?_
  refine R_mem hm1 ?_
  have h9 := gxV hg
  exact R_return (pc := 5) hC dX3_clear_5 h9
theorem dX3_afterStart_0 : decode cX3_afterStart 0 = .ok (.iload_n 0, 1) := by decide +kernel
theorem dX3_afterStart_1 : decode cX3_afterStart 1 = .ok (.lookupswitch 55 #[(102, 53), (104, 53), (107, 53), (108, 51), (120, 53)], 51) := by decide +kernel
theorem dX3_afterStart_52 : decode cX3_afterStart 52 = .ok (.iconst 3, 1) := by decide +kernel
theorem dX3_afterStart_53 : decode cX3_afterStart 53 = .ok (.ireturn, 1) := by decide +kernel
theorem dX3_afterStart_54 : decode cX3_afterStart 54 = .ok (.iconst 1, 1) := by decide +kernel
theorem dX3_afterStart_55 : decode cX3_afterStart 55 = .ok (.ireturn, 1) := by decide +kernel
theorem dX3_afterStart_56 : decode cX3_afterStart 56 = .ok (.iconst (-1), 1) := by decide +kernel
theorem dX3_afterStart_57 : decode cX3_afterStart 57 = .ok (.ireturn, 1) := by decide +kernel
def gX3_afterStart (a1 : Int32) : Option (Int32) := (if a1 = 102 then some 1 else (if a1 = 104 then some 1 else (if a1 = 107 then some 1 else (if a1 = 108 then some 3 else (if a1 = 120 then some 1 else some (-1))))))
set_option maxHeartbeats 4000000 in
set_option maxRecDepth 20000 in
theorem LX3_afterStart {n : Nat} {m : Mem} {a1 : Int32} {r : Int32} (hn : 43 ≤ n) (hg : gX3_afterStart a1 = some r) : MX yX3_afterStart cX3_afterStart 1 (some .int) { frames := 0, cells := 0, slots := 0, locals := 0 } n [.int a1] m (some (.int r)) m := by
  refine MX_of (by decide) (Nat.le_of_ble_eq_true rfl) (Or.inr (Or.inl ⟨rfl, _, rfl⟩)) (fun K hC hk hL hR => ?_)
  replace hn : 43 ≤ kn K := hk.symm ▸ hn
  show RX K 0 [(0, .int a1)] [] m
  rw [gX3_afterStart] at hg
  refine R_iload_n (pc := 0) hC 0 dX3_afterStart_0 rfl rfl ?_
  by_cases c1 : a1 = 102
  · replace hg := (if_pos c1).symm.trans hg
    refine R_top c1 ?_
    refine R_lookup (tgt := 54) (x := 102) (pc := 1) hC dX3_afterStart_1 (by decide) (by rfl) (by decide) ?_
    refine R_iconst (pc := 54) hC dX3_afterStart_54 ki_1 ?_
    have h9 := gxI (m := m) hg
    exact R_ireturn (pc := 55) hC dX3_afterStart_55 h9
  replace hg := (if_neg c1).symm.trans hg
  by_cases c2 : a1 = 104
  · replace hg := (if_pos c2).symm.trans hg
    refine R_top c2 ?_
    refine R_lookup (tgt := 54) (x := 104) (pc := 1) hC dX3_afterStart_1 (by decide) (by rfl) (by decide) ?_
    refine R_iconst (pc := 54) hC dX3_afterStart_54 ki_1 ?_
    have h9 := gxI (m := m) hg
    exact R_ireturn (pc := 55) hC dX3_afterStart_55 h9
  replace hg := (if_neg c2).symm.trans hg
  by_cases c3 : a1 = 107
  · replace hg := (if_pos c3).symm.trans hg
    refine R_top c3 ?_
    refine R_lookup (tgt := 54) (x := 107) (pc := 1) hC dX3_afterStart_1 (by decide) (by rfl) (by decide) ?_
    refine R_iconst (pc := 54) hC dX3_afterStart_54 ki_1 ?_
    have h9 := gxI (m := m) hg
    exact R_ireturn (pc := 55) hC dX3_afterStart_55 h9
  replace hg := (if_neg c3).symm.trans hg
  by_cases c4 : a1 = 108
  · replace hg := (if_pos c4).symm.trans hg
    refine R_top c4 ?_
    refine R_lookup (tgt := 52) (x := 108) (pc := 1) hC dX3_afterStart_1 (by decide) (by rfl) (by decide) ?_
    refine R_iconst (pc := 52) hC dX3_afterStart_52 ki_3 ?_
    have h9 := gxI (m := m) hg
    exact R_ireturn (pc := 53) hC dX3_afterStart_53 h9
  replace hg := (if_neg c4).symm.trans hg
  by_cases c5 : a1 = 120
  · replace hg := (if_pos c5).symm.trans hg
    refine R_top c5 ?_
    refine R_lookup (tgt := 54) (x := 120) (pc := 1) hC dX3_afterStart_1 (by decide) (by rfl) (by decide) ?_
    refine R_iconst (pc := 54) hC dX3_afterStart_54 ki_1 ?_
    have h9 := gxI (m := m) hg
    exact R_ireturn (pc := 55) hC dX3_afterStart_55 h9
  replace hg := (if_neg c5).symm.trans hg
  refine R_lookup (tgt := 56) (pc := 1) hC dX3_afterStart_1 (by decide) (lk_out _ (fun p hp => ?_)) (by decide) ?_
  · simp only [List.mem_cons, List.mem_nil_iff, or_false] at hp
    rcases hp with rfl | rfl | rfl | rfl | rfl
    · exact i32_ne c1 (by decide)
    · exact i32_ne c2 (by decide)
    · exact i32_ne c3 (by decide)
    · exact i32_ne c4 (by decide)
    · exact i32_ne c5 (by decide)
  refine R_iconst (pc := 56) hC dX3_afterStart_56 ki_m1 ?_
  have h9 := gxI (m := m) hg
  exact R_ireturn (pc := 57) hC dX3_afterStart_57 h9
theorem dX3_isDigit_0 : decode cX3_isDigit 0 = .ok (.iload_n 0, 1) := by decide +kernel
theorem dX3_isDigit_1 : decode cX3_isDigit 1 = .ok (.bipush 48, 2) := by decide +kernel
theorem dX3_isDigit_3 : decode cX3_isDigit 3 = .ok (.if_icmp .lt 13, 3) := by decide +kernel
theorem dX3_isDigit_6 : decode cX3_isDigit 6 = .ok (.iload_n 0, 1) := by decide +kernel
theorem dX3_isDigit_7 : decode cX3_isDigit 7 = .ok (.bipush 57, 2) := by decide +kernel
theorem dX3_isDigit_9 : decode cX3_isDigit 9 = .ok (.if_icmp .gt 7, 3) := by decide +kernel
theorem dX3_isDigit_12 : decode cX3_isDigit 12 = .ok (.iconst 1, 1) := by decide +kernel
theorem dX3_isDigit_13 : decode cX3_isDigit 13 = .ok (.goto 4, 3) := by decide +kernel
theorem dX3_isDigit_16 : decode cX3_isDigit 16 = .ok (.iconst 0, 1) := by decide +kernel
theorem dX3_isDigit_17 : decode cX3_isDigit 17 = .ok (.ireturn, 1) := by decide +kernel
def gX3_isDigit (a1 : Int32) : Option (Bool) := (if a1 < 48 then some false else (if 57 < a1 then some false else some true))
set_option maxHeartbeats 4000000 in
set_option maxRecDepth 20000 in
theorem LX3_isDigit {n : Nat} {m : Mem} {a1 : Int32} {r : Bool} (hn : 43 ≤ n) (hg : gX3_isDigit a1 = some r) : MX yX3_isDigit cX3_isDigit 1 (some .boolean) { frames := 0, cells := 0, slots := 0, locals := 0 } n [.int a1] m (some (.int (b2i r))) m := by
  refine MX_of (by decide) (Nat.le_of_ble_eq_true rfl) (Or.inr (Or.inr (Or.inr ⟨rfl, _, rfl⟩))) (fun K hC hk hL hR => ?_)
  replace hn : 43 ≤ kn K := hk.symm ▸ hn
  show RX K 0 [(0, .int a1)] [] m
  rw [gX3_isDigit] at hg
  refine R_iload_n (pc := 0) hC 0 dX3_isDigit_0 rfl rfl ?_
  refine R_bipush (pc := 1) hC dX3_isDigit_1 kb_48 ?_
  refine R_icmp_lt (tgt := 16) (pc := 3) hC dX3_isDigit_3 (by decide) (fun c => ?_) (fun c => ?_)
  · replace hg := (if_pos c).symm.trans hg
    refine R_iconst (pc := 16) hC dX3_isDigit_16 ki_0 ?_
    have h9 := gxZ (m := m) hg
    exact R_ireturn (pc := 17) hC dX3_isDigit_17 h9
  · replace hg := (if_neg c).symm.trans hg
    refine R_iload_n (pc := 6) hC 0 dX3_isDigit_6 rfl rfl ?_
    refine R_bipush (pc := 7) hC dX3_isDigit_7 kb_57 ?_
    refine R_icmp_gt (tgt := 16) (pc := 9) hC dX3_isDigit_9 (by decide) (fun c => ?_) (fun c => ?_)
    · replace hg := (if_pos c).symm.trans hg
      refine R_iconst (pc := 16) hC dX3_isDigit_16 ki_0 ?_
      have h9 := gxZ (m := m) hg
      exact R_ireturn (pc := 17) hC dX3_isDigit_17 h9
    · replace hg := (if_neg c).symm.trans hg
      refine R_iconst (pc := 12) hC dX3_isDigit_12 ki_1 ?_
      refine R_goto (tgt := 17) (pc := 13) hC dX3_isDigit_13 (by decide) ?_
      have h9 := gxZ (m := m) hg
      exact R_ireturn (pc := 17) hC dX3_isDigit_17 h9
theorem dX3_afterComma_0 : decode cX3_afterComma 0 = .ok (.iload_n 0, 1) := by decide +kernel
theorem dX3_afterComma_1 : decode cX3_afterComma 1 = .ok (.bipush 44, 2) := by decide +kernel
theorem dX3_afterComma_3 : decode cX3_afterComma 3 = .ok (.if_icmp .ne 8, 3) := by decide +kernel
theorem dX3_afterComma_6 : decode cX3_afterComma 6 = .ok (.bipush 10, 2) := by decide +kernel
theorem dX3_afterComma_8 : decode cX3_afterComma 8 = .ok (.goto 4, 3) := by decide +kernel
theorem dX3_afterComma_11 : decode cX3_afterComma 11 = .ok (.iconst (-1), 1) := by decide +kernel
theorem dX3_afterComma_12 : decode cX3_afterComma 12 = .ok (.ireturn, 1) := by decide +kernel
def gX3_afterComma (a1 : Int32) : Option (Int32) := (if a1 = 44 then some 10 else some (-1))
set_option maxHeartbeats 4000000 in
set_option maxRecDepth 20000 in
theorem LX3_afterComma {n : Nat} {m : Mem} {a1 : Int32} {r : Int32} (hn : 43 ≤ n) (hg : gX3_afterComma a1 = some r) : MX yX3_afterComma cX3_afterComma 1 (some .int) { frames := 0, cells := 0, slots := 0, locals := 0 } n [.int a1] m (some (.int r)) m := by
  refine MX_of (by decide) (Nat.le_of_ble_eq_true rfl) (Or.inr (Or.inl ⟨rfl, _, rfl⟩)) (fun K hC hk hL hR => ?_)
  replace hn : 43 ≤ kn K := hk.symm ▸ hn
  show RX K 0 [(0, .int a1)] [] m
  rw [gX3_afterComma] at hg
  refine R_iload_n (pc := 0) hC 0 dX3_afterComma_0 rfl rfl ?_
  refine R_bipush (pc := 1) hC dX3_afterComma_1 kb_44 ?_
  refine R_icmp_ne (tgt := 11) (pc := 3) hC dX3_afterComma_3 (by decide) (fun c => ?_) (fun c => ?_)
  · replace hg := (if_neg c).symm.trans hg
    refine R_iconst (pc := 11) hC dX3_afterComma_11 ki_m1 ?_
    have h9 := gxI (m := m) hg
    exact R_ireturn (pc := 12) hC dX3_afterComma_12 h9
  · replace hg := (if_pos c).symm.trans hg
    refine R_bipush (pc := 6) hC dX3_afterComma_6 kb_10 ?_
    refine R_goto (tgt := 12) (pc := 8) hC dX3_afterComma_8 (by decide) ?_
    have h9 := gxI (m := m) hg
    exact R_ireturn (pc := 12) hC dX3_afterComma_12 h9
theorem dX3_after_0 : decode cX3_after 0 = .ok (.iload_n 0, 1) := by decide +kernel
theorem dX3_after_1 : decode cX3_after 1 = .ok (.tableswitch 123 0 11 #[63, 123, 68, 123, 123, 123, 123, 123, 80, 97, 123, 102], 63) := by decide +kernel
theorem dX3_after_64 : decode cX3_after 64 = .ok (.iload_n 1, 1) := by decide +kernel
theorem dX3_after_65 : decode cX3_after 65 = .ok (.invokestatic 31, 3) := by decide +kernel
theorem dX3_after_68 : decode cX3_after 68 = .ok (.ireturn, 1) := by decide +kernel
theorem dX3_after_69 : decode cX3_after 69 = .ok (.iload_n 1, 1) := by decide +kernel
theorem dX3_after_70 : decode cX3_after 70 = .ok (.bipush 59, 2) := by decide +kernel
theorem dX3_after_72 : decode cX3_after 72 = .ok (.if_icmp .ne 7, 3) := by decide +kernel
theorem dX3_after_75 : decode cX3_after 75 = .ok (.iconst 0, 1) := by decide +kernel
theorem dX3_after_76 : decode cX3_after 76 = .ok (.goto 4, 3) := by decide +kernel
theorem dX3_after_79 : decode cX3_after 79 = .ok (.iconst (-1), 1) := by decide +kernel
theorem dX3_after_80 : decode cX3_after 80 = .ok (.ireturn, 1) := by decide +kernel
theorem dX3_after_81 : decode cX3_after 81 = .ok (.iload_n 1, 1) := by decide +kernel
theorem dX3_after_82 : decode cX3_after 82 = .ok (.invokestatic 35, 3) := by decide +kernel
theorem dX3_after_85 : decode cX3_after 85 = .ok (.ifCond .eq 8, 3) := by decide +kernel
theorem dX3_after_88 : decode cX3_after 88 = .ok (.bipush 9, 2) := by decide +kernel
theorem dX3_after_90 : decode cX3_after 90 = .ok (.goto 7, 3) := by decide +kernel
theorem dX3_after_93 : decode cX3_after 93 = .ok (.iload_n 1, 1) := by decide +kernel
theorem dX3_after_94 : decode cX3_after 94 = .ok (.invokestatic 39, 3) := by decide +kernel
theorem dX3_after_97 : decode cX3_after 97 = .ok (.ireturn, 1) := by decide +kernel
theorem dX3_after_98 : decode cX3_after 98 = .ok (.iload_n 1, 1) := by decide +kernel
theorem dX3_after_99 : decode cX3_after 99 = .ok (.invokestatic 39, 3) := by decide +kernel
theorem dX3_after_102 : decode cX3_after 102 = .ok (.ireturn, 1) := by decide +kernel
theorem dX3_after_103 : decode cX3_after 103 = .ok (.iload_n 1, 1) := by decide +kernel
theorem dX3_after_104 : decode cX3_after 104 = .ok (.bipush 59, 2) := by decide +kernel
theorem dX3_after_106 : decode cX3_after 106 = .ok (.if_icmp .ne 5, 3) := by decide +kernel
theorem dX3_after_109 : decode cX3_after 109 = .ok (.iconst 0, 1) := by decide +kernel
theorem dX3_after_110 : decode cX3_after 110 = .ok (.ireturn, 1) := by decide +kernel
theorem dX3_after_111 : decode cX3_after 111 = .ok (.iload_n 1, 1) := by decide +kernel
theorem dX3_after_112 : decode cX3_after 112 = .ok (.invokestatic 35, 3) := by decide +kernel
theorem dX3_after_115 : decode cX3_after 115 = .ok (.ifCond .eq 7, 3) := by decide +kernel
theorem dX3_after_118 : decode cX3_after 118 = .ok (.iconst 2, 1) := by decide +kernel
theorem dX3_after_119 : decode cX3_after 119 = .ok (.goto 4, 3) := by decide +kernel
theorem dX3_after_122 : decode cX3_after 122 = .ok (.iconst (-1), 1) := by decide +kernel
theorem dX3_after_123 : decode cX3_after 123 = .ok (.ireturn, 1) := by decide +kernel
theorem dX3_after_124 : decode cX3_after 124 = .ok (.iload_n 1, 1) := by decide +kernel
theorem dX3_after_125 : decode cX3_after 125 = .ok (.invokestatic 35, 3) := by decide +kernel
theorem dX3_after_128 : decode cX3_after 128 = .ok (.ifCond .eq 9, 3) := by decide +kernel
theorem dX3_after_131 : decode cX3_after 131 = .ok (.iload_n 0, 1) := by decide +kernel
theorem dX3_after_132 : decode cX3_after 132 = .ok (.iconst 1, 1) := by decide +kernel
theorem dX3_after_133 : decode cX3_after 133 = .ok (.iadd, 1) := by decide +kernel
theorem dX3_after_134 : decode cX3_after 134 = .ok (.goto 4, 3) := by decide +kernel
theorem dX3_after_137 : decode cX3_after 137 = .ok (.iconst (-1), 1) := by decide +kernel
theorem dX3_after_138 : decode cX3_after 138 = .ok (.ireturn, 1) := by decide +kernel
def gX3_after (a1 : Int32) (a2 : Int32) : Option (Int32) := (if a1 = 0 then (gX3_afterStart a2).bind (fun x2 => some x2) else (if a1 = 1 then (gX3_isDigit a2).bind (fun x4 => (if x4 = true then some (a1 + 1) else some (-1))) else (if a1 = 2 then (if a2 = 59 then some 0 else some (-1)) else (if a1 = 3 then (gX3_isDigit a2).bind (fun x7 => (if x7 = true then some (a1 + 1) else some (-1))) else (if a1 = 4 then (gX3_isDigit a2).bind (fun x9 => (if x9 = true then some (a1 + 1) else some (-1))) else (if a1 = 5 then (gX3_isDigit a2).bind (fun x11 => (if x11 = true then some (a1 + 1) else some (-1))) else (if a1 = 6 then (gX3_isDigit a2).bind (fun x13 => (if x13 = true then some (a1 + 1) else some (-1))) else (if a1 = 7 then (gX3_isDigit a2).bind (fun x15 => (if x15 = true then some (a1 + 1) else some (-1))) else (if a1 = 8 then (gX3_isDigit a2).bind (fun x17 => (if x17 = true then some 9 else (gX3_afterComma a2).bind (fun x18 => some x18))) else (if a1 = 9 then (gX3_afterComma a2).bind (fun x20 => some x20) else (if a1 = 10 then (gX3_isDigit a2).bind (fun x22 => (if x22 = true then some (a1 + 1) else some (-1))) else (if a1 = 11 then (if a2 = 59 then some 0 else (gX3_isDigit a2).bind (fun x24 => (if x24 = true then some 2 else some (-1)))) else (gX3_isDigit a2).bind (fun x25 => (if x25 = true then some (a1 + 1) else some (-1)))))))))))))))
set_option maxHeartbeats 4000000 in
set_option maxRecDepth 20000 in
theorem LX3_after {n : Nat} {m : Mem} {a1 : Int32} {a2 : Int32} {r : Int32} (hn : 43 ≤ n) (hg : gX3_after a1 a2 = some r) : MX yX3_after cX3_after 2 (some .int) { frames := 1, cells := 0, slots := 0, locals := 20 } n [.int a1, .int a2] m (some (.int r)) m := by
  refine MX_of (by decide) (Nat.le_of_ble_eq_true rfl) (Or.inr (Or.inl ⟨rfl, _, rfl⟩)) (fun K hC hk hL hR => ?_)
  replace hn : 43 ≤ kn K := hk.symm ▸ hn
  show RX K 0 [(0, .int a1), (1, .int a2)] [] m
  rw [gX3_after] at hg
  refine R_iload_n (pc := 0) hC 0 dX3_after_0 rfl rfl ?_
  by_cases c1 : a1 = 0
  · replace hg := (if_pos c1).symm.trans hg
    refine R_top c1 ?_
    refine R_tableIn (tgt := 64) (x := 0) (pc := 1) hC dX3_after_1 (by decide) (by decide) (by rfl) (by decide) ?_
    refine R_iload_n (pc := 64) hC 1 dX3_after_64 rfl rfl ?_
    obtain ⟨x2, hx2, hg⟩ := bind_some hg
    refine R_callS (pc := 65) (av := [.int a2]) (rest := []) hC hR mf_X3_afterStart wm_X3_31 (LX3_afterStart hn hx2) rfl rfl rfl (Nat.le_of_ble_eq_true rfl) dX3_after_65 rfl ?_
    show RX K 68 [(0, .int a1), (1, .int a2)] [.int x2] m
    have h9 := gxI (m := m) hg
    exact R_ireturn (pc := 68) hC dX3_after_68 h9
  replace hg := (if_neg c1).symm.trans hg
  by_cases c3 : a1 = 1
  · replace hg := (if_pos c3).symm.trans hg
    refine R_top c3 ?_
    refine R_tableIn (tgt := 124) (x := 1) (pc := 1) hC dX3_after_1 (by decide) (by decide) (by rfl) (by decide) ?_
    refine R_iload_n (pc := 124) hC 1 dX3_after_124 rfl rfl ?_
    obtain ⟨x4, hx4, hg⟩ := bind_some hg
    refine R_callS (pc := 125) (av := [.int a2]) (rest := []) hC hR mf_X3_isDigit wm_X3_35 (LX3_isDigit hn hx4) rfl rfl rfl (Nat.le_of_ble_eq_true rfl) dX3_after_125 rfl ?_
    show RX K 128 [(0, .int a1), (1, .int a2)] [.int (b2i x4)] m
    refine R_ifB_eq (tgt := 137) (pc := 128) hC dX3_after_128 (by decide) (fun c => ?_) (fun c => ?_)
    · replace hg := (if_neg c).symm.trans hg
      refine R_iconst (pc := 137) hC dX3_after_137 ki_m1 ?_
      have h9 := gxI (m := m) hg
      exact R_ireturn (pc := 138) hC dX3_after_138 h9
    · replace hg := (if_pos c).symm.trans hg
      refine R_iload_n (pc := 131) hC 0 dX3_after_131 rfl rfl ?_
      refine R_iconst (pc := 132) hC dX3_after_132 ki_1 ?_
      refine R_iadd (pc := 133) hC dX3_after_133 ?_
      refine R_goto (tgt := 138) (pc := 134) hC dX3_after_134 (by decide) ?_
      have h9 := gxI (m := m) hg
      exact R_ireturn (pc := 138) hC dX3_after_138 h9
  replace hg := (if_neg c3).symm.trans hg
  by_cases c5 : a1 = 2
  · replace hg := (if_pos c5).symm.trans hg
    refine R_top c5 ?_
    refine R_tableIn (tgt := 69) (x := 2) (pc := 1) hC dX3_after_1 (by decide) (by decide) (by rfl) (by decide) ?_
    refine R_iload_n (pc := 69) hC 1 dX3_after_69 rfl rfl ?_
    refine R_bipush (pc := 70) hC dX3_after_70 kb_59 ?_
    refine R_icmp_ne (tgt := 79) (pc := 72) hC dX3_after_72 (by decide) (fun c => ?_) (fun c => ?_)
    · replace hg := (if_neg c).symm.trans hg
      refine R_iconst (pc := 79) hC dX3_after_79 ki_m1 ?_
      have h9 := gxI (m := m) hg
      exact R_ireturn (pc := 80) hC dX3_after_80 h9
    · replace hg := (if_pos c).symm.trans hg
      refine R_iconst (pc := 75) hC dX3_after_75 ki_0 ?_
      refine R_goto (tgt := 80) (pc := 76) hC dX3_after_76 (by decide) ?_
      have h9 := gxI (m := m) hg
      exact R_ireturn (pc := 80) hC dX3_after_80 h9
  replace hg := (if_neg c5).symm.trans hg
  by_cases c6 : a1 = 3
  · replace hg := (if_pos c6).symm.trans hg
    refine R_top c6 ?_
    refine R_tableIn (tgt := 124) (x := 3) (pc := 1) hC dX3_after_1 (by decide) (by decide) (by rfl) (by decide) ?_
    refine R_iload_n (pc := 124) hC 1 dX3_after_124 rfl rfl ?_
    obtain ⟨x7, hx7, hg⟩ := bind_some hg
    refine R_callS (pc := 125) (av := [.int a2]) (rest := []) hC hR mf_X3_isDigit wm_X3_35 (LX3_isDigit hn hx7) rfl rfl rfl (Nat.le_of_ble_eq_true rfl) dX3_after_125 rfl ?_
    show RX K 128 [(0, .int a1), (1, .int a2)] [.int (b2i x7)] m
    refine R_ifB_eq (tgt := 137) (pc := 128) hC dX3_after_128 (by decide) (fun c => ?_) (fun c => ?_)
    · replace hg := (if_neg c).symm.trans hg
      refine R_iconst (pc := 137) hC dX3_after_137 ki_m1 ?_
      have h9 := gxI (m := m) hg
      exact R_ireturn (pc := 138) hC dX3_after_138 h9
    · replace hg := (if_pos c).symm.trans hg
      refine R_iload_n (pc := 131) hC 0 dX3_after_131 rfl rfl ?_
      refine R_iconst (pc := 132) hC dX3_after_132 ki_1 ?_
      refine R_iadd (pc := 133) hC dX3_after_133 ?_
      refine R_goto (tgt := 138) (pc := 134) hC dX3_after_134 (by decide) ?_
      have h9 := gxI (m := m) hg
      exact R_ireturn (pc := 138) hC dX3_after_138 h9
  replace hg := (if_neg c6).symm.trans hg
  by_cases c8 : a1 = 4
  · replace hg := (if_pos c8).symm.trans hg
    refine R_top c8 ?_
    refine R_tableIn (tgt := 124) (x := 4) (pc := 1) hC dX3_after_1 (by decide) (by decide) (by rfl) (by decide) ?_
    refine R_iload_n (pc := 124) hC 1 dX3_after_124 rfl rfl ?_
    obtain ⟨x9, hx9, hg⟩ := bind_some hg
    refine R_callS (pc := 125) (av := [.int a2]) (rest := []) hC hR mf_X3_isDigit wm_X3_35 (LX3_isDigit hn hx9) rfl rfl rfl (Nat.le_of_ble_eq_true rfl) dX3_after_125 rfl ?_
    show RX K 128 [(0, .int a1), (1, .int a2)] [.int (b2i x9)] m
    refine R_ifB_eq (tgt := 137) (pc := 128) hC dX3_after_128 (by decide) (fun c => ?_) (fun c => ?_)
    · replace hg := (if_neg c).symm.trans hg
      refine R_iconst (pc := 137) hC dX3_after_137 ki_m1 ?_
      have h9 := gxI (m := m) hg
      exact R_ireturn (pc := 138) hC dX3_after_138 h9
    · replace hg := (if_pos c).symm.trans hg
      refine R_iload_n (pc := 131) hC 0 dX3_after_131 rfl rfl ?_
      refine R_iconst (pc := 132) hC dX3_after_132 ki_1 ?_
      refine R_iadd (pc := 133) hC dX3_after_133 ?_
      refine R_goto (tgt := 138) (pc := 134) hC dX3_after_134 (by decide) ?_
      have h9 := gxI (m := m) hg
      exact R_ireturn (pc := 138) hC dX3_after_138 h9
  replace hg := (if_neg c8).symm.trans hg
  by_cases c10 : a1 = 5
  · replace hg := (if_pos c10).symm.trans hg
    refine R_top c10 ?_
    refine R_tableIn (tgt := 124) (x := 5) (pc := 1) hC dX3_after_1 (by decide) (by decide) (by rfl) (by decide) ?_
    refine R_iload_n (pc := 124) hC 1 dX3_after_124 rfl rfl ?_
    obtain ⟨x11, hx11, hg⟩ := bind_some hg
    refine R_callS (pc := 125) (av := [.int a2]) (rest := []) hC hR mf_X3_isDigit wm_X3_35 (LX3_isDigit hn hx11) rfl rfl rfl (Nat.le_of_ble_eq_true rfl) dX3_after_125 rfl ?_
    show RX K 128 [(0, .int a1), (1, .int a2)] [.int (b2i x11)] m
    refine R_ifB_eq (tgt := 137) (pc := 128) hC dX3_after_128 (by decide) (fun c => ?_) (fun c => ?_)
    · replace hg := (if_neg c).symm.trans hg
      refine R_iconst (pc := 137) hC dX3_after_137 ki_m1 ?_
      have h9 := gxI (m := m) hg
      exact R_ireturn (pc := 138) hC dX3_after_138 h9
    · replace hg := (if_pos c).symm.trans hg
      refine R_iload_n (pc := 131) hC 0 dX3_after_131 rfl rfl ?_
      refine R_iconst (pc := 132) hC dX3_after_132 ki_1 ?_
      refine R_iadd (pc := 133) hC dX3_after_133 ?_
      refine R_goto (tgt := 138) (pc := 134) hC dX3_after_134 (by decide) ?_
      have h9 := gxI (m := m) hg
      exact R_ireturn (pc := 138) hC dX3_after_138 h9
  replace hg := (if_neg c10).symm.trans hg
  by_cases c12 : a1 = 6
  · replace hg := (if_pos c12).symm.trans hg
    refine R_top c12 ?_
    refine R_tableIn (tgt := 124) (x := 6) (pc := 1) hC dX3_after_1 (by decide) (by decide) (by rfl) (by decide) ?_
    refine R_iload_n (pc := 124) hC 1 dX3_after_124 rfl rfl ?_
    obtain ⟨x13, hx13, hg⟩ := bind_some hg
    refine R_callS (pc := 125) (av := [.int a2]) (rest := []) hC hR mf_X3_isDigit wm_X3_35 (LX3_isDigit hn hx13) rfl rfl rfl (Nat.le_of_ble_eq_true rfl) dX3_after_125 rfl ?_
    show RX K 128 [(0, .int a1), (1, .int a2)] [.int (b2i x13)] m
    refine R_ifB_eq (tgt := 137) (pc := 128) hC dX3_after_128 (by decide) (fun c => ?_) (fun c => ?_)
    · replace hg := (if_neg c).symm.trans hg
      refine R_iconst (pc := 137) hC dX3_after_137 ki_m1 ?_
      have h9 := gxI (m := m) hg
      exact R_ireturn (pc := 138) hC dX3_after_138 h9
    · replace hg := (if_pos c).symm.trans hg
      refine R_iload_n (pc := 131) hC 0 dX3_after_131 rfl rfl ?_
      refine R_iconst (pc := 132) hC dX3_after_132 ki_1 ?_
      refine R_iadd (pc := 133) hC dX3_after_133 ?_
      refine R_goto (tgt := 138) (pc := 134) hC dX3_after_134 (by decide) ?_
      have h9 := gxI (m := m) hg
      exact R_ireturn (pc := 138) hC dX3_after_138 h9
  replace hg := (if_neg c12).symm.trans hg
  by_cases c14 : a1 = 7
  · replace hg := (if_pos c14).symm.trans hg
    refine R_top c14 ?_
    refine R_tableIn (tgt := 124) (x := 7) (pc := 1) hC dX3_after_1 (by decide) (by decide) (by rfl) (by decide) ?_
    refine R_iload_n (pc := 124) hC 1 dX3_after_124 rfl rfl ?_
    obtain ⟨x15, hx15, hg⟩ := bind_some hg
    refine R_callS (pc := 125) (av := [.int a2]) (rest := []) hC hR mf_X3_isDigit wm_X3_35 (LX3_isDigit hn hx15) rfl rfl rfl (Nat.le_of_ble_eq_true rfl) dX3_after_125 rfl ?_
    show RX K 128 [(0, .int a1), (1, .int a2)] [.int (b2i x15)] m
    refine R_ifB_eq (tgt := 137) (pc := 128) hC dX3_after_128 (by decide) (fun c => ?_) (fun c => ?_)
    · replace hg := (if_neg c).symm.trans hg
      refine R_iconst (pc := 137) hC dX3_after_137 ki_m1 ?_
      have h9 := gxI (m := m) hg
      exact R_ireturn (pc := 138) hC dX3_after_138 h9
    · replace hg := (if_pos c).symm.trans hg
      refine R_iload_n (pc := 131) hC 0 dX3_after_131 rfl rfl ?_
      refine R_iconst (pc := 132) hC dX3_after_132 ki_1 ?_
      refine R_iadd (pc := 133) hC dX3_after_133 ?_
      refine R_goto (tgt := 138) (pc := 134) hC dX3_after_134 (by decide) ?_
      have h9 := gxI (m := m) hg
      exact R_ireturn (pc := 138) hC dX3_after_138 h9
  replace hg := (if_neg c14).symm.trans hg
  by_cases c16 : a1 = 8
  · replace hg := (if_pos c16).symm.trans hg
    refine R_top c16 ?_
    refine R_tableIn (tgt := 81) (x := 8) (pc := 1) hC dX3_after_1 (by decide) (by decide) (by rfl) (by decide) ?_
    refine R_iload_n (pc := 81) hC 1 dX3_after_81 rfl rfl ?_
    obtain ⟨x17, hx17, hg⟩ := bind_some hg
    refine R_callS (pc := 82) (av := [.int a2]) (rest := []) hC hR mf_X3_isDigit wm_X3_35 (LX3_isDigit hn hx17) rfl rfl rfl (Nat.le_of_ble_eq_true rfl) dX3_after_82 rfl ?_
    show RX K 85 [(0, .int a1), (1, .int a2)] [.int (b2i x17)] m
    refine R_ifB_eq (tgt := 93) (pc := 85) hC dX3_after_85 (by decide) (fun c => ?_) (fun c => ?_)
    · replace hg := (if_neg c).symm.trans hg
      refine R_iload_n (pc := 93) hC 1 dX3_after_93 rfl rfl ?_
      obtain ⟨x18, hx18, hg⟩ := bind_some hg
      refine R_callS (pc := 94) (av := [.int a2]) (rest := []) hC hR mf_X3_afterComma wm_X3_39 (LX3_afterComma hn hx18) rfl rfl rfl (Nat.le_of_ble_eq_true rfl) dX3_after_94 rfl ?_
      show RX K 97 [(0, .int a1), (1, .int a2)] [.int x18] m
      have h9 := gxI (m := m) hg
      exact R_ireturn (pc := 97) hC dX3_after_97 h9
    · replace hg := (if_pos c).symm.trans hg
      refine R_bipush (pc := 88) hC dX3_after_88 kb_9 ?_
      refine R_goto (tgt := 97) (pc := 90) hC dX3_after_90 (by decide) ?_
      have h9 := gxI (m := m) hg
      exact R_ireturn (pc := 97) hC dX3_after_97 h9
  replace hg := (if_neg c16).symm.trans hg
  by_cases c19 : a1 = 9
  · replace hg := (if_pos c19).symm.trans hg
    refine R_top c19 ?_
    refine R_tableIn (tgt := 98) (x := 9) (pc := 1) hC dX3_after_1 (by decide) (by decide) (by rfl) (by decide) ?_
    refine R_iload_n (pc := 98) hC 1 dX3_after_98 rfl rfl ?_
    obtain ⟨x20, hx20, hg⟩ := bind_some hg
    refine R_callS (pc := 99) (av := [.int a2]) (rest := []) hC hR mf_X3_afterComma wm_X3_39 (LX3_afterComma hn hx20) rfl rfl rfl (Nat.le_of_ble_eq_true rfl) dX3_after_99 rfl ?_
    show RX K 102 [(0, .int a1), (1, .int a2)] [.int x20] m
    have h9 := gxI (m := m) hg
    exact R_ireturn (pc := 102) hC dX3_after_102 h9
  replace hg := (if_neg c19).symm.trans hg
  by_cases c21 : a1 = 10
  · replace hg := (if_pos c21).symm.trans hg
    refine R_top c21 ?_
    refine R_tableIn (tgt := 124) (x := 10) (pc := 1) hC dX3_after_1 (by decide) (by decide) (by rfl) (by decide) ?_
    refine R_iload_n (pc := 124) hC 1 dX3_after_124 rfl rfl ?_
    obtain ⟨x22, hx22, hg⟩ := bind_some hg
    refine R_callS (pc := 125) (av := [.int a2]) (rest := []) hC hR mf_X3_isDigit wm_X3_35 (LX3_isDigit hn hx22) rfl rfl rfl (Nat.le_of_ble_eq_true rfl) dX3_after_125 rfl ?_
    show RX K 128 [(0, .int a1), (1, .int a2)] [.int (b2i x22)] m
    refine R_ifB_eq (tgt := 137) (pc := 128) hC dX3_after_128 (by decide) (fun c => ?_) (fun c => ?_)
    · replace hg := (if_neg c).symm.trans hg
      refine R_iconst (pc := 137) hC dX3_after_137 ki_m1 ?_
      have h9 := gxI (m := m) hg
      exact R_ireturn (pc := 138) hC dX3_after_138 h9
    · replace hg := (if_pos c).symm.trans hg
      refine R_iload_n (pc := 131) hC 0 dX3_after_131 rfl rfl ?_
      refine R_iconst (pc := 132) hC dX3_after_132 ki_1 ?_
      refine R_iadd (pc := 133) hC dX3_after_133 ?_
      refine R_goto (tgt := 138) (pc := 134) hC dX3_after_134 (by decide) ?_
      have h9 := gxI (m := m) hg
      exact R_ireturn (pc := 138) hC dX3_after_138 h9
  replace hg := (if_neg c21).symm.trans hg
  by_cases c23 : a1 = 11
  · replace hg := (if_pos c23).symm.trans hg
    refine R_top c23 ?_
    refine R_tableIn (tgt := 103) (x := 11) (pc := 1) hC dX3_after_1 (by decide) (by decide) (by rfl) (by decide) ?_
    refine R_iload_n (pc := 103) hC 1 dX3_after_103 rfl rfl ?_
    refine R_bipush (pc := 104) hC dX3_after_104 kb_59 ?_
    refine R_icmp_ne (tgt := 111) (pc := 106) hC dX3_after_106 (by decide) (fun c => ?_) (fun c => ?_)
    · replace hg := (if_neg c).symm.trans hg
      refine R_iload_n (pc := 111) hC 1 dX3_after_111 rfl rfl ?_
      obtain ⟨x24, hx24, hg⟩ := bind_some hg
      refine R_callS (pc := 112) (av := [.int a2]) (rest := []) hC hR mf_X3_isDigit wm_X3_35 (LX3_isDigit hn hx24) rfl rfl rfl (Nat.le_of_ble_eq_true rfl) dX3_after_112 rfl ?_
      show RX K 115 [(0, .int a1), (1, .int a2)] [.int (b2i x24)] m
      refine R_ifB_eq (tgt := 122) (pc := 115) hC dX3_after_115 (by decide) (fun c => ?_) (fun c => ?_)
      · replace hg := (if_neg c).symm.trans hg
        refine R_iconst (pc := 122) hC dX3_after_122 ki_m1 ?_
        have h9 := gxI (m := m) hg
        exact R_ireturn (pc := 123) hC dX3_after_123 h9
      · replace hg := (if_pos c).symm.trans hg
        refine R_iconst (pc := 118) hC dX3_after_118 ki_2 ?_
        refine R_goto (tgt := 123) (pc := 119) hC dX3_after_119 (by decide) ?_
        have h9 := gxI (m := m) hg
        exact R_ireturn (pc := 123) hC dX3_after_123 h9
    · replace hg := (if_pos c).symm.trans hg
      refine R_iconst (pc := 109) hC dX3_after_109 ki_0 ?_
      have h9 := gxI (m := m) hg
      exact R_ireturn (pc := 110) hC dX3_after_110 h9
  replace hg := (if_neg c23).symm.trans hg
  refine R_tableOut (tgt := 124) (pc := 1) hC dX3_after_1 (tab_out (fun k hk => ?_)) (by decide) ?_
  · have h9 : k = 0 ∨ k = 1 ∨ k = 2 ∨ k = 3 ∨ k = 4 ∨ k = 5 ∨ k = 6 ∨ k = 7 ∨ k = 8 ∨ k = 9 ∨ k = 10 ∨ k = 11 := by omega
    rcases h9 with rfl | rfl | rfl | rfl | rfl | rfl | rfl | rfl | rfl | rfl | rfl | rfl
    · exact i32_ne c1 (by decide)
    · exact i32_ne c3 (by decide)
    · exact i32_ne c5 (by decide)
    · exact i32_ne c6 (by decide)
    · exact i32_ne c8 (by decide)
    · exact i32_ne c10 (by decide)
    · exact i32_ne c12 (by decide)
    · exact i32_ne c14 (by decide)
    · exact i32_ne c16 (by decide)
    · exact i32_ne c19 (by decide)
    · exact i32_ne c21 (by decide)
    · exact i32_ne c23 (by decide)
  refine R_iload_n (pc := 124) hC 1 dX3_after_124 rfl rfl ?_
  obtain ⟨x25, hx25, hg⟩ := bind_some hg
  refine R_callS (pc := 125) (av := [.int a2]) (rest := []) hC hR mf_X3_isDigit wm_X3_35 (LX3_isDigit hn hx25) rfl rfl rfl (Nat.le_of_ble_eq_true rfl) dX3_after_125 rfl ?_
  show RX K 128 [(0, .int a1), (1, .int a2)] [.int (b2i x25)] m
  refine R_ifB_eq (tgt := 137) (pc := 128) hC dX3_after_128 (by decide) (fun c => ?_) (fun c => ?_)
  · replace hg := (if_neg c).symm.trans hg
    refine R_iconst (pc := 137) hC dX3_after_137 ki_m1 ?_
    have h9 := gxI (m := m) hg
    exact R_ireturn (pc := 138) hC dX3_after_138 h9
  · replace hg := (if_pos c).symm.trans hg
    refine R_iload_n (pc := 131) hC 0 dX3_after_131 rfl rfl ?_
    refine R_iconst (pc := 132) hC dX3_after_132 ki_1 ?_
    refine R_iadd (pc := 133) hC dX3_after_133 ?_
    refine R_goto (tgt := 138) (pc := 134) hC dX3_after_134 (by decide) ?_
    have h9 := gxI (m := m) hg
    exact R_ireturn (pc := 138) hC dX3_after_138 h9
theorem dX3_placeOfWrongForm_0 : decode cX3_placeOfWrongForm 0 = .ok (.iconst 0, 1) := by decide +kernel
theorem dX3_placeOfWrongForm_1 : decode cX3_placeOfWrongForm 1 = .ok (.istore_n 1, 1) := by decide +kernel
theorem dX3_placeOfWrongForm_2 : decode cX3_placeOfWrongForm 2 = .ok (.iconst 0, 1) := by decide +kernel
theorem dX3_placeOfWrongForm_3 : decode cX3_placeOfWrongForm 3 = .ok (.istore_n 2, 1) := by decide +kernel
theorem dX3_placeOfWrongForm_4 : decode cX3_placeOfWrongForm 4 = .ok (.iload_n 2, 1) := by decide +kernel
theorem dX3_placeOfWrongForm_5 : decode cX3_placeOfWrongForm 5 = .ok (.aload_n 0, 1) := by decide +kernel
theorem dX3_placeOfWrongForm_6 : decode cX3_placeOfWrongForm 6 = .ok (.getfield 15, 3) := by decide +kernel
theorem dX3_placeOfWrongForm_9 : decode cX3_placeOfWrongForm 9 = .ok (.if_icmp .ge 33, 3) := by decide +kernel
theorem dX3_placeOfWrongForm_12 : decode cX3_placeOfWrongForm 12 = .ok (.iload_n 2, 1) := by decide +kernel
theorem dX3_placeOfWrongForm_13 : decode cX3_placeOfWrongForm 13 = .ok (.bipush 72, 2) := by decide +kernel
theorem dX3_placeOfWrongForm_15 : decode cX3_placeOfWrongForm 15 = .ok (.if_icmp .ge 27, 3) := by decide +kernel
theorem dX3_placeOfWrongForm_18 : decode cX3_placeOfWrongForm 18 = .ok (.iload_n 1, 1) := by decide +kernel
theorem dX3_placeOfWrongForm_19 : decode cX3_placeOfWrongForm 19 = .ok (.aload_n 0, 1) := by decide +kernel
theorem dX3_placeOfWrongForm_20 : decode cX3_placeOfWrongForm 20 = .ok (.getfield 9, 3) := by decide +kernel
theorem dX3_placeOfWrongForm_23 : decode cX3_placeOfWrongForm 23 = .ok (.iload_n 2, 1) := by decide +kernel
theorem dX3_placeOfWrongForm_24 : decode cX3_placeOfWrongForm 24 = .ok (.iaload, 1) := by decide +kernel
theorem dX3_placeOfWrongForm_25 : decode cX3_placeOfWrongForm 25 = .ok (.invokestatic 27, 3) := by decide +kernel
theorem dX3_placeOfWrongForm_28 : decode cX3_placeOfWrongForm 28 = .ok (.istore_n 1, 1) := by decide +kernel
theorem dX3_placeOfWrongForm_29 : decode cX3_placeOfWrongForm 29 = .ok (.iload_n 1, 1) := by decide +kernel
theorem dX3_placeOfWrongForm_30 : decode cX3_placeOfWrongForm 30 = .ok (.iconst (-1), 1) := by decide +kernel
theorem dX3_placeOfWrongForm_31 : decode cX3_placeOfWrongForm 31 = .ok (.if_icmp .ne 5, 3) := by decide +kernel
theorem dX3_placeOfWrongForm_34 : decode cX3_placeOfWrongForm 34 = .ok (.iload_n 2, 1) := by decide +kernel
theorem dX3_placeOfWrongForm_35 : decode cX3_placeOfWrongForm 35 = .ok (.ireturn, 1) := by decide +kernel
theorem dX3_placeOfWrongForm_36 : decode cX3_placeOfWrongForm 36 = .ok (.iinc 2 1, 3) := by decide +kernel
theorem dX3_placeOfWrongForm_39 : decode cX3_placeOfWrongForm 39 = .ok (.goto (-35), 3) := by decide +kernel
theorem dX3_placeOfWrongForm_42 : decode cX3_placeOfWrongForm 42 = .ok (.iload_n 1, 1) := by decide +kernel
theorem dX3_placeOfWrongForm_43 : decode cX3_placeOfWrongForm 43 = .ok (.ifCond .ne 14, 3) := by decide +kernel
theorem dX3_placeOfWrongForm_46 : decode cX3_placeOfWrongForm 46 = .ok (.aload_n 0, 1) := by decide +kernel
theorem dX3_placeOfWrongForm_47 : decode cX3_placeOfWrongForm 47 = .ok (.getfield 15, 3) := by decide +kernel
theorem dX3_placeOfWrongForm_50 : decode cX3_placeOfWrongForm 50 = .ok (.ifCond .le 7, 3) := by decide +kernel
theorem dX3_placeOfWrongForm_53 : decode cX3_placeOfWrongForm 53 = .ok (.iconst (-1), 1) := by decide +kernel
theorem dX3_placeOfWrongForm_54 : decode cX3_placeOfWrongForm 54 = .ok (.goto 7, 3) := by decide +kernel
theorem dX3_placeOfWrongForm_57 : decode cX3_placeOfWrongForm 57 = .ok (.aload_n 0, 1) := by decide +kernel
theorem dX3_placeOfWrongForm_58 : decode cX3_placeOfWrongForm 58 = .ok (.getfield 15, 3) := by decide +kernel
theorem dX3_placeOfWrongForm_61 : decode cX3_placeOfWrongForm 61 = .ok (.ireturn, 1) := by decide +kernel
def bX3_placeOfWrongForm_4 (m : Mem) : (Int32 × Int32) → Option ((Int32 × Int32) ⊕ ((Int32 × Int32) ⊕ (Int32)))
  | (y1, y2) => (if (m.1 22 1) ≤ y2 then some (.inr (.inl (y1, y2))) else (if 72 ≤ y2 then some (.inr (.inl (y1, y2))) else chk (inb y2 72) ((gX3_after y1 (m.1 23 (Int32.toNatClampNeg y2))).bind (fun x4 => (if x4 = (-1) then some (.inr (.inr y2)) else some (.inl (x4, y2 + 1)))))))
def gX3_placeOfWrongForm (F : Nat) (m : Mem) : Option (Int32) := (iter F (bX3_placeOfWrongForm_4 m) (0, 0)).bind (fun e5 => Sum.elim (fun s7 => (if s7.1 = 0 then (if (m.1 22 1) ≤ 0 then some (m.1 22 1) else some (-1)) else some (m.1 22 1))) (fun q => some q) e5)
set_option maxHeartbeats 4000000 in
set_option maxRecDepth 20000 in
theorem LX3_placeOfWrongForm {n : Nat} {F : Nat} {m : Mem} {r : Int32} (hn : 43 ≤ n) (hg : gX3_placeOfWrongForm F m  = some r) : MX yX3_placeOfWrongForm cX3_placeOfWrongForm 3 (some .int) { frames := 2, cells := 0, slots := 0, locals := 41 } n [.ref 22] m (some (.int r)) m := by
  refine MX_of (by decide) (Nat.le_of_ble_eq_true rfl) (Or.inr (Or.inl ⟨rfl, _, rfl⟩)) (fun K hC hk hL hR => ?_)
  replace hn : 43 ≤ kn K := hk.symm ▸ hn
  show RX K 0 [(0, .ref 22)] [] m
  rw [gX3_placeOfWrongForm] at hg
  refine R_iconst (pc := 0) hC dX3_placeOfWrongForm_0 ki_0 ?_
  refine R_istore_n (pc := 1) hC dX3_placeOfWrongForm_1 rfl hL rfl (show _ = [(1, .int 0), (0, .ref 22)] from rfl) ?_
  refine R_iconst (pc := 2) hC dX3_placeOfWrongForm_2 ki_0 ?_
  refine R_istore_n (pc := 3) hC dX3_placeOfWrongForm_3 rfl hL rfl (show _ = [(2, .int 0), (1, .int 0), (0, .ref 22)] from rfl) ?_
  refine R_pick [2, 1, 0] (ls' := [(0, .ref 22), (1, .int 0), (2, .int 0)]) rfl ?_
  obtain ⟨e5, he5, hg⟩ := bind_some hg
  refine iter_walk (P := fun s : (Int32 × Int32) => RX K 4 [(0, .ref 22), (1, .int s.1), (2, .int s.2)] [] m) (Qe := Sum.elim (fun s : (Int32 × Int32) => RX K 42 [(0, .ref 22), (1, .int s.1), (2, .int s.2)] [] m) (fun q : Int32 => GX (some (.int r)) m (some (.int q)) m)) (fun s6 o hg kL4 kE4 => ?_) _ _ _ he5 ?_
  · obtain ⟨y1, y2⟩ := s6
    rw [bX3_placeOfWrongForm_4] at hg
    show RX K 4 [(0, .ref 22), (1, .int y1), (2, .int y2)] [] m
    refine R_iload_n (pc := 4) hC 2 dX3_placeOfWrongForm_4 rfl rfl ?_
    refine R_aload_n (pc := 5) hC 0 dX3_placeOfWrongForm_5 rfl rfl ?_
    refine gf_X3_15 (pc := 6) hC hn dX3_placeOfWrongForm_6 ?_
    refine R_icmp_ge (tgt := 42) (pc := 9) hC dX3_placeOfWrongForm_9 (by decide) (fun c => ?_) (fun c => ?_)
    · replace hg := (if_pos c).symm.trans hg
      refine R_pick [0, 1, 2] (ls' := [(0, .ref 22), (1, .int y1), (2, .int y2)]) rfl ?_
      have h9 := kE4 _ (Option.some.inj hg).symm
      exact h9
    · replace hg := (if_neg c).symm.trans hg
      refine R_iload_n (pc := 12) hC 2 dX3_placeOfWrongForm_12 rfl rfl ?_
      refine R_bipush (pc := 13) hC dX3_placeOfWrongForm_13 kb_72 ?_
      refine R_icmp_ge (tgt := 42) (pc := 15) hC dX3_placeOfWrongForm_15 (by decide) (fun c => ?_) (fun c => ?_)
      · replace hg := (if_pos c).symm.trans hg
        refine R_pick [0, 1, 2] (ls' := [(0, .ref 22), (1, .int y1), (2, .int y2)]) rfl ?_
        have h9 := kE4 _ (Option.some.inj hg).symm
        exact h9
      · replace hg := (if_neg c).symm.trans hg
        refine R_iload_n (pc := 18) hC 1 dX3_placeOfWrongForm_18 rfl rfl ?_
        refine R_aload_n (pc := 19) hC 0 dX3_placeOfWrongForm_19 rfl rfl ?_
        refine gf_X3_9 (pc := 20) hC hn dX3_placeOfWrongForm_20 ?_
        refine R_iload_n (pc := 23) hC 2 dX3_placeOfWrongForm_23 rfl rfl ?_
        obtain ⟨c3, hg⟩ := chk_some hg
        refine R_iaload (pc := 24) hC 23 (jx hn rfl) ly23 (inb_vp c3) dX3_placeOfWrongForm_24 ?_
        obtain ⟨x4, hx4, hg⟩ := bind_some hg
        refine R_callS (pc := 25) (av := [.int y1, .int (m.1 23 (Int32.toNatClampNeg y2))]) (rest := []) hC hR mf_X3_after wm_X3_27 (LX3_after hn hx4) rfl rfl rfl (Nat.le_of_ble_eq_true rfl) dX3_placeOfWrongForm_25 rfl ?_
        show RX K 28 [(0, .ref 22), (1, .int y1), (2, .int y2)] [.int x4] m
        refine R_istore_n (pc := 28) hC dX3_placeOfWrongForm_28 rfl hL rfl (show _ = [(1, .int x4), (0, .ref 22), (2, .int y2)] from rfl) ?_
        refine R_iload_n (pc := 29) hC 0 dX3_placeOfWrongForm_29 rfl rfl ?_
        refine R_iconst (pc := 30) hC dX3_placeOfWrongForm_30 ki_m1 ?_
        refine R_icmp_ne (tgt := 36) (pc := 31) hC dX3_placeOfWrongForm_31 (by decide) (fun c => ?_) (fun c => ?_)
        · replace hg := (if_neg c).symm.trans hg
          refine R_iinc (pc := 36) hC 2 dX3_placeOfWrongForm_36 rfl (iv ki_1) hL rfl (show _ = [(2, .int (y2 + 1)), (1, .int x4), (0, .ref 22)] from rfl) ?_
          refine R_goto (tgt := 4) (pc := 39) hC dX3_placeOfWrongForm_39 (by decide) ?_
          refine R_pick [2, 1, 0] (ls' := [(0, .ref 22), (1, .int x4), (2, .int (y2 + 1))]) rfl ?_
          have h9 := kL4 _ (Option.some.inj hg).symm
          exact h9
        · replace hg := (if_pos c).symm.trans hg
          refine R_iload_n (pc := 34) hC 2 dX3_placeOfWrongForm_34 rfl rfl ?_
          have h9 := kE4 _ (Option.some.inj hg).symm
          exact R_ireturn (pc := 35) hC dX3_placeOfWrongForm_35 h9
  · rcases e5 with s7 | q
    · replace hg := (Sum.elim_inl _ _ _).symm.trans hg
      show RX K 42 [(0, .ref 22), (1, .int s7.1), (2, .int s7.2)] [] m
      refine R_iload_n (pc := 42) hC 1 dX3_placeOfWrongForm_42 rfl rfl ?_
      refine R_if_ne (tgt := 57) (pc := 43) hC dX3_placeOfWrongForm_43 (by decide) (fun c => ?_) (fun c => ?_)
      · replace hg := (if_neg c).symm.trans hg
        refine R_aload_n (pc := 57) hC 0 dX3_placeOfWrongForm_57 rfl rfl ?_
        refine gf_X3_15 (pc := 58) hC hn dX3_placeOfWrongForm_58 ?_
        have h9 := gxI (m := m) hg
        exact R_ireturn (pc := 61) hC dX3_placeOfWrongForm_61 h9
      · replace hg := (if_pos c).symm.trans hg
        refine R_aload_n (pc := 46) hC 0 dX3_placeOfWrongForm_46 rfl rfl ?_
        refine gf_X3_15 (pc := 47) hC hn dX3_placeOfWrongForm_47 ?_
        refine R_if_le (tgt := 57) (pc := 50) hC dX3_placeOfWrongForm_50 (by decide) (fun c => ?_) (fun c => ?_)
        · replace hg := (if_pos c).symm.trans hg
          refine R_aload_n (pc := 57) hC 0 dX3_placeOfWrongForm_57 rfl rfl ?_
          refine gf_X3_15 (pc := 58) hC hn dX3_placeOfWrongForm_58 ?_
          have h9 := gxI (m := m) hg
          exact R_ireturn (pc := 61) hC dX3_placeOfWrongForm_61 h9
        · replace hg := (if_neg c).symm.trans hg
          refine R_iconst (pc := 53) hC dX3_placeOfWrongForm_53 ki_m1 ?_
          refine R_goto (tgt := 61) (pc := 54) hC dX3_placeOfWrongForm_54 (by decide) ?_
          have h9 := gxI (m := m) hg
          exact R_ireturn (pc := 61) hC dX3_placeOfWrongForm_61 h9
    · replace hg := (Sum.elim_inr _ _ _).symm.trans hg
      exact gxI hg
theorem dX3_letterAt_0 : decode cX3_letterAt 0 = .ok (.iload_n 1, 1) := by decide +kernel
theorem dX3_letterAt_1 : decode cX3_letterAt 1 = .ok (.ifCond .lt 26, 3) := by decide +kernel
theorem dX3_letterAt_4 : decode cX3_letterAt 4 = .ok (.iload_n 1, 1) := by decide +kernel
theorem dX3_letterAt_5 : decode cX3_letterAt 5 = .ok (.aload_n 0, 1) := by decide +kernel
theorem dX3_letterAt_6 : decode cX3_letterAt 6 = .ok (.getfield 15, 3) := by decide +kernel
theorem dX3_letterAt_9 : decode cX3_letterAt 9 = .ok (.if_icmp .ge 18, 3) := by decide +kernel
theorem dX3_letterAt_12 : decode cX3_letterAt 12 = .ok (.iload_n 1, 1) := by decide +kernel
theorem dX3_letterAt_13 : decode cX3_letterAt 13 = .ok (.bipush 72, 2) := by decide +kernel
theorem dX3_letterAt_15 : decode cX3_letterAt 15 = .ok (.if_icmp .ge 12, 3) := by decide +kernel
theorem dX3_letterAt_18 : decode cX3_letterAt 18 = .ok (.aload_n 0, 1) := by decide +kernel
theorem dX3_letterAt_19 : decode cX3_letterAt 19 = .ok (.getfield 9, 3) := by decide +kernel
theorem dX3_letterAt_22 : decode cX3_letterAt 22 = .ok (.iload_n 1, 1) := by decide +kernel
theorem dX3_letterAt_23 : decode cX3_letterAt 23 = .ok (.iaload, 1) := by decide +kernel
theorem dX3_letterAt_24 : decode cX3_letterAt 24 = .ok (.goto 4, 3) := by decide +kernel
theorem dX3_letterAt_27 : decode cX3_letterAt 27 = .ok (.iconst 0, 1) := by decide +kernel
theorem dX3_letterAt_28 : decode cX3_letterAt 28 = .ok (.ireturn, 1) := by decide +kernel
def gX3_letterAt (m : Mem) (a1 : Int32) : Option (Int32) := (if a1 < 0 then some 0 else (if (m.1 22 1) ≤ a1 then some 0 else (if 72 ≤ a1 then some 0 else chk (inb a1 72) (some (m.1 23 (Int32.toNatClampNeg a1))))))
set_option maxHeartbeats 4000000 in
set_option maxRecDepth 20000 in
theorem LX3_letterAt {n : Nat} {m : Mem} {a1 : Int32} {r : Int32} (hn : 43 ≤ n) (hg : gX3_letterAt m a1 = some r) : MX yX3_letterAt cX3_letterAt 2 (some .int) { frames := 0, cells := 0, slots := 0, locals := 0 } n [.ref 22, .int a1] m (some (.int r)) m := by
  refine MX_of (by decide) (Nat.le_of_ble_eq_true rfl) (Or.inr (Or.inl ⟨rfl, _, rfl⟩)) (fun K hC hk hL hR => ?_)
  replace hn : 43 ≤ kn K := hk.symm ▸ hn
  show RX K 0 [(0, .ref 22), (1, .int a1)] [] m
  rw [gX3_letterAt] at hg
  refine R_iload_n (pc := 0) hC 1 dX3_letterAt_0 rfl rfl ?_
  refine R_if_lt (tgt := 27) (pc := 1) hC dX3_letterAt_1 (by decide) (fun c => ?_) (fun c => ?_)
  · replace hg := (if_pos c).symm.trans hg
    refine R_iconst (pc := 27) hC dX3_letterAt_27 ki_0 ?_
    have h9 := gxI (m := m) hg
    exact R_ireturn (pc := 28) hC dX3_letterAt_28 h9
  · replace hg := (if_neg c).symm.trans hg
    refine R_iload_n (pc := 4) hC 1 dX3_letterAt_4 rfl rfl ?_
    refine R_aload_n (pc := 5) hC 0 dX3_letterAt_5 rfl rfl ?_
    refine gf_X3_15 (pc := 6) hC hn dX3_letterAt_6 ?_
    refine R_icmp_ge (tgt := 27) (pc := 9) hC dX3_letterAt_9 (by decide) (fun c => ?_) (fun c => ?_)
    · replace hg := (if_pos c).symm.trans hg
      refine R_iconst (pc := 27) hC dX3_letterAt_27 ki_0 ?_
      have h9 := gxI (m := m) hg
      exact R_ireturn (pc := 28) hC dX3_letterAt_28 h9
    · replace hg := (if_neg c).symm.trans hg
      refine R_iload_n (pc := 12) hC 1 dX3_letterAt_12 rfl rfl ?_
      refine R_bipush (pc := 13) hC dX3_letterAt_13 kb_72 ?_
      refine R_icmp_ge (tgt := 27) (pc := 15) hC dX3_letterAt_15 (by decide) (fun c => ?_) (fun c => ?_)
      · replace hg := (if_pos c).symm.trans hg
        refine R_iconst (pc := 27) hC dX3_letterAt_27 ki_0 ?_
        have h9 := gxI (m := m) hg
        exact R_ireturn (pc := 28) hC dX3_letterAt_28 h9
      · replace hg := (if_neg c).symm.trans hg
        refine R_aload_n (pc := 18) hC 0 dX3_letterAt_18 rfl rfl ?_
        refine gf_X3_9 (pc := 19) hC hn dX3_letterAt_19 ?_
        refine R_iload_n (pc := 22) hC 1 dX3_letterAt_22 rfl rfl ?_
        obtain ⟨c1, hg⟩ := chk_some hg
        refine R_iaload (pc := 23) hC 23 (jx hn rfl) ly23 (inb_vp c1) dX3_letterAt_23 ?_
        refine R_goto (tgt := 28) (pc := 24) hC dX3_letterAt_24 (by decide) ?_
        have h9 := gxI (m := m) hg
        exact R_ireturn (pc := 28) hC dX3_letterAt_28 h9
theorem dX3_digitAt_0 : decode cX3_digitAt 0 = .ok (.aload_n 0, 1) := by decide +kernel
theorem dX3_digitAt_1 : decode cX3_digitAt 1 = .ok (.iload_n 1, 1) := by decide +kernel
theorem dX3_digitAt_2 : decode cX3_digitAt 2 = .ok (.invokevirtual 45, 3) := by decide +kernel
theorem dX3_digitAt_5 : decode cX3_digitAt 5 = .ok (.bipush 48, 2) := by decide +kernel
theorem dX3_digitAt_7 : decode cX3_digitAt 7 = .ok (.isub, 1) := by decide +kernel
theorem dX3_digitAt_8 : decode cX3_digitAt 8 = .ok (.ireturn, 1) := by decide +kernel
def gX3_digitAt (m : Mem) (a1 : Int32) : Option (Int32) := (gX3_letterAt m a1).bind (fun x1 => some (x1 - 48))
set_option maxHeartbeats 4000000 in
set_option maxRecDepth 20000 in
theorem LX3_digitAt {n : Nat} {m : Mem} {a1 : Int32} {r : Int32} (hn : 43 ≤ n) (hg : gX3_digitAt m a1 = some r) : MX yX3_digitAt cX3_digitAt 2 (some .int) { frames := 1, cells := 0, slots := 0, locals := 21 } n [.ref 22, .int a1] m (some (.int r)) m := by
  refine MX_of (by decide) (Nat.le_of_ble_eq_true rfl) (Or.inr (Or.inl ⟨rfl, _, rfl⟩)) (fun K hC hk hL hR => ?_)
  replace hn : 43 ≤ kn K := hk.symm ▸ hn
  show RX K 0 [(0, .ref 22), (1, .int a1)] [] m
  rw [gX3_digitAt] at hg
  refine R_aload_n (pc := 0) hC 0 dX3_digitAt_0 rfl rfl ?_
  refine R_iload_n (pc := 1) hC 1 dX3_digitAt_1 rfl rfl ?_
  obtain ⟨x1, hx1, hg⟩ := bind_some hg
  refine R_callV (pc := 2) (av := [.int a1]) (rest := []) hC hR 22 (jx hn rfl) ly22 rfl mf_X3_letterAt wm_X3_45 (LX3_letterAt hn hx1) rfl rfl rfl (Nat.le_of_ble_eq_true rfl) dX3_digitAt_2 rfl ?_
  show RX K 5 [(0, .ref 22), (1, .int a1)] [.int x1] m
  refine R_bipush (pc := 5) hC dX3_digitAt_5 kb_48 ?_
  refine R_isub (pc := 7) hC dX3_digitAt_7 ?_
  have h9 := gxI (m := m) hg
  exact R_ireturn (pc := 8) hC dX3_digitAt_8 h9
theorem dX3_number_0 : decode cX3_number 0 = .ok (.iconst 0, 1) := by decide +kernel
theorem dX3_number_1 : decode cX3_number 1 = .ok (.istore_n 3, 1) := by decide +kernel
theorem dX3_number_2 : decode cX3_number 2 = .ok (.iload_n 1, 1) := by decide +kernel
theorem dX3_number_3 : decode cX3_number 3 = .ok (.istore 4, 2) := by decide +kernel
theorem dX3_number_5 : decode cX3_number 5 = .ok (.iload 4, 2) := by decide +kernel
theorem dX3_number_7 : decode cX3_number 7 = .ok (.iload_n 2, 1) := by decide +kernel
theorem dX3_number_8 : decode cX3_number 8 = .ok (.if_icmp .ge 33, 3) := by decide +kernel
theorem dX3_number_11 : decode cX3_number 11 = .ok (.aload_n 0, 1) := by decide +kernel
theorem dX3_number_12 : decode cX3_number 12 = .ok (.iload 4, 2) := by decide +kernel
theorem dX3_number_14 : decode cX3_number 14 = .ok (.invokevirtual 45, 3) := by decide +kernel
theorem dX3_number_17 : decode cX3_number 17 = .ok (.invokestatic 35, 3) := by decide +kernel
theorem dX3_number_20 : decode cX3_number 20 = .ok (.ifCond .eq 21, 3) := by decide +kernel
theorem dX3_number_23 : decode cX3_number 23 = .ok (.iload_n 3, 1) := by decide +kernel
theorem dX3_number_24 : decode cX3_number 24 = .ok (.bipush 10, 2) := by decide +kernel
theorem dX3_number_26 : decode cX3_number 26 = .ok (.imul, 1) := by decide +kernel
theorem dX3_number_27 : decode cX3_number 27 = .ok (.aload_n 0, 1) := by decide +kernel
theorem dX3_number_28 : decode cX3_number 28 = .ok (.iload 4, 2) := by decide +kernel
theorem dX3_number_30 : decode cX3_number 30 = .ok (.invokevirtual 66, 3) := by decide +kernel
theorem dX3_number_33 : decode cX3_number 33 = .ok (.iadd, 1) := by decide +kernel
theorem dX3_number_34 : decode cX3_number 34 = .ok (.istore_n 3, 1) := by decide +kernel
theorem dX3_number_35 : decode cX3_number 35 = .ok (.iinc 4 1, 3) := by decide +kernel
theorem dX3_number_38 : decode cX3_number 38 = .ok (.goto (-33), 3) := by decide +kernel
theorem dX3_number_41 : decode cX3_number 41 = .ok (.iload_n 3, 1) := by decide +kernel
theorem dX3_number_42 : decode cX3_number 42 = .ok (.ireturn, 1) := by decide +kernel
def bX3_number_5 (m : Mem) (a2 : Int32) : (Int32 × Int32) → Option ((Int32 × Int32) ⊕ (Int32 × Int32))
  | (y1, y2) => (if a2 ≤ y2 then some (.inr (y1, y2)) else (gX3_letterAt m y2).bind (fun x3 => (gX3_isDigit x3).bind (fun x4 => (if x4 = true then (gX3_digitAt m y2).bind (fun x5 => lete ((y1 * 10) + x5) (fun x6 => some (.inl (x6, y2 + 1)))) else some (.inr (y1, y2))))))
def gX3_number (F : Nat) (m : Mem) (a1 : Int32) (a2 : Int32) : Option (Int32) := (iter F (bX3_number_5 m a2) (0, a1)).bind (fun e7 => some e7.1)
set_option maxHeartbeats 4000000 in
set_option maxRecDepth 20000 in
theorem LX3_number {n : Nat} {F : Nat} {m : Mem} {a1 : Int32} {a2 : Int32} {r : Int32} (hn : 43 ≤ n) (hg : gX3_number F m a1 a2 = some r) : MX yX3_number cX3_number 5 (some .int) { frames := 2, cells := 0, slots := 0, locals := 42 } n [.ref 22, .int a1, .int a2] m (some (.int r)) m := by
  refine MX_of (by decide) (Nat.le_of_ble_eq_true rfl) (Or.inr (Or.inl ⟨rfl, _, rfl⟩)) (fun K hC hk hL hR => ?_)
  replace hn : 43 ≤ kn K := hk.symm ▸ hn
  show RX K 0 [(0, .ref 22), (1, .int a1), (2, .int a2)] [] m
  rw [gX3_number] at hg
  refine R_iconst (pc := 0) hC dX3_number_0 ki_0 ?_
  refine R_istore_n (pc := 1) hC dX3_number_1 rfl hL rfl (show _ = [(3, .int 0), (0, .ref 22), (1, .int a1), (2, .int a2)] from rfl) ?_
  refine R_iload_n (pc := 2) hC 2 dX3_number_2 rfl rfl ?_
  refine R_istore (pc := 3) hC dX3_number_3 hL rfl (show _ = [(4, .int a1), (3, .int 0), (0, .ref 22), (1, .int a1), (2, .int a2)] from rfl) ?_
  refine R_pick [2, 3, 4, 1, 0] (ls' := [(0, .ref 22), (1, .int a1), (2, .int a2), (3, .int 0), (4, .int a1)]) rfl ?_
  obtain ⟨e7, he7, hg⟩ := bind_some hg
  refine iter_walk (P := fun s : (Int32 × Int32) => RX K 5 [(0, .ref 22), (1, .int a1), (2, .int a2), (3, .int s.1), (4, .int s.2)] [] m) (Qe := fun s : (Int32 × Int32) => RX K 41 [(0, .ref 22), (1, .int a1), (2, .int a2), (3, .int s.1), (4, .int s.2)] [] m) (fun s8 o hg kL5 kE5 => ?_) _ _ _ he7 ?_
  · obtain ⟨y1, y2⟩ := s8
    rw [bX3_number_5] at hg
    show RX K 5 [(0, .ref 22), (1, .int a1), (2, .int a2), (3, .int y1), (4, .int y2)] [] m
    refine R_iload (pc := 5) hC 4 dX3_number_5 rfl ?_
    refine R_iload_n (pc := 7) hC 2 dX3_number_7 rfl rfl ?_
    refine R_icmp_ge (tgt := 41) (pc := 8) hC dX3_number_8 (by decide) (fun c => ?_) (fun c => ?_)
    · replace hg := (if_pos c).symm.trans hg
      refine R_pick [0, 1, 2, 3, 4] (ls' := [(0, .ref 22), (1, .int a1), (2, .int a2), (3, .int y1), (4, .int y2)]) rfl ?_
      have h9 := kE5 _ (Option.some.inj hg).symm
      exact h9
    · replace hg := (if_neg c).symm.trans hg
      refine R_aload_n (pc := 11) hC 0 dX3_number_11 rfl rfl ?_
      refine R_iload (pc := 12) hC 4 dX3_number_12 rfl ?_
      obtain ⟨x3, hx3, hg⟩ := bind_some hg
      refine R_callV (pc := 14) (av := [.int y2]) (rest := []) hC hR 22 (jx hn rfl) ly22 rfl mf_X3_letterAt wm_X3_45 (LX3_letterAt hn hx3) rfl rfl rfl (Nat.le_of_ble_eq_true rfl) dX3_number_14 rfl ?_
      show RX K 17 [(0, .ref 22), (1, .int a1), (2, .int a2), (3, .int y1), (4, .int y2)] [.int x3] m
      obtain ⟨x4, hx4, hg⟩ := bind_some hg
      refine R_callS (pc := 17) (av := [.int x3]) (rest := []) hC hR mf_X3_isDigit wm_X3_35 (LX3_isDigit hn hx4) rfl rfl rfl (Nat.le_of_ble_eq_true rfl) dX3_number_17 rfl ?_
      show RX K 20 [(0, .ref 22), (1, .int a1), (2, .int a2), (3, .int y1), (4, .int y2)] [.int (b2i x4)] m
      refine R_ifB_eq (tgt := 41) (pc := 20) hC dX3_number_20 (by decide) (fun c => ?_) (fun c => ?_)
      · replace hg := (if_neg c).symm.trans hg
        refine R_pick [0, 1, 2, 3, 4] (ls' := [(0, .ref 22), (1, .int a1), (2, .int a2), (3, .int y1), (4, .int y2)]) rfl ?_
        have h9 := kE5 _ (Option.some.inj hg).symm
        exact h9
      · replace hg := (if_pos c).symm.trans hg
        refine R_iload_n (pc := 23) hC 3 dX3_number_23 rfl rfl ?_
        refine R_bipush (pc := 24) hC dX3_number_24 kb_10 ?_
        refine R_imul (pc := 26) hC dX3_number_26 ?_
        refine R_aload_n (pc := 27) hC 0 dX3_number_27 rfl rfl ?_
        refine R_iload (pc := 28) hC 4 dX3_number_28 rfl ?_
        obtain ⟨x5, hx5, hg⟩ := bind_some hg
        refine R_callV (pc := 30) (av := [.int y2]) (rest := [.int (y1 * 10)]) hC hR 22 (jx hn rfl) ly22 rfl mf_X3_digitAt wm_X3_66 (LX3_digitAt hn hx5) rfl rfl rfl (Nat.le_of_ble_eq_true rfl) dX3_number_30 rfl ?_
        show RX K 33 [(0, .ref 22), (1, .int a1), (2, .int a2), (3, .int y1), (4, .int y2)] [.int x5, .int (y1 * 10)] m
        refine R_iadd (pc := 33) hC dX3_number_33 ?_
        obtain ⟨x6, hx6, hg⟩ := lete_some hg
        refine R_top hx6 ?_
        refine R_istore_n (pc := 34) hC dX3_number_34 rfl hL rfl (show _ = [(3, .int x6), (0, .ref 22), (1, .int a1), (2, .int a2), (4, .int y2)] from rfl) ?_
        refine R_iinc (pc := 35) hC 4 dX3_number_35 rfl (iv ki_1) hL rfl (show _ = [(4, .int (y2 + 1)), (3, .int x6), (0, .ref 22), (1, .int a1), (2, .int a2)] from rfl) ?_
        refine R_goto (tgt := 5) (pc := 38) hC dX3_number_38 (by decide) ?_
        refine R_pick [2, 3, 4, 1, 0] (ls' := [(0, .ref 22), (1, .int a1), (2, .int a2), (3, .int x6), (4, .int (y2 + 1))]) rfl ?_
        have h9 := kL5 _ (Option.some.inj hg).symm
        exact h9
  · show RX K 41 [(0, .ref 22), (1, .int a1), (2, .int a2), (3, .int e7.1), (4, .int e7.2)] [] m
    refine R_iload_n (pc := 41) hC 3 dX3_number_41 rfl rfl ?_
    have h9 := gxI (m := m) hg
    exact R_ireturn (pc := 42) hC dX3_number_42 h9
theorem dX3_tellRule_0 : decode cX3_tellRule 0 = .ok (.aload_n 0, 1) := by decide +kernel
theorem dX3_tellRule_1 : decode cX3_tellRule 1 = .ok (.iload_n 1, 1) := by decide +kernel
theorem dX3_tellRule_2 : decode cX3_tellRule 2 = .ok (.invokevirtual 59, 3) := by decide +kernel
theorem dX3_tellRule_5 : decode cX3_tellRule 5 = .ok (.ifCond .ne 5, 3) := by decide +kernel
theorem dX3_tellRule_8 : decode cX3_tellRule 8 = .ok (.iconst 0, 1) := by decide +kernel
theorem dX3_tellRule_9 : decode cX3_tellRule 9 = .ok (.ireturn, 1) := by decide +kernel
theorem dX3_tellRule_10 : decode cX3_tellRule 10 = .ok (.aload_n 0, 1) := by decide +kernel
theorem dX3_tellRule_11 : decode cX3_tellRule 11 = .ok (.iload_n 1, 1) := by decide +kernel
theorem dX3_tellRule_12 : decode cX3_tellRule 12 = .ok (.iload_n 2, 1) := by decide +kernel
theorem dX3_tellRule_13 : decode cX3_tellRule 13 = .ok (.invokevirtual 62, 3) := by decide +kernel
theorem dX3_tellRule_16 : decode cX3_tellRule 16 = .ok (.iconst 1, 1) := by decide +kernel
theorem dX3_tellRule_17 : decode cX3_tellRule 17 = .ok (.ireturn, 1) := by decide +kernel
def gX3_tellRule (m : Mem) (a2 : Int32) (a3 : Int32) : Option (Bool × Mem) := (gX6_hasLane m 8 a2).bind (fun x1 => (if x1 = true then (gX6_setRule m 8 a2 a3).bind (fun q2 => some (true, q2)) else some (false, m)))
set_option maxHeartbeats 4000000 in
set_option maxRecDepth 20000 in
theorem LX3_tellRule {n : Nat} {m : Mem} {a2 : Int32} {a3 : Int32} {r : Bool × Mem} (hn : 43 ≤ n) (hg : gX3_tellRule m a2 a3 = some r) : MX yX3_tellRule cX3_tellRule 3 (some .boolean) { frames := 1, cells := 0, slots := 0, locals := 23 } n [.ref 8, .int a2, .int a3] m (some (.int (b2i r.1))) r.2 := by
  refine MX_of (by decide) (Nat.le_of_ble_eq_true rfl) (Or.inr (Or.inr (Or.inr ⟨rfl, _, rfl⟩))) (fun K hC hk hL hR => ?_)
  replace hn : 43 ≤ kn K := hk.symm ▸ hn
  show RX K 0 [(0, .ref 8), (1, .int a2), (2, .int a3)] [] m
  rw [gX3_tellRule] at hg
  refine R_aload_n (pc := 0) hC 0 dX3_tellRule_0 rfl rfl ?_
  refine R_iload_n (pc := 1) hC 1 dX3_tellRule_1 rfl rfl ?_
  obtain ⟨x1, hx1, hg⟩ := bind_some hg
  refine R_callVN (pc := 2) (av := [.int a2]) (rest := []) hC hR 8 (jx hn rfl) ly8 rfl mf_X6_hasLane wm_X3_59 (LX6_hasLane hn isv8 hx1) rfl rfl rfl (Nat.le_of_ble_eq_true rfl) dX3_tellRule_2 rfl ?_
  show RX K 5 [(0, .ref 8), (1, .int a2), (2, .int a3)] [.int (b2i x1)] m
  refine R_ifB_ne (tgt := 10) (pc := 5) hC dX3_tellRule_5 (by decide) (fun c => ?_) (fun c => ?_)
  · replace hg := (if_pos c).symm.trans hg
    refine R_aload_n (pc := 10) hC 0 dX3_tellRule_10 rfl rfl ?_
    refine R_iload_n (pc := 11) hC 1 dX3_tellRule_11 rfl rfl ?_
    refine R_iload_n (pc := 12) hC 2 dX3_tellRule_12 rfl rfl ?_
    obtain ⟨q2, hq2, hg⟩ := bind_some hg
    refine R_callVN (pc := 13) (av := [.int a2, .int a3]) (rest := []) hC hR 8 (jx hn rfl) ly8 rfl mf_X6_setRule wm_X3_62 (LX6_setRule hn isv8 hq2) rfl rfl rfl (Nat.le_of_ble_eq_true rfl) dX3_tellRule_13 rfl ?_
    show RX K 16 [(0, .ref 8), (1, .int a2), (2, .int a3)] [] q2
    refine R_iconst (pc := 16) hC dX3_tellRule_16 ki_1 ?_
    have h9 := gxZM hg
    exact R_ireturn (pc := 17) hC dX3_tellRule_17 h9
  · replace hg := (if_neg c).symm.trans hg
    refine R_iconst (pc := 8) hC dX3_tellRule_8 ki_0 ?_
    have h9 := gxZM hg
    exact R_ireturn (pc := 9) hC dX3_tellRule_9 h9
theorem dX3_tellLane_0 : decode cX3_tellLane 0 = .ok (.iload_n 2, 1) := by decide +kernel
theorem dX3_tellLane_1 : decode cX3_tellLane 1 = .ok (.bipush 6, 2) := by decide +kernel
theorem dX3_tellLane_3 : decode cX3_tellLane 3 = .ok (.iadd, 1) := by decide +kernel
theorem dX3_tellLane_4 : decode cX3_tellLane 4 = .ok (.istore 4, 2) := by decide +kernel
theorem dX3_tellLane_6 : decode cX3_tellLane 6 = .ok (.aload_n 0, 1) := by decide +kernel
theorem dX3_tellLane_7 : decode cX3_tellLane 7 = .ok (.iload 4, 2) := by decide +kernel
theorem dX3_tellLane_9 : decode cX3_tellLane 9 = .ok (.invokevirtual 45, 3) := by decide +kernel
theorem dX3_tellLane_12 : decode cX3_tellLane 12 = .ok (.bipush 44, 2) := by decide +kernel
theorem dX3_tellLane_14 : decode cX3_tellLane 14 = .ok (.if_icmp .eq 6, 3) := by decide +kernel
theorem dX3_tellLane_17 : decode cX3_tellLane 17 = .ok (.iinc 4 1, 3) := by decide +kernel
theorem dX3_tellLane_20 : decode cX3_tellLane 20 = .ok (.aload_n 1, 1) := by decide +kernel
theorem dX3_tellLane_21 : decode cX3_tellLane 21 = .ok (.aload_n 0, 1) := by decide +kernel
theorem dX3_tellLane_22 : decode cX3_tellLane 22 = .ok (.iload_n 2, 1) := by decide +kernel
theorem dX3_tellLane_23 : decode cX3_tellLane 23 = .ok (.iconst 1, 1) := by decide +kernel
theorem dX3_tellLane_24 : decode cX3_tellLane 24 = .ok (.iadd, 1) := by decide +kernel
theorem dX3_tellLane_25 : decode cX3_tellLane 25 = .ok (.invokevirtual 66, 3) := by decide +kernel
theorem dX3_tellLane_28 : decode cX3_tellLane 28 = .ok (.aload_n 0, 1) := by decide +kernel
theorem dX3_tellLane_29 : decode cX3_tellLane 29 = .ok (.iload_n 2, 1) := by decide +kernel
theorem dX3_tellLane_30 : decode cX3_tellLane 30 = .ok (.iconst 2, 1) := by decide +kernel
theorem dX3_tellLane_31 : decode cX3_tellLane 31 = .ok (.iadd, 1) := by decide +kernel
theorem dX3_tellLane_32 : decode cX3_tellLane 32 = .ok (.invokevirtual 66, 3) := by decide +kernel
theorem dX3_tellLane_35 : decode cX3_tellLane 35 = .ok (.aload_n 0, 1) := by decide +kernel
theorem dX3_tellLane_36 : decode cX3_tellLane 36 = .ok (.iload_n 2, 1) := by decide +kernel
theorem dX3_tellLane_37 : decode cX3_tellLane 37 = .ok (.iconst 3, 1) := by decide +kernel
theorem dX3_tellLane_38 : decode cX3_tellLane 38 = .ok (.iadd, 1) := by decide +kernel
theorem dX3_tellLane_39 : decode cX3_tellLane 39 = .ok (.invokevirtual 66, 3) := by decide +kernel
theorem dX3_tellLane_42 : decode cX3_tellLane 42 = .ok (.aload_n 0, 1) := by decide +kernel
theorem dX3_tellLane_43 : decode cX3_tellLane 43 = .ok (.iload_n 2, 1) := by decide +kernel
theorem dX3_tellLane_44 : decode cX3_tellLane 44 = .ok (.iconst 4, 1) := by decide +kernel
theorem dX3_tellLane_45 : decode cX3_tellLane 45 = .ok (.iadd, 1) := by decide +kernel
theorem dX3_tellLane_46 : decode cX3_tellLane 46 = .ok (.invokevirtual 66, 3) := by decide +kernel
theorem dX3_tellLane_49 : decode cX3_tellLane 49 = .ok (.aload_n 0, 1) := by decide +kernel
theorem dX3_tellLane_50 : decode cX3_tellLane 50 = .ok (.iload_n 2, 1) := by decide +kernel
theorem dX3_tellLane_51 : decode cX3_tellLane 51 = .ok (.iconst 5, 1) := by decide +kernel
theorem dX3_tellLane_52 : decode cX3_tellLane 52 = .ok (.iadd, 1) := by decide +kernel
theorem dX3_tellLane_53 : decode cX3_tellLane 53 = .ok (.iload 4, 2) := by decide +kernel
theorem dX3_tellLane_55 : decode cX3_tellLane 55 = .ok (.invokevirtual 42, 3) := by decide +kernel
theorem dX3_tellLane_58 : decode cX3_tellLane 58 = .ok (.aload_n 0, 1) := by decide +kernel
theorem dX3_tellLane_59 : decode cX3_tellLane 59 = .ok (.iload 4, 2) := by decide +kernel
theorem dX3_tellLane_61 : decode cX3_tellLane 61 = .ok (.iconst 1, 1) := by decide +kernel
theorem dX3_tellLane_62 : decode cX3_tellLane 62 = .ok (.iadd, 1) := by decide +kernel
theorem dX3_tellLane_63 : decode cX3_tellLane 63 = .ok (.iload_n 3, 1) := by decide +kernel
theorem dX3_tellLane_64 : decode cX3_tellLane 64 = .ok (.invokevirtual 42, 3) := by decide +kernel
theorem dX3_tellLane_67 : decode cX3_tellLane 67 = .ok (.invokevirtual 69, 3) := by decide +kernel
theorem dX3_tellLane_70 : decode cX3_tellLane 70 = .ok (.ireturn, 1) := by decide +kernel
def gX3_tellLane (F : Nat) (m : Mem) (a2 : Int32) (a3 : Int32) : Option (Bool × Mem) := lete (a2 + 6) (fun x1 => (gX3_letterAt m x1).bind (fun x2 => (if x2 = 44 then (gX3_digitAt m (a2 + 1)).bind (fun x3 => (gX3_digitAt m (a2 + 2)).bind (fun x4 => (gX3_digitAt m (a2 + 3)).bind (fun x5 => (gX3_digitAt m (a2 + 4)).bind (fun x6 => (gX3_number F m (a2 + 5) x1).bind (fun x7 => (gX3_number F m (x1 + 1) a3).bind (fun x8 => (gX6_addLane m 8 x3 x4 x5 x6 x7 x8).bind (fun q9 => some (q9.1, q9.2)))))))) else (gX3_digitAt m (a2 + 1)).bind (fun x10 => (gX3_digitAt m (a2 + 2)).bind (fun x11 => (gX3_digitAt m (a2 + 3)).bind (fun x12 => (gX3_digitAt m (a2 + 4)).bind (fun x13 => (gX3_number F m (a2 + 5) (x1 + 1)).bind (fun x14 => (gX3_number F m ((x1 + 1) + 1) a3).bind (fun x15 => (gX6_addLane m 8 x10 x11 x12 x13 x14 x15).bind (fun q16 => some (q16.1, q16.2)))))))))))
set_option maxHeartbeats 4000000 in
set_option maxRecDepth 20000 in
theorem LX3_tellLane {n : Nat} {F : Nat} {m : Mem} {a2 : Int32} {a3 : Int32} {r : Bool × Mem} (hn : 43 ≤ n) (hg : gX3_tellLane F m a2 a3 = some r) : MX yX3_tellLane cX3_tellLane 5 (some .boolean) { frames := 3, cells := 0, slots := 0, locals := 68 } n [.ref 22, .ref 8, .int a2, .int a3] m (some (.int (b2i r.1))) r.2 := by
  refine MX_of (by decide) (Nat.le_of_ble_eq_true rfl) (Or.inr (Or.inr (Or.inr ⟨rfl, _, rfl⟩))) (fun K hC hk hL hR => ?_)
  replace hn : 43 ≤ kn K := hk.symm ▸ hn
  show RX K 0 [(0, .ref 22), (1, .ref 8), (2, .int a2), (3, .int a3)] [] m
  rw [gX3_tellLane] at hg
  refine R_iload_n (pc := 0) hC 2 dX3_tellLane_0 rfl rfl ?_
  refine R_bipush (pc := 1) hC dX3_tellLane_1 kb_6 ?_
  refine R_iadd (pc := 3) hC dX3_tellLane_3 ?_
  obtain ⟨x1, hx1, hg⟩ := lete_some hg
  refine R_top hx1 ?_
  refine R_istore (pc := 4) hC dX3_tellLane_4 hL rfl (show _ = [(4, .int x1), (0, .ref 22), (1, .ref 8), (2, .int a2), (3, .int a3)] from rfl) ?_
  refine R_aload_n (pc := 6) hC 1 dX3_tellLane_6 rfl rfl ?_
  refine R_iload (pc := 7) hC 0 dX3_tellLane_7 rfl ?_
  obtain ⟨x2, hx2, hg⟩ := bind_some hg
  refine R_callV (pc := 9) (av := [.int x1]) (rest := []) hC hR 22 (jx hn rfl) ly22 rfl mf_X3_letterAt wm_X3_45 (LX3_letterAt hn hx2) rfl rfl rfl (Nat.le_of_ble_eq_true rfl) dX3_tellLane_9 rfl ?_
  show RX K 12 [(4, .int x1), (0, .ref 22), (1, .ref 8), (2, .int a2), (3, .int a3)] [.int x2] m
  refine R_bipush (pc := 12) hC dX3_tellLane_12 kb_44 ?_
  refine R_icmp_eq (tgt := 20) (pc := 14) hC dX3_tellLane_14 (by decide) (fun c => ?_) (fun c => ?_)
  · replace hg := (if_pos c).symm.trans hg
    refine R_aload_n (pc := 20) hC 2 dX3_tellLane_20 rfl rfl ?_
    refine R_aload_n (pc := 21) hC 1 dX3_tellLane_21 rfl rfl ?_
    refine R_iload_n (pc := 22) hC 3 dX3_tellLane_22 rfl rfl ?_
    refine R_iconst (pc := 23) hC dX3_tellLane_23 ki_1 ?_
    refine R_iadd (pc := 24) hC dX3_tellLane_24 ?_
    obtain ⟨x3, hx3, hg⟩ := bind_some hg
    refine R_callV (pc := 25) (av := [.int (a2 + 1)]) (rest := [.ref 8]) hC hR 22 (jx hn rfl) ly22 rfl mf_X3_digitAt wm_X3_66 (LX3_digitAt hn hx3) rfl rfl rfl (Nat.le_of_ble_eq_true rfl) dX3_tellLane_25 rfl ?_
    show RX K 28 [(4, .int x1), (0, .ref 22), (1, .ref 8), (2, .int a2), (3, .int a3)] [.int x3, .ref 8] m
    refine R_aload_n (pc := 28) hC 1 dX3_tellLane_28 rfl rfl ?_
    refine R_iload_n (pc := 29) hC 3 dX3_tellLane_29 rfl rfl ?_
    refine R_iconst (pc := 30) hC dX3_tellLane_30 ki_2 ?_
    refine R_iadd (pc := 31) hC dX3_tellLane_31 ?_
    obtain ⟨x4, hx4, hg⟩ := bind_some hg
    refine R_callV (pc := 32) (av := [.int (a2 + 2)]) (rest := [.int x3, .ref 8]) hC hR 22 (jx hn rfl) ly22 rfl mf_X3_digitAt wm_X3_66 (LX3_digitAt hn hx4) rfl rfl rfl (Nat.le_of_ble_eq_true rfl) dX3_tellLane_32 rfl ?_
    show RX K 35 [(4, .int x1), (0, .ref 22), (1, .ref 8), (2, .int a2), (3, .int a3)] [.int x4, .int x3, .ref 8] m
    refine R_aload_n (pc := 35) hC 1 dX3_tellLane_35 rfl rfl ?_
    refine R_iload_n (pc := 36) hC 3 dX3_tellLane_36 rfl rfl ?_
    refine R_iconst (pc := 37) hC dX3_tellLane_37 ki_3 ?_
    refine R_iadd (pc := 38) hC dX3_tellLane_38 ?_
    obtain ⟨x5, hx5, hg⟩ := bind_some hg
    refine R_callV (pc := 39) (av := [.int (a2 + 3)]) (rest := [.int x4, .int x3, .ref 8]) hC hR 22 (jx hn rfl) ly22 rfl mf_X3_digitAt wm_X3_66 (LX3_digitAt hn hx5) rfl rfl rfl (Nat.le_of_ble_eq_true rfl) dX3_tellLane_39 rfl ?_
    show RX K 42 [(4, .int x1), (0, .ref 22), (1, .ref 8), (2, .int a2), (3, .int a3)] [.int x5, .int x4, .int x3, .ref 8] m
    refine R_aload_n (pc := 42) hC 1 dX3_tellLane_42 rfl rfl ?_
    refine R_iload_n (pc := 43) hC 3 dX3_tellLane_43 rfl rfl ?_
    refine R_iconst (pc := 44) hC dX3_tellLane_44 ki_4 ?_
    refine R_iadd (pc := 45) hC dX3_tellLane_45 ?_
    obtain ⟨x6, hx6, hg⟩ := bind_some hg
    refine R_callV (pc := 46) (av := [.int (a2 + 4)]) (rest := [.int x5, .int x4, .int x3, .ref 8]) hC hR 22 (jx hn rfl) ly22 rfl mf_X3_digitAt wm_X3_66 (LX3_digitAt hn hx6) rfl rfl rfl (Nat.le_of_ble_eq_true rfl) dX3_tellLane_46 rfl ?_
    show RX K 49 [(4, .int x1), (0, .ref 22), (1, .ref 8), (2, .int a2), (3, .int a3)] [.int x6, .int x5, .int x4, .int x3, .ref 8] m
    refine R_aload_n (pc := 49) hC 1 dX3_tellLane_49 rfl rfl ?_
    refine R_iload_n (pc := 50) hC 3 dX3_tellLane_50 rfl rfl ?_
    refine R_iconst (pc := 51) hC dX3_tellLane_51 ki_5 ?_
    refine R_iadd (pc := 52) hC dX3_tellLane_52 ?_
    refine R_iload (pc := 53) hC 0 dX3_tellLane_53 rfl ?_
    obtain ⟨x7, hx7, hg⟩ := bind_some hg
    refine R_callV (pc := 55) (av := [.int (a2 + 5), .int x1]) (rest := [.int x6, .int x5, .int x4, .int x3, .ref 8]) hC hR 22 (jx hn rfl) ly22 rfl mf_X3_number wm_X3_42 (LX3_number hn hx7) rfl rfl rfl (Nat.le_of_ble_eq_true rfl) dX3_tellLane_55 rfl ?_
    show RX K 58 [(4, .int x1), (0, .ref 22), (1, .ref 8), (2, .int a2), (3, .int a3)] [.int x7, .int x6, .int x5, .int x4, .int x3, .ref 8] m
    refine R_aload_n (pc := 58) hC 1 dX3_tellLane_58 rfl rfl ?_
    refine R_iload (pc := 59) hC 0 dX3_tellLane_59 rfl ?_
    refine R_iconst (pc := 61) hC dX3_tellLane_61 ki_1 ?_
    refine R_iadd (pc := 62) hC dX3_tellLane_62 ?_
    refine R_iload_n (pc := 63) hC 4 dX3_tellLane_63 rfl rfl ?_
    obtain ⟨x8, hx8, hg⟩ := bind_some hg
    refine R_callV (pc := 64) (av := [.int (x1 + 1), .int a3]) (rest := [.int x7, .int x6, .int x5, .int x4, .int x3, .ref 8]) hC hR 22 (jx hn rfl) ly22 rfl mf_X3_number wm_X3_42 (LX3_number hn hx8) rfl rfl rfl (Nat.le_of_ble_eq_true rfl) dX3_tellLane_64 rfl ?_
    show RX K 67 [(4, .int x1), (0, .ref 22), (1, .ref 8), (2, .int a2), (3, .int a3)] [.int x8, .int x7, .int x6, .int x5, .int x4, .int x3, .ref 8] m
    obtain ⟨q9, hq9, hg⟩ := bind_some hg
    refine R_callVN (pc := 67) (av := [.int x3, .int x4, .int x5, .int x6, .int x7, .int x8]) (rest := []) hC hR 8 (jx hn rfl) ly8 rfl mf_X6_addLane wm_X3_69 (LX6_addLane hn isv8 hq9) rfl rfl rfl (Nat.le_of_ble_eq_true rfl) dX3_tellLane_67 rfl ?_
    show RX K 70 [(4, .int x1), (0, .ref 22), (1, .ref 8), (2, .int a2), (3, .int a3)] [.int (b2i q9.1)] q9.2
    have h9 := gxZM hg
    exact R_ireturn (pc := 70) hC dX3_tellLane_70 h9
  · replace hg := (if_neg c).symm.trans hg
    refine R_iinc (pc := 17) hC 0 dX3_tellLane_17 rfl (iv ki_1) hL rfl (show _ = [(4, .int (x1 + 1)), (0, .ref 22), (1, .ref 8), (2, .int a2), (3, .int a3)] from rfl) ?_
    refine R_aload_n (pc := 20) hC 2 dX3_tellLane_20 rfl rfl ?_
    refine R_aload_n (pc := 21) hC 1 dX3_tellLane_21 rfl rfl ?_
    refine R_iload_n (pc := 22) hC 3 dX3_tellLane_22 rfl rfl ?_
    refine R_iconst (pc := 23) hC dX3_tellLane_23 ki_1 ?_
    refine R_iadd (pc := 24) hC dX3_tellLane_24 ?_
    obtain ⟨x10, hx10, hg⟩ := bind_some hg
    refine R_callV (pc := 25) (av := [.int (a2 + 1)]) (rest := [.ref 8]) hC hR 22 (jx hn rfl) ly22 rfl mf_X3_digitAt wm_X3_66 (LX3_digitAt hn hx10) rfl rfl rfl (Nat.le_of_ble_eq_true rfl) dX3_tellLane_25 rfl ?_
    show RX K 28 [(4, .int (x1 + 1)), (0, .ref 22), (1, .ref 8), (2, .int a2), (3, .int a3)] [.int x10, .ref 8] m
    refine R_aload_n (pc := 28) hC 1 dX3_tellLane_28 rfl rfl ?_
    refine R_iload_n (pc := 29) hC 3 dX3_tellLane_29 rfl rfl ?_
    refine R_iconst (pc := 30) hC dX3_tellLane_30 ki_2 ?_
    refine R_iadd (pc := 31) hC dX3_tellLane_31 ?_
    obtain ⟨x11, hx11, hg⟩ := bind_some hg
    refine R_callV (pc := 32) (av := [.int (a2 + 2)]) (rest := [.int x10, .ref 8]) hC hR 22 (jx hn rfl) ly22 rfl mf_X3_digitAt wm_X3_66 (LX3_digitAt hn hx11) rfl rfl rfl (Nat.le_of_ble_eq_true rfl) dX3_tellLane_32 rfl ?_
    show RX K 35 [(4, .int (x1 + 1)), (0, .ref 22), (1, .ref 8), (2, .int a2), (3, .int a3)] [.int x11, .int x10, .ref 8] m
    refine R_aload_n (pc := 35) hC 1 dX3_tellLane_35 rfl rfl ?_
    refine R_iload_n (pc := 36) hC 3 dX3_tellLane_36 rfl rfl ?_
    refine R_iconst (pc := 37) hC dX3_tellLane_37 ki_3 ?_
    refine R_iadd (pc := 38) hC dX3_tellLane_38 ?_
    obtain ⟨x12, hx12, hg⟩ := bind_some hg
    refine R_callV (pc := 39) (av := [.int (a2 + 3)]) (rest := [.int x11, .int x10, .ref 8]) hC hR 22 (jx hn rfl) ly22 rfl mf_X3_digitAt wm_X3_66 (LX3_digitAt hn hx12) rfl rfl rfl (Nat.le_of_ble_eq_true rfl) dX3_tellLane_39 rfl ?_
    show RX K 42 [(4, .int (x1 + 1)), (0, .ref 22), (1, .ref 8), (2, .int a2), (3, .int a3)] [.int x12, .int x11, .int x10, .ref 8] m
    refine R_aload_n (pc := 42) hC 1 dX3_tellLane_42 rfl rfl ?_
    refine R_iload_n (pc := 43) hC 3 dX3_tellLane_43 rfl rfl ?_
    refine R_iconst (pc := 44) hC dX3_tellLane_44 ki_4 ?_
    refine R_iadd (pc := 45) hC dX3_tellLane_45 ?_
    obtain ⟨x13, hx13, hg⟩ := bind_some hg
    refine R_callV (pc := 46) (av := [.int (a2 + 4)]) (rest := [.int x12, .int x11, .int x10, .ref 8]) hC hR 22 (jx hn rfl) ly22 rfl mf_X3_digitAt wm_X3_66 (LX3_digitAt hn hx13) rfl rfl rfl (Nat.le_of_ble_eq_true rfl) dX3_tellLane_46 rfl ?_
    show RX K 49 [(4, .int (x1 + 1)), (0, .ref 22), (1, .ref 8), (2, .int a2), (3, .int a3)] [.int x13, .int x12, .int x11, .int x10, .ref 8] m
    refine R_aload_n (pc := 49) hC 1 dX3_tellLane_49 rfl rfl ?_
    refine R_iload_n (pc := 50) hC 3 dX3_tellLane_50 rfl rfl ?_
    refine R_iconst (pc := 51) hC dX3_tellLane_51 ki_5 ?_
    refine R_iadd (pc := 52) hC dX3_tellLane_52 ?_
    refine R_iload (pc := 53) hC 0 dX3_tellLane_53 rfl ?_
    obtain ⟨x14, hx14, hg⟩ := bind_some hg
    refine R_callV (pc := 55) (av := [.int (a2 + 5), .int (x1 + 1)]) (rest := [.int x13, .int x12, .int x11, .int x10, .ref 8]) hC hR 22 (jx hn rfl) ly22 rfl mf_X3_number wm_X3_42 (LX3_number hn hx14) rfl rfl rfl (Nat.le_of_ble_eq_true rfl) dX3_tellLane_55 rfl ?_
    show RX K 58 [(4, .int (x1 + 1)), (0, .ref 22), (1, .ref 8), (2, .int a2), (3, .int a3)] [.int x14, .int x13, .int x12, .int x11, .int x10, .ref 8] m
    refine R_aload_n (pc := 58) hC 1 dX3_tellLane_58 rfl rfl ?_
    refine R_iload (pc := 59) hC 0 dX3_tellLane_59 rfl ?_
    refine R_iconst (pc := 61) hC dX3_tellLane_61 ki_1 ?_
    refine R_iadd (pc := 62) hC dX3_tellLane_62 ?_
    refine R_iload_n (pc := 63) hC 4 dX3_tellLane_63 rfl rfl ?_
    obtain ⟨x15, hx15, hg⟩ := bind_some hg
    refine R_callV (pc := 64) (av := [.int ((x1 + 1) + 1), .int a3]) (rest := [.int x14, .int x13, .int x12, .int x11, .int x10, .ref 8]) hC hR 22 (jx hn rfl) ly22 rfl mf_X3_number wm_X3_42 (LX3_number hn hx15) rfl rfl rfl (Nat.le_of_ble_eq_true rfl) dX3_tellLane_64 rfl ?_
    show RX K 67 [(4, .int (x1 + 1)), (0, .ref 22), (1, .ref 8), (2, .int a2), (3, .int a3)] [.int x15, .int x14, .int x13, .int x12, .int x11, .int x10, .ref 8] m
    obtain ⟨q16, hq16, hg⟩ := bind_some hg
    refine R_callVN (pc := 67) (av := [.int x10, .int x11, .int x12, .int x13, .int x14, .int x15]) (rest := []) hC hR 8 (jx hn rfl) ly8 rfl mf_X6_addLane wm_X3_69 (LX6_addLane hn isv8 hq16) rfl rfl rfl (Nat.le_of_ble_eq_true rfl) dX3_tellLane_67 rfl ?_
    show RX K 70 [(4, .int (x1 + 1)), (0, .ref 22), (1, .ref 8), (2, .int a2), (3, .int a3)] [.int (b2i q16.1)] q16.2
    have h9 := gxZM hg
    exact R_ireturn (pc := 70) hC dX3_tellLane_70 h9
theorem dX3_tellOne_0 : decode cX3_tellOne 0 = .ok (.aload_n 0, 1) := by decide +kernel
theorem dX3_tellOne_1 : decode cX3_tellOne 1 = .ok (.iload_n 2, 1) := by decide +kernel
theorem dX3_tellOne_2 : decode cX3_tellOne 2 = .ok (.iconst 1, 1) := by decide +kernel
theorem dX3_tellOne_3 : decode cX3_tellOne 3 = .ok (.iadd, 1) := by decide +kernel
theorem dX3_tellOne_4 : decode cX3_tellOne 4 = .ok (.iload_n 3, 1) := by decide +kernel
theorem dX3_tellOne_5 : decode cX3_tellOne 5 = .ok (.invokevirtual 42, 3) := by decide +kernel
theorem dX3_tellOne_8 : decode cX3_tellOne 8 = .ok (.istore 4, 2) := by decide +kernel
theorem dX3_tellOne_10 : decode cX3_tellOne 10 = .ok (.aload_n 0, 1) := by decide +kernel
theorem dX3_tellOne_11 : decode cX3_tellOne 11 = .ok (.iload_n 2, 1) := by decide +kernel
theorem dX3_tellOne_12 : decode cX3_tellOne 12 = .ok (.invokevirtual 45, 3) := by decide +kernel
theorem dX3_tellOne_15 : decode cX3_tellOne 15 = .ok (.lookupswitch 72 #[(102, 64), (104, 41), (107, 48), (120, 56)], 41) := by decide +kernel
theorem dX3_tellOne_56 : decode cX3_tellOne 56 = .ok (.aload_n 1, 1) := by decide +kernel
theorem dX3_tellOne_57 : decode cX3_tellOne 57 = .ok (.iload 4, 2) := by decide +kernel
theorem dX3_tellOne_59 : decode cX3_tellOne 59 = .ok (.invokevirtual 48, 3) := by decide +kernel
theorem dX3_tellOne_62 : decode cX3_tellOne 62 = .ok (.ireturn, 1) := by decide +kernel
theorem dX3_tellOne_63 : decode cX3_tellOne 63 = .ok (.aload_n 1, 1) := by decide +kernel
theorem dX3_tellOne_64 : decode cX3_tellOne 64 = .ok (.iload 4, 2) := by decide +kernel
theorem dX3_tellOne_66 : decode cX3_tellOne 66 = .ok (.iconst 1, 1) := by decide +kernel
theorem dX3_tellOne_67 : decode cX3_tellOne 67 = .ok (.invokestatic 53, 3) := by decide +kernel
theorem dX3_tellOne_70 : decode cX3_tellOne 70 = .ok (.ireturn, 1) := by decide +kernel
theorem dX3_tellOne_71 : decode cX3_tellOne 71 = .ok (.aload_n 1, 1) := by decide +kernel
theorem dX3_tellOne_72 : decode cX3_tellOne 72 = .ok (.iload 4, 2) := by decide +kernel
theorem dX3_tellOne_74 : decode cX3_tellOne 74 = .ok (.iconst 2, 1) := by decide +kernel
theorem dX3_tellOne_75 : decode cX3_tellOne 75 = .ok (.invokestatic 53, 3) := by decide +kernel
theorem dX3_tellOne_78 : decode cX3_tellOne 78 = .ok (.ireturn, 1) := by decide +kernel
theorem dX3_tellOne_79 : decode cX3_tellOne 79 = .ok (.aload_n 1, 1) := by decide +kernel
theorem dX3_tellOne_80 : decode cX3_tellOne 80 = .ok (.iload 4, 2) := by decide +kernel
theorem dX3_tellOne_82 : decode cX3_tellOne 82 = .ok (.iconst 0, 1) := by decide +kernel
theorem dX3_tellOne_83 : decode cX3_tellOne 83 = .ok (.invokestatic 53, 3) := by decide +kernel
theorem dX3_tellOne_86 : decode cX3_tellOne 86 = .ok (.ireturn, 1) := by decide +kernel
theorem dX3_tellOne_87 : decode cX3_tellOne 87 = .ok (.aload_n 0, 1) := by decide +kernel
theorem dX3_tellOne_88 : decode cX3_tellOne 88 = .ok (.aload_n 1, 1) := by decide +kernel
theorem dX3_tellOne_89 : decode cX3_tellOne 89 = .ok (.iload_n 2, 1) := by decide +kernel
theorem dX3_tellOne_90 : decode cX3_tellOne 90 = .ok (.iload_n 3, 1) := by decide +kernel
theorem dX3_tellOne_91 : decode cX3_tellOne 91 = .ok (.invokevirtual 56, 3) := by decide +kernel
theorem dX3_tellOne_94 : decode cX3_tellOne 94 = .ok (.ireturn, 1) := by decide +kernel
def gX3_tellOne (F : Nat) (m : Mem) (a2 : Int32) (a3 : Int32) : Option (Bool × Mem) := (gX3_number F m (a2 + 1) a3).bind (fun x1 => (gX3_letterAt m a2).bind (fun x2 => (if x2 = 102 then (gX3_tellRule m x1 0).bind (fun q4 => some (q4.1, q4.2)) else (if x2 = 104 then (gX6_setHouses F m 8 x1).bind (fun q6 => some (q6.1, q6.2)) else (if x2 = 107 then (gX3_tellRule m x1 1).bind (fun q8 => some (q8.1, q8.2)) else (if x2 = 120 then (gX3_tellRule m x1 2).bind (fun q10 => some (q10.1, q10.2)) else (gX3_tellLane F m a2 a3).bind (fun q11 => some (q11.1, q11.2))))))))
set_option maxHeartbeats 4000000 in
set_option maxRecDepth 20000 in
theorem LX3_tellOne {n : Nat} {F : Nat} {m : Mem} {a2 : Int32} {a3 : Int32} {r : Bool × Mem} (hn : 43 ≤ n) (hg : gX3_tellOne F m a2 a3 = some r) : MX yX3_tellOne cX3_tellOne 5 (some .boolean) { frames := 4, cells := 0, slots := 0, locals := 92 } n [.ref 22, .ref 8, .int a2, .int a3] m (some (.int (b2i r.1))) r.2 := by
  refine MX_of (by decide) (Nat.le_of_ble_eq_true rfl) (Or.inr (Or.inr (Or.inr ⟨rfl, _, rfl⟩))) (fun K hC hk hL hR => ?_)
  replace hn : 43 ≤ kn K := hk.symm ▸ hn
  show RX K 0 [(0, .ref 22), (1, .ref 8), (2, .int a2), (3, .int a3)] [] m
  rw [gX3_tellOne] at hg
  refine R_aload_n (pc := 0) hC 0 dX3_tellOne_0 rfl rfl ?_
  refine R_iload_n (pc := 1) hC 2 dX3_tellOne_1 rfl rfl ?_
  refine R_iconst (pc := 2) hC dX3_tellOne_2 ki_1 ?_
  refine R_iadd (pc := 3) hC dX3_tellOne_3 ?_
  refine R_iload_n (pc := 4) hC 3 dX3_tellOne_4 rfl rfl ?_
  obtain ⟨x1, hx1, hg⟩ := bind_some hg
  refine R_callV (pc := 5) (av := [.int (a2 + 1), .int a3]) (rest := []) hC hR 22 (jx hn rfl) ly22 rfl mf_X3_number wm_X3_42 (LX3_number hn hx1) rfl rfl rfl (Nat.le_of_ble_eq_true rfl) dX3_tellOne_5 rfl ?_
  show RX K 8 [(0, .ref 22), (1, .ref 8), (2, .int a2), (3, .int a3)] [.int x1] m
  refine R_istore (pc := 8) hC dX3_tellOne_8 hL rfl (show _ = [(4, .int x1), (0, .ref 22), (1, .ref 8), (2, .int a2), (3, .int a3)] from rfl) ?_
  refine R_aload_n (pc := 10) hC 1 dX3_tellOne_10 rfl rfl ?_
  refine R_iload_n (pc := 11) hC 3 dX3_tellOne_11 rfl rfl ?_
  obtain ⟨x2, hx2, hg⟩ := bind_some hg
  refine R_callV (pc := 12) (av := [.int a2]) (rest := []) hC hR 22 (jx hn rfl) ly22 rfl mf_X3_letterAt wm_X3_45 (LX3_letterAt hn hx2) rfl rfl rfl (Nat.le_of_ble_eq_true rfl) dX3_tellOne_12 rfl ?_
  show RX K 15 [(4, .int x1), (0, .ref 22), (1, .ref 8), (2, .int a2), (3, .int a3)] [.int x2] m
  by_cases c3 : x2 = 102
  · replace hg := (if_pos c3).symm.trans hg
    refine R_top c3 ?_
    refine R_lookup (tgt := 79) (x := 102) (pc := 15) hC dX3_tellOne_15 (by decide) (by rfl) (by decide) ?_
    refine R_aload_n (pc := 79) hC 2 dX3_tellOne_79 rfl rfl ?_
    refine R_iload (pc := 80) hC 0 dX3_tellOne_80 rfl ?_
    refine R_iconst (pc := 82) hC dX3_tellOne_82 ki_0 ?_
    obtain ⟨q4, hq4, hg⟩ := bind_some hg
    refine R_callS (pc := 83) (av := [.ref 8, .int x1, .int 0]) (rest := []) hC hR mf_X3_tellRule wm_X3_53 (LX3_tellRule hn hq4) rfl rfl rfl (Nat.le_of_ble_eq_true rfl) dX3_tellOne_83 rfl ?_
    show RX K 86 [(4, .int x1), (0, .ref 22), (1, .ref 8), (2, .int a2), (3, .int a3)] [.int (b2i q4.1)] q4.2
    have h9 := gxZM hg
    exact R_ireturn (pc := 86) hC dX3_tellOne_86 h9
  replace hg := (if_neg c3).symm.trans hg
  by_cases c5 : x2 = 104
  · replace hg := (if_pos c5).symm.trans hg
    refine R_top c5 ?_
    refine R_lookup (tgt := 56) (x := 104) (pc := 15) hC dX3_tellOne_15 (by decide) (by rfl) (by decide) ?_
    refine R_aload_n (pc := 56) hC 2 dX3_tellOne_56 rfl rfl ?_
    refine R_iload (pc := 57) hC 0 dX3_tellOne_57 rfl ?_
    obtain ⟨q6, hq6, hg⟩ := bind_some hg
    refine R_callVN (pc := 59) (av := [.int x1]) (rest := []) hC hR 8 (jx hn rfl) ly8 rfl mf_X6_setHouses wm_X3_48 (LX6_setHouses hn isv8 hq6) rfl rfl rfl (Nat.le_of_ble_eq_true rfl) dX3_tellOne_59 rfl ?_
    show RX K 62 [(4, .int x1), (0, .ref 22), (1, .ref 8), (2, .int a2), (3, .int a3)] [.int (b2i q6.1)] q6.2
    have h9 := gxZM hg
    exact R_ireturn (pc := 62) hC dX3_tellOne_62 h9
  replace hg := (if_neg c5).symm.trans hg
  by_cases c7 : x2 = 107
  · replace hg := (if_pos c7).symm.trans hg
    refine R_top c7 ?_
    refine R_lookup (tgt := 63) (x := 107) (pc := 15) hC dX3_tellOne_15 (by decide) (by rfl) (by decide) ?_
    refine R_aload_n (pc := 63) hC 2 dX3_tellOne_63 rfl rfl ?_
    refine R_iload (pc := 64) hC 0 dX3_tellOne_64 rfl ?_
    refine R_iconst (pc := 66) hC dX3_tellOne_66 ki_1 ?_
    obtain ⟨q8, hq8, hg⟩ := bind_some hg
    refine R_callS (pc := 67) (av := [.ref 8, .int x1, .int 1]) (rest := []) hC hR mf_X3_tellRule wm_X3_53 (LX3_tellRule hn hq8) rfl rfl rfl (Nat.le_of_ble_eq_true rfl) dX3_tellOne_67 rfl ?_
    show RX K 70 [(4, .int x1), (0, .ref 22), (1, .ref 8), (2, .int a2), (3, .int a3)] [.int (b2i q8.1)] q8.2
    have h9 := gxZM hg
    exact R_ireturn (pc := 70) hC dX3_tellOne_70 h9
  replace hg := (if_neg c7).symm.trans hg
  by_cases c9 : x2 = 120
  · replace hg := (if_pos c9).symm.trans hg
    refine R_top c9 ?_
    refine R_lookup (tgt := 71) (x := 120) (pc := 15) hC dX3_tellOne_15 (by decide) (by rfl) (by decide) ?_
    refine R_aload_n (pc := 71) hC 2 dX3_tellOne_71 rfl rfl ?_
    refine R_iload (pc := 72) hC 0 dX3_tellOne_72 rfl ?_
    refine R_iconst (pc := 74) hC dX3_tellOne_74 ki_2 ?_
    obtain ⟨q10, hq10, hg⟩ := bind_some hg
    refine R_callS (pc := 75) (av := [.ref 8, .int x1, .int 2]) (rest := []) hC hR mf_X3_tellRule wm_X3_53 (LX3_tellRule hn hq10) rfl rfl rfl (Nat.le_of_ble_eq_true rfl) dX3_tellOne_75 rfl ?_
    show RX K 78 [(4, .int x1), (0, .ref 22), (1, .ref 8), (2, .int a2), (3, .int a3)] [.int (b2i q10.1)] q10.2
    have h9 := gxZM hg
    exact R_ireturn (pc := 78) hC dX3_tellOne_78 h9
  replace hg := (if_neg c9).symm.trans hg
  refine R_lookup (tgt := 87) (pc := 15) hC dX3_tellOne_15 (by decide) (lk_out _ (fun p hp => ?_)) (by decide) ?_
  · simp only [List.mem_cons, List.mem_nil_iff, or_false] at hp
    rcases hp with rfl | rfl | rfl | rfl
    · exact i32_ne c3 (by decide)
    · exact i32_ne c5 (by decide)
    · exact i32_ne c7 (by decide)
    · exact i32_ne c9 (by decide)
  refine R_aload_n (pc := 87) hC 1 dX3_tellOne_87 rfl rfl ?_
  refine R_aload_n (pc := 88) hC 2 dX3_tellOne_88 rfl rfl ?_
  refine R_iload_n (pc := 89) hC 3 dX3_tellOne_89 rfl rfl ?_
  refine R_iload_n (pc := 90) hC 4 dX3_tellOne_90 rfl rfl ?_
  obtain ⟨q11, hq11, hg⟩ := bind_some hg
  refine R_callV (pc := 91) (av := [.ref 8, .int a2, .int a3]) (rest := []) hC hR 22 (jx hn rfl) ly22 rfl mf_X3_tellLane wm_X3_56 (LX3_tellLane hn hq11) rfl rfl rfl (Nat.le_of_ble_eq_true rfl) dX3_tellOne_91 rfl ?_
  show RX K 94 [(4, .int x1), (0, .ref 22), (1, .ref 8), (2, .int a2), (3, .int a3)] [.int (b2i q11.1)] q11.2
  have h9 := gxZM hg
  exact R_ireturn (pc := 94) hC dX3_tellOne_94 h9
theorem dX3_tellTo_0 : decode cX3_tellTo 0 = .ok (.aload_n 0, 1) := by decide +kernel
theorem dX3_tellTo_1 : decode cX3_tellTo 1 = .ok (.invokevirtual 19, 3) := by decide +kernel
theorem dX3_tellTo_4 : decode cX3_tellTo 4 = .ok (.istore_n 2, 1) := by decide +kernel
theorem dX3_tellTo_5 : decode cX3_tellTo 5 = .ok (.iload_n 2, 1) := by decide +kernel
theorem dX3_tellTo_6 : decode cX3_tellTo 6 = .ok (.ifCond .lt 9, 3) := by decide +kernel
theorem dX3_tellTo_9 : decode cX3_tellTo 9 = .ok (.sipush (-1000), 3) := by decide +kernel
theorem dX3_tellTo_12 : decode cX3_tellTo 12 = .ok (.iload_n 2, 1) := by decide +kernel
theorem dX3_tellTo_13 : decode cX3_tellTo 13 = .ok (.isub, 1) := by decide +kernel
theorem dX3_tellTo_14 : decode cX3_tellTo 14 = .ok (.ireturn, 1) := by decide +kernel
theorem dX3_tellTo_15 : decode cX3_tellTo 15 = .ok (.iconst 0, 1) := by decide +kernel
theorem dX3_tellTo_16 : decode cX3_tellTo 16 = .ok (.istore_n 3, 1) := by decide +kernel
theorem dX3_tellTo_17 : decode cX3_tellTo 17 = .ok (.iconst 0, 1) := by decide +kernel
theorem dX3_tellTo_18 : decode cX3_tellTo 18 = .ok (.istore 4, 2) := by decide +kernel
theorem dX3_tellTo_20 : decode cX3_tellTo 20 = .ok (.iconst 0, 1) := by decide +kernel
theorem dX3_tellTo_21 : decode cX3_tellTo 21 = .ok (.istore 5, 2) := by decide +kernel
theorem dX3_tellTo_23 : decode cX3_tellTo 23 = .ok (.iload 5, 2) := by decide +kernel
theorem dX3_tellTo_25 : decode cX3_tellTo 25 = .ok (.aload_n 0, 1) := by decide +kernel
theorem dX3_tellTo_26 : decode cX3_tellTo 26 = .ok (.getfield 15, 3) := by decide +kernel
theorem dX3_tellTo_29 : decode cX3_tellTo 29 = .ok (.if_icmp .ge 56, 3) := by decide +kernel
theorem dX3_tellTo_32 : decode cX3_tellTo 32 = .ok (.iload 5, 2) := by decide +kernel
theorem dX3_tellTo_34 : decode cX3_tellTo 34 = .ok (.bipush 72, 2) := by decide +kernel
theorem dX3_tellTo_36 : decode cX3_tellTo 36 = .ok (.if_icmp .ge 49, 3) := by decide +kernel
theorem dX3_tellTo_39 : decode cX3_tellTo 39 = .ok (.aload_n 0, 1) := by decide +kernel
theorem dX3_tellTo_40 : decode cX3_tellTo 40 = .ok (.getfield 9, 3) := by decide +kernel
theorem dX3_tellTo_43 : decode cX3_tellTo 43 = .ok (.iload 5, 2) := by decide +kernel
theorem dX3_tellTo_45 : decode cX3_tellTo 45 = .ok (.iaload, 1) := by decide +kernel
theorem dX3_tellTo_46 : decode cX3_tellTo 46 = .ok (.bipush 59, 2) := by decide +kernel
theorem dX3_tellTo_48 : decode cX3_tellTo 48 = .ok (.if_icmp .ne 31, 3) := by decide +kernel
theorem dX3_tellTo_51 : decode cX3_tellTo 51 = .ok (.aload_n 0, 1) := by decide +kernel
theorem dX3_tellTo_52 : decode cX3_tellTo 52 = .ok (.aload_n 1, 1) := by decide +kernel
theorem dX3_tellTo_53 : decode cX3_tellTo 53 = .ok (.iload 4, 2) := by decide +kernel
theorem dX3_tellTo_55 : decode cX3_tellTo 55 = .ok (.iload 5, 2) := by decide +kernel
theorem dX3_tellTo_57 : decode cX3_tellTo 57 = .ok (.invokevirtual 23, 3) := by decide +kernel
theorem dX3_tellTo_60 : decode cX3_tellTo 60 = .ok (.ifCond .ne 10, 3) := by decide +kernel
theorem dX3_tellTo_63 : decode cX3_tellTo 63 = .ok (.sipush (-2000), 3) := by decide +kernel
theorem dX3_tellTo_66 : decode cX3_tellTo 66 = .ok (.iload 4, 2) := by decide +kernel
theorem dX3_tellTo_68 : decode cX3_tellTo 68 = .ok (.isub, 1) := by decide +kernel
theorem dX3_tellTo_69 : decode cX3_tellTo 69 = .ok (.ireturn, 1) := by decide +kernel
theorem dX3_tellTo_70 : decode cX3_tellTo 70 = .ok (.iinc 3 1, 3) := by decide +kernel
theorem dX3_tellTo_73 : decode cX3_tellTo 73 = .ok (.iload 5, 2) := by decide +kernel
theorem dX3_tellTo_75 : decode cX3_tellTo 75 = .ok (.iconst 1, 1) := by decide +kernel
theorem dX3_tellTo_76 : decode cX3_tellTo 76 = .ok (.iadd, 1) := by decide +kernel
theorem dX3_tellTo_77 : decode cX3_tellTo 77 = .ok (.istore 4, 2) := by decide +kernel
theorem dX3_tellTo_79 : decode cX3_tellTo 79 = .ok (.iinc 5 1, 3) := by decide +kernel
theorem dX3_tellTo_82 : decode cX3_tellTo 82 = .ok (.goto (-59), 3) := by decide +kernel
theorem dX3_tellTo_85 : decode cX3_tellTo 85 = .ok (.iload_n 3, 1) := by decide +kernel
theorem dX3_tellTo_86 : decode cX3_tellTo 86 = .ok (.ireturn, 1) := by decide +kernel
def bX3_tellTo_23 (F : Nat) : (Int32 × Int32 × Int32 × Mem) → Option ((Int32 × Int32 × Int32 × Mem) ⊕ ((Int32 × Int32 × Int32 × Mem) ⊕ (Int32 × Mem)))
  | (y2, y3, y4, m5) => (if (m5.1 22 1) ≤ y4 then some (.inr (.inl (y2, y3, y4, m5))) else (if 72 ≤ y4 then some (.inr (.inl (y2, y3, y4, m5))) else chk (inb y4 72) ((if (m5.1 23 (Int32.toNatClampNeg y4)) = 59 then (gX3_tellOne F m5 y3 y4).bind (fun q7 => (if q7.1 = true then lete (y4 + 1) (fun x8 => some (.inl (y2 + 1, x8, y4 + 1, q7.2))) else some (.inr (.inr ((-2000) - y3, q7.2))))) else some (.inl (y2, y3, y4 + 1, m5))))))
def gX3_tellTo (F : Nat) (m : Mem) : Option (Int32 × Mem) := (gX3_placeOfWrongForm F m).bind (fun x1 => (if x1 < 0 then (iter F (bX3_tellTo_23 F) (0, 0, 0, m)).bind (fun e9 => Sum.elim (fun s11 => some (s11.1, s11.2.2.2)) (fun q => some q) e9) else some ((-1000) - x1, m)))
set_option maxHeartbeats 4000000 in
set_option maxRecDepth 20000 in
theorem LX3_tellTo {n : Nat} {F : Nat} {m : Mem} {r : Int32 × Mem} (hn : 43 ≤ n) (hg : gX3_tellTo F m  = some r) : MX yX3_tellTo cX3_tellTo 6 (some .int) { frames := 5, cells := 0, slots := 0, locals := 116 } n [.ref 22, .ref 8] m (some (.int r.1)) r.2 := by
  refine MX_of (by decide) (Nat.le_of_ble_eq_true rfl) (Or.inr (Or.inl ⟨rfl, _, rfl⟩)) (fun K hC hk hL hR => ?_)
  replace hn : 43 ≤ kn K := hk.symm ▸ hn
  show RX K 0 [(0, .ref 22), (1, .ref 8)] [] m
  rw [gX3_tellTo] at hg
  refine R_aload_n (pc := 0) hC 0 dX3_tellTo_0 rfl rfl ?_
  obtain ⟨x1, hx1, hg⟩ := bind_some hg
  refine R_callV (pc := 1) (av := []) (rest := []) hC hR 22 (jx hn rfl) ly22 rfl mf_X3_placeOfWrongForm wm_X3_19 (LX3_placeOfWrongForm hn hx1) rfl rfl rfl (Nat.le_of_ble_eq_true rfl) dX3_tellTo_1 rfl ?_
  show RX K 4 [(0, .ref 22), (1, .ref 8)] [.int x1] m
  refine R_istore_n (pc := 4) hC dX3_tellTo_4 rfl hL rfl (show _ = [(2, .int x1), (0, .ref 22), (1, .ref 8)] from rfl) ?_
  refine R_iload_n (pc := 5) hC 0 dX3_tellTo_5 rfl rfl ?_
  refine R_if_lt (tgt := 15) (pc := 6) hC dX3_tellTo_6 (by decide) (fun c => ?_) (fun c => ?_)
  · replace hg := (if_pos c).symm.trans hg
    refine R_iconst (pc := 15) hC dX3_tellTo_15 ki_0 ?_
    refine R_istore_n (pc := 16) hC dX3_tellTo_16 rfl hL rfl (show _ = [(3, .int 0), (2, .int x1), (0, .ref 22), (1, .ref 8)] from rfl) ?_
    refine R_iconst (pc := 17) hC dX3_tellTo_17 ki_0 ?_
    refine R_istore (pc := 18) hC dX3_tellTo_18 hL rfl (show _ = [(4, .int 0), (3, .int 0), (2, .int x1), (0, .ref 22), (1, .ref 8)] from rfl) ?_
    refine R_iconst (pc := 20) hC dX3_tellTo_20 ki_0 ?_
    refine R_istore (pc := 21) hC dX3_tellTo_21 hL rfl (show _ = [(5, .int 0), (4, .int 0), (3, .int 0), (2, .int x1), (0, .ref 22), (1, .ref 8)] from rfl) ?_
    refine R_pick [4, 5, 3, 2, 1, 0] (ls' := [(0, .ref 22), (1, .ref 8), (2, .int x1), (3, .int 0), (4, .int 0), (5, .int 0)]) rfl ?_
    obtain ⟨e9, he9, hg⟩ := bind_some hg
    refine iter_walk (P := fun s : (Int32 × Int32 × Int32 × Mem) => RX K 23 [(0, .ref 22), (1, .ref 8), (2, .int x1), (3, .int s.1), (4, .int s.2.1), (5, .int s.2.2.1)] [] s.2.2.2) (Qe := Sum.elim (fun s : (Int32 × Int32 × Int32 × Mem) => RX K 85 [(0, .ref 22), (1, .ref 8), (2, .int x1), (3, .int s.1), (4, .int s.2.1), (5, .int s.2.2.1)] [] s.2.2.2) (fun q : Int32 × Mem => GX (some (.int r.1)) r.2 (some (.int q.1)) q.2)) (fun s10 o hg kL23 kE23 => ?_) _ _ _ he9 ?_
    · obtain ⟨y2, y3, y4, m5⟩ := s10
      rw [bX3_tellTo_23] at hg
      show RX K 23 [(0, .ref 22), (1, .ref 8), (2, .int x1), (3, .int y2), (4, .int y3), (5, .int y4)] [] m5
      refine R_iload (pc := 23) hC 5 dX3_tellTo_23 rfl ?_
      refine R_aload_n (pc := 25) hC 0 dX3_tellTo_25 rfl rfl ?_
      refine gf_X3_15 (pc := 26) hC hn dX3_tellTo_26 ?_
      refine R_icmp_ge (tgt := 85) (pc := 29) hC dX3_tellTo_29 (by decide) (fun c => ?_) (fun c => ?_)
      · replace hg := (if_pos c).symm.trans hg
        refine R_pick [0, 1, 2, 3, 4, 5] (ls' := [(0, .ref 22), (1, .ref 8), (2, .int x1), (3, .int y2), (4, .int y3), (5, .int y4)]) rfl ?_
        have h9 := kE23 _ (Option.some.inj hg).symm
        exact h9
      · replace hg := (if_neg c).symm.trans hg
        refine R_iload (pc := 32) hC 5 dX3_tellTo_32 rfl ?_
        refine R_bipush (pc := 34) hC dX3_tellTo_34 kb_72 ?_
        refine R_icmp_ge (tgt := 85) (pc := 36) hC dX3_tellTo_36 (by decide) (fun c => ?_) (fun c => ?_)
        · replace hg := (if_pos c).symm.trans hg
          refine R_pick [0, 1, 2, 3, 4, 5] (ls' := [(0, .ref 22), (1, .ref 8), (2, .int x1), (3, .int y2), (4, .int y3), (5, .int y4)]) rfl ?_
          have h9 := kE23 _ (Option.some.inj hg).symm
          exact h9
        · replace hg := (if_neg c).symm.trans hg
          refine R_aload_n (pc := 39) hC 0 dX3_tellTo_39 rfl rfl ?_
          refine gf_X3_9 (pc := 40) hC hn dX3_tellTo_40 ?_
          refine R_iload (pc := 43) hC 5 dX3_tellTo_43 rfl ?_
          obtain ⟨c6, hg⟩ := chk_some hg
          refine R_iaload (pc := 45) hC 23 (jx hn rfl) ly23 (inb_vp c6) dX3_tellTo_45 ?_
          refine R_bipush (pc := 46) hC dX3_tellTo_46 kb_59 ?_
          refine R_icmp_ne (tgt := 79) (pc := 48) hC dX3_tellTo_48 (by decide) (fun c => ?_) (fun c => ?_)
          · replace hg := (if_neg c).symm.trans hg
            refine R_iinc (pc := 79) hC 5 dX3_tellTo_79 rfl (iv ki_1) hL rfl (show _ = [(5, .int (y4 + 1)), (0, .ref 22), (1, .ref 8), (2, .int x1), (3, .int y2), (4, .int y3)] from rfl) ?_
            refine R_goto (tgt := 23) (pc := 82) hC dX3_tellTo_82 (by decide) ?_
            refine R_pick [1, 2, 3, 4, 5, 0] (ls' := [(0, .ref 22), (1, .ref 8), (2, .int x1), (3, .int y2), (4, .int y3), (5, .int (y4 + 1))]) rfl ?_
            have h9 := kL23 _ (Option.some.inj hg).symm
            exact h9
          · replace hg := (if_pos c).symm.trans hg
            refine R_aload_n (pc := 51) hC 0 dX3_tellTo_51 rfl rfl ?_
            refine R_aload_n (pc := 52) hC 1 dX3_tellTo_52 rfl rfl ?_
            refine R_iload (pc := 53) hC 4 dX3_tellTo_53 rfl ?_
            refine R_iload (pc := 55) hC 5 dX3_tellTo_55 rfl ?_
            obtain ⟨q7, hq7, hg⟩ := bind_some hg
            refine R_callV (pc := 57) (av := [.ref 8, .int y3, .int y4]) (rest := []) hC hR 22 (jx hn rfl) ly22 rfl mf_X3_tellOne wm_X3_23 (LX3_tellOne hn hq7) rfl rfl rfl (Nat.le_of_ble_eq_true rfl) dX3_tellTo_57 rfl ?_
            show RX K 60 [(0, .ref 22), (1, .ref 8), (2, .int x1), (3, .int y2), (4, .int y3), (5, .int y4)] [.int (b2i q7.1)] q7.2
            refine R_ifB_ne (tgt := 70) (pc := 60) hC dX3_tellTo_60 (by decide) (fun c => ?_) (fun c => ?_)
            · replace hg := (if_pos c).symm.trans hg
              refine R_iinc (pc := 70) hC 3 dX3_tellTo_70 rfl (iv ki_1) hL rfl (show _ = [(3, .int (y2 + 1)), (0, .ref 22), (1, .ref 8), (2, .int x1), (4, .int y3), (5, .int y4)] from rfl) ?_
              refine R_iload (pc := 73) hC 5 dX3_tellTo_73 rfl ?_
              refine R_iconst (pc := 75) hC dX3_tellTo_75 ki_1 ?_
              refine R_iadd (pc := 76) hC dX3_tellTo_76 ?_
              obtain ⟨x8, hx8, hg⟩ := lete_some hg
              refine R_top hx8 ?_
              refine R_istore (pc := 77) hC dX3_tellTo_77 hL rfl (show _ = [(4, .int x8), (3, .int (y2 + 1)), (0, .ref 22), (1, .ref 8), (2, .int x1), (5, .int y4)] from rfl) ?_
              refine R_iinc (pc := 79) hC 5 dX3_tellTo_79 rfl (iv ki_1) hL rfl (show _ = [(5, .int (y4 + 1)), (4, .int x8), (3, .int (y2 + 1)), (0, .ref 22), (1, .ref 8), (2, .int x1)] from rfl) ?_
              refine R_goto (tgt := 23) (pc := 82) hC dX3_tellTo_82 (by decide) ?_
              refine R_pick [3, 4, 5, 2, 1, 0] (ls' := [(0, .ref 22), (1, .ref 8), (2, .int x1), (3, .int (y2 + 1)), (4, .int x8), (5, .int (y4 + 1))]) rfl ?_
              have h9 := kL23 _ (Option.some.inj hg).symm
              exact h9
            · replace hg := (if_neg c).symm.trans hg
              refine R_sipush (pc := 63) hC dX3_tellTo_63 ks_m2000 ?_
              refine R_iload (pc := 66) hC 4 dX3_tellTo_66 rfl ?_
              refine R_isub (pc := 68) hC dX3_tellTo_68 ?_
              have h9 := kE23 _ (Option.some.inj hg).symm
              exact R_ireturn (pc := 69) hC dX3_tellTo_69 h9
    · rcases e9 with s11 | q
      · replace hg := (Sum.elim_inl _ _ _).symm.trans hg
        show RX K 85 [(0, .ref 22), (1, .ref 8), (2, .int x1), (3, .int s11.1), (4, .int s11.2.1), (5, .int s11.2.2.1)] [] s11.2.2.2
        refine R_iload_n (pc := 85) hC 3 dX3_tellTo_85 rfl rfl ?_
        have h9 := gxIM hg
        exact R_ireturn (pc := 86) hC dX3_tellTo_86 h9
      · replace hg := (Sum.elim_inr _ _ _).symm.trans hg
        exact gxIM hg
  · replace hg := (if_neg c).symm.trans hg
    refine R_sipush (pc := 9) hC dX3_tellTo_9 ks_m1000 ?_
    refine R_iload_n (pc := 12) hC 0 dX3_tellTo_12 rfl rfl ?_
    refine R_isub (pc := 13) hC dX3_tellTo_13 ?_
    have h9 := gxIM hg
    exact R_ireturn (pc := 14) hC dX3_tellTo_14 h9
