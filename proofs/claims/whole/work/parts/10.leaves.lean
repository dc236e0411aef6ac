theorem dJ6_bitCount_0 : decode cJ6_bitCount 0 = .ok (.iload_n 0, 1) := by decide +kernel
theorem dJ6_bitCount_1 : decode cJ6_bitCount 1 = .ok (.iload_n 0, 1) := by decide +kernel
theorem dJ6_bitCount_2 : decode cJ6_bitCount 2 = .ok (.iconst 1, 1) := by decide +kernel
theorem dJ6_bitCount_3 : decode cJ6_bitCount 3 = .ok (.iushr, 1) := by decide +kernel
theorem dJ6_bitCount_4 : decode cJ6_bitCount 4 = .ok (.ldc_w 265, 3) := by decide +kernel
theorem dJ6_bitCount_7 : decode cJ6_bitCount 7 = .ok (.iand, 1) := by decide +kernel
theorem dJ6_bitCount_8 : decode cJ6_bitCount 8 = .ok (.isub, 1) := by decide +kernel
theorem dJ6_bitCount_9 : decode cJ6_bitCount 9 = .ok (.istore_n 0, 1) := by decide +kernel
theorem dJ6_bitCount_10 : decode cJ6_bitCount 10 = .ok (.iload_n 0, 1) := by decide +kernel
theorem dJ6_bitCount_11 : decode cJ6_bitCount 11 = .ok (.ldc_w 266, 3) := by decide +kernel
theorem dJ6_bitCount_14 : decode cJ6_bitCount 14 = .ok (.iand, 1) := by decide +kernel
theorem dJ6_bitCount_15 : decode cJ6_bitCount 15 = .ok (.iload_n 0, 1) := by decide +kernel
theorem dJ6_bitCount_16 : decode cJ6_bitCount 16 = .ok (.iconst 2, 1) := by decide +kernel
theorem dJ6_bitCount_17 : decode cJ6_bitCount 17 = .ok (.iushr, 1) := by decide +kernel
theorem dJ6_bitCount_18 : decode cJ6_bitCount 18 = .ok (.ldc_w 266, 3) := by decide +kernel
theorem dJ6_bitCount_21 : decode cJ6_bitCount 21 = .ok (.iand, 1) := by decide +kernel
theorem dJ6_bitCount_22 : decode cJ6_bitCount 22 = .ok (.iadd, 1) := by decide +kernel
theorem dJ6_bitCount_23 : decode cJ6_bitCount 23 = .ok (.istore_n 0, 1) := by decide +kernel
theorem dJ6_bitCount_24 : decode cJ6_bitCount 24 = .ok (.iload_n 0, 1) := by decide +kernel
theorem dJ6_bitCount_25 : decode cJ6_bitCount 25 = .ok (.iload_n 0, 1) := by decide +kernel
theorem dJ6_bitCount_26 : decode cJ6_bitCount 26 = .ok (.iconst 4, 1) := by decide +kernel
theorem dJ6_bitCount_27 : decode cJ6_bitCount 27 = .ok (.iushr, 1) := by decide +kernel
theorem dJ6_bitCount_28 : decode cJ6_bitCount 28 = .ok (.iadd, 1) := by decide +kernel
theorem dJ6_bitCount_29 : decode cJ6_bitCount 29 = .ok (.ldc_w 267, 3) := by decide +kernel
theorem dJ6_bitCount_32 : decode cJ6_bitCount 32 = .ok (.iand, 1) := by decide +kernel
theorem dJ6_bitCount_33 : decode cJ6_bitCount 33 = .ok (.istore_n 0, 1) := by decide +kernel
theorem dJ6_bitCount_34 : decode cJ6_bitCount 34 = .ok (.iload_n 0, 1) := by decide +kernel
theorem dJ6_bitCount_35 : decode cJ6_bitCount 35 = .ok (.iload_n 0, 1) := by decide +kernel
theorem dJ6_bitCount_36 : decode cJ6_bitCount 36 = .ok (.bipush 8, 2) := by decide +kernel
theorem dJ6_bitCount_38 : decode cJ6_bitCount 38 = .ok (.iushr, 1) := by decide +kernel
theorem dJ6_bitCount_39 : decode cJ6_bitCount 39 = .ok (.iadd, 1) := by decide +kernel
theorem dJ6_bitCount_40 : decode cJ6_bitCount 40 = .ok (.istore_n 0, 1) := by decide +kernel
theorem dJ6_bitCount_41 : decode cJ6_bitCount 41 = .ok (.iload_n 0, 1) := by decide +kernel
theorem dJ6_bitCount_42 : decode cJ6_bitCount 42 = .ok (.iload_n 0, 1) := by decide +kernel
theorem dJ6_bitCount_43 : decode cJ6_bitCount 43 = .ok (.bipush 16, 2) := by decide +kernel
theorem dJ6_bitCount_45 : decode cJ6_bitCount 45 = .ok (.iushr, 1) := by decide +kernel
theorem dJ6_bitCount_46 : decode cJ6_bitCount 46 = .ok (.iadd, 1) := by decide +kernel
theorem dJ6_bitCount_47 : decode cJ6_bitCount 47 = .ok (.istore_n 0, 1) := by decide +kernel
theorem dJ6_bitCount_48 : decode cJ6_bitCount 48 = .ok (.iload_n 0, 1) := by decide +kernel
theorem dJ6_bitCount_49 : decode cJ6_bitCount 49 = .ok (.bipush 63, 2) := by decide +kernel
theorem dJ6_bitCount_51 : decode cJ6_bitCount 51 = .ok (.iand, 1) := by decide +kernel
theorem dJ6_bitCount_52 : decode cJ6_bitCount 52 = .ok (.ireturn, 1) := by decide +kernel
def gJ6_bitCount (a1 : Int32) : Option (Int32) := lete (a1 - (((a1.toUInt32 >>> ((1 : Int32).toUInt32 &&& Int32.toUInt32 31)).toInt32) &&& 1431655765)) (fun x1 => lete ((x1 &&& 858993459) + (((x1.toUInt32 >>> ((2 : Int32).toUInt32 &&& Int32.toUInt32 31)).toInt32) &&& 858993459)) (fun x2 => lete ((x2 + ((x2.toUInt32 >>> ((4 : Int32).toUInt32 &&& Int32.toUInt32 31)).toInt32)) &&& 252645135) (fun x3 => lete (x3 + ((x3.toUInt32 >>> ((8 : Int32).toUInt32 &&& Int32.toUInt32 31)).toInt32)) (fun x4 => lete (x4 + ((x4.toUInt32 >>> ((16 : Int32).toUInt32 &&& Int32.toUInt32 31)).toInt32)) (fun x5 => some (x5 &&& 63))))))
set_option maxHeartbeats 4000000 in
set_option maxRecDepth 20000 in
theorem LJ6_bitCount {n : Nat} {m : Mem} {a1 : Int32} {r : Int32} (hg : gJ6_bitCount a1 = some r) : MX yJ6_bitCount cJ6_bitCount 1 (some .int) { frames := 0, cells := 0, slots := 0, locals := 0 } n [.int a1] m (some (.int r)) m := by
  refine MX_of (by decide) (Nat.le_of_ble_eq_true rfl) (Or.inr (Or.inl ⟨rfl, _, rfl⟩)) (fun K hC hk hL hR => ?_)
  show RX K 0 [(0, .int a1)] [] m
  rw [gJ6_bitCount] at hg
  refine R_iload_n (pc := 0) hC 0 dJ6_bitCount_0 rfl rfl ?_
  refine R_iload_n (pc := 1) hC 0 dJ6_bitCount_1 rfl rfl ?_
  refine R_iconst (pc := 2) hC dJ6_bitCount_2 ki_1 ?_
  refine R_iushr (pc := 3) hC dJ6_bitCount_3 ?_
  refine R_ldcw (pc := 4) hC wc_J6_265 dJ6_bitCount_4 ?_
  refine R_iand (pc := 7) hC dJ6_bitCount_7 ?_
  refine R_isub (pc := 8) hC dJ6_bitCount_8 ?_
  obtain ⟨x1, hx1, hg⟩ := lete_some hg
  refine R_top hx1 ?_
  refine R_istore_n (pc := 9) hC dJ6_bitCount_9 rfl hL rfl (show _ = [(0, .int x1)] from rfl) ?_
  refine R_iload_n (pc := 10) hC 0 dJ6_bitCount_10 rfl rfl ?_
  refine R_ldcw (pc := 11) hC wc_J6_266 dJ6_bitCount_11 ?_
  refine R_iand (pc := 14) hC dJ6_bitCount_14 ?_
  refine R_iload_n (pc := 15) hC 0 dJ6_bitCount_15 rfl rfl ?_
  refine R_iconst (pc := 16) hC dJ6_bitCount_16 ki_2 ?_
  refine R_iushr (pc := 17) hC dJ6_bitCount_17 ?_
  refine R_ldcw (pc := 18) hC wc_J6_266 dJ6_bitCount_18 ?_
  refine R_iand (pc := 21) hC dJ6_bitCount_21 ?_
  refine R_iadd (pc := 22) hC dJ6_bitCount_22 ?_
  obtain ⟨x2, hx2, hg⟩ := lete_some hg
  refine R_top hx2 ?_
  refine R_istore_n (pc := 23) hC dJ6_bitCount_23 rfl hL rfl (show _ = [(0, .int x2)] from rfl) ?_
  refine R_iload_n (pc := 24) hC 0 dJ6_bitCount_24 rfl rfl ?_
  refine R_iload_n (pc := 25) hC 0 dJ6_bitCount_25 rfl rfl ?_
  refine R_iconst (pc := 26) hC dJ6_bitCount_26 ki_4 ?_
  refine R_iushr (pc := 27) hC dJ6_bitCount_27 ?_
  refine R_iadd (pc := 28) hC dJ6_bitCount_28 ?_
  refine R_ldcw (pc := 29) hC wc_J6_267 dJ6_bitCount_29 ?_
  refine R_iand (pc := 32) hC dJ6_bitCount_32 ?_
  obtain ⟨x3, hx3, hg⟩ := lete_some hg
  refine R_top hx3 ?_
  refine R_istore_n (pc := 33) hC dJ6_bitCount_33 rfl hL rfl (show _ = [(0, .int x3)] from rfl) ?_
  refine R_iload_n (pc := 34) hC 0 dJ6_bitCount_34 rfl rfl ?_
  refine R_iload_n (pc := 35) hC 0 dJ6_bitCount_35 rfl rfl ?_
  refine R_bipush (pc := 36) hC dJ6_bitCount_36 kb_8 ?_
  refine R_iushr (pc := 38) hC dJ6_bitCount_38 ?_
  refine R_iadd (pc := 39) hC dJ6_bitCount_39 ?_
  obtain ⟨x4, hx4, hg⟩ := lete_some hg
  refine R_top hx4 ?_
  refine R_istore_n (pc := 40) hC dJ6_bitCount_40 rfl hL rfl (show _ = [(0, .int x4)] from rfl) ?_
  refine R_iload_n (pc := 41) hC 0 dJ6_bitCount_41 rfl rfl ?_
  refine R_iload_n (pc := 42) hC 0 dJ6_bitCount_42 rfl rfl ?_
  refine R_bipush (pc := 43) hC dJ6_bitCount_43 kb_16 ?_
  refine R_iushr (pc := 45) hC dJ6_bitCount_45 ?_
  refine R_iadd (pc := 46) hC dJ6_bitCount_46 ?_
  obtain ⟨x5, hx5, hg⟩ := lete_some hg
  refine R_top hx5 ?_
  refine R_istore_n (pc := 47) hC dJ6_bitCount_47 rfl hL rfl (show _ = [(0, .int x5)] from rfl) ?_
  refine R_iload_n (pc := 48) hC 0 dJ6_bitCount_48 rfl rfl ?_
  refine R_bipush (pc := 49) hC dJ6_bitCount_49 kb_63 ?_
  refine R_iand (pc := 51) hC dJ6_bitCount_51 ?_
  have h9 := gxI (m := m) hg
  exact R_ireturn (pc := 52) hC dJ6_bitCount_52 h9
theorem dX8_pairsOf_0 : decode cX8_pairsOf 0 = .ok (.iload_n 0, 1) := by decide +kernel
theorem dX8_pairsOf_1 : decode cX8_pairsOf 1 = .ok (.iload_n 0, 1) := by decide +kernel
theorem dX8_pairsOf_2 : decode cX8_pairsOf 2 = .ok (.iconst 1, 1) := by decide +kernel
theorem dX8_pairsOf_3 : decode cX8_pairsOf 3 = .ok (.isub, 1) := by decide +kernel
theorem dX8_pairsOf_4 : decode cX8_pairsOf 4 = .ok (.imul, 1) := by decide +kernel
theorem dX8_pairsOf_5 : decode cX8_pairsOf 5 = .ok (.iconst 2, 1) := by decide +kernel
theorem dX8_pairsOf_6 : decode cX8_pairsOf 6 = .ok (.idiv, 1) := by decide +kernel
theorem dX8_pairsOf_7 : decode cX8_pairsOf 7 = .ok (.ireturn, 1) := by decide +kernel
def gX8_pairsOf (a1 : Int32) : Option (Int32) := some ((a1 * (a1 - 1)) / 2)
set_option maxHeartbeats 4000000 in
set_option maxRecDepth 20000 in
theorem LX8_pairsOf {n : Nat} {m : Mem} {a1 : Int32} {r : Int32} (hn : 43 ≤ n) (hg : gX8_pairsOf a1 = some r) : MX yX8_pairsOf cX8_pairsOf 1 (some .int) { frames := 0, cells := 0, slots := 0, locals := 0 } n [.int a1] m (some (.int r)) m := by
  refine MX_of (by decide) (Nat.le_of_ble_eq_true rfl) (Or.inr (Or.inl ⟨rfl, _, rfl⟩)) (fun K hC hk hL hR => ?_)
  replace hn : 43 ≤ kn K := hk.symm ▸ hn
  show RX K 0 [(0, .int a1)] [] m
  rw [gX8_pairsOf] at hg
  refine R_iload_n (pc := 0) hC 0 dX8_pairsOf_0 rfl rfl ?_
  refine R_iload_n (pc := 1) hC 0 dX8_pairsOf_1 rfl rfl ?_
  refine R_iconst (pc := 2) hC dX8_pairsOf_2 ki_1 ?_
  refine R_isub (pc := 3) hC dX8_pairsOf_3 ?_
  refine R_imul (pc := 4) hC dX8_pairsOf_4 ?_
  refine R_iconst (pc := 5) hC dX8_pairsOf_5 ki_2 ?_
  refine R_idiv (pc := 6) hC dX8_pairsOf_6 (by decide) ?_
  have h9 := gxI (m := m) hg
  exact R_ireturn (pc := 7) hC dX8_pairsOf_7 h9
theorem dX8_yesNo_0 : decode cX8_yesNo 0 = .ok (.iload_n 0, 1) := by decide +kernel
theorem dX8_yesNo_1 : decode cX8_yesNo 1 = .ok (.ifCond .eq 7, 3) := by decide +kernel
theorem dX8_yesNo_4 : decode cX8_yesNo 4 = .ok (.iconst 1, 1) := by decide +kernel
theorem dX8_yesNo_5 : decode cX8_yesNo 5 = .ok (.goto 4, 3) := by decide +kernel
theorem dX8_yesNo_8 : decode cX8_yesNo 8 = .ok (.iconst 0, 1) := by decide +kernel
theorem dX8_yesNo_9 : decode cX8_yesNo 9 = .ok (.ireturn, 1) := by decide +kernel
def gX8_yesNo (a1 : Bool) : Option (Int32) := (if a1 = true then some 1 else some 0)
set_option maxHeartbeats 4000000 in
set_option maxRecDepth 20000 in
theorem LX8_yesNo {n : Nat} {m : Mem} {a1 : Bool} {r : Int32} (hn : 43 ≤ n) (hg : gX8_yesNo a1 = some r) : MX yX8_yesNo cX8_yesNo 1 (some .int) { frames := 0, cells := 0, slots := 0, locals := 0 } n [.int (b2i a1)] m (some (.int r)) m := by
  refine MX_of (by decide) (Nat.le_of_ble_eq_true rfl) (Or.inr (Or.inl ⟨rfl, _, rfl⟩)) (fun K hC hk hL hR => ?_)
  replace hn : 43 ≤ kn K := hk.symm ▸ hn
  show RX K 0 [(0, .int (b2i a1))] [] m
  rw [gX8_yesNo] at hg
  refine R_iload_n (pc := 0) hC 0 dX8_yesNo_0 rfl rfl ?_
  refine R_ifB_eq (tgt := 8) (pc := 1) hC dX8_yesNo_1 (by decide) (fun c => ?_) (fun c => ?_)
  · replace hg := (if_neg c).symm.trans hg
    refine R_iconst (pc := 8) hC dX8_yesNo_8 ki_0 ?_
    have h9 := gxI (m := m) hg
    exact R_ireturn (pc := 9) hC dX8_yesNo_9 h9
  · replace hg := (if_pos c).symm.trans hg
    refine R_iconst (pc := 4) hC dX8_yesNo_4 ki_1 ?_
    refine R_goto (tgt := 9) (pc := 5) hC dX8_yesNo_5 (by decide) ?_
    have h9 := gxI (m := m) hg
    exact R_ireturn (pc := 9) hC dX8_yesNo_9 h9
theorem dX8_isPart_0 : decode cX8_isPart 0 = .ok (.iload_n 0, 1) := by decide +kernel
theorem dX8_isPart_1 : decode cX8_isPart 1 = .ok (.ifCond .eq 8, 3) := by decide +kernel
theorem dX8_isPart_4 : decode cX8_isPart 4 = .ok (.iload_n 0, 1) := by decide +kernel
theorem dX8_isPart_5 : decode cX8_isPart 5 = .ok (.iconst 1, 1) := by decide +kernel
theorem dX8_isPart_6 : decode cX8_isPart 6 = .ok (.if_icmp .ne 7, 3) := by decide +kernel
theorem dX8_isPart_9 : decode cX8_isPart 9 = .ok (.iconst 1, 1) := by decide +kernel
theorem dX8_isPart_10 : decode cX8_isPart 10 = .ok (.goto 4, 3) := by decide +kernel
theorem dX8_isPart_13 : decode cX8_isPart 13 = .ok (.iconst 0, 1) := by decide +kernel
theorem dX8_isPart_14 : decode cX8_isPart 14 = .ok (.ireturn, 1) := by decide +kernel
def gX8_isPart (a1 : Int32) : Option (Bool) := (if a1 = 0 then some true else (if a1 = 1 then some true else some false))
set_option maxHeartbeats 4000000 in
set_option maxRecDepth 20000 in
theorem LX8_isPart {n : Nat} {m : Mem} {a1 : Int32} {r : Bool} (hn : 43 ≤ n) (hg : gX8_isPart a1 = some r) : MX yX8_isPart cX8_isPart 1 (some .boolean) { frames := 0, cells := 0, slots := 0, locals := 0 } n [.int a1] m (some (.int (b2i r))) m := by
  refine MX_of (by decide) (Nat.le_of_ble_eq_true rfl) (Or.inr (Or.inr (Or.inr ⟨rfl, _, rfl⟩))) (fun K hC hk hL hR => ?_)
  replace hn : 43 ≤ kn K := hk.symm ▸ hn
  show RX K 0 [(0, .int a1)] [] m
  rw [gX8_isPart] at hg
  refine R_iload_n (pc := 0) hC 0 dX8_isPart_0 rfl rfl ?_
  refine R_if_eq (tgt := 9) (pc := 1) hC dX8_isPart_1 (by decide) (fun c => ?_) (fun c => ?_)
  · replace hg := (if_pos c).symm.trans hg
    refine R_iconst (pc := 9) hC dX8_isPart_9 ki_1 ?_
    refine R_goto (tgt := 14) (pc := 10) hC dX8_isPart_10 (by decide) ?_
    have h9 := gxZ (m := m) hg
    exact R_ireturn (pc := 14) hC dX8_isPart_14 h9
  · replace hg := (if_neg c).symm.trans hg
    refine R_iload_n (pc := 4) hC 0 dX8_isPart_4 rfl rfl ?_
    refine R_iconst (pc := 5) hC dX8_isPart_5 ki_1 ?_
    refine R_icmp_ne (tgt := 13) (pc := 6) hC dX8_isPart_6 (by decide) (fun c => ?_) (fun c => ?_)
    · replace hg := (if_neg c).symm.trans hg
      refine R_iconst (pc := 13) hC dX8_isPart_13 ki_0 ?_
      have h9 := gxZ (m := m) hg
      exact R_ireturn (pc := 14) hC dX8_isPart_14 h9
    · replace hg := (if_pos c).symm.trans hg
      refine R_iconst (pc := 9) hC dX8_isPart_9 ki_1 ?_
      refine R_goto (tgt := 14) (pc := 10) hC dX8_isPart_10 (by decide) ?_
      have h9 := gxZ (m := m) hg
      exact R_ireturn (pc := 14) hC dX8_isPart_14 h9
theorem dX8_commonDivisor_0 : decode cX8_commonDivisor 0 = .ok (.lload_n 0, 1) := by decide +kernel
theorem dX8_commonDivisor_1 : decode cX8_commonDivisor 1 = .ok (.lstore 4, 2) := by decide +kernel
theorem dX8_commonDivisor_3 : decode cX8_commonDivisor 3 = .ok (.lload_n 2, 1) := by decide +kernel
theorem dX8_commonDivisor_4 : decode cX8_commonDivisor 4 = .ok (.lstore 6, 2) := by decide +kernel
theorem dX8_commonDivisor_6 : decode cX8_commonDivisor 6 = .ok (.iconst 0, 1) := by decide +kernel
theorem dX8_commonDivisor_7 : decode cX8_commonDivisor 7 = .ok (.istore 8, 2) := by decide +kernel
theorem dX8_commonDivisor_9 : decode cX8_commonDivisor 9 = .ok (.iload 8, 2) := by decide +kernel
theorem dX8_commonDivisor_11 : decode cX8_commonDivisor 11 = .ok (.sipush 200, 3) := by decide +kernel
theorem dX8_commonDivisor_14 : decode cX8_commonDivisor 14 = .ok (.if_icmp .ge 31, 3) := by decide +kernel
theorem dX8_commonDivisor_17 : decode cX8_commonDivisor 17 = .ok (.lload 6, 2) := by decide +kernel
theorem dX8_commonDivisor_19 : decode cX8_commonDivisor 19 = .ok (.lconst 0, 1) := by decide +kernel
theorem dX8_commonDivisor_20 : decode cX8_commonDivisor 20 = .ok (.lcmp, 1) := by decide +kernel
theorem dX8_commonDivisor_21 : decode cX8_commonDivisor 21 = .ok (.ifCond .eq 24, 3) := by decide +kernel
theorem dX8_commonDivisor_24 : decode cX8_commonDivisor 24 = .ok (.lload 4, 2) := by decide +kernel
theorem dX8_commonDivisor_26 : decode cX8_commonDivisor 26 = .ok (.lload 6, 2) := by decide +kernel
theorem dX8_commonDivisor_28 : decode cX8_commonDivisor 28 = .ok (.lrem, 1) := by decide +kernel
theorem dX8_commonDivisor_29 : decode cX8_commonDivisor 29 = .ok (.lstore 9, 2) := by decide +kernel
theorem dX8_commonDivisor_31 : decode cX8_commonDivisor 31 = .ok (.lload 6, 2) := by decide +kernel
theorem dX8_commonDivisor_33 : decode cX8_commonDivisor 33 = .ok (.lstore 4, 2) := by decide +kernel
theorem dX8_commonDivisor_35 : decode cX8_commonDivisor 35 = .ok (.lload 9, 2) := by decide +kernel
theorem dX8_commonDivisor_37 : decode cX8_commonDivisor 37 = .ok (.lstore 6, 2) := by decide +kernel
theorem dX8_commonDivisor_39 : decode cX8_commonDivisor 39 = .ok (.iinc 8 1, 3) := by decide +kernel
theorem dX8_commonDivisor_42 : decode cX8_commonDivisor 42 = .ok (.goto (-33), 3) := by decide +kernel
theorem dX8_commonDivisor_45 : decode cX8_commonDivisor 45 = .ok (.lload 4, 2) := by decide +kernel
theorem dX8_commonDivisor_47 : decode cX8_commonDivisor 47 = .ok (.lreturn, 1) := by decide +kernel
def bX8_commonDivisor_9  : (Int64 × Int64 × Int32) → Option ((Int64 × Int64 × Int32) ⊕ (Int64 × Int64 × Int32))
  | (y1, y2, y3) => (if 200 ≤ y3 then some (.inr (y1, y2, y3)) else (if (lg_cmp y2 0) = 0 then some (.inr (y1, y2, y3)) else chk (¬ y2 = 0) (lete (y1 - y1 / y2 * y2) (fun x5 => some (.inl (y2, x5, y3 + 1))))))
def gX8_commonDivisor (F : Nat) (a1 : Int64) (a2 : Int64) : Option (Int64) := (iter F (bX8_commonDivisor_9) (a1, a2, 0)).bind (fun e6 => some e6.1)
set_option maxHeartbeats 4000000 in
set_option maxRecDepth 20000 in
theorem LX8_commonDivisor {n : Nat} {F : Nat} {m : Mem} {a1 : Int64} {a2 : Int64} {r : Int64} (hn : 43 ≤ n) (hg : gX8_commonDivisor F a1 a2 = some r) : MX yX8_commonDivisor cX8_commonDivisor 11 (some .long) { frames := 0, cells := 0, slots := 0, locals := 0 } n [.long a1, .long a2] m (some (.long r)) m := by
  refine MX_of (by decide) (Nat.le_of_ble_eq_true rfl) (Or.inr (Or.inr (Or.inl ⟨rfl, _, rfl⟩))) (fun K hC hk hL hR => ?_)
  replace hn : 43 ≤ kn K := hk.symm ▸ hn
  show RX K 0 [(0, .long a1), (2, .long a2)] [] m
  rw [gX8_commonDivisor] at hg
  refine R_lload_n (pc := 0) hC 0 dX8_commonDivisor_0 rfl rfl ?_
  refine R_lstore (pc := 1) hC dX8_commonDivisor_1 hL rfl (show _ = [(4, .long a1), (0, .long a1), (2, .long a2)] from rfl) ?_
  refine R_lload_n (pc := 3) hC 2 dX8_commonDivisor_3 rfl rfl ?_
  refine R_lstore (pc := 4) hC dX8_commonDivisor_4 hL rfl (show _ = [(6, .long a2), (4, .long a1), (0, .long a1), (2, .long a2)] from rfl) ?_
  refine R_iconst (pc := 6) hC dX8_commonDivisor_6 ki_0 ?_
  refine R_istore (pc := 7) hC dX8_commonDivisor_7 hL rfl (show _ = [(8, .int 0), (6, .long a2), (4, .long a1), (0, .long a1), (2, .long a2)] from rfl) ?_
  refine R_pick [3, 4, 2, 1, 0] (ls' := [(0, .long a1), (2, .long a2), (4, .long a1), (6, .long a2), (8, .int 0)]) rfl ?_
  obtain ⟨e6, he6, hg⟩ := bind_some hg
  refine iter_walk (P := fun s : (Int64 × Int64 × Int32) => RX K 9 [(0, .long a1), (2, .long a2), (4, .long s.1), (6, .long s.2.1), (8, .int s.2.2)] [] m) (Qe := fun s : (Int64 × Int64 × Int32) => RX K 45 [(0, .long a1), (2, .long a2), (4, .long s.1), (6, .long s.2.1), (8, .int s.2.2)] [] m) (fun s7 o hg kL9 kE9 => ?_) _ _ _ he6 ?_
  · obtain ⟨y1, y2, y3⟩ := s7
    rw [bX8_commonDivisor_9] at hg
    show RX K 9 [(0, .long a1), (2, .long a2), (4, .long y1), (6, .long y2), (8, .int y3)] [] m
    refine R_iload (pc := 9) hC 4 dX8_commonDivisor_9 rfl ?_
    refine R_sipush (pc := 11) hC dX8_commonDivisor_11 ks_200 ?_
    refine R_icmp_ge (tgt := 45) (pc := 14) hC dX8_commonDivisor_14 (by decide) (fun c => ?_) (fun c => ?_)
    · replace hg := (if_pos c).symm.trans hg
      refine R_pick [0, 1, 2, 3, 4] (ls' := [(0, .long a1), (2, .long a2), (4, .long y1), (6, .long y2), (8, .int y3)]) rfl ?_
      have h9 := kE9 _ (Option.some.inj hg).symm
      exact h9
    · replace hg := (if_neg c).symm.trans hg
      refine R_lload (pc := 17) hC 3 dX8_commonDivisor_17 rfl ?_
      refine R_lconst (pc := 19) hC dX8_commonDivisor_19 kl_0 ?_
      refine R_lcmp (pc := 20) hC dX8_commonDivisor_20 ?_
      refine R_if_eq (tgt := 45) (pc := 21) hC dX8_commonDivisor_21 (by decide) (fun c => ?_) (fun c => ?_)
      · replace hg := (if_pos c).symm.trans hg
        refine R_pick [0, 1, 2, 3, 4] (ls' := [(0, .long a1), (2, .long a2), (4, .long y1), (6, .long y2), (8, .int y3)]) rfl ?_
        have h9 := kE9 _ (Option.some.inj hg).symm
        exact h9
      · replace hg := (if_neg c).symm.trans hg
        refine R_lload (pc := 24) hC 2 dX8_commonDivisor_24 rfl ?_
        refine R_lload (pc := 26) hC 3 dX8_commonDivisor_26 rfl ?_
        obtain ⟨c4, hg⟩ := chk_some hg
        refine R_lrem (pc := 28) hC dX8_commonDivisor_28 c4 ?_
        obtain ⟨x5, hx5, hg⟩ := lete_some hg
        refine R_topL hx5 ?_
        refine R_lstore (pc := 29) hC dX8_commonDivisor_29 hL rfl (show _ = [(9, .long x5), (0, .long a1), (2, .long a2), (4, .long y1), (6, .long y2), (8, .int y3)] from rfl) ?_
        refine R_lload (pc := 31) hC 4 dX8_commonDivisor_31 rfl ?_
        refine R_lstore (pc := 33) hC dX8_commonDivisor_33 hL rfl (show _ = [(4, .long y2), (9, .long x5), (0, .long a1), (2, .long a2), (6, .long y2), (8, .int y3)] from rfl) ?_
        refine R_lload (pc := 35) hC 1 dX8_commonDivisor_35 rfl ?_
        refine R_lstore (pc := 37) hC dX8_commonDivisor_37 hL rfl (show _ = [(6, .long x5), (4, .long y2), (9, .long x5), (0, .long a1), (2, .long a2), (8, .int y3)] from rfl) ?_
        refine R_iinc (pc := 39) hC 5 dX8_commonDivisor_39 rfl (iv ki_1) hL rfl (show _ = [(8, .int (y3 + 1)), (6, .long x5), (4, .long y2), (9, .long x5), (0, .long a1), (2, .long a2)] from rfl) ?_
        refine R_goto (tgt := 9) (pc := 42) hC dX8_commonDivisor_42 (by decide) ?_
        refine R_pick [4, 5, 2, 1, 0] (ls' := [(0, .long a1), (2, .long a2), (4, .long y2), (6, .long x5), (8, .int (y3 + 1))]) rfl ?_
        have h9 := kL9 _ (Option.some.inj hg).symm
        exact h9
  · show RX K 45 [(0, .long a1), (2, .long a2), (4, .long e6.1), (6, .long e6.2.1), (8, .int e6.2.2)] [] m
    refine R_lload (pc := 45) hC 2 dX8_commonDivisor_45 rfl ?_
    have h9 := gxJ (m := m) hg
    exact R_lreturn (pc := 47) hC dX8_commonDivisor_47 h9
theorem dX8_leastTerms_0 : decode cX8_leastTerms 0 = .ok (.lload_n 0, 1) := by decide +kernel
theorem dX8_leastTerms_1 : decode cX8_leastTerms 1 = .ok (.lload_n 2, 1) := by decide +kernel
theorem dX8_leastTerms_2 : decode cX8_leastTerms 2 = .ok (.invokestatic 295, 3) := by decide +kernel
theorem dX8_leastTerms_5 : decode cX8_leastTerms 5 = .ok (.lstore 5, 2) := by decide +kernel
theorem dX8_leastTerms_7 : decode cX8_leastTerms 7 = .ok (.lload 5, 2) := by decide +kernel
theorem dX8_leastTerms_9 : decode cX8_leastTerms 9 = .ok (.lconst 0, 1) := by decide +kernel
theorem dX8_leastTerms_10 : decode cX8_leastTerms 10 = .ok (.lcmp, 1) := by decide +kernel
theorem dX8_leastTerms_11 : decode cX8_leastTerms 11 = .ok (.ifCond .ne 5, 3) := by decide +kernel
theorem dX8_leastTerms_14 : decode cX8_leastTerms 14 = .ok (.lconst 0, 1) := by decide +kernel
theorem dX8_leastTerms_15 : decode cX8_leastTerms 15 = .ok (.lreturn, 1) := by decide +kernel
theorem dX8_leastTerms_16 : decode cX8_leastTerms 16 = .ok (.iload 4, 2) := by decide +kernel
theorem dX8_leastTerms_18 : decode cX8_leastTerms 18 = .ok (.ifCond .ne 10, 3) := by decide +kernel
theorem dX8_leastTerms_21 : decode cX8_leastTerms 21 = .ok (.lload_n 0, 1) := by decide +kernel
theorem dX8_leastTerms_22 : decode cX8_leastTerms 22 = .ok (.lload 5, 2) := by decide +kernel
theorem dX8_leastTerms_24 : decode cX8_leastTerms 24 = .ok (.ldiv, 1) := by decide +kernel
theorem dX8_leastTerms_25 : decode cX8_leastTerms 25 = .ok (.goto 7, 3) := by decide +kernel
theorem dX8_leastTerms_28 : decode cX8_leastTerms 28 = .ok (.lload_n 2, 1) := by decide +kernel
theorem dX8_leastTerms_29 : decode cX8_leastTerms 29 = .ok (.lload 5, 2) := by decide +kernel
theorem dX8_leastTerms_31 : decode cX8_leastTerms 31 = .ok (.ldiv, 1) := by decide +kernel
theorem dX8_leastTerms_32 : decode cX8_leastTerms 32 = .ok (.lreturn, 1) := by decide +kernel
def gX8_leastTerms (F : Nat) (a1 : Int64) (a2 : Int64) (a3 : Int32) : Option (Int64) := (gX8_commonDivisor F a1 a2).bind (fun x1 => (if (lg_cmp x1 0) = 0 then some 0 else (if a3 = 0 then chk (¬ x1 = 0) (some (a1 / x1)) else chk (¬ x1 = 0) (some (a2 / x1)))))
set_option maxHeartbeats 4000000 in
set_option maxRecDepth 20000 in
theorem LX8_leastTerms {n : Nat} {F : Nat} {m : Mem} {a1 : Int64} {a2 : Int64} {a3 : Int32} {r : Int64} (hn : 43 ≤ n) (hg : gX8_leastTerms F a1 a2 a3 = some r) : MX yX8_leastTerms cX8_leastTerms 7 (some .long) { frames := 1, cells := 0, slots := 0, locals := 30 } n [.long a1, .long a2, .int a3] m (some (.long r)) m := by
  refine MX_of (by decide) (Nat.le_of_ble_eq_true rfl) (Or.inr (Or.inr (Or.inl ⟨rfl, _, rfl⟩))) (fun K hC hk hL hR => ?_)
  replace hn : 43 ≤ kn K := hk.symm ▸ hn
  show RX K 0 [(0, .long a1), (2, .long a2), (4, .int a3)] [] m
  rw [gX8_leastTerms] at hg
  refine R_lload_n (pc := 0) hC 0 dX8_leastTerms_0 rfl rfl ?_
  refine R_lload_n (pc := 1) hC 1 dX8_leastTerms_1 rfl rfl ?_
  obtain ⟨x1, hx1, hg⟩ := bind_some hg
  refine R_callS (pc := 2) (av := [.long a1, .long a2]) (rest := []) hC hR mf_X8_commonDivisor wm_X8_295 (LX8_commonDivisor hn hx1) rfl rfl rfl (Nat.le_of_ble_eq_true rfl) dX8_leastTerms_2 rfl ?_
  show RX K 5 [(0, .long a1), (2, .long a2), (4, .int a3)] [.long x1] m
  refine R_lstore (pc := 5) hC dX8_leastTerms_5 hL rfl (show _ = [(5, .long x1), (0, .long a1), (2, .long a2), (4, .int a3)] from rfl) ?_
  refine R_lload (pc := 7) hC 0 dX8_leastTerms_7 rfl ?_
  refine R_lconst (pc := 9) hC dX8_leastTerms_9 kl_0 ?_
  refine R_lcmp (pc := 10) hC dX8_leastTerms_10 ?_
  refine R_if_ne (tgt := 16) (pc := 11) hC dX8_leastTerms_11 (by decide) (fun c => ?_) (fun c => ?_)
  · replace hg := (if_neg c).symm.trans hg
    refine R_iload (pc := 16) hC 3 dX8_leastTerms_16 rfl ?_
    refine R_if_ne (tgt := 28) (pc := 18) hC dX8_leastTerms_18 (by decide) (fun c => ?_) (fun c => ?_)
    · replace hg := (if_neg c).symm.trans hg
      refine R_lload_n (pc := 28) hC 2 dX8_leastTerms_28 rfl rfl ?_
      refine R_lload (pc := 29) hC 0 dX8_leastTerms_29 rfl ?_
      obtain ⟨c2, hg⟩ := chk_some hg
      refine R_ldiv (pc := 31) hC dX8_leastTerms_31 c2 ?_
      have h9 := gxJ (m := m) hg
      exact R_lreturn (pc := 32) hC dX8_leastTerms_32 h9
    · replace hg := (if_pos c).symm.trans hg
      refine R_lload_n (pc := 21) hC 1 dX8_leastTerms_21 rfl rfl ?_
      refine R_lload (pc := 22) hC 0 dX8_leastTerms_22 rfl ?_
      obtain ⟨c3, hg⟩ := chk_some hg
      refine R_ldiv (pc := 24) hC dX8_leastTerms_24 c3 ?_
      refine R_goto (tgt := 32) (pc := 25) hC dX8_leastTerms_25 (by decide) ?_
      have h9 := gxJ (m := m) hg
      exact R_lreturn (pc := 32) hC dX8_leastTerms_32 h9
  · replace hg := (if_pos c).symm.trans hg
    refine R_lconst (pc := 14) hC dX8_leastTerms_14 kl_0 ?_
    have h9 := gxJ (m := m) hg
    exact R_lreturn (pc := 15) hC dX8_leastTerms_15 h9
