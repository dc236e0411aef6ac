theorem dX8_more_0 : decode cX8_more 0 = .ok (.aload_n 0, 1) := by decide +kernel
theorem dX8_more_1 : decode cX8_more 1 = .ok (.iload_n 1, 1) := by decide +kernel
theorem dX8_more_2 : decode cX8_more 2 = .ok (.iload_n 2, 1) := by decide +kernel
theorem dX8_more_3 : decode cX8_more 3 = .ok (.invokevirtual 221, 3) := by decide +kernel
theorem dX8_more_6 : decode cX8_more 6 = .ok (.ifCond .ne 9, 3) := by decide +kernel
theorem dX8_more_9 : decode cX8_more 9 = .ok (.aload_n 0, 1) := by decide +kernel
theorem dX8_more_10 : decode cX8_more 10 = .ok (.iconst (-1), 1) := by decide +kernel
theorem dX8_more_11 : decode cX8_more 11 = .ok (.invokevirtual 174, 3) := by decide +kernel
theorem dX8_more_14 : decode cX8_more 14 = .ok (.lreturn, 1) := by decide +kernel
theorem dX8_more_15 : decode cX8_more 15 = .ok (.iload_n 3, 1) := by decide +kernel
theorem dX8_more_16 : decode cX8_more 16 = .ok (.invokestatic 225, 3) := by decide +kernel
theorem dX8_more_19 : decode cX8_more 19 = .ok (.ifCond .ne 10, 3) := by decide +kernel
theorem dX8_more_22 : decode cX8_more 22 = .ok (.aload_n 0, 1) := by decide +kernel
theorem dX8_more_23 : decode cX8_more 23 = .ok (.bipush (-2), 2) := by decide +kernel
theorem dX8_more_25 : decode cX8_more 25 = .ok (.invokevirtual 174, 3) := by decide +kernel
theorem dX8_more_28 : decode cX8_more 28 = .ok (.lreturn, 1) := by decide +kernel
theorem dX8_more_29 : decode cX8_more 29 = .ok (.aload_n 0, 1) := by decide +kernel
theorem dX8_more_30 : decode cX8_more 30 = .ok (.getfield 47, 3) := by decide +kernel
theorem dX8_more_33 : decode cX8_more 33 = .ok (.getfield 164, 3) := by decide +kernel
theorem dX8_more_36 : decode cX8_more 36 = .ok (.ifCond .ne 10, 3) := by decide +kernel
theorem dX8_more_39 : decode cX8_more 39 = .ok (.aload_n 0, 1) := by decide +kernel
theorem dX8_more_40 : decode cX8_more 40 = .ok (.bipush (-3), 2) := by decide +kernel
theorem dX8_more_42 : decode cX8_more 42 = .ok (.invokevirtual 174, 3) := by decide +kernel
theorem dX8_more_45 : decode cX8_more 45 = .ok (.lreturn, 1) := by decide +kernel
theorem dX8_more_46 : decode cX8_more 46 = .ok (.aload_n 0, 1) := by decide +kernel
theorem dX8_more_47 : decode cX8_more 47 = .ok (.getfield 47, 3) := by decide +kernel
theorem dX8_more_50 : decode cX8_more 50 = .ok (.iconst 0, 1) := by decide +kernel
theorem dX8_more_51 : decode cX8_more 51 = .ok (.invokevirtual 167, 3) := by decide +kernel
theorem dX8_more_54 : decode cX8_more 54 = .ok (.lstore 4, 2) := by decide +kernel
theorem dX8_more_56 : decode cX8_more 56 = .ok (.lload 4, 2) := by decide +kernel
theorem dX8_more_58 : decode cX8_more 58 = .ok (.aload_n 0, 1) := by decide +kernel
theorem dX8_more_59 : decode cX8_more 59 = .ok (.getfield 54, 3) := by decide +kernel
theorem dX8_more_62 : decode cX8_more 62 = .ok (.iload_n 1, 1) := by decide +kernel
theorem dX8_more_63 : decode cX8_more 63 = .ok (.iload_n 2, 1) := by decide +kernel
theorem dX8_more_64 : decode cX8_more 64 = .ok (.aload_n 0, 1) := by decide +kernel
theorem dX8_more_65 : decode cX8_more 65 = .ok (.getfield 10, 3) := by decide +kernel
theorem dX8_more_68 : decode cX8_more 68 = .ok (.getfield 240, 3) := by decide +kernel
theorem dX8_more_71 : decode cX8_more 71 = .ok (.invokevirtual 232, 3) := by decide +kernel
theorem dX8_more_74 : decode cX8_more 74 = .ok (.ladd, 1) := by decide +kernel
theorem dX8_more_75 : decode cX8_more 75 = .ok (.lload 4, 2) := by decide +kernel
theorem dX8_more_77 : decode cX8_more 77 = .ok (.iload_n 3, 1) := by decide +kernel
theorem dX8_more_78 : decode cX8_more 78 = .ok (.invokestatic 236, 3) := by decide +kernel
theorem dX8_more_81 : decode cX8_more 81 = .ok (.lreturn, 1) := by decide +kernel
def gX8_more (F : Nat) (m : Mem) (a1 : Int32) (a2 : Int32) (a3 : Int32) : Option (Int64 × Mem) := (gX8_areTwoHouses m a1 a2).bind (fun x1 => (if x1 = true then (gX8_isPart a3).bind (fun x2 => (if x2 = true then (if (m.1 26 2) = 0 then (gX8_refuseLong m (-3)).bind (fun q6 => some (q6.1, q6.2)) else (gX7_worthWith F m 0).bind (fun x3 => (gX1_worthApart F m a1 a2 (m.1 1 2)).bind (fun x4 => (gX8_leastTerms F (x3 + x4) x3 a3).bind (fun x5 => some (x5, m))))) else (gX8_refuseLong m (-2)).bind (fun q7 => some (q7.1, q7.2)))) else (gX8_refuseLong m (-1)).bind (fun q8 => some (q8.1, q8.2))))
set_option maxHeartbeats 4000000 in
set_option maxRecDepth 20000 in
theorem LX8_more {n : Nat} {F : Nat} {m : Mem} {a1 : Int32} {a2 : Int32} {a3 : Int32} {r : Int64 × Mem} (hn : 43 ≤ n) (hg : gX8_more F m a1 a2 a3 = some r) : MX yX8_more cX8_more 6 (some .long) { frames := 3, cells := 0, slots := 0, locals := 72 } n [.ref 0, .int a1, .int a2, .int a3] m (some (.long r.1)) r.2 := by
  refine MX_of (by decide) (Nat.le_of_ble_eq_true rfl) (Or.inr (Or.inr (Or.inl ⟨rfl, _, rfl⟩))) (fun K hC hk hL hR => ?_)
  replace hn : 43 ≤ kn K := hk.symm ▸ hn
  show RX K 0 [(0, .ref 0), (1, .int a1), (2, .int a2), (3, .int a3)] [] m
  rw [gX8_more] at hg
  refine R_aload_n (pc := 0) hC 0 dX8_more_0 rfl rfl ?_
  refine R_iload_n (pc := 1) hC 1 dX8_more_1 rfl rfl ?_
  refine R_iload_n (pc := 2) hC 2 dX8_more_2 rfl rfl ?_
  obtain ⟨x1, hx1, hg⟩ := bind_some hg
  refine R_callV (pc := 3) (av := [.int a1, .int a2]) (rest := []) hC hR 0 (jx hn rfl) ly0 rfl mf_X8_areTwoHouses wm_X8_221 (LX8_areTwoHouses hn hx1) rfl rfl rfl (Nat.le_of_ble_eq_true rfl) dX8_more_3 rfl ?_
  show RX K 6 [(0, .ref 0), (1, .int a1), (2, .int a2), (3, .int a3)] [.int (b2i x1)] m
  refine R_ifB_ne (tgt := 15) (pc := 6) hC dX8_more_6 (by decide) (fun c => ?_) (fun c => ?_)
  · replace hg := (if_pos c).symm.trans hg
    refine R_iload_n (pc := 15) hC 3 dX8_more_15 rfl rfl ?_
    obtain ⟨x2, hx2, hg⟩ := bind_some hg
    refine R_callS (pc := 16) (av := [.int a3]) (rest := []) hC hR mf_X8_isPart wm_X8_225 (LX8_isPart hn hx2) rfl rfl rfl (Nat.le_of_ble_eq_true rfl) dX8_more_16 rfl ?_
    show RX K 19 [(0, .ref 0), (1, .int a1), (2, .int a2), (3, .int a3)] [.int (b2i x2)] m
    refine R_ifB_ne (tgt := 29) (pc := 19) hC dX8_more_19 (by decide) (fun c => ?_) (fun c => ?_)
    · replace hg := (if_pos c).symm.trans hg
      refine R_aload_n (pc := 29) hC 0 dX8_more_29 rfl rfl ?_
      refine gf_X8_47 (pc := 30) hC hn dX8_more_30 ?_
      refine gf_X8_164 (pc := 33) hC hn dX8_more_33 ?_
      refine R_if_ne (tgt := 46) (pc := 36) hC dX8_more_36 (by decide) (fun c => ?_) (fun c => ?_)
      · replace hg := (if_neg c).symm.trans hg
        refine R_aload_n (pc := 46) hC 0 dX8_more_46 rfl rfl ?_
        refine gf_X8_47 (pc := 47) hC hn dX8_more_47 ?_
        refine R_iconst (pc := 50) hC dX8_more_50 ki_0 ?_
        obtain ⟨x3, hx3, hg⟩ := bind_some hg
        refine R_callVN (pc := 51) (av := [.int 0]) (rest := []) hC hR 26 (jx hn rfl) ly26 rfl mf_X7_worthWith wm_X8_167 (LX7_worthWith hn hx3) rfl rfl rfl (Nat.le_of_ble_eq_true rfl) dX8_more_51 rfl ?_
        show RX K 54 [(0, .ref 0), (1, .int a1), (2, .int a2), (3, .int a3)] [.long x3] m
        refine R_lstore (pc := 54) hC dX8_more_54 hL rfl (show _ = [(4, .long x3), (0, .ref 0), (1, .int a1), (2, .int a2), (3, .int a3)] from rfl) ?_
        refine R_lload (pc := 56) hC 0 dX8_more_56 rfl ?_
        refine R_aload_n (pc := 58) hC 1 dX8_more_58 rfl rfl ?_
        refine gf_X8_54 (pc := 59) hC hn dX8_more_59 ?_
        refine R_iload_n (pc := 62) hC 2 dX8_more_62 rfl rfl ?_
        refine R_iload_n (pc := 63) hC 3 dX8_more_63 rfl rfl ?_
        refine R_aload_n (pc := 64) hC 1 dX8_more_64 rfl rfl ?_
        refine gf_X8_10 (pc := 65) hC hn dX8_more_65 ?_
        refine gf_X8_240 (pc := 68) hC hn isv1 dX8_more_68 ?_
        obtain ⟨x4, hx4, hg⟩ := bind_some hg
        refine R_callVN (pc := 71) (av := [.int a1, .int a2, .int (m.1 1 2)]) (rest := [.long x3]) hC hR 30 (jx hn rfl) ly30 rfl mf_X1_worthApart wm_X8_232 (LX1_worthApart hn hx4) rfl rfl rfl (Nat.le_of_ble_eq_true rfl) dX8_more_71 rfl ?_
        show RX K 74 [(4, .long x3), (0, .ref 0), (1, .int a1), (2, .int a2), (3, .int a3)] [.long x4, .long x3] m
        refine R_ladd (pc := 74) hC dX8_more_74 ?_
        refine R_lload (pc := 75) hC 0 dX8_more_75 rfl ?_
        refine R_iload_n (pc := 77) hC 4 dX8_more_77 rfl rfl ?_
        obtain ⟨x5, hx5, hg⟩ := bind_some hg
        refine R_callS (pc := 78) (av := [.long (x3 + x4), .long x3, .int a3]) (rest := []) hC hR mf_X8_leastTerms wm_X8_236 (LX8_leastTerms hn hx5) rfl rfl rfl (Nat.le_of_ble_eq_true rfl) dX8_more_78 rfl ?_
        show RX K 81 [(4, .long x3), (0, .ref 0), (1, .int a1), (2, .int a2), (3, .int a3)] [.long x5] m
        have h9 := gxJM hg
        exact R_lreturn (pc := 81) hC dX8_more_81 h9
      · replace hg := (if_pos c).symm.trans hg
        refine R_aload_n (pc := 39) hC 0 dX8_more_39 rfl rfl ?_
        refine R_bipush (pc := 40) hC dX8_more_40 kb_m3 ?_
        obtain ⟨q6, hq6, hg⟩ := bind_some hg
        refine R_callV (pc := 42) (av := [.int (-3)]) (rest := []) hC hR 0 (jx hn rfl) ly0 rfl mf_X8_refuseLong wm_X8_174 (LX8_refuseLong hn hq6) rfl rfl rfl (Nat.le_of_ble_eq_true rfl) dX8_more_42 rfl ?_
        show RX K 45 [(0, .ref 0), (1, .int a1), (2, .int a2), (3, .int a3)] [.long q6.1] q6.2
        have h9 := gxJM hg
        exact R_lreturn (pc := 45) hC dX8_more_45 h9
    · replace hg := (if_neg c).symm.trans hg
      refine R_aload_n (pc := 22) hC 0 dX8_more_22 rfl rfl ?_
      refine R_bipush (pc := 23) hC dX8_more_23 kb_m2 ?_
      obtain ⟨q7, hq7, hg⟩ := bind_some hg
      refine R_callV (pc := 25) (av := [.int (-2)]) (rest := []) hC hR 0 (jx hn rfl) ly0 rfl mf_X8_refuseLong wm_X8_174 (LX8_refuseLong hn hq7) rfl rfl rfl (Nat.le_of_ble_eq_true rfl) dX8_more_25 rfl ?_
      show RX K 28 [(0, .ref 0), (1, .int a1), (2, .int a2), (3, .int a3)] [.long q7.1] q7.2
      have h9 := gxJM hg
      exact R_lreturn (pc := 28) hC dX8_more_28 h9
  · replace hg := (if_neg c).symm.trans hg
    refine R_aload_n (pc := 9) hC 0 dX8_more_9 rfl rfl ?_
    refine R_iconst (pc := 10) hC dX8_more_10 ki_m1 ?_
    obtain ⟨q8, hq8, hg⟩ := bind_some hg
    refine R_callV (pc := 11) (av := [.int (-1)]) (rest := []) hC hR 0 (jx hn rfl) ly0 rfl mf_X8_refuseLong wm_X8_174 (LX8_refuseLong hn hq8) rfl rfl rfl (Nat.le_of_ble_eq_true rfl) dX8_more_11 rfl ?_
    show RX K 14 [(0, .ref 0), (1, .int a1), (2, .int a2), (3, .int a3)] [.long q8.1] q8.2
    have h9 := gxJM hg
    exact R_lreturn (pc := 14) hC dX8_more_14 h9
theorem dX8_holds_0 : decode cX8_holds 0 = .ok (.iload_n 1, 1) := by decide +kernel
theorem dX8_holds_1 : decode cX8_holds 1 = .ok (.invokestatic 225, 3) := by decide +kernel
theorem dX8_holds_4 : decode cX8_holds 4 = .ok (.ifCond .ne 10, 3) := by decide +kernel
theorem dX8_holds_7 : decode cX8_holds 7 = .ok (.aload_n 0, 1) := by decide +kernel
theorem dX8_holds_8 : decode cX8_holds 8 = .ok (.bipush (-2), 2) := by decide +kernel
theorem dX8_holds_10 : decode cX8_holds 10 = .ok (.invokevirtual 174, 3) := by decide +kernel
theorem dX8_holds_13 : decode cX8_holds 13 = .ok (.lreturn, 1) := by decide +kernel
theorem dX8_holds_14 : decode cX8_holds 14 = .ok (.aload_n 0, 1) := by decide +kernel
theorem dX8_holds_15 : decode cX8_holds 15 = .ok (.getfield 10, 3) := by decide +kernel
theorem dX8_holds_18 : decode cX8_holds 18 = .ok (.getfield 144, 3) := by decide +kernel
theorem dX8_holds_21 : decode cX8_holds 21 = .ok (.aload_n 0, 1) := by decide +kernel
theorem dX8_holds_22 : decode cX8_holds 22 = .ok (.getfield 10, 3) := by decide +kernel
theorem dX8_holds_25 : decode cX8_holds 25 = .ok (.getfield 243, 3) := by decide +kernel
theorem dX8_holds_28 : decode cX8_holds 28 = .ok (.invokestatic 194, 3) := by decide +kernel
theorem dX8_holds_31 : decode cX8_holds 31 = .ok (.isub, 1) := by decide +kernel
theorem dX8_holds_32 : decode cX8_holds 32 = .ok (.bipush 8, 2) := by decide +kernel
theorem dX8_holds_34 : decode cX8_holds 34 = .ok (.if_icmp .le 10, 3) := by decide +kernel
theorem dX8_holds_37 : decode cX8_holds 37 = .ok (.aload_n 0, 1) := by decide +kernel
theorem dX8_holds_38 : decode cX8_holds 38 = .ok (.bipush (-6), 2) := by decide +kernel
theorem dX8_holds_40 : decode cX8_holds 40 = .ok (.invokevirtual 174, 3) := by decide +kernel
theorem dX8_holds_43 : decode cX8_holds 43 = .ok (.lreturn, 1) := by decide +kernel
theorem dX8_holds_44 : decode cX8_holds 44 = .ok (.aload_n 0, 1) := by decide +kernel
theorem dX8_holds_45 : decode cX8_holds 45 = .ok (.getfield 54, 3) := by decide +kernel
theorem dX8_holds_48 : decode cX8_holds 48 = .ok (.invokevirtual 246, 3) := by decide +kernel
theorem dX8_holds_51 : decode cX8_holds 51 = .ok (.aload_n 0, 1) := by decide +kernel
theorem dX8_holds_52 : decode cX8_holds 52 = .ok (.getfield 54, 3) := by decide +kernel
theorem dX8_holds_55 : decode cX8_holds 55 = .ok (.invokevirtual 249, 3) := by decide +kernel
theorem dX8_holds_58 : decode cX8_holds 58 = .ok (.iload_n 1, 1) := by decide +kernel
theorem dX8_holds_59 : decode cX8_holds 59 = .ok (.invokestatic 236, 3) := by decide +kernel
theorem dX8_holds_62 : decode cX8_holds 62 = .ok (.lreturn, 1) := by decide +kernel
def gX8_holds (F : Nat) (m : Mem) (a1 : Int32) : Option (Int64 × Mem) := (gX8_isPart a1).bind (fun x1 => (if x1 = true then (gJ6_bitCount (m.1 1 3)).bind (fun x2 => (if ((m.1 1 1) - x2) ≤ 8 then (gX1_chancesToHold F m).bind (fun x3 => (gX1_chancesInAll F m).bind (fun x4 => (gX8_leastTerms F x3 x4 a1).bind (fun x5 => some (x5, m)))) else (gX8_refuseLong m (-6)).bind (fun q6 => some (q6.1, q6.2)))) else (gX8_refuseLong m (-2)).bind (fun q7 => some (q7.1, q7.2))))
set_option maxHeartbeats 4000000 in
set_option maxRecDepth 20000 in
theorem LX8_holds {n : Nat} {F : Nat} {m : Mem} {a1 : Int32} {r : Int64 × Mem} (hn : 43 ≤ n) (hg : gX8_holds F m a1 = some r) : MX yX8_holds cX8_holds 2 (some .long) { frames := 3, cells := 0, slots := 0, locals := 67 } n [.ref 0, .int a1] m (some (.long r.1)) r.2 := by
  refine MX_of (by decide) (Nat.le_of_ble_eq_true rfl) (Or.inr (Or.inr (Or.inl ⟨rfl, _, rfl⟩))) (fun K hC hk hL hR => ?_)
  replace hn : 43 ≤ kn K := hk.symm ▸ hn
  show RX K 0 [(0, .ref 0), (1, .int a1)] [] m
  rw [gX8_holds] at hg
  refine R_iload_n (pc := 0) hC 1 dX8_holds_0 rfl rfl ?_
  obtain ⟨x1, hx1, hg⟩ := bind_some hg
  refine R_callS (pc := 1) (av := [.int a1]) (rest := []) hC hR mf_X8_isPart wm_X8_225 (LX8_isPart hn hx1) rfl rfl rfl (Nat.le_of_ble_eq_true rfl) dX8_holds_1 rfl ?_
  show RX K 4 [(0, .ref 0), (1, .int a1)] [.int (b2i x1)] m
  refine R_ifB_ne (tgt := 14) (pc := 4) hC dX8_holds_4 (by decide) (fun c => ?_) (fun c => ?_)
  · replace hg := (if_pos c).symm.trans hg
    refine R_aload_n (pc := 14) hC 0 dX8_holds_14 rfl rfl ?_
    refine gf_X8_10 (pc := 15) hC hn dX8_holds_15 ?_
    refine gf_X8_144 (pc := 18) hC hn isv1 dX8_holds_18 ?_
    refine R_aload_n (pc := 21) hC 0 dX8_holds_21 rfl rfl ?_
    refine gf_X8_10 (pc := 22) hC hn dX8_holds_22 ?_
    refine gf_X8_243 (pc := 25) hC hn isv1 dX8_holds_25 ?_
    obtain ⟨x2, hx2, hg⟩ := bind_some hg
    refine R_callS (pc := 28) (av := [.int (m.1 1 3)]) (rest := [.int (m.1 1 1)]) hC hR mf_J6_bitCount wm_X8_194 (LJ6_bitCount hx2) rfl rfl rfl (Nat.le_of_ble_eq_true rfl) dX8_holds_28 rfl ?_
    show RX K 31 [(0, .ref 0), (1, .int a1)] [.int x2, .int (m.1 1 1)] m
    refine R_isub (pc := 31) hC dX8_holds_31 ?_
    refine R_bipush (pc := 32) hC dX8_holds_32 kb_8 ?_
    refine R_icmp_le (tgt := 44) (pc := 34) hC dX8_holds_34 (by decide) (fun c => ?_) (fun c => ?_)
    · replace hg := (if_pos c).symm.trans hg
      refine R_aload_n (pc := 44) hC 0 dX8_holds_44 rfl rfl ?_
      refine gf_X8_54 (pc := 45) hC hn dX8_holds_45 ?_
      obtain ⟨x3, hx3, hg⟩ := bind_some hg
      refine R_callVN (pc := 48) (av := []) (rest := []) hC hR 30 (jx hn rfl) ly30 rfl mf_X1_chancesToHold wm_X8_246 (LX1_chancesToHold hn hx3) rfl rfl rfl (Nat.le_of_ble_eq_true rfl) dX8_holds_48 rfl ?_
      show RX K 51 [(0, .ref 0), (1, .int a1)] [.long x3] m
      refine R_aload_n (pc := 51) hC 0 dX8_holds_51 rfl rfl ?_
      refine gf_X8_54 (pc := 52) hC hn dX8_holds_52 ?_
      obtain ⟨x4, hx4, hg⟩ := bind_some hg
      refine R_callVN (pc := 55) (av := []) (rest := [.long x3]) hC hR 30 (jx hn rfl) ly30 rfl mf_X1_chancesInAll wm_X8_249 (LX1_chancesInAll hn hx4) rfl rfl rfl (Nat.le_of_ble_eq_true rfl) dX8_holds_55 rfl ?_
      show RX K 58 [(0, .ref 0), (1, .int a1)] [.long x4, .long x3] m
      refine R_iload_n (pc := 58) hC 1 dX8_holds_58 rfl rfl ?_
      obtain ⟨x5, hx5, hg⟩ := bind_some hg
      refine R_callS (pc := 59) (av := [.long x3, .long x4, .int a1]) (rest := []) hC hR mf_X8_leastTerms wm_X8_236 (LX8_leastTerms hn hx5) rfl rfl rfl (Nat.le_of_ble_eq_true rfl) dX8_holds_59 rfl ?_
      show RX K 62 [(0, .ref 0), (1, .int a1)] [.long x5] m
      have h9 := gxJM hg
      exact R_lreturn (pc := 62) hC dX8_holds_62 h9
    · replace hg := (if_neg c).symm.trans hg
      refine R_aload_n (pc := 37) hC 0 dX8_holds_37 rfl rfl ?_
      refine R_bipush (pc := 38) hC dX8_holds_38 kb_m6 ?_
      obtain ⟨q6, hq6, hg⟩ := bind_some hg
      refine R_callV (pc := 40) (av := [.int (-6)]) (rest := []) hC hR 0 (jx hn rfl) ly0 rfl mf_X8_refuseLong wm_X8_174 (LX8_refuseLong hn hq6) rfl rfl rfl (Nat.le_of_ble_eq_true rfl) dX8_holds_40 rfl ?_
      show RX K 43 [(0, .ref 0), (1, .int a1)] [.long q6.1] q6.2
      have h9 := gxJM hg
      exact R_lreturn (pc := 43) hC dX8_holds_43 h9
  · replace hg := (if_neg c).symm.trans hg
    refine R_aload_n (pc := 7) hC 0 dX8_holds_7 rfl rfl ?_
    refine R_bipush (pc := 8) hC dX8_holds_8 kb_m2 ?_
    obtain ⟨q7, hq7, hg⟩ := bind_some hg
    refine R_callV (pc := 10) (av := [.int (-2)]) (rest := []) hC hR 0 (jx hn rfl) ly0 rfl mf_X8_refuseLong wm_X8_174 (LX8_refuseLong hn hq7) rfl rfl rfl (Nat.le_of_ble_eq_true rfl) dX8_holds_10 rfl ?_
    show RX K 13 [(0, .ref 0), (1, .int a1)] [.long q7.1] q7.2
    have h9 := gxJM hg
    exact R_lreturn (pc := 13) hC dX8_holds_13 h9
theorem dX8_plan_0 : decode cX8_plan 0 = .ok (.iload_n 2, 1) := by decide +kernel
theorem dX8_plan_1 : decode cX8_plan 1 = .ok (.ifCond .eq 15, 3) := by decide +kernel
theorem dX8_plan_4 : decode cX8_plan 4 = .ok (.iload_n 2, 1) := by decide +kernel
theorem dX8_plan_5 : decode cX8_plan 5 = .ok (.iconst 1, 1) := by decide +kernel
theorem dX8_plan_6 : decode cX8_plan 6 = .ok (.if_icmp .eq 10, 3) := by decide +kernel
theorem dX8_plan_9 : decode cX8_plan 9 = .ok (.aload_n 0, 1) := by decide +kernel
theorem dX8_plan_10 : decode cX8_plan 10 = .ok (.bipush (-2), 2) := by decide +kernel
theorem dX8_plan_12 : decode cX8_plan 12 = .ok (.invokevirtual 91, 3) := by decide +kernel
theorem dX8_plan_15 : decode cX8_plan 15 = .ok (.ireturn, 1) := by decide +kernel
theorem dX8_plan_16 : decode cX8_plan 16 = .ok (.iload_n 1, 1) := by decide +kernel
theorem dX8_plan_17 : decode cX8_plan 17 = .ok (.iconst 1, 1) := by decide +kernel
theorem dX8_plan_18 : decode cX8_plan 18 = .ok (.if_icmp .ge 10, 3) := by decide +kernel
theorem dX8_plan_21 : decode cX8_plan 21 = .ok (.aload_n 0, 1) := by decide +kernel
theorem dX8_plan_22 : decode cX8_plan 22 = .ok (.bipush (-4), 2) := by decide +kernel
theorem dX8_plan_24 : decode cX8_plan 24 = .ok (.invokevirtual 91, 3) := by decide +kernel
theorem dX8_plan_27 : decode cX8_plan 27 = .ok (.ireturn, 1) := by decide +kernel
theorem dX8_plan_28 : decode cX8_plan 28 = .ok (.iload_n 1, 1) := by decide +kernel
theorem dX8_plan_29 : decode cX8_plan 29 = .ok (.bipush 10, 2) := by decide +kernel
theorem dX8_plan_31 : decode cX8_plan 31 = .ok (.if_icmp .gt 28, 3) := by decide +kernel
theorem dX8_plan_34 : decode cX8_plan 34 = .ok (.aload_n 0, 1) := by decide +kernel
theorem dX8_plan_35 : decode cX8_plan 35 = .ok (.getfield 10, 3) := by decide +kernel
theorem dX8_plan_38 : decode cX8_plan 38 = .ok (.getfield 252, 3) := by decide +kernel
theorem dX8_plan_41 : decode cX8_plan 41 = .ok (.iconst 5, 1) := by decide +kernel
theorem dX8_plan_42 : decode cX8_plan 42 = .ok (.if_icmp .gt 17, 3) := by decide +kernel
theorem dX8_plan_45 : decode cX8_plan 45 = .ok (.iload_n 1, 1) := by decide +kernel
theorem dX8_plan_46 : decode cX8_plan 46 = .ok (.aload_n 0, 1) := by decide +kernel
theorem dX8_plan_47 : decode cX8_plan 47 = .ok (.getfield 10, 3) := by decide +kernel
theorem dX8_plan_50 : decode cX8_plan 50 = .ok (.getfield 252, 3) := by decide +kernel
theorem dX8_plan_53 : decode cX8_plan 53 = .ok (.invokestatic 255, 3) := by decide +kernel
theorem dX8_plan_56 : decode cX8_plan 56 = .ok (.if_icmp .le 10, 3) := by decide +kernel
theorem dX8_plan_59 : decode cX8_plan 59 = .ok (.aload_n 0, 1) := by decide +kernel
theorem dX8_plan_60 : decode cX8_plan 60 = .ok (.bipush (-6), 2) := by decide +kernel
theorem dX8_plan_62 : decode cX8_plan 62 = .ok (.invokevirtual 91, 3) := by decide +kernel
theorem dX8_plan_65 : decode cX8_plan 65 = .ok (.ireturn, 1) := by decide +kernel
theorem dX8_plan_66 : decode cX8_plan 66 = .ok (.aload_n 0, 1) := by decide +kernel
theorem dX8_plan_67 : decode cX8_plan 67 = .ok (.getfield 61, 3) := by decide +kernel
theorem dX8_plan_70 : decode cX8_plan 70 = .ok (.aload_n 0, 1) := by decide +kernel
theorem dX8_plan_71 : decode cX8_plan 71 = .ok (.getfield 10, 3) := by decide +kernel
theorem dX8_plan_74 : decode cX8_plan 74 = .ok (.getfield 252, 3) := by decide +kernel
theorem dX8_plan_77 : decode cX8_plan 77 = .ok (.invokevirtual 258, 3) := by decide +kernel
theorem dX8_plan_80 : decode cX8_plan 80 = .ok (.iload_n 2, 1) := by decide +kernel
theorem dX8_plan_81 : decode cX8_plan 81 = .ok (.ifCond .ne 14, 3) := by decide +kernel
theorem dX8_plan_84 : decode cX8_plan 84 = .ok (.aload_n 0, 1) := by decide +kernel
theorem dX8_plan_85 : decode cX8_plan 85 = .ok (.getfield 61, 3) := by decide +kernel
theorem dX8_plan_88 : decode cX8_plan 88 = .ok (.iload_n 1, 1) := by decide +kernel
theorem dX8_plan_89 : decode cX8_plan 89 = .ok (.invokevirtual 262, 3) := by decide +kernel
theorem dX8_plan_92 : decode cX8_plan 92 = .ok (.goto 11, 3) := by decide +kernel
theorem dX8_plan_95 : decode cX8_plan 95 = .ok (.aload_n 0, 1) := by decide +kernel
theorem dX8_plan_96 : decode cX8_plan 96 = .ok (.getfield 61, 3) := by decide +kernel
theorem dX8_plan_99 : decode cX8_plan 99 = .ok (.iload_n 1, 1) := by decide +kernel
theorem dX8_plan_100 : decode cX8_plan 100 = .ok (.invokevirtual 265, 3) := by decide +kernel
theorem dX8_plan_103 : decode cX8_plan 103 = .ok (.ireturn, 1) := by decide +kernel
def gX8_plan (F : Nat) (m : Mem) (a1 : Int32) (a2 : Int32) : Option (Int32 × Mem) := (if a2 = 0 then (if 1 ≤ a1 then (if 10 < a1 then (gX8_refuse m (-6)).bind (fun q1 => some (q1.1, q1.2)) else (if 5 < (m.1 1 0) then (gX8_refuse m (-6)).bind (fun q2 => some (q2.1, q2.2)) else (gX8_pairsOf (m.1 1 0)).bind (fun x3 => (if a1 ≤ x3 then (gX4_makeFor F m (m.1 1 0)).bind (fun q4 => (if a2 = 0 then (gX4_mostWays q4 a1).bind (fun x6 => some (x6, q4)) else (gX4_firstSet q4 a1).bind (fun x5 => some (x5, q4)))) else (gX8_refuse m (-6)).bind (fun q7 => some (q7.1, q7.2)))))) else (gX8_refuse m (-4)).bind (fun q8 => some (q8.1, q8.2))) else (if a2 = 1 then (if 1 ≤ a1 then (if 10 < a1 then (gX8_refuse m (-6)).bind (fun q9 => some (q9.1, q9.2)) else (if 5 < (m.1 1 0) then (gX8_refuse m (-6)).bind (fun q10 => some (q10.1, q10.2)) else (gX8_pairsOf (m.1 1 0)).bind (fun x11 => (if a1 ≤ x11 then (gX4_makeFor F m (m.1 1 0)).bind (fun q12 => (if a2 = 0 then (gX4_mostWays q12 a1).bind (fun x14 => some (x14, q12)) else (gX4_firstSet q12 a1).bind (fun x13 => some (x13, q12)))) else (gX8_refuse m (-6)).bind (fun q15 => some (q15.1, q15.2)))))) else (gX8_refuse m (-4)).bind (fun q16 => some (q16.1, q16.2))) else (gX8_refuse m (-2)).bind (fun q17 => some (q17.1, q17.2))))
set_option maxHeartbeats 4000000 in
set_option maxRecDepth 20000 in
theorem LX8_plan {n : Nat} {F : Nat} {m : Mem} {a1 : Int32} {a2 : Int32} {r : Int32 × Mem} (hn : 43 ≤ n) (hg : gX8_plan F m a1 a2 = some r) : MX yX8_plan cX8_plan 3 (some .int) { frames := 5, cells := 0, slots := 0, locals := 121 } n [.ref 0, .int a1, .int a2] m (some (.int r.1)) r.2 := by
  refine MX_of (by decide) (Nat.le_of_ble_eq_true rfl) (Or.inr (Or.inl ⟨rfl, _, rfl⟩)) (fun K hC hk hL hR => ?_)
  replace hn : 43 ≤ kn K := hk.symm ▸ hn
  show RX K 0 [(0, .ref 0), (1, .int a1), (2, .int a2)] [] m
  rw [gX8_plan] at hg
  refine R_iload_n (pc := 0) hC 2 dX8_plan_0 rfl rfl ?_
  refine R_if_eq (tgt := 16) (pc := 1) hC dX8_plan_1 (by decide) (fun c => ?_) (fun c => ?_)
  · replace hg := (if_pos c).symm.trans hg
    refine R_iload_n (pc := 16) hC 1 dX8_plan_16 rfl rfl ?_
    refine R_iconst (pc := 17) hC dX8_plan_17 ki_1 ?_
    refine R_icmp_ge (tgt := 28) (pc := 18) hC dX8_plan_18 (by decide) (fun c => ?_) (fun c => ?_)
    · replace hg := (if_pos c).symm.trans hg
      refine R_iload_n (pc := 28) hC 1 dX8_plan_28 rfl rfl ?_
      refine R_bipush (pc := 29) hC dX8_plan_29 kb_10 ?_
      refine R_icmp_gt (tgt := 59) (pc := 31) hC dX8_plan_31 (by decide) (fun c => ?_) (fun c => ?_)
      · replace hg := (if_pos c).symm.trans hg
        refine R_aload_n (pc := 59) hC 0 dX8_plan_59 rfl rfl ?_
        refine R_bipush (pc := 60) hC dX8_plan_60 kb_m6 ?_
        obtain ⟨q1, hq1, hg⟩ := bind_some hg
        refine R_callV (pc := 62) (av := [.int (-6)]) (rest := []) hC hR 0 (jx hn rfl) ly0 rfl mf_X8_refuse wm_X8_91 (LX8_refuse hn hq1) rfl rfl rfl (Nat.le_of_ble_eq_true rfl) dX8_plan_62 rfl ?_
        show RX K 65 [(0, .ref 0), (1, .int a1), (2, .int a2)] [.int q1.1] q1.2
        have h9 := gxIM hg
        exact R_ireturn (pc := 65) hC dX8_plan_65 h9
      · replace hg := (if_neg c).symm.trans hg
        refine R_aload_n (pc := 34) hC 0 dX8_plan_34 rfl rfl ?_
        refine gf_X8_10 (pc := 35) hC hn dX8_plan_35 ?_
        refine gf_X8_252 (pc := 38) hC hn isv1 dX8_plan_38 ?_
        refine R_iconst (pc := 41) hC dX8_plan_41 ki_5 ?_
        refine R_icmp_gt (tgt := 59) (pc := 42) hC dX8_plan_42 (by decide) (fun c => ?_) (fun c => ?_)
        · replace hg := (if_pos c).symm.trans hg
          refine R_aload_n (pc := 59) hC 0 dX8_plan_59 rfl rfl ?_
          refine R_bipush (pc := 60) hC dX8_plan_60 kb_m6 ?_
          obtain ⟨q2, hq2, hg⟩ := bind_some hg
          refine R_callV (pc := 62) (av := [.int (-6)]) (rest := []) hC hR 0 (jx hn rfl) ly0 rfl mf_X8_refuse wm_X8_91 (LX8_refuse hn hq2) rfl rfl rfl (Nat.le_of_ble_eq_true rfl) dX8_plan_62 rfl ?_
          show RX K 65 [(0, .ref 0), (1, .int a1), (2, .int a2)] [.int q2.1] q2.2
          have h9 := gxIM hg
          exact R_ireturn (pc := 65) hC dX8_plan_65 h9
        · replace hg := (if_neg c).symm.trans hg
          refine R_iload_n (pc := 45) hC 1 dX8_plan_45 rfl rfl ?_
          refine R_aload_n (pc := 46) hC 0 dX8_plan_46 rfl rfl ?_
          refine gf_X8_10 (pc := 47) hC hn dX8_plan_47 ?_
          refine gf_X8_252 (pc := 50) hC hn isv1 dX8_plan_50 ?_
          obtain ⟨x3, hx3, hg⟩ := bind_some hg
          refine R_callS (pc := 53) (av := [.int (m.1 1 0)]) (rest := [.int a1]) hC hR mf_X8_pairsOf wm_X8_255 (LX8_pairsOf hn hx3) rfl rfl rfl (Nat.le_of_ble_eq_true rfl) dX8_plan_53 rfl ?_
          show RX K 56 [(0, .ref 0), (1, .int a1), (2, .int a2)] [.int x3, .int a1] m
          refine R_icmp_le (tgt := 66) (pc := 56) hC dX8_plan_56 (by decide) (fun c => ?_) (fun c => ?_)
          · replace hg := (if_pos c).symm.trans hg
            refine R_aload_n (pc := 66) hC 0 dX8_plan_66 rfl rfl ?_
            refine gf_X8_61 (pc := 67) hC hn dX8_plan_67 ?_
            refine R_aload_n (pc := 70) hC 0 dX8_plan_70 rfl rfl ?_
            refine gf_X8_10 (pc := 71) hC hn dX8_plan_71 ?_
            refine gf_X8_252 (pc := 74) hC hn isv1 dX8_plan_74 ?_
            obtain ⟨q4, hq4, hg⟩ := bind_some hg
            refine R_callVN (pc := 77) (av := [.int (m.1 1 0)]) (rest := []) hC hR 31 (jx hn rfl) ly31 rfl mf_X4_makeFor wm_X8_258 (LX4_makeFor hn hq4) rfl rfl rfl (Nat.le_of_ble_eq_true rfl) dX8_plan_77 rfl ?_
            show RX K 80 [(0, .ref 0), (1, .int a1), (2, .int a2)] [] q4
            refine R_iload_n (pc := 80) hC 2 dX8_plan_80 rfl rfl ?_
            refine R_if_ne (tgt := 95) (pc := 81) hC dX8_plan_81 (by decide) (fun c => ?_) (fun c => ?_)
            · replace hg := (if_neg c).symm.trans hg
              refine R_aload_n (pc := 95) hC 0 dX8_plan_95 rfl rfl ?_
              refine gf_X8_61 (pc := 96) hC hn dX8_plan_96 ?_
              refine R_iload_n (pc := 99) hC 1 dX8_plan_99 rfl rfl ?_
              obtain ⟨x5, hx5, hg⟩ := bind_some hg
              refine R_callVN (pc := 100) (av := [.int a1]) (rest := []) hC hR 31 (jx hn rfl) ly31 rfl mf_X4_firstSet wm_X8_265 (LX4_firstSet hn hx5) rfl rfl rfl (Nat.le_of_ble_eq_true rfl) dX8_plan_100 rfl ?_
              show RX K 103 [(0, .ref 0), (1, .int a1), (2, .int a2)] [.int x5] q4
              have h9 := gxIM hg
              exact R_ireturn (pc := 103) hC dX8_plan_103 h9
            · replace hg := (if_pos c).symm.trans hg
              refine R_aload_n (pc := 84) hC 0 dX8_plan_84 rfl rfl ?_
              refine gf_X8_61 (pc := 85) hC hn dX8_plan_85 ?_
              refine R_iload_n (pc := 88) hC 1 dX8_plan_88 rfl rfl ?_
              obtain ⟨x6, hx6, hg⟩ := bind_some hg
              refine R_callVN (pc := 89) (av := [.int a1]) (rest := []) hC hR 31 (jx hn rfl) ly31 rfl mf_X4_mostWays wm_X8_262 (LX4_mostWays hn hx6) rfl rfl rfl (Nat.le_of_ble_eq_true rfl) dX8_plan_89 rfl ?_
              show RX K 92 [(0, .ref 0), (1, .int a1), (2, .int a2)] [.int x6] q4
              refine R_goto (tgt := 103) (pc := 92) hC dX8_plan_92 (by decide) ?_
              have h9 := gxIM hg
              exact R_ireturn (pc := 103) hC dX8_plan_103 h9
          · replace hg := (if_neg c).symm.trans hg
            refine R_aload_n (pc := 59) hC 0 dX8_plan_59 rfl rfl ?_
            refine R_bipush (pc := 60) hC dX8_plan_60 kb_m6 ?_
            obtain ⟨q7, hq7, hg⟩ := bind_some hg
            refine R_callV (pc := 62) (av := [.int (-6)]) (rest := []) hC hR 0 (jx hn rfl) ly0 rfl mf_X8_refuse wm_X8_91 (LX8_refuse hn hq7) rfl rfl rfl (Nat.le_of_ble_eq_true rfl) dX8_plan_62 rfl ?_
            show RX K 65 [(0, .ref 0), (1, .int a1), (2, .int a2)] [.int q7.1] q7.2
            have h9 := gxIM hg
            exact R_ireturn (pc := 65) hC dX8_plan_65 h9
    · replace hg := (if_neg c).symm.trans hg
      refine R_aload_n (pc := 21) hC 0 dX8_plan_21 rfl rfl ?_
      refine R_bipush (pc := 22) hC dX8_plan_22 kb_m4 ?_
      obtain ⟨q8, hq8, hg⟩ := bind_some hg
      refine R_callV (pc := 24) (av := [.int (-4)]) (rest := []) hC hR 0 (jx hn rfl) ly0 rfl mf_X8_refuse wm_X8_91 (LX8_refuse hn hq8) rfl rfl rfl (Nat.le_of_ble_eq_true rfl) dX8_plan_24 rfl ?_
      show RX K 27 [(0, .ref 0), (1, .int a1), (2, .int a2)] [.int q8.1] q8.2
      have h9 := gxIM hg
      exact R_ireturn (pc := 27) hC dX8_plan_27 h9
  · replace hg := (if_neg c).symm.trans hg
    refine R_iload_n (pc := 4) hC 2 dX8_plan_4 rfl rfl ?_
    refine R_iconst (pc := 5) hC dX8_plan_5 ki_1 ?_
    refine R_icmp_eq (tgt := 16) (pc := 6) hC dX8_plan_6 (by decide) (fun c => ?_) (fun c => ?_)
    · replace hg := (if_pos c).symm.trans hg
      refine R_iload_n (pc := 16) hC 1 dX8_plan_16 rfl rfl ?_
      refine R_iconst (pc := 17) hC dX8_plan_17 ki_1 ?_
      refine R_icmp_ge (tgt := 28) (pc := 18) hC dX8_plan_18 (by decide) (fun c => ?_) (fun c => ?_)
      · replace hg := (if_pos c).symm.trans hg
        refine R_iload_n (pc := 28) hC 1 dX8_plan_28 rfl rfl ?_
        refine R_bipush (pc := 29) hC dX8_plan_29 kb_10 ?_
        refine R_icmp_gt (tgt := 59) (pc := 31) hC dX8_plan_31 (by decide) (fun c => ?_) (fun c => ?_)
        · replace hg := (if_pos c).symm.trans hg
          refine R_aload_n (pc := 59) hC 0 dX8_plan_59 rfl rfl ?_
          refine R_bipush (pc := 60) hC dX8_plan_60 kb_m6 ?_
          obtain ⟨q9, hq9, hg⟩ := bind_some hg
          refine R_callV (pc := 62) (av := [.int (-6)]) (rest := []) hC hR 0 (jx hn rfl) ly0 rfl mf_X8_refuse wm_X8_91 (LX8_refuse hn hq9) rfl rfl rfl (Nat.le_of_ble_eq_true rfl) dX8_plan_62 rfl ?_
          show RX K 65 [(0, .ref 0), (1, .int a1), (2, .int a2)] [.int q9.1] q9.2
          have h9 := gxIM hg
          exact R_ireturn (pc := 65) hC dX8_plan_65 h9
        · replace hg := (if_neg c).symm.trans hg
          refine R_aload_n (pc := 34) hC 0 dX8_plan_34 rfl rfl ?_
          refine gf_X8_10 (pc := 35) hC hn dX8_plan_35 ?_
          refine gf_X8_252 (pc := 38) hC hn isv1 dX8_plan_38 ?_
          refine R_iconst (pc := 41) hC dX8_plan_41 ki_5 ?_
          refine R_icmp_gt (tgt := 59) (pc := 42) hC dX8_plan_42 (by decide) (fun c => ?_) (fun c => ?_)
          · replace hg := (if_pos c).symm.trans hg
            refine R_aload_n (pc := 59) hC 0 dX8_plan_59 rfl rfl ?_
            refine R_bipush (pc := 60) hC dX8_plan_60 kb_m6 ?_
            obtain ⟨q10, hq10, hg⟩ := bind_some hg
            refine R_callV (pc := 62) (av := [.int (-6)]) (rest := []) hC hR 0 (jx hn rfl) ly0 rfl mf_X8_refuse wm_X8_91 (LX8_refuse hn hq10) rfl rfl rfl (Nat.le_of_ble_eq_true rfl) dX8_plan_62 rfl ?_
            show RX K 65 [(0, .ref 0), (1, .int a1), (2, .int a2)] [.int q10.1] q10.2
            have h9 := gxIM hg
            exact R_ireturn (pc := 65) hC dX8_plan_65 h9
          · replace hg := (if_neg c).symm.trans hg
            refine R_iload_n (pc := 45) hC 1 dX8_plan_45 rfl rfl ?_
            refine R_aload_n (pc := 46) hC 0 dX8_plan_46 rfl rfl ?_
            refine gf_X8_10 (pc := 47) hC hn dX8_plan_47 ?_
            refine gf_X8_252 (pc := 50) hC hn isv1 dX8_plan_50 ?_
            obtain ⟨x11, hx11, hg⟩ := bind_some hg
            refine R_callS (pc := 53) (av := [.int (m.1 1 0)]) (rest := [.int a1]) hC hR mf_X8_pairsOf wm_X8_255 (LX8_pairsOf hn hx11) rfl rfl rfl (Nat.le_of_ble_eq_true rfl) dX8_plan_53 rfl ?_
            show RX K 56 [(0, .ref 0), (1, .int a1), (2, .int a2)] [.int x11, .int a1] m
            refine R_icmp_le (tgt := 66) (pc := 56) hC dX8_plan_56 (by decide) (fun c => ?_) (fun c => ?_)
            · replace hg := (if_pos c).symm.trans hg
              refine R_aload_n (pc := 66) hC 0 dX8_plan_66 rfl rfl ?_
              refine gf_X8_61 (pc := 67) hC hn dX8_plan_67 ?_
              refine R_aload_n (pc := 70) hC 0 dX8_plan_70 rfl rfl ?_
              refine gf_X8_10 (pc := 71) hC hn dX8_plan_71 ?_
              refine gf_X8_252 (pc := 74) hC hn isv1 dX8_plan_74 ?_
              obtain ⟨q12, hq12, hg⟩ := bind_some hg
              refine R_callVN (pc := 77) (av := [.int (m.1 1 0)]) (rest := []) hC hR 31 (jx hn rfl) ly31 rfl mf_X4_makeFor wm_X8_258 (LX4_makeFor hn hq12) rfl rfl rfl (Nat.le_of_ble_eq_true rfl) dX8_plan_77 rfl ?_
              show RX K 80 [(0, .ref 0), (1, .int a1), (2, .int a2)] [] q12
              refine R_iload_n (pc := 80) hC 2 dX8_plan_80 rfl rfl ?_
              refine R_if_ne (tgt := 95) (pc := 81) hC dX8_plan_81 (by decide) (fun c => ?_) (fun c => ?_)
              · replace hg := (if_neg c).symm.trans hg
                refine R_aload_n (pc := 95) hC 0 dX8_plan_95 rfl rfl ?_
                refine gf_X8_61 (pc := 96) hC hn dX8_plan_96 ?_
                refine R_iload_n (pc := 99) hC 1 dX8_plan_99 rfl rfl ?_
                obtain ⟨x13, hx13, hg⟩ := bind_some hg
                refine R_callVN (pc := 100) (av := [.int a1]) (rest := []) hC hR 31 (jx hn rfl) ly31 rfl mf_X4_firstSet wm_X8_265 (LX4_firstSet hn hx13) rfl rfl rfl (Nat.le_of_ble_eq_true rfl) dX8_plan_100 rfl ?_
                show RX K 103 [(0, .ref 0), (1, .int a1), (2, .int a2)] [.int x13] q12
                have h9 := gxIM hg
                exact R_ireturn (pc := 103) hC dX8_plan_103 h9
              · replace hg := (if_pos c).symm.trans hg
                refine R_aload_n (pc := 84) hC 0 dX8_plan_84 rfl rfl ?_
                refine gf_X8_61 (pc := 85) hC hn dX8_plan_85 ?_
                refine R_iload_n (pc := 88) hC 1 dX8_plan_88 rfl rfl ?_
                obtain ⟨x14, hx14, hg⟩ := bind_some hg
                refine R_callVN (pc := 89) (av := [.int a1]) (rest := []) hC hR 31 (jx hn rfl) ly31 rfl mf_X4_mostWays wm_X8_262 (LX4_mostWays hn hx14) rfl rfl rfl (Nat.le_of_ble_eq_true rfl) dX8_plan_89 rfl ?_
                show RX K 92 [(0, .ref 0), (1, .int a1), (2, .int a2)] [.int x14] q12
                refine R_goto (tgt := 103) (pc := 92) hC dX8_plan_92 (by decide) ?_
                have h9 := gxIM hg
                exact R_ireturn (pc := 103) hC dX8_plan_103 h9
            · replace hg := (if_neg c).symm.trans hg
              refine R_aload_n (pc := 59) hC 0 dX8_plan_59 rfl rfl ?_
              refine R_bipush (pc := 60) hC dX8_plan_60 kb_m6 ?_
              obtain ⟨q15, hq15, hg⟩ := bind_some hg
              refine R_callV (pc := 62) (av := [.int (-6)]) (rest := []) hC hR 0 (jx hn rfl) ly0 rfl mf_X8_refuse wm_X8_91 (LX8_refuse hn hq15) rfl rfl rfl (Nat.le_of_ble_eq_true rfl) dX8_plan_62 rfl ?_
              show RX K 65 [(0, .ref 0), (1, .int a1), (2, .int a2)] [.int q15.1] q15.2
              have h9 := gxIM hg
              exact R_ireturn (pc := 65) hC dX8_plan_65 h9
      · replace hg := (if_neg c).symm.trans hg
        refine R_aload_n (pc := 21) hC 0 dX8_plan_21 rfl rfl ?_
        refine R_bipush (pc := 22) hC dX8_plan_22 kb_m4 ?_
        obtain ⟨q16, hq16, hg⟩ := bind_some hg
        refine R_callV (pc := 24) (av := [.int (-4)]) (rest := []) hC hR 0 (jx hn rfl) ly0 rfl mf_X8_refuse wm_X8_91 (LX8_refuse hn hq16) rfl rfl rfl (Nat.le_of_ble_eq_true rfl) dX8_plan_24 rfl ?_
        show RX K 27 [(0, .ref 0), (1, .int a1), (2, .int a2)] [.int q16.1] q16.2
        have h9 := gxIM hg
        exact R_ireturn (pc := 27) hC dX8_plan_27 h9
    · replace hg := (if_neg c).symm.trans hg
      refine R_aload_n (pc := 9) hC 0 dX8_plan_9 rfl rfl ?_
      refine R_bipush (pc := 10) hC dX8_plan_10 kb_m2 ?_
      obtain ⟨q17, hq17, hg⟩ := bind_some hg
      refine R_callV (pc := 12) (av := [.int (-2)]) (rest := []) hC hR 0 (jx hn rfl) ly0 rfl mf_X8_refuse wm_X8_91 (LX8_refuse hn hq17) rfl rfl rfl (Nat.le_of_ble_eq_true rfl) dX8_plan_12 rfl ?_
      show RX K 15 [(0, .ref 0), (1, .int a1), (2, .int a2)] [.int q17.1] q17.2
      have h9 := gxIM hg
      exact R_ireturn (pc := 15) hC dX8_plan_15 h9
theorem dX8_draw_0 : decode cX8_draw 0 = .ok (.aload_n 0, 1) := by decide +kernel
theorem dX8_draw_1 : decode cX8_draw 1 = .ok (.getfield 77, 3) := by decide +kernel
theorem dX8_draw_4 : decode cX8_draw 4 = .ok (.iload_n 1, 1) := by decide +kernel
theorem dX8_draw_5 : decode cX8_draw 5 = .ok (.invokevirtual 268, 3) := by decide +kernel
theorem dX8_draw_8 : decode cX8_draw 8 = .ok (.ifCond .ne 10, 3) := by decide +kernel
theorem dX8_draw_11 : decode cX8_draw 11 = .ok (.aload_n 0, 1) := by decide +kernel
theorem dX8_draw_12 : decode cX8_draw 12 = .ok (.bipush (-2), 2) := by decide +kernel
theorem dX8_draw_14 : decode cX8_draw 14 = .ok (.invokevirtual 91, 3) := by decide +kernel
theorem dX8_draw_17 : decode cX8_draw 17 = .ok (.ireturn, 1) := by decide +kernel
theorem dX8_draw_18 : decode cX8_draw 18 = .ok (.aload_n 0, 1) := by decide +kernel
theorem dX8_draw_19 : decode cX8_draw 19 = .ok (.getfield 77, 3) := by decide +kernel
theorem dX8_draw_22 : decode cX8_draw 22 = .ok (.iload_n 2, 1) := by decide +kernel
theorem dX8_draw_23 : decode cX8_draw 23 = .ok (.invokevirtual 271, 3) := by decide +kernel
theorem dX8_draw_26 : decode cX8_draw 26 = .ok (.aload_n 0, 1) := by decide +kernel
theorem dX8_draw_27 : decode cX8_draw 27 = .ok (.getfield 77, 3) := by decide +kernel
theorem dX8_draw_30 : decode cX8_draw 30 = .ok (.iload_n 1, 1) := by decide +kernel
theorem dX8_draw_31 : decode cX8_draw 31 = .ok (.invokevirtual 274, 3) := by decide +kernel
theorem dX8_draw_34 : decode cX8_draw 34 = .ok (.ireturn, 1) := by decide +kernel
def gX8_draw (F : Nat) (m : Mem) (a1 : Int32) (a2 : Int32) : Option (Int32 × Mem) := (gX0_isDrawer a1).bind (fun x1 => (if x1 = true then (gX0_begin F m a2).bind (fun q2 => (gX0_makeNext F q2 a1).bind (fun q3 => some (q3.1, q3.2))) else (gX8_refuse m (-2)).bind (fun q4 => some (q4.1, q4.2))))
set_option maxHeartbeats 4000000 in
set_option maxRecDepth 20000 in
theorem LX8_draw {n : Nat} {F : Nat} {m : Mem} {a1 : Int32} {a2 : Int32} {r : Int32 × Mem} (hn : 43 ≤ n) (hg : gX8_draw F m a1 a2 = some r) : MX yX8_draw cX8_draw 3 (some .int) { frames := 5, cells := 0, slots := 0, locals := 107 } n [.ref 0, .int a1, .int a2] m (some (.int r.1)) r.2 := by
  refine MX_of (by decide) (Nat.le_of_ble_eq_true rfl) (Or.inr (Or.inl ⟨rfl, _, rfl⟩)) (fun K hC hk hL hR => ?_)
  replace hn : 43 ≤ kn K := hk.symm ▸ hn
  show RX K 0 [(0, .ref 0), (1, .int a1), (2, .int a2)] [] m
  rw [gX8_draw] at hg
  refine R_aload_n (pc := 0) hC 0 dX8_draw_0 rfl rfl ?_
  refine gf_X8_77 (pc := 1) hC hn dX8_draw_1 ?_
  refine R_iload_n (pc := 4) hC 1 dX8_draw_4 rfl rfl ?_
  obtain ⟨x1, hx1, hg⟩ := bind_some hg
  refine R_callVN (pc := 5) (av := [.int a1]) (rest := []) hC hR 37 (jx hn rfl) ly37 rfl mf_X0_isDrawer wm_X8_268 (LX0_isDrawer hn hx1) rfl rfl rfl (Nat.le_of_ble_eq_true rfl) dX8_draw_5 rfl ?_
  show RX K 8 [(0, .ref 0), (1, .int a1), (2, .int a2)] [.int (b2i x1)] m
  refine R_ifB_ne (tgt := 18) (pc := 8) hC dX8_draw_8 (by decide) (fun c => ?_) (fun c => ?_)
  · replace hg := (if_pos c).symm.trans hg
    refine R_aload_n (pc := 18) hC 0 dX8_draw_18 rfl rfl ?_
    refine gf_X8_77 (pc := 19) hC hn dX8_draw_19 ?_
    refine R_iload_n (pc := 22) hC 2 dX8_draw_22 rfl rfl ?_
    obtain ⟨q2, hq2, hg⟩ := bind_some hg
    refine R_callVN (pc := 23) (av := [.int a2]) (rest := []) hC hR 37 (jx hn rfl) ly37 rfl mf_X0_begin wm_X8_271 (LX0_begin hn hq2) rfl rfl rfl (Nat.le_of_ble_eq_true rfl) dX8_draw_23 rfl ?_
    show RX K 26 [(0, .ref 0), (1, .int a1), (2, .int a2)] [] q2
    refine R_aload_n (pc := 26) hC 0 dX8_draw_26 rfl rfl ?_
    refine gf_X8_77 (pc := 27) hC hn dX8_draw_27 ?_
    refine R_iload_n (pc := 30) hC 1 dX8_draw_30 rfl rfl ?_
    obtain ⟨q3, hq3, hg⟩ := bind_some hg
    refine R_callVN (pc := 31) (av := [.int a1]) (rest := []) hC hR 37 (jx hn rfl) ly37 rfl mf_X0_makeNext wm_X8_274 (LX0_makeNext hn hq3) rfl rfl rfl (Nat.le_of_ble_eq_true rfl) dX8_draw_31 rfl ?_
    show RX K 34 [(0, .ref 0), (1, .int a1), (2, .int a2)] [.int q3.1] q3.2
    have h9 := gxIM hg
    exact R_ireturn (pc := 34) hC dX8_draw_34 h9
  · replace hg := (if_neg c).symm.trans hg
    refine R_aload_n (pc := 11) hC 0 dX8_draw_11 rfl rfl ?_
    refine R_bipush (pc := 12) hC dX8_draw_12 kb_m2 ?_
    obtain ⟨q4, hq4, hg⟩ := bind_some hg
    refine R_callV (pc := 14) (av := [.int (-2)]) (rest := []) hC hR 0 (jx hn rfl) ly0 rfl mf_X8_refuse wm_X8_91 (LX8_refuse hn hq4) rfl rfl rfl (Nat.le_of_ble_eq_true rfl) dX8_draw_14 rfl ?_
    show RX K 17 [(0, .ref 0), (1, .int a1), (2, .int a2)] [.int q4.1] q4.2
    have h9 := gxIM hg
    exact R_ireturn (pc := 17) hC dX8_draw_17 h9
theorem dX8_often_0 : decode cX8_often 0 = .ok (.aload_n 0, 1) := by decide +kernel
theorem dX8_often_1 : decode cX8_often 1 = .ok (.getfield 77, 3) := by decide +kernel
theorem dX8_often_4 : decode cX8_often 4 = .ok (.iload_n 1, 1) := by decide +kernel
theorem dX8_often_5 : decode cX8_often 5 = .ok (.invokevirtual 268, 3) := by decide +kernel
theorem dX8_often_8 : decode cX8_often 8 = .ok (.ifCond .ne 10, 3) := by decide +kernel
theorem dX8_often_11 : decode cX8_often 11 = .ok (.aload_n 0, 1) := by decide +kernel
theorem dX8_often_12 : decode cX8_often 12 = .ok (.bipush (-2), 2) := by decide +kernel
theorem dX8_often_14 : decode cX8_often 14 = .ok (.invokevirtual 91, 3) := by decide +kernel
theorem dX8_often_17 : decode cX8_often 17 = .ok (.ireturn, 1) := by decide +kernel
theorem dX8_often_18 : decode cX8_often 18 = .ok (.aload_n 0, 1) := by decide +kernel
theorem dX8_often_19 : decode cX8_often 19 = .ok (.getfield 10, 3) := by decide +kernel
theorem dX8_often_22 : decode cX8_often 22 = .ok (.iload_n 2, 1) := by decide +kernel
theorem dX8_often_23 : decode cX8_often 23 = .ok (.invokevirtual 115, 3) := by decide +kernel
theorem dX8_often_26 : decode cX8_often 26 = .ok (.ifCond .ne 9, 3) := by decide +kernel
theorem dX8_often_29 : decode cX8_often 29 = .ok (.aload_n 0, 1) := by decide +kernel
theorem dX8_often_30 : decode cX8_often 30 = .ok (.iconst (-1), 1) := by decide +kernel
theorem dX8_often_31 : decode cX8_often 31 = .ok (.invokevirtual 91, 3) := by decide +kernel
theorem dX8_often_34 : decode cX8_often 34 = .ok (.ireturn, 1) := by decide +kernel
theorem dX8_often_35 : decode cX8_often 35 = .ok (.iload_n 3, 1) := by decide +kernel
theorem dX8_often_36 : decode cX8_often 36 = .ok (.iconst 1, 1) := by decide +kernel
theorem dX8_often_37 : decode cX8_often 37 = .ok (.if_icmp .ge 10, 3) := by decide +kernel
theorem dX8_often_40 : decode cX8_often 40 = .ok (.aload_n 0, 1) := by decide +kernel
theorem dX8_often_41 : decode cX8_often 41 = .ok (.bipush (-4), 2) := by decide +kernel
theorem dX8_often_43 : decode cX8_often 43 = .ok (.invokevirtual 91, 3) := by decide +kernel
theorem dX8_often_46 : decode cX8_often 46 = .ok (.ireturn, 1) := by decide +kernel
theorem dX8_often_47 : decode cX8_often 47 = .ok (.iload_n 3, 1) := by decide +kernel
theorem dX8_often_48 : decode cX8_often 48 = .ok (.bipush 30, 2) := by decide +kernel
theorem dX8_often_50 : decode cX8_often 50 = .ok (.if_icmp .le 10, 3) := by decide +kernel
theorem dX8_often_53 : decode cX8_often 53 = .ok (.aload_n 0, 1) := by decide +kernel
theorem dX8_often_54 : decode cX8_often 54 = .ok (.bipush (-6), 2) := by decide +kernel
theorem dX8_often_56 : decode cX8_often 56 = .ok (.invokevirtual 91, 3) := by decide +kernel
theorem dX8_often_59 : decode cX8_often 59 = .ok (.ireturn, 1) := by decide +kernel
theorem dX8_often_60 : decode cX8_often 60 = .ok (.aload_n 0, 1) := by decide +kernel
theorem dX8_often_61 : decode cX8_often 61 = .ok (.getfield 77, 3) := by decide +kernel
theorem dX8_often_64 : decode cX8_often 64 = .ok (.iload 4, 2) := by decide +kernel
theorem dX8_often_66 : decode cX8_often 66 = .ok (.invokevirtual 271, 3) := by decide +kernel
theorem dX8_often_69 : decode cX8_often 69 = .ok (.iconst 0, 1) := by decide +kernel
theorem dX8_often_70 : decode cX8_often 70 = .ok (.istore 5, 2) := by decide +kernel
theorem dX8_often_72 : decode cX8_often 72 = .ok (.iconst 0, 1) := by decide +kernel
theorem dX8_often_73 : decode cX8_often 73 = .ok (.istore 6, 2) := by decide +kernel
theorem dX8_often_75 : decode cX8_often 75 = .ok (.iload 6, 2) := by decide +kernel
theorem dX8_often_77 : decode cX8_often 77 = .ok (.iload_n 3, 1) := by decide +kernel
theorem dX8_often_78 : decode cX8_often 78 = .ok (.if_icmp .ge 38, 3) := by decide +kernel
theorem dX8_often_81 : decode cX8_often 81 = .ok (.aload_n 0, 1) := by decide +kernel
theorem dX8_often_82 : decode cX8_often 82 = .ok (.getfield 77, 3) := by decide +kernel
theorem dX8_often_85 : decode cX8_often 85 = .ok (.iload_n 1, 1) := by decide +kernel
theorem dX8_often_86 : decode cX8_often 86 = .ok (.invokevirtual 274, 3) := by decide +kernel
theorem dX8_often_89 : decode cX8_often 89 = .ok (.istore 7, 2) := by decide +kernel
theorem dX8_often_91 : decode cX8_often 91 = .ok (.iload 7, 2) := by decide +kernel
theorem dX8_often_93 : decode cX8_often 93 = .ok (.bipush (-9), 2) := by decide +kernel
theorem dX8_often_95 : decode cX8_often 95 = .ok (.if_icmp .eq 15, 3) := by decide +kernel
theorem dX8_often_98 : decode cX8_often 98 = .ok (.iload 7, 2) := by decide +kernel
theorem dX8_often_100 : decode cX8_often 100 = .ok (.iconst 1, 1) := by decide +kernel
theorem dX8_often_101 : decode cX8_often 101 = .ok (.iload_n 2, 1) := by decide +kernel
theorem dX8_often_102 : decode cX8_often 102 = .ok (.ishl, 1) := by decide +kernel
theorem dX8_often_103 : decode cX8_often 103 = .ok (.iand, 1) := by decide +kernel
theorem dX8_often_104 : decode cX8_often 104 = .ok (.ifCond .eq 6, 3) := by decide +kernel
theorem dX8_often_107 : decode cX8_often 107 = .ok (.iinc 5 1, 3) := by decide +kernel
theorem dX8_often_110 : decode cX8_often 110 = .ok (.iinc 6 1, 3) := by decide +kernel
theorem dX8_often_113 : decode cX8_often 113 = .ok (.goto (-38), 3) := by decide +kernel
theorem dX8_often_116 : decode cX8_often 116 = .ok (.iload 5, 2) := by decide +kernel
theorem dX8_often_118 : decode cX8_often 118 = .ok (.ireturn, 1) := by decide +kernel
def bX8_often_75 (F : Nat) (a1 : Int32) (a2 : Int32) (a3 : Int32) : (Int32 × Int32 × Mem) → Option ((Int32 × Int32 × Mem) ⊕ (Int32 × Int32 × Mem))
  | (y4, y5, m6) => (if a3 ≤ y5 then some (.inr (y4, y5, m6)) else (gX0_makeNext F m6 a1).bind (fun q7 => (if q7.1 = (-9) then some (.inl (y4, y5 + 1, q7.2)) else (if (q7.1 &&& ((1 : Int32) <<< (a2 &&& 31))) = 0 then some (.inl (y4, y5 + 1, q7.2)) else some (.inl (y4 + 1, y5 + 1, q7.2))))))
def gX8_often (F : Nat) (m : Mem) (a1 : Int32) (a2 : Int32) (a3 : Int32) (a4 : Int32) : Option (Int32 × Mem) := (gX0_isDrawer a1).bind (fun x1 => (if x1 = true then (gX6_hasLane m 1 a2).bind (fun x2 => (if x2 = true then (if 1 ≤ a3 then (if a3 ≤ 30 then (gX0_begin F m a4).bind (fun q3 => (iter F (bX8_often_75 F a1 a2 a3) (0, 0, q3)).bind (fun e8 => some (e8.1, e8.2.2))) else (gX8_refuse m (-6)).bind (fun q10 => some (q10.1, q10.2))) else (gX8_refuse m (-4)).bind (fun q11 => some (q11.1, q11.2))) else (gX8_refuse m (-1)).bind (fun q12 => some (q12.1, q12.2)))) else (gX8_refuse m (-2)).bind (fun q13 => some (q13.1, q13.2))))
set_option maxHeartbeats 4000000 in
set_option maxRecDepth 20000 in
theorem LX8_often {n : Nat} {F : Nat} {m : Mem} {a1 : Int32} {a2 : Int32} {a3 : Int32} {a4 : Int32} {r : Int32 × Mem} (hn : 43 ≤ n) (hg : gX8_often F m a1 a2 a3 a4 = some r) : MX yX8_often cX8_often 8 (some .int) { frames := 5, cells := 0, slots := 0, locals := 107 } n [.ref 0, .int a1, .int a2, .int a3, .int a4] m (some (.int r.1)) r.2 := by
  refine MX_of (by decide) (Nat.le_of_ble_eq_true rfl) (Or.inr (Or.inl ⟨rfl, _, rfl⟩)) (fun K hC hk hL hR => ?_)
  replace hn : 43 ≤ kn K := hk.symm ▸ hn
  show RX K 0 [(0, .ref 0), (1, .int a1), (2, .int a2), (3, .int a3), (4, .int a4)] [] m
  rw [gX8_often] at hg
  refine R_aload_n (pc := 0) hC 0 dX8_often_0 rfl rfl ?_
  refine gf_X8_77 (pc := 1) hC hn dX8_often_1 ?_
  refine R_iload_n (pc := 4) hC 1 dX8_often_4 rfl rfl ?_
  obtain ⟨x1, hx1, hg⟩ := bind_some hg
  refine R_callVN (pc := 5) (av := [.int a1]) (rest := []) hC hR 37 (jx hn rfl) ly37 rfl mf_X0_isDrawer wm_X8_268 (LX0_isDrawer hn hx1) rfl rfl rfl (Nat.le_of_ble_eq_true rfl) dX8_often_5 rfl ?_
  show RX K 8 [(0, .ref 0), (1, .int a1), (2, .int a2), (3, .int a3), (4, .int a4)] [.int (b2i x1)] m
  refine R_ifB_ne (tgt := 18) (pc := 8) hC dX8_often_8 (by decide) (fun c => ?_) (fun c => ?_)
  · replace hg := (if_pos c).symm.trans hg
    refine R_aload_n (pc := 18) hC 0 dX8_often_18 rfl rfl ?_
    refine gf_X8_10 (pc := 19) hC hn dX8_often_19 ?_
    refine R_iload_n (pc := 22) hC 2 dX8_often_22 rfl rfl ?_
    obtain ⟨x2, hx2, hg⟩ := bind_some hg
    refine R_callVN (pc := 23) (av := [.int a2]) (rest := []) hC hR 1 (jx hn rfl) ly1 rfl mf_X6_hasLane wm_X8_115 (LX6_hasLane hn isv1 hx2) rfl rfl rfl (Nat.le_of_ble_eq_true rfl) dX8_often_23 rfl ?_
    show RX K 26 [(0, .ref 0), (1, .int a1), (2, .int a2), (3, .int a3), (4, .int a4)] [.int (b2i x2)] m
    refine R_ifB_ne (tgt := 35) (pc := 26) hC dX8_often_26 (by decide) (fun c => ?_) (fun c => ?_)
    · replace hg := (if_pos c).symm.trans hg
      refine R_iload_n (pc := 35) hC 3 dX8_often_35 rfl rfl ?_
      refine R_iconst (pc := 36) hC dX8_often_36 ki_1 ?_
      refine R_icmp_ge (tgt := 47) (pc := 37) hC dX8_often_37 (by decide) (fun c => ?_) (fun c => ?_)
      · replace hg := (if_pos c).symm.trans hg
        refine R_iload_n (pc := 47) hC 3 dX8_often_47 rfl rfl ?_
        refine R_bipush (pc := 48) hC dX8_often_48 kb_30 ?_
        refine R_icmp_le (tgt := 60) (pc := 50) hC dX8_often_50 (by decide) (fun c => ?_) (fun c => ?_)
        · replace hg := (if_pos c).symm.trans hg
          refine R_aload_n (pc := 60) hC 0 dX8_often_60 rfl rfl ?_
          refine gf_X8_77 (pc := 61) hC hn dX8_often_61 ?_
          refine R_iload (pc := 64) hC 4 dX8_often_64 rfl ?_
          obtain ⟨q3, hq3, hg⟩ := bind_some hg
          refine R_callVN (pc := 66) (av := [.int a4]) (rest := []) hC hR 37 (jx hn rfl) ly37 rfl mf_X0_begin wm_X8_271 (LX0_begin hn hq3) rfl rfl rfl (Nat.le_of_ble_eq_true rfl) dX8_often_66 rfl ?_
          show RX K 69 [(0, .ref 0), (1, .int a1), (2, .int a2), (3, .int a3), (4, .int a4)] [] q3
          refine R_iconst (pc := 69) hC dX8_often_69 ki_0 ?_
          refine R_istore (pc := 70) hC dX8_often_70 hL rfl (show _ = [(5, .int 0), (0, .ref 0), (1, .int a1), (2, .int a2), (3, .int a3), (4, .int a4)] from rfl) ?_
          refine R_iconst (pc := 72) hC dX8_often_72 ki_0 ?_
          refine R_istore (pc := 73) hC dX8_often_73 hL rfl (show _ = [(6, .int 0), (5, .int 0), (0, .ref 0), (1, .int a1), (2, .int a2), (3, .int a3), (4, .int a4)] from rfl) ?_
          refine R_pick [2, 3, 4, 5, 6, 1, 0] (ls' := [(0, .ref 0), (1, .int a1), (2, .int a2), (3, .int a3), (4, .int a4), (5, .int 0), (6, .int 0)]) rfl ?_
          obtain ⟨e8, he8, hg⟩ := bind_some hg
          refine iter_walk (P := fun s : (Int32 × Int32 × Mem) => RX K 75 [(0, .ref 0), (1, .int a1), (2, .int a2), (3, .int a3), (4, .int a4), (5, .int s.1), (6, .int s.2.1)] [] s.2.2) (Qe := fun s : (Int32 × Int32 × Mem) => RX K 116 [(0, .ref 0), (1, .int a1), (2, .int a2), (3, .int a3), (4, .int a4), (5, .int s.1), (6, .int s.2.1)] [] s.2.2) (fun s9 o hg kL75 kE75 => ?_) _ _ _ he8 ?_
          · obtain ⟨y4, y5, m6⟩ := s9
            rw [bX8_often_75] at hg
            show RX K 75 [(0, .ref 0), (1, .int a1), (2, .int a2), (3, .int a3), (4, .int a4), (5, .int y4), (6, .int y5)] [] m6
            refine R_iload (pc := 75) hC 6 dX8_often_75 rfl ?_
            refine R_iload_n (pc := 77) hC 3 dX8_often_77 rfl rfl ?_
            refine R_icmp_ge (tgt := 116) (pc := 78) hC dX8_often_78 (by decide) (fun c => ?_) (fun c => ?_)
            · replace hg := (if_pos c).symm.trans hg
              refine R_pick [0, 1, 2, 3, 4, 5, 6] (ls' := [(0, .ref 0), (1, .int a1), (2, .int a2), (3, .int a3), (4, .int a4), (5, .int y4), (6, .int y5)]) rfl ?_
              have h9 := kE75 _ (Option.some.inj hg).symm
              exact h9
            · replace hg := (if_neg c).symm.trans hg
              refine R_aload_n (pc := 81) hC 0 dX8_often_81 rfl rfl ?_
              refine gf_X8_77 (pc := 82) hC hn dX8_often_82 ?_
              refine R_iload_n (pc := 85) hC 1 dX8_often_85 rfl rfl ?_
              obtain ⟨q7, hq7, hg⟩ := bind_some hg
              refine R_callVN (pc := 86) (av := [.int a1]) (rest := []) hC hR 37 (jx hn rfl) ly37 rfl mf_X0_makeNext wm_X8_274 (LX0_makeNext hn hq7) rfl rfl rfl (Nat.le_of_ble_eq_true rfl) dX8_often_86 rfl ?_
              show RX K 89 [(0, .ref 0), (1, .int a1), (2, .int a2), (3, .int a3), (4, .int a4), (5, .int y4), (6, .int y5)] [.int q7.1] q7.2
              refine R_istore (pc := 89) hC dX8_often_89 hL rfl (show _ = [(7, .int q7.1), (0, .ref 0), (1, .int a1), (2, .int a2), (3, .int a3), (4, .int a4), (5, .int y4), (6, .int y5)] from rfl) ?_
              refine R_iload (pc := 91) hC 0 dX8_often_91 rfl ?_
              refine R_bipush (pc := 93) hC dX8_often_93 kb_m9 ?_
              refine R_icmp_eq (tgt := 110) (pc := 95) hC dX8_often_95 (by decide) (fun c => ?_) (fun c => ?_)
              · replace hg := (if_pos c).symm.trans hg
                refine R_iinc (pc := 110) hC 7 dX8_often_110 rfl (iv ki_1) hL rfl (show _ = [(6, .int (y5 + 1)), (7, .int q7.1), (0, .ref 0), (1, .int a1), (2, .int a2), (3, .int a3), (4, .int a4), (5, .int y4)] from rfl) ?_
                refine R_goto (tgt := 75) (pc := 113) hC dX8_often_113 (by decide) ?_
                refine R_pick [2, 3, 4, 5, 6, 7, 0] (ls' := [(0, .ref 0), (1, .int a1), (2, .int a2), (3, .int a3), (4, .int a4), (5, .int y4), (6, .int (y5 + 1))]) rfl ?_
                have h9 := kL75 _ (Option.some.inj hg).symm
                exact h9
              · replace hg := (if_neg c).symm.trans hg
                refine R_iload (pc := 98) hC 0 dX8_often_98 rfl ?_
                refine R_iconst (pc := 100) hC dX8_often_100 ki_1 ?_
                refine R_iload_n (pc := 101) hC 3 dX8_often_101 rfl rfl ?_
                refine R_ishl (pc := 102) hC dX8_often_102 ?_
                refine R_iand (pc := 103) hC dX8_often_103 ?_
                refine R_if_eq (tgt := 110) (pc := 104) hC dX8_often_104 (by decide) (fun c => ?_) (fun c => ?_)
                · replace hg := (if_pos c).symm.trans hg
                  refine R_iinc (pc := 110) hC 7 dX8_often_110 rfl (iv ki_1) hL rfl (show _ = [(6, .int (y5 + 1)), (7, .int q7.1), (0, .ref 0), (1, .int a1), (2, .int a2), (3, .int a3), (4, .int a4), (5, .int y4)] from rfl) ?_
                  refine R_goto (tgt := 75) (pc := 113) hC dX8_often_113 (by decide) ?_
                  refine R_pick [2, 3, 4, 5, 6, 7, 0] (ls' := [(0, .ref 0), (1, .int a1), (2, .int a2), (3, .int a3), (4, .int a4), (5, .int y4), (6, .int (y5 + 1))]) rfl ?_
                  have h9 := kL75 _ (Option.some.inj hg).symm
                  exact h9
                · replace hg := (if_neg c).symm.trans hg
                  refine R_iinc (pc := 107) hC 6 dX8_often_107 rfl (iv ki_1) hL rfl (show _ = [(5, .int (y4 + 1)), (7, .int q7.1), (0, .ref 0), (1, .int a1), (2, .int a2), (3, .int a3), (4, .int a4), (6, .int y5)] from rfl) ?_
                  refine R_iinc (pc := 110) hC 7 dX8_often_110 rfl (iv ki_1) hL rfl (show _ = [(6, .int (y5 + 1)), (5, .int (y4 + 1)), (7, .int q7.1), (0, .ref 0), (1, .int a1), (2, .int a2), (3, .int a3), (4, .int a4)] from rfl) ?_
                  refine R_goto (tgt := 75) (pc := 113) hC dX8_often_113 (by decide) ?_
                  refine R_pick [3, 4, 5, 6, 7, 1, 0] (ls' := [(0, .ref 0), (1, .int a1), (2, .int a2), (3, .int a3), (4, .int a4), (5, .int (y4 + 1)), (6, .int (y5 + 1))]) rfl ?_
                  have h9 := kL75 _ (Option.some.inj hg).symm
                  exact h9
          · show RX K 116 [(0, .ref 0), (1, .int a1), (2, .int a2), (3, .int a3), (4, .int a4), (5, .int e8.1), (6, .int e8.2.1)] [] e8.2.2
            refine R_iload (pc := 116) hC 5 dX8_often_116 rfl ?_
            have h9 := gxIM hg
            exact R_ireturn (pc := 118) hC dX8_often_118 h9
        · replace hg := (if_neg c).symm.trans hg
          refine R_aload_n (pc := 53) hC 0 dX8_often_53 rfl rfl ?_
          refine R_bipush (pc := 54) hC dX8_often_54 kb_m6 ?_
          obtain ⟨q10, hq10, hg⟩ := bind_some hg
          refine R_callV (pc := 56) (av := [.int (-6)]) (rest := []) hC hR 0 (jx hn rfl) ly0 rfl mf_X8_refuse wm_X8_91 (LX8_refuse hn hq10) rfl rfl rfl (Nat.le_of_ble_eq_true rfl) dX8_often_56 rfl ?_
          show RX K 59 [(0, .ref 0), (1, .int a1), (2, .int a2), (3, .int a3), (4, .int a4)] [.int q10.1] q10.2
          have h9 := gxIM hg
          exact R_ireturn (pc := 59) hC dX8_often_59 h9
      · replace hg := (if_neg c).symm.trans hg
        refine R_aload_n (pc := 40) hC 0 dX8_often_40 rfl rfl ?_
        refine R_bipush (pc := 41) hC dX8_often_41 kb_m4 ?_
        obtain ⟨q11, hq11, hg⟩ := bind_some hg
        refine R_callV (pc := 43) (av := [.int (-4)]) (rest := []) hC hR 0 (jx hn rfl) ly0 rfl mf_X8_refuse wm_X8_91 (LX8_refuse hn hq11) rfl rfl rfl (Nat.le_of_ble_eq_true rfl) dX8_often_43 rfl ?_
        show RX K 46 [(0, .ref 0), (1, .int a1), (2, .int a2), (3, .int a3), (4, .int a4)] [.int q11.1] q11.2
        have h9 := gxIM hg
        exact R_ireturn (pc := 46) hC dX8_often_46 h9
    · replace hg := (if_neg c).symm.trans hg
      refine R_aload_n (pc := 29) hC 0 dX8_often_29 rfl rfl ?_
      refine R_iconst (pc := 30) hC dX8_often_30 ki_m1 ?_
      obtain ⟨q12, hq12, hg⟩ := bind_some hg
      refine R_callV (pc := 31) (av := [.int (-1)]) (rest := []) hC hR 0 (jx hn rfl) ly0 rfl mf_X8_refuse wm_X8_91 (LX8_refuse hn hq12) rfl rfl rfl (Nat.le_of_ble_eq_true rfl) dX8_often_31 rfl ?_
      show RX K 34 [(0, .ref 0), (1, .int a1), (2, .int a2), (3, .int a3), (4, .int a4)] [.int q12.1] q12.2
      have h9 := gxIM hg
      exact R_ireturn (pc := 34) hC dX8_often_34 h9
  · replace hg := (if_neg c).symm.trans hg
    refine R_aload_n (pc := 11) hC 0 dX8_often_11 rfl rfl ?_
    refine R_bipush (pc := 12) hC dX8_often_12 kb_m2 ?_
    obtain ⟨q13, hq13, hg⟩ := bind_some hg
    refine R_callV (pc := 14) (av := [.int (-2)]) (rest := []) hC hR 0 (jx hn rfl) ly0 rfl mf_X8_refuse wm_X8_91 (LX8_refuse hn hq13) rfl rfl rfl (Nat.le_of_ble_eq_true rfl) dX8_often_14 rfl ?_
    show RX K 17 [(0, .ref 0), (1, .int a1), (2, .int a2), (3, .int a3), (4, .int a4)] [.int q13.1] q13.2
    have h9 := gxIM hg
    exact R_ireturn (pc := 17) hC dX8_often_17 h9
theorem dX8_row_0 : decode cX8_row 0 = .ok (.iload_n 1, 1) := by decide +kernel
theorem dX8_row_1 : decode cX8_row 1 = .ok (.ifCond .ge 10, 3) := by decide +kernel
theorem dX8_row_4 : decode cX8_row 4 = .ok (.aload_n 0, 1) := by decide +kernel
theorem dX8_row_5 : decode cX8_row 5 = .ok (.bipush (-4), 2) := by decide +kernel
theorem dX8_row_7 : decode cX8_row 7 = .ok (.invokevirtual 91, 3) := by decide +kernel
theorem dX8_row_10 : decode cX8_row 10 = .ok (.ireturn, 1) := by decide +kernel
theorem dX8_row_11 : decode cX8_row 11 = .ok (.iload_n 1, 1) := by decide +kernel
theorem dX8_row_12 : decode cX8_row 12 = .ok (.bipush 10, 2) := by decide +kernel
theorem dX8_row_14 : decode cX8_row 14 = .ok (.if_icmp .ge 13, 3) := by decide +kernel
theorem dX8_row_17 : decode cX8_row 17 = .ok (.aload_n 0, 1) := by decide +kernel
theorem dX8_row_18 : decode cX8_row 18 = .ok (.getfield 68, 3) := by decide +kernel
theorem dX8_row_21 : decode cX8_row 21 = .ok (.invokevirtual 277, 3) := by decide +kernel
theorem dX8_row_24 : decode cX8_row 24 = .ok (.ifCond .ne 10, 3) := by decide +kernel
theorem dX8_row_27 : decode cX8_row 27 = .ok (.aload_n 0, 1) := by decide +kernel
theorem dX8_row_28 : decode cX8_row 28 = .ok (.bipush (-6), 2) := by decide +kernel
theorem dX8_row_30 : decode cX8_row 30 = .ok (.invokevirtual 91, 3) := by decide +kernel
theorem dX8_row_33 : decode cX8_row 33 = .ok (.ireturn, 1) := by decide +kernel
theorem dX8_row_34 : decode cX8_row 34 = .ok (.aload_n 0, 1) := by decide +kernel
theorem dX8_row_35 : decode cX8_row 35 = .ok (.getfield 68, 3) := by decide +kernel
theorem dX8_row_38 : decode cX8_row 38 = .ok (.iload_n 1, 1) := by decide +kernel
theorem dX8_row_39 : decode cX8_row 39 = .ok (.invokevirtual 280, 3) := by decide +kernel
theorem dX8_row_42 : decode cX8_row 42 = .ok (.ireturn, 1) := by decide +kernel
def gX8_row (m : Mem) (a1 : Int32) : Option (Int32 × Mem) := (if 0 ≤ a1 then (if 10 ≤ a1 then (gX8_refuse m (-6)).bind (fun q1 => some (q1.1, q1.2)) else (gX5_hasRoom m).bind (fun x2 => (if x2 = true then (gX5_append m a1).bind (fun q3 => some (q3.1, q3.2)) else (gX8_refuse m (-6)).bind (fun q4 => some (q4.1, q4.2))))) else (gX8_refuse m (-4)).bind (fun q5 => some (q5.1, q5.2)))
set_option maxHeartbeats 4000000 in
set_option maxRecDepth 20000 in
theorem LX8_row {n : Nat} {m : Mem} {a1 : Int32} {r : Int32 × Mem} (hn : 43 ≤ n) (hg : gX8_row m a1 = some r) : MX yX8_row cX8_row 2 (some .int) { frames := 1, cells := 0, slots := 0, locals := 22 } n [.ref 0, .int a1] m (some (.int r.1)) r.2 := by
  refine MX_of (by decide) (Nat.le_of_ble_eq_true rfl) (Or.inr (Or.inl ⟨rfl, _, rfl⟩)) (fun K hC hk hL hR => ?_)
  replace hn : 43 ≤ kn K := hk.symm ▸ hn
  show RX K 0 [(0, .ref 0), (1, .int a1)] [] m
  rw [gX8_row] at hg
  refine R_iload_n (pc := 0) hC 1 dX8_row_0 rfl rfl ?_
  refine R_if_ge (tgt := 11) (pc := 1) hC dX8_row_1 (by decide) (fun c => ?_) (fun c => ?_)
  · replace hg := (if_pos c).symm.trans hg
    refine R_iload_n (pc := 11) hC 1 dX8_row_11 rfl rfl ?_
    refine R_bipush (pc := 12) hC dX8_row_12 kb_10 ?_
    refine R_icmp_ge (tgt := 27) (pc := 14) hC dX8_row_14 (by decide) (fun c => ?_) (fun c => ?_)
    · replace hg := (if_pos c).symm.trans hg
      refine R_aload_n (pc := 27) hC 0 dX8_row_27 rfl rfl ?_
      refine R_bipush (pc := 28) hC dX8_row_28 kb_m6 ?_
      obtain ⟨q1, hq1, hg⟩ := bind_some hg
      refine R_callV (pc := 30) (av := [.int (-6)]) (rest := []) hC hR 0 (jx hn rfl) ly0 rfl mf_X8_refuse wm_X8_91 (LX8_refuse hn hq1) rfl rfl rfl (Nat.le_of_ble_eq_true rfl) dX8_row_30 rfl ?_
      show RX K 33 [(0, .ref 0), (1, .int a1)] [.int q1.1] q1.2
      have h9 := gxIM hg
      exact R_ireturn (pc := 33) hC dX8_row_33 h9
    · replace hg := (if_neg c).symm.trans hg
      refine R_aload_n (pc := 17) hC 0 dX8_row_17 rfl rfl ?_
      refine gf_X8_68 (pc := 18) hC hn dX8_row_18 ?_
      obtain ⟨x2, hx2, hg⟩ := bind_some hg
      refine R_callVN (pc := 21) (av := []) (rest := []) hC hR 35 (jx hn rfl) ly35 rfl mf_X5_hasRoom wm_X8_277 (LX5_hasRoom hn hx2) rfl rfl rfl (Nat.le_of_ble_eq_true rfl) dX8_row_21 rfl ?_
      show RX K 24 [(0, .ref 0), (1, .int a1)] [.int (b2i x2)] m
      refine R_ifB_ne (tgt := 34) (pc := 24) hC dX8_row_24 (by decide) (fun c => ?_) (fun c => ?_)
      · replace hg := (if_pos c).symm.trans hg
        refine R_aload_n (pc := 34) hC 0 dX8_row_34 rfl rfl ?_
        refine gf_X8_68 (pc := 35) hC hn dX8_row_35 ?_
        refine R_iload_n (pc := 38) hC 1 dX8_row_38 rfl rfl ?_
        obtain ⟨q3, hq3, hg⟩ := bind_some hg
        refine R_callVN (pc := 39) (av := [.int a1]) (rest := []) hC hR 35 (jx hn rfl) ly35 rfl mf_X5_append wm_X8_280 (LX5_append hn hq3) rfl rfl rfl (Nat.le_of_ble_eq_true rfl) dX8_row_39 rfl ?_
        show RX K 42 [(0, .ref 0), (1, .int a1)] [.int q3.1] q3.2
        have h9 := gxIM hg
        exact R_ireturn (pc := 42) hC dX8_row_42 h9
      · replace hg := (if_neg c).symm.trans hg
        refine R_aload_n (pc := 27) hC 0 dX8_row_27 rfl rfl ?_
        refine R_bipush (pc := 28) hC dX8_row_28 kb_m6 ?_
        obtain ⟨q4, hq4, hg⟩ := bind_some hg
        refine R_callV (pc := 30) (av := [.int (-6)]) (rest := []) hC hR 0 (jx hn rfl) ly0 rfl mf_X8_refuse wm_X8_91 (LX8_refuse hn hq4) rfl rfl rfl (Nat.le_of_ble_eq_true rfl) dX8_row_30 rfl ?_
        show RX K 33 [(0, .ref 0), (1, .int a1)] [.int q4.1] q4.2
        have h9 := gxIM hg
        exact R_ireturn (pc := 33) hC dX8_row_33 h9
  · replace hg := (if_neg c).symm.trans hg
    refine R_aload_n (pc := 4) hC 0 dX8_row_4 rfl rfl ?_
    refine R_bipush (pc := 5) hC dX8_row_5 kb_m4 ?_
    obtain ⟨q5, hq5, hg⟩ := bind_some hg
    refine R_callV (pc := 7) (av := [.int (-4)]) (rest := []) hC hR 0 (jx hn rfl) ly0 rfl mf_X8_refuse wm_X8_91 (LX8_refuse hn hq5) rfl rfl rfl (Nat.le_of_ble_eq_true rfl) dX8_row_7 rfl ?_
    show RX K 10 [(0, .ref 0), (1, .int a1)] [.int q5.1] q5.2
    have h9 := gxIM hg
    exact R_ireturn (pc := 10) hC dX8_row_10 h9
theorem dX8_judge_0 : decode cX8_judge 0 = .ok (.aload_n 0, 1) := by decide +kernel
theorem dX8_judge_1 : decode cX8_judge 1 = .ok (.getfield 68, 3) := by decide +kernel
theorem dX8_judge_4 : decode cX8_judge 4 = .ok (.invokevirtual 281, 3) := by decide +kernel
theorem dX8_judge_7 : decode cX8_judge 7 = .ok (.istore_n 1, 1) := by decide +kernel
theorem dX8_judge_8 : decode cX8_judge 8 = .ok (.aload_n 0, 1) := by decide +kernel
theorem dX8_judge_9 : decode cX8_judge 9 = .ok (.getfield 68, 3) := by decide +kernel
theorem dX8_judge_12 : decode cX8_judge 12 = .ok (.invokevirtual 284, 3) := by decide +kernel
theorem dX8_judge_15 : decode cX8_judge 15 = .ok (.iload_n 1, 1) := by decide +kernel
theorem dX8_judge_16 : decode cX8_judge 16 = .ok (.ireturn, 1) := by decide +kernel
def gX8_judge (F : Nat) (m : Mem) : Option (Int32 × Mem) := (gX5_judged F m).bind (fun x1 => (gX5_clear m).bind (fun q2 => some (x1, q2)))
set_option maxHeartbeats 4000000 in
set_option maxRecDepth 20000 in
theorem LX8_judge {n : Nat} {F : Nat} {m : Mem} {r : Int32 × Mem} (hn : 43 ≤ n) (hg : gX8_judge F m  = some r) : MX yX8_judge cX8_judge 2 (some .int) { frames := 4, cells := 0, slots := 0, locals := 88 } n [.ref 0] m (some (.int r.1)) r.2 := by
  refine MX_of (by decide) (Nat.le_of_ble_eq_true rfl) (Or.inr (Or.inl ⟨rfl, _, rfl⟩)) (fun K hC hk hL hR => ?_)
  replace hn : 43 ≤ kn K := hk.symm ▸ hn
  show RX K 0 [(0, .ref 0)] [] m
  rw [gX8_judge] at hg
  refine R_aload_n (pc := 0) hC 0 dX8_judge_0 rfl rfl ?_
  refine gf_X8_68 (pc := 1) hC hn dX8_judge_1 ?_
  obtain ⟨x1, hx1, hg⟩ := bind_some hg
  refine R_callVN (pc := 4) (av := []) (rest := []) hC hR 35 (jx hn rfl) ly35 rfl mf_X5_judged wm_X8_281 (LX5_judged hn hx1) rfl rfl rfl (Nat.le_of_ble_eq_true rfl) dX8_judge_4 rfl ?_
  show RX K 7 [(0, .ref 0)] [.int x1] m
  refine R_istore_n (pc := 7) hC dX8_judge_7 rfl hL rfl (show _ = [(1, .int x1), (0, .ref 0)] from rfl) ?_
  refine R_aload_n (pc := 8) hC 1 dX8_judge_8 rfl rfl ?_
  refine gf_X8_68 (pc := 9) hC hn dX8_judge_9 ?_
  obtain ⟨q2, hq2, hg⟩ := bind_some hg
  refine R_callVN (pc := 12) (av := []) (rest := []) hC hR 35 (jx hn rfl) ly35 rfl mf_X5_clear wm_X8_284 (LX5_clear hn hq2) rfl rfl rfl (Nat.le_of_ble_eq_true rfl) dX8_judge_12 rfl ?_
  show RX K 15 [(1, .int x1), (0, .ref 0)] [] q2
  refine R_iload_n (pc := 15) hC 0 dX8_judge_15 rfl rfl ?_
  have h9 := gxIM hg
  exact R_ireturn (pc := 16) hC dX8_judge_16 h9
theorem dX8_image_0 : decode cX8_image 0 = .ok (.aload_n 0, 1) := by decide +kernel
theorem dX8_image_1 : decode cX8_image 1 = .ok (.getfield 19, 3) := by decide +kernel
theorem dX8_image_4 : decode cX8_image 4 = .ok (.aload_n 0, 1) := by decide +kernel
theorem dX8_image_5 : decode cX8_image 5 = .ok (.getfield 10, 3) := by decide +kernel
theorem dX8_image_8 : decode cX8_image 8 = .ok (.invokevirtual 102, 3) := by decide +kernel
theorem dX8_image_11 : decode cX8_image 11 = .ok (.aload_n 0, 1) := by decide +kernel
theorem dX8_image_12 : decode cX8_image 12 = .ok (.iconst 1, 1) := by decide +kernel
theorem dX8_image_13 : decode cX8_image 13 = .ok (.putfield 22, 3) := by decide +kernel
theorem dX8_image_16 : decode cX8_image 16 = .ok (.aload_n 0, 1) := by decide +kernel
theorem dX8_image_17 : decode cX8_image 17 = .ok (.getfield 10, 3) := by decide +kernel
theorem dX8_image_20 : decode cX8_image 20 = .ok (.getfield 144, 3) := by decide +kernel
theorem dX8_image_23 : decode cX8_image 23 = .ok (.ireturn, 1) := by decide +kernel
def gX8_image (F : Nat) (m : Mem) : Option (Int32 × Mem) := (gX6_copy F m 15 1).bind (fun q1 => lete (mu q1 0 3 1) (fun m2 => some (m2.1 1 1, m2)))
set_option maxHeartbeats 4000000 in
set_option maxRecDepth 20000 in
theorem LX8_image {n : Nat} {F : Nat} {m : Mem} {r : Int32 × Mem} (hn : 43 ≤ n) (hg : gX8_image F m  = some r) : MX yX8_image cX8_image 1 (some .int) { frames := 1, cells := 0, slots := 0, locals := 22 } n [.ref 0] m (some (.int r.1)) r.2 := by
  refine MX_of (by decide) (Nat.le_of_ble_eq_true rfl) (Or.inr (Or.inl ⟨rfl, _, rfl⟩)) (fun K hC hk hL hR => ?_)
  replace hn : 43 ≤ kn K := hk.symm ▸ hn
  show RX K 0 [(0, .ref 0)] [] m
  rw [gX8_image] at hg
  refine R_aload_n (pc := 0) hC 0 dX8_image_0 rfl rfl ?_
  refine gf_X8_19 (pc := 1) hC hn dX8_image_1 ?_
  refine R_aload_n (pc := 4) hC 0 dX8_image_4 rfl rfl ?_
  refine gf_X8_10 (pc := 5) hC hn dX8_image_5 ?_
  obtain ⟨q1, hq1, hg⟩ := bind_some hg
  refine R_callVN (pc := 8) (av := [.ref 1]) (rest := []) hC hR 15 (jx hn rfl) ly15 rfl mf_X6_copy wm_X8_102 (LX6_copy hn isv15 isv1 hq1) rfl rfl rfl (Nat.le_of_ble_eq_true rfl) dX8_image_8 rfl ?_
  show RX K 11 [(0, .ref 0)] [] q1
  refine R_aload_n (pc := 11) hC 0 dX8_image_11 rfl rfl ?_
  refine R_iconst (pc := 12) hC dX8_image_12 ki_1 ?_
  obtain ⟨m2, hm2, hg⟩ := lete_some hg
  refine pf_X8_22 (pc := 13) hC hn rfl rfl dX8_image_13 ?_
  refine R_mem hm2 ?_
  refine R_aload_n (pc := 16) hC 0 dX8_image_16 rfl rfl ?_
  refine gf_X8_10 (pc := 17) hC hn dX8_image_17 ?_
  refine gf_X8_144 (pc := 20) hC hn isv1 dX8_image_20 ?_
  have h9 := gxIM hg
  exact R_ireturn (pc := 23) hC dX8_image_23 h9
theorem dX8_restore_0 : decode cX8_restore 0 = .ok (.aload_n 0, 1) := by decide +kernel
theorem dX8_restore_1 : decode cX8_restore 1 = .ok (.getfield 22, 3) := by decide +kernel
theorem dX8_restore_4 : decode cX8_restore 4 = .ok (.ifCond .ne 10, 3) := by decide +kernel
theorem dX8_restore_7 : decode cX8_restore 7 = .ok (.aload_n 0, 1) := by decide +kernel
theorem dX8_restore_8 : decode cX8_restore 8 = .ok (.bipush (-3), 2) := by decide +kernel
theorem dX8_restore_10 : decode cX8_restore 10 = .ok (.invokevirtual 91, 3) := by decide +kernel
theorem dX8_restore_13 : decode cX8_restore 13 = .ok (.ireturn, 1) := by decide +kernel
theorem dX8_restore_14 : decode cX8_restore 14 = .ok (.aload_n 0, 1) := by decide +kernel
theorem dX8_restore_15 : decode cX8_restore 15 = .ok (.getfield 10, 3) := by decide +kernel
theorem dX8_restore_18 : decode cX8_restore 18 = .ok (.aload_n 0, 1) := by decide +kernel
theorem dX8_restore_19 : decode cX8_restore 19 = .ok (.getfield 19, 3) := by decide +kernel
theorem dX8_restore_22 : decode cX8_restore 22 = .ok (.invokevirtual 102, 3) := by decide +kernel
theorem dX8_restore_25 : decode cX8_restore 25 = .ok (.aload_n 0, 1) := by decide +kernel
theorem dX8_restore_26 : decode cX8_restore 26 = .ok (.invokevirtual 112, 3) := by decide +kernel
theorem dX8_restore_29 : decode cX8_restore 29 = .ok (.aload_n 0, 1) := by decide +kernel
theorem dX8_restore_30 : decode cX8_restore 30 = .ok (.getfield 10, 3) := by decide +kernel
theorem dX8_restore_33 : decode cX8_restore 33 = .ok (.getfield 144, 3) := by decide +kernel
theorem dX8_restore_36 : decode cX8_restore 36 = .ok (.ireturn, 1) := by decide +kernel
def gX8_restore (F : Nat) (m : Mem) : Option (Int32 × Mem) := (if (m.1 0 3) = 0 then (gX8_refuse m (-3)).bind (fun q3 => some (q3.1, q3.2)) else (gX6_copy F m 1 15).bind (fun q1 => (gX8_lanesChanged F q1).bind (fun q2 => some (q2.1 1 1, q2))))
set_option maxHeartbeats 4000000 in
set_option maxRecDepth 20000 in
theorem LX8_restore {n : Nat} {F : Nat} {m : Mem} {r : Int32 × Mem} (hn : 43 ≤ n) (hg : gX8_restore F m  = some r) : MX yX8_restore cX8_restore 1 (some .int) { frames := 5, cells := 0, slots := 0, locals := 115 } n [.ref 0] m (some (.int r.1)) r.2 := by
  refine MX_of (by decide) (Nat.le_of_ble_eq_true rfl) (Or.inr (Or.inl ⟨rfl, _, rfl⟩)) (fun K hC hk hL hR => ?_)
  replace hn : 43 ≤ kn K := hk.symm ▸ hn
  show RX K 0 [(0, .ref 0)] [] m
  rw [gX8_restore] at hg
  refine R_aload_n (pc := 0) hC 0 dX8_restore_0 rfl rfl ?_
  refine gf_X8_22 (pc := 1) hC hn dX8_restore_1 ?_
  refine R_if_ne (tgt := 14) (pc := 4) hC dX8_restore_4 (by decide) (fun c => ?_) (fun c => ?_)
  · replace hg := (if_neg c).symm.trans hg
    refine R_aload_n (pc := 14) hC 0 dX8_restore_14 rfl rfl ?_
    refine gf_X8_10 (pc := 15) hC hn dX8_restore_15 ?_
    refine R_aload_n (pc := 18) hC 0 dX8_restore_18 rfl rfl ?_
    refine gf_X8_19 (pc := 19) hC hn dX8_restore_19 ?_
    obtain ⟨q1, hq1, hg⟩ := bind_some hg
    refine R_callVN (pc := 22) (av := [.ref 15]) (rest := []) hC hR 1 (jx hn rfl) ly1 rfl mf_X6_copy wm_X8_102 (LX6_copy hn isv1 isv15 hq1) rfl rfl rfl (Nat.le_of_ble_eq_true rfl) dX8_restore_22 rfl ?_
    show RX K 25 [(0, .ref 0)] [] q1
    refine R_aload_n (pc := 25) hC 0 dX8_restore_25 rfl rfl ?_
    obtain ⟨q2, hq2, hg⟩ := bind_some hg
    refine R_callV (pc := 26) (av := []) (rest := []) hC hR 0 (jx hn rfl) ly0 rfl mf_X8_lanesChanged wm_X8_112 (LX8_lanesChanged hn hq2) rfl rfl rfl (Nat.le_of_ble_eq_true rfl) dX8_restore_26 rfl ?_
    show RX K 29 [(0, .ref 0)] [] q2
    refine R_aload_n (pc := 29) hC 0 dX8_restore_29 rfl rfl ?_
    refine gf_X8_10 (pc := 30) hC hn dX8_restore_30 ?_
    refine gf_X8_144 (pc := 33) hC hn isv1 dX8_restore_33 ?_
    have h9 := gxIM hg
    exact R_ireturn (pc := 36) hC dX8_restore_36 h9
  · replace hg := (if_pos c).symm.trans hg
    refine R_aload_n (pc := 7) hC 0 dX8_restore_7 rfl rfl ?_
    refine R_bipush (pc := 8) hC dX8_restore_8 kb_m3 ?_
    obtain ⟨q3, hq3, hg⟩ := bind_some hg
    refine R_callV (pc := 10) (av := [.int (-3)]) (rest := []) hC hR 0 (jx hn rfl) ly0 rfl mf_X8_refuse wm_X8_91 (LX8_refuse hn hq3) rfl rfl rfl (Nat.le_of_ble_eq_true rfl) dX8_restore_10 rfl ?_
    show RX K 13 [(0, .ref 0)] [.int q3.1] q3.2
    have h9 := gxIM hg
    exact R_ireturn (pc := 13) hC dX8_restore_13 h9
theorem dX8_refusalsOf_0 : decode cX8_refusalsOf 0 = .ok (.iload_n 1, 1) := by decide +kernel
theorem dX8_refusalsOf_1 : decode cX8_refusalsOf 1 = .ok (.iconst 1, 1) := by decide +kernel
theorem dX8_refusalsOf_2 : decode cX8_refusalsOf 2 = .ok (.if_icmp .lt 21, 3) := by decide +kernel
theorem dX8_refusalsOf_5 : decode cX8_refusalsOf 5 = .ok (.iload_n 1, 1) := by decide +kernel
theorem dX8_refusalsOf_6 : decode cX8_refusalsOf 6 = .ok (.aload_n 0, 1) := by decide +kernel
theorem dX8_refusalsOf_7 : decode cX8_refusalsOf 7 = .ok (.getfield 81, 3) := by decide +kernel
theorem dX8_refusalsOf_10 : decode cX8_refusalsOf 10 = .ok (.arraylength, 1) := by decide +kernel
theorem dX8_refusalsOf_11 : decode cX8_refusalsOf 11 = .ok (.if_icmp .ge 12, 3) := by decide +kernel
theorem dX8_refusalsOf_14 : decode cX8_refusalsOf 14 = .ok (.aload_n 0, 1) := by decide +kernel
theorem dX8_refusalsOf_15 : decode cX8_refusalsOf 15 = .ok (.getfield 81, 3) := by decide +kernel
theorem dX8_refusalsOf_18 : decode cX8_refusalsOf 18 = .ok (.iload_n 1, 1) := by decide +kernel
theorem dX8_refusalsOf_19 : decode cX8_refusalsOf 19 = .ok (.iaload, 1) := by decide +kernel
theorem dX8_refusalsOf_20 : decode cX8_refusalsOf 20 = .ok (.goto 5, 3) := by decide +kernel
theorem dX8_refusalsOf_23 : decode cX8_refusalsOf 23 = .ok (.bipush (-9), 2) := by decide +kernel
theorem dX8_refusalsOf_25 : decode cX8_refusalsOf 25 = .ok (.ireturn, 1) := by decide +kernel
def gX8_refusalsOf (m : Mem) (a1 : Int32) : Option (Int32) := (if a1 < 1 then some (-9) else (if 7 ≤ a1 then some (-9) else chk (inb a1 7) (some (m.1 42 (Int32.toNatClampNeg a1)))))
set_option maxHeartbeats 4000000 in
set_option maxRecDepth 20000 in
theorem LX8_refusalsOf {n : Nat} {m : Mem} {a1 : Int32} {r : Int32} (hn : 43 ≤ n) (hg : gX8_refusalsOf m a1 = some r) : MX yX8_refusalsOf cX8_refusalsOf 2 (some .int) { frames := 0, cells := 0, slots := 0, locals := 0 } n [.ref 0, .int a1] m (some (.int r)) m := by
  refine MX_of (by decide) (Nat.le_of_ble_eq_true rfl) (Or.inr (Or.inl ⟨rfl, _, rfl⟩)) (fun K hC hk hL hR => ?_)
  replace hn : 43 ≤ kn K := hk.symm ▸ hn
  show RX K 0 [(0, .ref 0), (1, .int a1)] [] m
  rw [gX8_refusalsOf] at hg
  refine R_iload_n (pc := 0) hC 1 dX8_refusalsOf_0 rfl rfl ?_
  refine R_iconst (pc := 1) hC dX8_refusalsOf_1 ki_1 ?_
  refine R_icmp_lt (tgt := 23) (pc := 2) hC dX8_refusalsOf_2 (by decide) (fun c => ?_) (fun c => ?_)
  · replace hg := (if_pos c).symm.trans hg
    refine R_bipush (pc := 23) hC dX8_refusalsOf_23 kb_m9 ?_
    have h9 := gxI (m := m) hg
    exact R_ireturn (pc := 25) hC dX8_refusalsOf_25 h9
  · replace hg := (if_neg c).symm.trans hg
    refine R_iload_n (pc := 5) hC 1 dX8_refusalsOf_5 rfl rfl ?_
    refine R_aload_n (pc := 6) hC 0 dX8_refusalsOf_6 rfl rfl ?_
    refine gf_X8_81 (pc := 7) hC hn dX8_refusalsOf_7 ?_
    refine R_alen (pc := 10) hC 42 (jx hn rfl) ly42 dX8_refusalsOf_10 ?_
    show RX K 11 [(0, .ref 0), (1, .int a1)] [.int 7, .int a1] m
    refine R_icmp_ge (tgt := 23) (pc := 11) hC dX8_refusalsOf_11 (by decide) (fun c => ?_) (fun c => ?_)
    · replace hg := (if_pos c).symm.trans hg
      refine R_bipush (pc := 23) hC dX8_refusalsOf_23 kb_m9 ?_
      have h9 := gxI (m := m) hg
      exact R_ireturn (pc := 25) hC dX8_refusalsOf_25 h9
    · replace hg := (if_neg c).symm.trans hg
      refine R_aload_n (pc := 14) hC 0 dX8_refusalsOf_14 rfl rfl ?_
      refine gf_X8_81 (pc := 15) hC hn dX8_refusalsOf_15 ?_
      refine R_iload_n (pc := 18) hC 1 dX8_refusalsOf_18 rfl rfl ?_
      obtain ⟨c1, hg⟩ := chk_some hg
      refine R_iaload (pc := 19) hC 42 (jx hn rfl) ly42 (inb_vp c1) dX8_refusalsOf_19 ?_
      refine R_goto (tgt := 25) (pc := 20) hC dX8_refusalsOf_20 (by decide) ?_
      have h9 := gxI (m := m) hg
      exact R_ireturn (pc := 25) hC dX8_refusalsOf_25 h9
theorem dX8_count_0 : decode cX8_count 0 = .ok (.iload_n 1, 1) := by decide +kernel
theorem dX8_count_1 : decode cX8_count 1 = .ok (.tableswitch 105 0 6 #[43, 51, 59, 70, 81, 89, 97], 43) := by decide +kernel
theorem dX8_count_44 : decode cX8_count 44 = .ok (.aload_n 0, 1) := by decide +kernel
theorem dX8_count_45 : decode cX8_count 45 = .ok (.getfield 10, 3) := by decide +kernel
theorem dX8_count_48 : decode cX8_count 48 = .ok (.getfield 252, 3) := by decide +kernel
theorem dX8_count_51 : decode cX8_count 51 = .ok (.ireturn, 1) := by decide +kernel
theorem dX8_count_52 : decode cX8_count 52 = .ok (.aload_n 0, 1) := by decide +kernel
theorem dX8_count_53 : decode cX8_count 53 = .ok (.getfield 10, 3) := by decide +kernel
theorem dX8_count_56 : decode cX8_count 56 = .ok (.getfield 144, 3) := by decide +kernel
theorem dX8_count_59 : decode cX8_count 59 = .ok (.ireturn, 1) := by decide +kernel
theorem dX8_count_60 : decode cX8_count 60 = .ok (.aload_n 0, 1) := by decide +kernel
theorem dX8_count_61 : decode cX8_count 61 = .ok (.getfield 10, 3) := by decide +kernel
theorem dX8_count_64 : decode cX8_count 64 = .ok (.getfield 240, 3) := by decide +kernel
theorem dX8_count_67 : decode cX8_count 67 = .ok (.invokestatic 194, 3) := by decide +kernel
theorem dX8_count_70 : decode cX8_count 70 = .ok (.ireturn, 1) := by decide +kernel
theorem dX8_count_71 : decode cX8_count 71 = .ok (.aload_n 0, 1) := by decide +kernel
theorem dX8_count_72 : decode cX8_count 72 = .ok (.getfield 10, 3) := by decide +kernel
theorem dX8_count_75 : decode cX8_count 75 = .ok (.getfield 243, 3) := by decide +kernel
theorem dX8_count_78 : decode cX8_count 78 = .ok (.invokestatic 194, 3) := by decide +kernel
theorem dX8_count_81 : decode cX8_count 81 = .ok (.ireturn, 1) := by decide +kernel
theorem dX8_count_82 : decode cX8_count 82 = .ok (.aload_n 0, 1) := by decide +kernel
theorem dX8_count_83 : decode cX8_count 83 = .ok (.getfield 10, 3) := by decide +kernel
theorem dX8_count_86 : decode cX8_count 86 = .ok (.invokevirtual 285, 3) := by decide +kernel
theorem dX8_count_89 : decode cX8_count 89 = .ok (.ireturn, 1) := by decide +kernel
theorem dX8_count_90 : decode cX8_count 90 = .ok (.aload_n 0, 1) := by decide +kernel
theorem dX8_count_91 : decode cX8_count 91 = .ok (.getfield 29, 3) := by decide +kernel
theorem dX8_count_94 : decode cX8_count 94 = .ok (.getfield 288, 3) := by decide +kernel
theorem dX8_count_97 : decode cX8_count 97 = .ok (.ireturn, 1) := by decide +kernel
theorem dX8_count_98 : decode cX8_count 98 = .ok (.aload_n 0, 1) := by decide +kernel
theorem dX8_count_99 : decode cX8_count 99 = .ok (.getfield 68, 3) := by decide +kernel
theorem dX8_count_102 : decode cX8_count 102 = .ok (.getfield 289, 3) := by decide +kernel
theorem dX8_count_105 : decode cX8_count 105 = .ok (.ireturn, 1) := by decide +kernel
theorem dX8_count_106 : decode cX8_count 106 = .ok (.aload_n 0, 1) := by decide +kernel
theorem dX8_count_107 : decode cX8_count 107 = .ok (.iload_n 1, 1) := by decide +kernel
theorem dX8_count_108 : decode cX8_count 108 = .ok (.bipush 10, 2) := by decide +kernel
theorem dX8_count_110 : decode cX8_count 110 = .ok (.isub, 1) := by decide +kernel
theorem dX8_count_111 : decode cX8_count 111 = .ok (.invokevirtual 290, 3) := by decide +kernel
theorem dX8_count_114 : decode cX8_count 114 = .ok (.ireturn, 1) := by decide +kernel
def gX8_count (F : Nat) (m : Mem) (a1 : Int32) : Option (Int32) := (if a1 = 0 then some (m.1 1 0) else (if a1 = 1 then some (m.1 1 1) else (if a1 = 2 then (gJ6_bitCount (m.1 1 2)).bind (fun x4 => some x4) else (if a1 = 3 then (gJ6_bitCount (m.1 1 3)).bind (fun x6 => some x6) else (if a1 = 4 then (gX6_costOfAll F m 1).bind (fun x8 => some x8) else (if a1 = 5 then some (m.1 22 1) else (if a1 = 6 then some (m.1 35 3) else (gX8_refusalsOf m (a1 - 10)).bind (fun x11 => some x11))))))))
set_option maxHeartbeats 4000000 in
set_option maxRecDepth 20000 in
theorem LX8_count {n : Nat} {F : Nat} {m : Mem} {a1 : Int32} {r : Int32} (hn : 43 ≤ n) (hg : gX8_count F m a1 = some r) : MX yX8_count cX8_count 2 (some .int) { frames := 2, cells := 0, slots := 0, locals := 43 } n [.ref 0, .int a1] m (some (.int r)) m := by
  refine MX_of (by decide) (Nat.le_of_ble_eq_true rfl) (Or.inr (Or.inl ⟨rfl, _, rfl⟩)) (fun K hC hk hL hR => ?_)
  replace hn : 43 ≤ kn K := hk.symm ▸ hn
  show RX K 0 [(0, .ref 0), (1, .int a1)] [] m
  rw [gX8_count] at hg
  refine R_iload_n (pc := 0) hC 1 dX8_count_0 rfl rfl ?_
  by_cases c1 : a1 = 0
  · replace hg := (if_pos c1).symm.trans hg
    refine R_top c1 ?_
    refine R_tableIn (tgt := 44) (x := 0) (pc := 1) hC dX8_count_1 (by decide) (by decide) (by rfl) (by decide) ?_
    refine R_aload_n (pc := 44) hC 0 dX8_count_44 rfl rfl ?_
    refine gf_X8_10 (pc := 45) hC hn dX8_count_45 ?_
    refine gf_X8_252 (pc := 48) hC hn isv1 dX8_count_48 ?_
    have h9 := gxI (m := m) hg
    exact R_ireturn (pc := 51) hC dX8_count_51 h9
  replace hg := (if_neg c1).symm.trans hg
  by_cases c2 : a1 = 1
  · replace hg := (if_pos c2).symm.trans hg
    refine R_top c2 ?_
    refine R_tableIn (tgt := 52) (x := 1) (pc := 1) hC dX8_count_1 (by decide) (by decide) (by rfl) (by decide) ?_
    refine R_aload_n (pc := 52) hC 0 dX8_count_52 rfl rfl ?_
    refine gf_X8_10 (pc := 53) hC hn dX8_count_53 ?_
    refine gf_X8_144 (pc := 56) hC hn isv1 dX8_count_56 ?_
    have h9 := gxI (m := m) hg
    exact R_ireturn (pc := 59) hC dX8_count_59 h9
  replace hg := (if_neg c2).symm.trans hg
  by_cases c3 : a1 = 2
  · replace hg := (if_pos c3).symm.trans hg
    refine R_top c3 ?_
    refine R_tableIn (tgt := 60) (x := 2) (pc := 1) hC dX8_count_1 (by decide) (by decide) (by rfl) (by decide) ?_
    refine R_aload_n (pc := 60) hC 0 dX8_count_60 rfl rfl ?_
    refine gf_X8_10 (pc := 61) hC hn dX8_count_61 ?_
    refine gf_X8_240 (pc := 64) hC hn isv1 dX8_count_64 ?_
    obtain ⟨x4, hx4, hg⟩ := bind_some hg
    refine R_callS (pc := 67) (av := [.int (m.1 1 2)]) (rest := []) hC hR mf_J6_bitCount wm_X8_194 (LJ6_bitCount hx4) rfl rfl rfl (Nat.le_of_ble_eq_true rfl) dX8_count_67 rfl ?_
    show RX K 70 [(0, .ref 0), (1, .int a1)] [.int x4] m
    have h9 := gxI (m := m) hg
    exact R_ireturn (pc := 70) hC dX8_count_70 h9
  replace hg := (if_neg c3).symm.trans hg
  by_cases c5 : a1 = 3
  · replace hg := (if_pos c5).symm.trans hg
    refine R_top c5 ?_
    refine R_tableIn (tgt := 71) (x := 3) (pc := 1) hC dX8_count_1 (by decide) (by decide) (by rfl) (by decide) ?_
    refine R_aload_n (pc := 71) hC 0 dX8_count_71 rfl rfl ?_
    refine gf_X8_10 (pc := 72) hC hn dX8_count_72 ?_
    refine gf_X8_243 (pc := 75) hC hn isv1 dX8_count_75 ?_
    obtain ⟨x6, hx6, hg⟩ := bind_some hg
    refine R_callS (pc := 78) (av := [.int (m.1 1 3)]) (rest := []) hC hR mf_J6_bitCount wm_X8_194 (LJ6_bitCount hx6) rfl rfl rfl (Nat.le_of_ble_eq_true rfl) dX8_count_78 rfl ?_
    show RX K 81 [(0, .ref 0), (1, .int a1)] [.int x6] m
    have h9 := gxI (m := m) hg
    exact R_ireturn (pc := 81) hC dX8_count_81 h9
  replace hg := (if_neg c5).symm.trans hg
  by_cases c7 : a1 = 4
  · replace hg := (if_pos c7).symm.trans hg
    refine R_top c7 ?_
    refine R_tableIn (tgt := 82) (x := 4) (pc := 1) hC dX8_count_1 (by decide) (by decide) (by rfl) (by decide) ?_
    refine R_aload_n (pc := 82) hC 0 dX8_count_82 rfl rfl ?_
    refine gf_X8_10 (pc := 83) hC hn dX8_count_83 ?_
    obtain ⟨x8, hx8, hg⟩ := bind_some hg
    refine R_callVN (pc := 86) (av := []) (rest := []) hC hR 1 (jx hn rfl) ly1 rfl mf_X6_costOfAll wm_X8_285 (LX6_costOfAll hn isv1 hx8) rfl rfl rfl (Nat.le_of_ble_eq_true rfl) dX8_count_86 rfl ?_
    show RX K 89 [(0, .ref 0), (1, .int a1)] [.int x8] m
    have h9 := gxI (m := m) hg
    exact R_ireturn (pc := 89) hC dX8_count_89 h9
  replace hg := (if_neg c7).symm.trans hg
  by_cases c9 : a1 = 5
  · replace hg := (if_pos c9).symm.trans hg
    refine R_top c9 ?_
    refine R_tableIn (tgt := 90) (x := 5) (pc := 1) hC dX8_count_1 (by decide) (by decide) (by rfl) (by decide) ?_
    refine R_aload_n (pc := 90) hC 0 dX8_count_90 rfl rfl ?_
    refine gf_X8_29 (pc := 91) hC hn dX8_count_91 ?_
    refine gf_X8_288 (pc := 94) hC hn dX8_count_94 ?_
    have h9 := gxI (m := m) hg
    exact R_ireturn (pc := 97) hC dX8_count_97 h9
  replace hg := (if_neg c9).symm.trans hg
  by_cases c10 : a1 = 6
  · replace hg := (if_pos c10).symm.trans hg
    refine R_top c10 ?_
    refine R_tableIn (tgt := 98) (x := 6) (pc := 1) hC dX8_count_1 (by decide) (by decide) (by rfl) (by decide) ?_
    refine R_aload_n (pc := 98) hC 0 dX8_count_98 rfl rfl ?_
    refine gf_X8_68 (pc := 99) hC hn dX8_count_99 ?_
    refine gf_X8_289 (pc := 102) hC hn dX8_count_102 ?_
    have h9 := gxI (m := m) hg
    exact R_ireturn (pc := 105) hC dX8_count_105 h9
  replace hg := (if_neg c10).symm.trans hg
  refine R_tableOut (tgt := 106) (pc := 1) hC dX8_count_1 (tab_out (fun k hk => ?_)) (by decide) ?_
  · have h9 : k = 0 ∨ k = 1 ∨ k = 2 ∨ k = 3 ∨ k = 4 ∨ k = 5 ∨ k = 6 := by omega
    rcases h9 with rfl | rfl | rfl | rfl | rfl | rfl | rfl
    · exact i32_ne c1 (by decide)
    · exact i32_ne c2 (by decide)
    · exact i32_ne c3 (by decide)
    · exact i32_ne c5 (by decide)
    · exact i32_ne c7 (by decide)
    · exact i32_ne c9 (by decide)
    · exact i32_ne c10 (by decide)
  refine R_aload_n (pc := 106) hC 0 dX8_count_106 rfl rfl ?_
  refine R_iload_n (pc := 107) hC 1 dX8_count_107 rfl rfl ?_
  refine R_bipush (pc := 108) hC dX8_count_108 kb_10 ?_
  refine R_isub (pc := 110) hC dX8_count_110 ?_
  obtain ⟨x11, hx11, hg⟩ := bind_some hg
  refine R_callV (pc := 111) (av := [.int (a1 - 10)]) (rest := []) hC hR 0 (jx hn rfl) ly0 rfl mf_X8_refusalsOf wm_X8_290 (LX8_refusalsOf hn hx11) rfl rfl rfl (Nat.le_of_ble_eq_true rfl) dX8_count_111 rfl ?_
  show RX K 114 [(0, .ref 0), (1, .int a1)] [.int x11] m
  have h9 := gxI (m := m) hg
  exact R_ireturn (pc := 114) hC dX8_count_114 h9
