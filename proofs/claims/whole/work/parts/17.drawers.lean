theorem dX0_isDrawer_0 : decode cX0_isDrawer 0 = .ok (.iload_n 1, 1) := by decide +kernel
theorem dX0_isDrawer_1 : decode cX0_isDrawer 1 = .ok (.ifCond .lt 12, 3) := by decide +kernel
theorem dX0_isDrawer_4 : decode cX0_isDrawer 4 = .ok (.iload_n 1, 1) := by decide +kernel
theorem dX0_isDrawer_5 : decode cX0_isDrawer 5 = .ok (.iconst 5, 1) := by decide +kernel
theorem dX0_isDrawer_6 : decode cX0_isDrawer 6 = .ok (.if_icmp .gt 7, 3) := by decide +kernel
theorem dX0_isDrawer_9 : decode cX0_isDrawer 9 = .ok (.iconst 1, 1) := by decide +kernel
theorem dX0_isDrawer_10 : decode cX0_isDrawer 10 = .ok (.goto 4, 3) := by decide +kernel
theorem dX0_isDrawer_13 : decode cX0_isDrawer 13 = .ok (.iconst 0, 1) := by decide +kernel
theorem dX0_isDrawer_14 : decode cX0_isDrawer 14 = .ok (.ireturn, 1) := by decide +kernel
def gX0_isDrawer (a1 : Int32) : Option (Bool) := (if a1 < 0 then some false else (if 5 < a1 then some false else some true))
set_option maxHeartbeats 4000000 in
set_option maxRecDepth 20000 in
theorem LX0_isDrawer {n : Nat} {m : Mem} {a1 : Int32} {r : Bool} (hn : 43 ≤ n) (hg : gX0_isDrawer a1 = some r) : MX yX0_isDrawer cX0_isDrawer 2 (some .boolean) { frames := 0, cells := 0, slots := 0, locals := 0 } n [.ref 37, .int a1] m (some (.int (b2i r))) m := by
  refine MX_of (by decide) (Nat.le_of_ble_eq_true rfl) (Or.inr (Or.inr (Or.inr ⟨rfl, _, rfl⟩))) (fun K hC hk hL hR => ?_)
  replace hn : 43 ≤ kn K := hk.symm ▸ hn
  show RX K 0 [(0, .ref 37), (1, .int a1)] [] m
  rw [gX0_isDrawer] at hg
  refine R_iload_n (pc := 0) hC 1 dX0_isDrawer_0 rfl rfl ?_
  refine R_if_lt (tgt := 13) (pc := 1) hC dX0_isDrawer_1 (by decide) (fun c => ?_) (fun c => ?_)
  · replace hg := (if_pos c).symm.trans hg
    refine R_iconst (pc := 13) hC dX0_isDrawer_13 ki_0 ?_
    have h9 := gxZ (m := m) hg
    exact R_ireturn (pc := 14) hC dX0_isDrawer_14 h9
  · replace hg := (if_neg c).symm.trans hg
    refine R_iload_n (pc := 4) hC 1 dX0_isDrawer_4 rfl rfl ?_
    refine R_iconst (pc := 5) hC dX0_isDrawer_5 ki_5 ?_
    refine R_icmp_gt (tgt := 13) (pc := 6) hC dX0_isDrawer_6 (by decide) (fun c => ?_) (fun c => ?_)
    · replace hg := (if_pos c).symm.trans hg
      refine R_iconst (pc := 13) hC dX0_isDrawer_13 ki_0 ?_
      have h9 := gxZ (m := m) hg
      exact R_ireturn (pc := 14) hC dX0_isDrawer_14 h9
    · replace hg := (if_neg c).symm.trans hg
      refine R_iconst (pc := 9) hC dX0_isDrawer_9 ki_1 ?_
      refine R_goto (tgt := 14) (pc := 10) hC dX0_isDrawer_10 (by decide) ?_
      have h9 := gxZ (m := m) hg
      exact R_ireturn (pc := 14) hC dX0_isDrawer_14 h9
theorem dX0_goesOn_0 : decode cX0_goesOn 0 = .ok (.aload_n 0, 1) := by decide +kernel
theorem dX0_goesOn_1 : decode cX0_goesOn 1 = .ok (.getfield 9, 3) := by decide +kernel
theorem dX0_goesOn_4 : decode cX0_goesOn 4 = .ok (.getfield 88, 3) := by decide +kernel
theorem dX0_goesOn_7 : decode cX0_goesOn 7 = .ok (.iload_n 1, 1) := by decide +kernel
theorem dX0_goesOn_8 : decode cX0_goesOn 8 = .ok (.ishr, 1) := by decide +kernel
theorem dX0_goesOn_9 : decode cX0_goesOn 9 = .ok (.iconst 1, 1) := by decide +kernel
theorem dX0_goesOn_10 : decode cX0_goesOn 10 = .ok (.iand, 1) := by decide +kernel
theorem dX0_goesOn_11 : decode cX0_goesOn 11 = .ok (.ifCond .eq 5, 3) := by decide +kernel
theorem dX0_goesOn_14 : decode cX0_goesOn 14 = .ok (.iconst 0, 1) := by decide +kernel
theorem dX0_goesOn_15 : decode cX0_goesOn 15 = .ok (.ireturn, 1) := by decide +kernel
theorem dX0_goesOn_16 : decode cX0_goesOn 16 = .ok (.aload_n 0, 1) := by decide +kernel
theorem dX0_goesOn_17 : decode cX0_goesOn 17 = .ok (.getfield 9, 3) := by decide +kernel
theorem dX0_goesOn_20 : decode cX0_goesOn 20 = .ok (.getfield 91, 3) := by decide +kernel
theorem dX0_goesOn_23 : decode cX0_goesOn 23 = .ok (.iload_n 1, 1) := by decide +kernel
theorem dX0_goesOn_24 : decode cX0_goesOn 24 = .ok (.iaload, 1) := by decide +kernel
theorem dX0_goesOn_25 : decode cX0_goesOn 25 = .ok (.iload_n 2, 1) := by decide +kernel
theorem dX0_goesOn_26 : decode cX0_goesOn 26 = .ok (.if_icmp .eq 29, 3) := by decide +kernel
theorem dX0_goesOn_29 : decode cX0_goesOn 29 = .ok (.aload_n 0, 1) := by decide +kernel
theorem dX0_goesOn_30 : decode cX0_goesOn 30 = .ok (.getfield 9, 3) := by decide +kernel
theorem dX0_goesOn_33 : decode cX0_goesOn 33 = .ok (.getfield 94, 3) := by decide +kernel
theorem dX0_goesOn_36 : decode cX0_goesOn 36 = .ok (.iload_n 1, 1) := by decide +kernel
theorem dX0_goesOn_37 : decode cX0_goesOn 37 = .ok (.iaload, 1) := by decide +kernel
theorem dX0_goesOn_38 : decode cX0_goesOn 38 = .ok (.iload_n 2, 1) := by decide +kernel
theorem dX0_goesOn_39 : decode cX0_goesOn 39 = .ok (.if_icmp .ne 20, 3) := by decide +kernel
theorem dX0_goesOn_42 : decode cX0_goesOn 42 = .ok (.aload_n 0, 1) := by decide +kernel
theorem dX0_goesOn_43 : decode cX0_goesOn 43 = .ok (.getfield 9, 3) := by decide +kernel
theorem dX0_goesOn_46 : decode cX0_goesOn 46 = .ok (.getfield 97, 3) := by decide +kernel
theorem dX0_goesOn_49 : decode cX0_goesOn 49 = .ok (.iload_n 1, 1) := by decide +kernel
theorem dX0_goesOn_50 : decode cX0_goesOn 50 = .ok (.iaload, 1) := by decide +kernel
theorem dX0_goesOn_51 : decode cX0_goesOn 51 = .ok (.iconst 3, 1) := by decide +kernel
theorem dX0_goesOn_52 : decode cX0_goesOn 52 = .ok (.if_icmp .eq 7, 3) := by decide +kernel
theorem dX0_goesOn_55 : decode cX0_goesOn 55 = .ok (.iconst 1, 1) := by decide +kernel
theorem dX0_goesOn_56 : decode cX0_goesOn 56 = .ok (.goto 4, 3) := by decide +kernel
theorem dX0_goesOn_59 : decode cX0_goesOn 59 = .ok (.iconst 0, 1) := by decide +kernel
theorem dX0_goesOn_60 : decode cX0_goesOn 60 = .ok (.ireturn, 1) := by decide +kernel
def gX0_goesOn (m : Mem) (a1 : Int32) (a2 : Int32) : Option (Bool) := (if (((m.1 1 3) >>> (a1 &&& 31)) &&& 1) = 0 then chk (inb a1 10) ((if (m.1 3 (Int32.toNatClampNeg a1)) = a2 then some true else chk (inb a1 10) ((if (m.1 4 (Int32.toNatClampNeg a1)) = a2 then chk (inb a1 10) ((if (m.1 2 (Int32.toNatClampNeg a1)) = 3 then some false else some true)) else some false)))) else some false)
set_option maxHeartbeats 4000000 in
set_option maxRecDepth 20000 in
theorem LX0_goesOn {n : Nat} {m : Mem} {a1 : Int32} {a2 : Int32} {r : Bool} (hn : 43 ≤ n) (hg : gX0_goesOn m a1 a2 = some r) : MX yX0_goesOn cX0_goesOn 3 (some .boolean) { frames := 0, cells := 0, slots := 0, locals := 0 } n [.ref 37, .int a1, .int a2] m (some (.int (b2i r))) m := by
  refine MX_of (by decide) (Nat.le_of_ble_eq_true rfl) (Or.inr (Or.inr (Or.inr ⟨rfl, _, rfl⟩))) (fun K hC hk hL hR => ?_)
  replace hn : 43 ≤ kn K := hk.symm ▸ hn
  show RX K 0 [(0, .ref 37), (1, .int a1), (2, .int a2)] [] m
  rw [gX0_goesOn] at hg
  refine R_aload_n (pc := 0) hC 0 dX0_goesOn_0 rfl rfl ?_
  refine gf_X0_9 (pc := 1) hC hn dX0_goesOn_1 ?_
  refine gf_X0_88 (pc := 4) hC hn isv1 dX0_goesOn_4 ?_
  refine R_iload_n (pc := 7) hC 1 dX0_goesOn_7 rfl rfl ?_
  refine R_ishr (pc := 8) hC dX0_goesOn_8 ?_
  refine R_iconst (pc := 9) hC dX0_goesOn_9 ki_1 ?_
  refine R_iand (pc := 10) hC dX0_goesOn_10 ?_
  refine R_if_eq (tgt := 16) (pc := 11) hC dX0_goesOn_11 (by decide) (fun c => ?_) (fun c => ?_)
  · replace hg := (if_pos c).symm.trans hg
    refine R_aload_n (pc := 16) hC 0 dX0_goesOn_16 rfl rfl ?_
    refine gf_X0_9 (pc := 17) hC hn dX0_goesOn_17 ?_
    refine gf_X0_91 (pc := 20) hC hn isv1 dX0_goesOn_20 ?_
    refine R_iload_n (pc := 23) hC 1 dX0_goesOn_23 rfl rfl ?_
    obtain ⟨c1, hg⟩ := chk_some hg
    refine R_iaload (pc := 24) hC 3 (jx hn rfl) ly3 (inb_vp c1) dX0_goesOn_24 ?_
    refine R_iload_n (pc := 25) hC 2 dX0_goesOn_25 rfl rfl ?_
    refine R_icmp_eq (tgt := 55) (pc := 26) hC dX0_goesOn_26 (by decide) (fun c => ?_) (fun c => ?_)
    · replace hg := (if_pos c).symm.trans hg
      refine R_iconst (pc := 55) hC dX0_goesOn_55 ki_1 ?_
      refine R_goto (tgt := 60) (pc := 56) hC dX0_goesOn_56 (by decide) ?_
      have h9 := gxZ (m := m) hg
      exact R_ireturn (pc := 60) hC dX0_goesOn_60 h9
    · replace hg := (if_neg c).symm.trans hg
      refine R_aload_n (pc := 29) hC 0 dX0_goesOn_29 rfl rfl ?_
      refine gf_X0_9 (pc := 30) hC hn dX0_goesOn_30 ?_
      refine gf_X0_94 (pc := 33) hC hn isv1 dX0_goesOn_33 ?_
      refine R_iload_n (pc := 36) hC 1 dX0_goesOn_36 rfl rfl ?_
      obtain ⟨c2, hg⟩ := chk_some hg
      refine R_iaload (pc := 37) hC 4 (jx hn rfl) ly4 (inb_vp c2) dX0_goesOn_37 ?_
      refine R_iload_n (pc := 38) hC 2 dX0_goesOn_38 rfl rfl ?_
      refine R_icmp_ne (tgt := 59) (pc := 39) hC dX0_goesOn_39 (by decide) (fun c => ?_) (fun c => ?_)
      · replace hg := (if_neg c).symm.trans hg
        refine R_iconst (pc := 59) hC dX0_goesOn_59 ki_0 ?_
        have h9 := gxZ (m := m) hg
        exact R_ireturn (pc := 60) hC dX0_goesOn_60 h9
      · replace hg := (if_pos c).symm.trans hg
        refine R_aload_n (pc := 42) hC 0 dX0_goesOn_42 rfl rfl ?_
        refine gf_X0_9 (pc := 43) hC hn dX0_goesOn_43 ?_
        refine gf_X0_97 (pc := 46) hC hn isv1 dX0_goesOn_46 ?_
        refine R_iload_n (pc := 49) hC 1 dX0_goesOn_49 rfl rfl ?_
        obtain ⟨c3, hg⟩ := chk_some hg
        refine R_iaload (pc := 50) hC 2 (jx hn rfl) ly2 (inb_vp c3) dX0_goesOn_50 ?_
        refine R_iconst (pc := 51) hC dX0_goesOn_51 ki_3 ?_
        refine R_icmp_eq (tgt := 59) (pc := 52) hC dX0_goesOn_52 (by decide) (fun c => ?_) (fun c => ?_)
        · replace hg := (if_pos c).symm.trans hg
          refine R_iconst (pc := 59) hC dX0_goesOn_59 ki_0 ?_
          have h9 := gxZ (m := m) hg
          exact R_ireturn (pc := 60) hC dX0_goesOn_60 h9
        · replace hg := (if_neg c).symm.trans hg
          refine R_iconst (pc := 55) hC dX0_goesOn_55 ki_1 ?_
          refine R_goto (tgt := 60) (pc := 56) hC dX0_goesOn_56 (by decide) ?_
          have h9 := gxZ (m := m) hg
          exact R_ireturn (pc := 60) hC dX0_goesOn_60 h9
  · replace hg := (if_neg c).symm.trans hg
    refine R_iconst (pc := 14) hC dX0_goesOn_14 ki_0 ?_
    have h9 := gxZ (m := m) hg
    exact R_ireturn (pc := 15) hC dX0_goesOn_15 h9
theorem dX0_lookRound_0 : decode cX0_lookRound 0 = .ok (.iconst 0, 1) := by decide +kernel
theorem dX0_lookRound_1 : decode cX0_lookRound 1 = .ok (.istore_n 1, 1) := by decide +kernel
theorem dX0_lookRound_2 : decode cX0_lookRound 2 = .ok (.iload_n 1, 1) := by decide +kernel
theorem dX0_lookRound_3 : decode cX0_lookRound 3 = .ok (.bipush 7, 2) := by decide +kernel
theorem dX0_lookRound_5 : decode cX0_lookRound 5 = .ok (.if_icmp .ge 87, 3) := by decide +kernel
theorem dX0_lookRound_8 : decode cX0_lookRound 8 = .ok (.aload_n 0, 1) := by decide +kernel
theorem dX0_lookRound_9 : decode cX0_lookRound 9 = .ok (.getfield 27, 3) := by decide +kernel
theorem dX0_lookRound_12 : decode cX0_lookRound 12 = .ok (.iload_n 1, 1) := by decide +kernel
theorem dX0_lookRound_13 : decode cX0_lookRound 13 = .ok (.iconst 0, 1) := by decide +kernel
theorem dX0_lookRound_14 : decode cX0_lookRound 14 = .ok (.iastore, 1) := by decide +kernel
theorem dX0_lookRound_15 : decode cX0_lookRound 15 = .ok (.aload_n 0, 1) := by decide +kernel
theorem dX0_lookRound_16 : decode cX0_lookRound 16 = .ok (.getfield 31, 3) := by decide +kernel
theorem dX0_lookRound_19 : decode cX0_lookRound 19 = .ok (.iload_n 1, 1) := by decide +kernel
theorem dX0_lookRound_20 : decode cX0_lookRound 20 = .ok (.iconst 0, 1) := by decide +kernel
theorem dX0_lookRound_21 : decode cX0_lookRound 21 = .ok (.iastore, 1) := by decide +kernel
theorem dX0_lookRound_22 : decode cX0_lookRound 22 = .ok (.iconst 0, 1) := by decide +kernel
theorem dX0_lookRound_23 : decode cX0_lookRound 23 = .ok (.istore_n 2, 1) := by decide +kernel
theorem dX0_lookRound_24 : decode cX0_lookRound 24 = .ok (.iload_n 2, 1) := by decide +kernel
theorem dX0_lookRound_25 : decode cX0_lookRound 25 = .ok (.aload_n 0, 1) := by decide +kernel
theorem dX0_lookRound_26 : decode cX0_lookRound 26 = .ok (.getfield 9, 3) := by decide +kernel
theorem dX0_lookRound_29 : decode cX0_lookRound 29 = .ok (.getfield 76, 3) := by decide +kernel
theorem dX0_lookRound_32 : decode cX0_lookRound 32 = .ok (.if_icmp .ge 54, 3) := by decide +kernel
theorem dX0_lookRound_35 : decode cX0_lookRound 35 = .ok (.iload_n 2, 1) := by decide +kernel
theorem dX0_lookRound_36 : decode cX0_lookRound 36 = .ok (.bipush 10, 2) := by decide +kernel
theorem dX0_lookRound_38 : decode cX0_lookRound 38 = .ok (.if_icmp .ge 48, 3) := by decide +kernel
theorem dX0_lookRound_41 : decode cX0_lookRound 41 = .ok (.aload_n 0, 1) := by decide +kernel
theorem dX0_lookRound_42 : decode cX0_lookRound 42 = .ok (.iload_n 2, 1) := by decide +kernel
theorem dX0_lookRound_43 : decode cX0_lookRound 43 = .ok (.iload_n 1, 1) := by decide +kernel
theorem dX0_lookRound_44 : decode cX0_lookRound 44 = .ok (.invokevirtual 81, 3) := by decide +kernel
theorem dX0_lookRound_47 : decode cX0_lookRound 47 = .ok (.ifCond .eq 33, 3) := by decide +kernel
theorem dX0_lookRound_50 : decode cX0_lookRound 50 = .ok (.aload_n 0, 1) := by decide +kernel
theorem dX0_lookRound_51 : decode cX0_lookRound 51 = .ok (.getfield 27, 3) := by decide +kernel
theorem dX0_lookRound_54 : decode cX0_lookRound 54 = .ok (.iload_n 1, 1) := by decide +kernel
theorem dX0_lookRound_55 : decode cX0_lookRound 55 = .ok (.dup2, 1) := by decide +kernel
theorem dX0_lookRound_56 : decode cX0_lookRound 56 = .ok (.iaload, 1) := by decide +kernel
theorem dX0_lookRound_57 : decode cX0_lookRound 57 = .ok (.iconst 1, 1) := by decide +kernel
theorem dX0_lookRound_58 : decode cX0_lookRound 58 = .ok (.iload_n 2, 1) := by decide +kernel
theorem dX0_lookRound_59 : decode cX0_lookRound 59 = .ok (.ishl, 1) := by decide +kernel
theorem dX0_lookRound_60 : decode cX0_lookRound 60 = .ok (.ior, 1) := by decide +kernel
theorem dX0_lookRound_61 : decode cX0_lookRound 61 = .ok (.iastore, 1) := by decide +kernel
theorem dX0_lookRound_62 : decode cX0_lookRound 62 = .ok (.aload_n 0, 1) := by decide +kernel
theorem dX0_lookRound_63 : decode cX0_lookRound 63 = .ok (.getfield 31, 3) := by decide +kernel
theorem dX0_lookRound_66 : decode cX0_lookRound 66 = .ok (.iload_n 1, 1) := by decide +kernel
theorem dX0_lookRound_67 : decode cX0_lookRound 67 = .ok (.dup2, 1) := by decide +kernel
theorem dX0_lookRound_68 : decode cX0_lookRound 68 = .ok (.iaload, 1) := by decide +kernel
theorem dX0_lookRound_69 : decode cX0_lookRound 69 = .ok (.aload_n 0, 1) := by decide +kernel
theorem dX0_lookRound_70 : decode cX0_lookRound 70 = .ok (.getfield 9, 3) := by decide +kernel
theorem dX0_lookRound_73 : decode cX0_lookRound 73 = .ok (.getfield 85, 3) := by decide +kernel
theorem dX0_lookRound_76 : decode cX0_lookRound 76 = .ok (.iload_n 2, 1) := by decide +kernel
theorem dX0_lookRound_77 : decode cX0_lookRound 77 = .ok (.iaload, 1) := by decide +kernel
theorem dX0_lookRound_78 : decode cX0_lookRound 78 = .ok (.iadd, 1) := by decide +kernel
theorem dX0_lookRound_79 : decode cX0_lookRound 79 = .ok (.iastore, 1) := by decide +kernel
theorem dX0_lookRound_80 : decode cX0_lookRound 80 = .ok (.iinc 2 1, 3) := by decide +kernel
theorem dX0_lookRound_83 : decode cX0_lookRound 83 = .ok (.goto (-59), 3) := by decide +kernel
theorem dX0_lookRound_86 : decode cX0_lookRound 86 = .ok (.iinc 1 1, 3) := by decide +kernel
theorem dX0_lookRound_89 : decode cX0_lookRound 89 = .ok (.goto (-87), 3) := by decide +kernel
theorem dX0_lookRound_92 : decode cX0_lookRound 92 = .ok (.return_, 1) := by decide +kernel
def bX0_lookRound_24 (y1 : Int32) : (Int32 × Mem) → Option ((Int32 × Mem) ⊕ (Int32 × Mem))
  | (y7, m8) => (if (m8.1 1 1) ≤ y7 then some (.inr (y7, m8)) else (if 10 ≤ y7 then some (.inr (y7, m8)) else (gX0_goesOn m8 y7 y1).bind (fun x9 => (if x9 = true then chk (inb y1 7) (chk (inb y1 7) (lete (mu m8 38 (Int32.toNatClampNeg y1) ((m8.1 38 (Int32.toNatClampNeg y1)) ||| ((1 : Int32) <<< (y7 &&& 31)))) (fun m12 => chk (inb y1 7) (chk (inb y7 10) (chk (inb y1 7) (lete (mu m12 39 (Int32.toNatClampNeg y1) ((m12.1 39 (Int32.toNatClampNeg y1)) + (m12.1 5 (Int32.toNatClampNeg y7)))) (fun m16 => some (.inl (y7 + 1, m16))))))))) else some (.inl (y7 + 1, m8))))))
def bX0_lookRound_2 (F : Nat) : (Int32 × Mem) → Option ((Int32 × Mem) ⊕ (Int32 × Mem))
  | (y1, m2) => (if 7 ≤ y1 then some (.inr (y1, m2)) else chk (inb y1 7) (lete (mu m2 38 (Int32.toNatClampNeg y1) 0) (fun m4 => chk (inb y1 7) (lete (mu m4 39 (Int32.toNatClampNeg y1) 0) (fun m6 => (iter F (bX0_lookRound_24 y1) (0, m6)).bind (fun e17 => some (.inl (y1 + 1, e17.2))))))))
def gX0_lookRound (F : Nat) (m : Mem) : Option (Mem) := (iter F (bX0_lookRound_2 F) (0, m)).bind (fun e19 => some e19.2)
set_option maxHeartbeats 4000000 in
set_option maxRecDepth 20000 in
theorem LX0_lookRound {n : Nat} {F : Nat} {m : Mem} {r : Mem} (hn : 43 ≤ n) (hg : gX0_lookRound F m  = some r) : MX yX0_lookRound cX0_lookRound 3 none { frames := 1, cells := 0, slots := 0, locals := 22 } n [.ref 37] m (none) r := by
  refine MX_of (by decide) (Nat.le_of_ble_eq_true rfl) (Or.inl ⟨rfl, rfl⟩) (fun K hC hk hL hR => ?_)
  replace hn : 43 ≤ kn K := hk.symm ▸ hn
  show RX K 0 [(0, .ref 37)] [] m
  rw [gX0_lookRound] at hg
  refine R_iconst (pc := 0) hC dX0_lookRound_0 ki_0 ?_
  refine R_istore_n (pc := 1) hC dX0_lookRound_1 rfl hL rfl (show _ = [(1, .int 0), (0, .ref 37)] from rfl) ?_
  refine R_pick [1, 0] (ls' := [(0, .ref 37), (1, .int 0)]) rfl ?_
  obtain ⟨e19, he19, hg⟩ := bind_some hg
  refine iter_walk (P := fun s : (Int32 × Mem) => RX K 2 [(0, .ref 37), (1, .int s.1)] [] s.2) (Qe := fun s : (Int32 × Mem) => RX K 92 [(0, .ref 37), (1, .int s.1)] [] s.2) (fun s20 o hg kL2 kE2 => ?_) _ _ _ he19 ?_
  · obtain ⟨y1, m2⟩ := s20
    rw [bX0_lookRound_2] at hg
    show RX K 2 [(0, .ref 37), (1, .int y1)] [] m2
    refine R_iload_n (pc := 2) hC 1 dX0_lookRound_2 rfl rfl ?_
    refine R_bipush (pc := 3) hC dX0_lookRound_3 kb_7 ?_
    refine R_icmp_ge (tgt := 92) (pc := 5) hC dX0_lookRound_5 (by decide) (fun c => ?_) (fun c => ?_)
    · replace hg := (if_pos c).symm.trans hg
      refine R_pick [0, 1] (ls' := [(0, .ref 37), (1, .int y1)]) rfl ?_
      have h9 := kE2 _ (Option.some.inj hg).symm
      exact h9
    · replace hg := (if_neg c).symm.trans hg
      refine R_aload_n (pc := 8) hC 0 dX0_lookRound_8 rfl rfl ?_
      refine gf_X0_27 (pc := 9) hC hn dX0_lookRound_9 ?_
      refine R_iload_n (pc := 12) hC 1 dX0_lookRound_12 rfl rfl ?_
      refine R_iconst (pc := 13) hC dX0_lookRound_13 ki_0 ?_
      obtain ⟨c3, hg⟩ := chk_some hg
      obtain ⟨m4, hm4, hg⟩ := lete_some hg
      refine R_iastore (pc := 14) hC 38 (jx hn rfl) ly38 (inb_vp c3) dX0_lookRound_14 ?_
      refine R_mem hm4 ?_
      refine R_aload_n (pc := 15) hC 0 dX0_lookRound_15 rfl rfl ?_
      refine gf_X0_31 (pc := 16) hC hn dX0_lookRound_16 ?_
      refine R_iload_n (pc := 19) hC 1 dX0_lookRound_19 rfl rfl ?_
      refine R_iconst (pc := 20) hC dX0_lookRound_20 ki_0 ?_
      obtain ⟨c5, hg⟩ := chk_some hg
      obtain ⟨m6, hm6, hg⟩ := lete_some hg
      refine R_iastore (pc := 21) hC 39 (jx hn rfl) ly39 (inb_vp c5) dX0_lookRound_21 ?_
      refine R_mem hm6 ?_
      refine R_iconst (pc := 22) hC dX0_lookRound_22 ki_0 ?_
      refine R_istore_n (pc := 23) hC dX0_lookRound_23 rfl hL rfl (show _ = [(2, .int 0), (0, .ref 37), (1, .int y1)] from rfl) ?_
      refine R_pick [1, 2, 0] (ls' := [(0, .ref 37), (1, .int y1), (2, .int 0)]) rfl ?_
      obtain ⟨e17, he17, hg⟩ := bind_some hg
      refine iter_walk (P := fun s : (Int32 × Mem) => RX K 24 [(0, .ref 37), (1, .int y1), (2, .int s.1)] [] s.2) (Qe := fun s : (Int32 × Mem) => RX K 86 [(0, .ref 37), (1, .int y1), (2, .int s.1)] [] s.2) (fun s18 o hg kL24 kE24 => ?_) _ _ _ he17 ?_
      · obtain ⟨y7, m8⟩ := s18
        rw [bX0_lookRound_24] at hg
        show RX K 24 [(0, .ref 37), (1, .int y1), (2, .int y7)] [] m8
        refine R_iload_n (pc := 24) hC 2 dX0_lookRound_24 rfl rfl ?_
        refine R_aload_n (pc := 25) hC 0 dX0_lookRound_25 rfl rfl ?_
        refine gf_X0_9 (pc := 26) hC hn dX0_lookRound_26 ?_
        refine gf_X0_76 (pc := 29) hC hn isv1 dX0_lookRound_29 ?_
        refine R_icmp_ge (tgt := 86) (pc := 32) hC dX0_lookRound_32 (by decide) (fun c => ?_) (fun c => ?_)
        · replace hg := (if_pos c).symm.trans hg
          refine R_pick [0, 1, 2] (ls' := [(0, .ref 37), (1, .int y1), (2, .int y7)]) rfl ?_
          have h9 := kE24 _ (Option.some.inj hg).symm
          exact h9
        · replace hg := (if_neg c).symm.trans hg
          refine R_iload_n (pc := 35) hC 2 dX0_lookRound_35 rfl rfl ?_
          refine R_bipush (pc := 36) hC dX0_lookRound_36 kb_10 ?_
          refine R_icmp_ge (tgt := 86) (pc := 38) hC dX0_lookRound_38 (by decide) (fun c => ?_) (fun c => ?_)
          · replace hg := (if_pos c).symm.trans hg
            refine R_pick [0, 1, 2] (ls' := [(0, .ref 37), (1, .int y1), (2, .int y7)]) rfl ?_
            have h9 := kE24 _ (Option.some.inj hg).symm
            exact h9
          · replace hg := (if_neg c).symm.trans hg
            refine R_aload_n (pc := 41) hC 0 dX0_lookRound_41 rfl rfl ?_
            refine R_iload_n (pc := 42) hC 2 dX0_lookRound_42 rfl rfl ?_
            refine R_iload_n (pc := 43) hC 1 dX0_lookRound_43 rfl rfl ?_
            obtain ⟨x9, hx9, hg⟩ := bind_some hg
            refine R_callV (pc := 44) (av := [.int y7, .int y1]) (rest := []) hC hR 37 (jx hn rfl) ly37 rfl mf_X0_goesOn wm_X0_81 (LX0_goesOn hn hx9) rfl rfl rfl (Nat.le_of_ble_eq_true rfl) dX0_lookRound_44 rfl ?_
            show RX K 47 [(0, .ref 37), (1, .int y1), (2, .int y7)] [.int (b2i x9)] m8
            refine R_ifB_eq (tgt := 80) (pc := 47) hC dX0_lookRound_47 (by decide) (fun c => ?_) (fun c => ?_)
            · replace hg := (if_neg c).symm.trans hg
              refine R_iinc (pc := 80) hC 2 dX0_lookRound_80 rfl (iv ki_1) hL rfl (show _ = [(2, .int (y7 + 1)), (0, .ref 37), (1, .int y1)] from rfl) ?_
              refine R_goto (tgt := 24) (pc := 83) hC dX0_lookRound_83 (by decide) ?_
              refine R_pick [1, 2, 0] (ls' := [(0, .ref 37), (1, .int y1), (2, .int (y7 + 1))]) rfl ?_
              have h9 := kL24 _ (Option.some.inj hg).symm
              exact h9
            · replace hg := (if_pos c).symm.trans hg
              refine R_aload_n (pc := 50) hC 0 dX0_lookRound_50 rfl rfl ?_
              refine gf_X0_27 (pc := 51) hC hn dX0_lookRound_51 ?_
              refine R_iload_n (pc := 54) hC 1 dX0_lookRound_54 rfl rfl ?_
              refine R_dup2 (pc := 55) hC dX0_lookRound_55 rfl rfl ?_
              obtain ⟨c10, hg⟩ := chk_some hg
              refine R_iaload (pc := 56) hC 38 (jx hn rfl) ly38 (inb_vp c10) dX0_lookRound_56 ?_
              refine R_iconst (pc := 57) hC dX0_lookRound_57 ki_1 ?_
              refine R_iload_n (pc := 58) hC 2 dX0_lookRound_58 rfl rfl ?_
              refine R_ishl (pc := 59) hC dX0_lookRound_59 ?_
              refine R_ior (pc := 60) hC dX0_lookRound_60 ?_
              obtain ⟨c11, hg⟩ := chk_some hg
              obtain ⟨m12, hm12, hg⟩ := lete_some hg
              refine R_iastore (pc := 61) hC 38 (jx hn rfl) ly38 (inb_vp c11) dX0_lookRound_61 ?_
              refine R_mem hm12 ?_
              refine R_aload_n (pc := 62) hC 0 dX0_lookRound_62 rfl rfl ?_
              refine gf_X0_31 (pc := 63) hC hn dX0_lookRound_63 ?_
              refine R_iload_n (pc := 66) hC 1 dX0_lookRound_66 rfl rfl ?_
              refine R_dup2 (pc := 67) hC dX0_lookRound_67 rfl rfl ?_
              obtain ⟨c13, hg⟩ := chk_some hg
              refine R_iaload (pc := 68) hC 39 (jx hn rfl) ly39 (inb_vp c13) dX0_lookRound_68 ?_
              refine R_aload_n (pc := 69) hC 0 dX0_lookRound_69 rfl rfl ?_
              refine gf_X0_9 (pc := 70) hC hn dX0_lookRound_70 ?_
              refine gf_X0_85 (pc := 73) hC hn isv1 dX0_lookRound_73 ?_
              refine R_iload_n (pc := 76) hC 2 dX0_lookRound_76 rfl rfl ?_
              obtain ⟨c14, hg⟩ := chk_some hg
              refine R_iaload (pc := 77) hC 5 (jx hn rfl) ly5 (inb_vp c14) dX0_lookRound_77 ?_
              refine R_iadd (pc := 78) hC dX0_lookRound_78 ?_
              obtain ⟨c15, hg⟩ := chk_some hg
              obtain ⟨m16, hm16, hg⟩ := lete_some hg
              refine R_iastore (pc := 79) hC 39 (jx hn rfl) ly39 (inb_vp c15) dX0_lookRound_79 ?_
              refine R_mem hm16 ?_
              refine R_iinc (pc := 80) hC 2 dX0_lookRound_80 rfl (iv ki_1) hL rfl (show _ = [(2, .int (y7 + 1)), (0, .ref 37), (1, .int y1)] from rfl) ?_
              refine R_goto (tgt := 24) (pc := 83) hC dX0_lookRound_83 (by decide) ?_
              refine R_pick [1, 2, 0] (ls' := [(0, .ref 37), (1, .int y1), (2, .int (y7 + 1))]) rfl ?_
              have h9 := kL24 _ (Option.some.inj hg).symm
              exact h9
      · show RX K 86 [(0, .ref 37), (1, .int y1), (2, .int e17.1)] [] e17.2
        refine R_iinc (pc := 86) hC 1 dX0_lookRound_86 rfl (iv ki_1) hL rfl (show _ = [(1, .int (y1 + 1)), (0, .ref 37), (2, .int e17.1)] from rfl) ?_
        refine R_goto (tgt := 2) (pc := 89) hC dX0_lookRound_89 (by decide) ?_
        refine R_pick [1, 0] (ls' := [(0, .ref 37), (1, .int (y1 + 1))]) rfl ?_
        have h9 := kL2 _ (Option.some.inj hg).symm
        exact h9
  · show RX K 92 [(0, .ref 37), (1, .int e19.1)] [] e19.2
    have h9 := gxV hg
    exact R_return (pc := 92) hC dX0_lookRound_92 h9
theorem dX0_begin_0 : decode cX0_begin 0 = .ok (.aload_n 0, 1) := by decide +kernel
theorem dX0_begin_1 : decode cX0_begin 1 = .ok (.iload_n 1, 1) := by decide +kernel
theorem dX0_begin_2 : decode cX0_begin 2 = .ok (.putfield 23, 3) := by decide +kernel
theorem dX0_begin_5 : decode cX0_begin 5 = .ok (.aload_n 0, 1) := by decide +kernel
theorem dX0_begin_6 : decode cX0_begin 6 = .ok (.invokevirtual 40, 3) := by decide +kernel
theorem dX0_begin_9 : decode cX0_begin 9 = .ok (.return_, 1) := by decide +kernel
def gX0_begin (F : Nat) (m : Mem) (a1 : Int32) : Option (Mem) := lete (mu m 37 3 a1) (fun m1 => (gX0_lookRound F m1).bind (fun q2 => some q2))
set_option maxHeartbeats 4000000 in
set_option maxRecDepth 20000 in
theorem LX0_begin {n : Nat} {F : Nat} {m : Mem} {a1 : Int32} {r : Mem} (hn : 43 ≤ n) (hg : gX0_begin F m a1 = some r) : MX yX0_begin cX0_begin 2 none { frames := 2, cells := 0, slots := 0, locals := 44 } n [.ref 37, .int a1] m (none) r := by
  refine MX_of (by decide) (Nat.le_of_ble_eq_true rfl) (Or.inl ⟨rfl, rfl⟩) (fun K hC hk hL hR => ?_)
  replace hn : 43 ≤ kn K := hk.symm ▸ hn
  show RX K 0 [(0, .ref 37), (1, .int a1)] [] m
  rw [gX0_begin] at hg
  refine R_aload_n (pc := 0) hC 0 dX0_begin_0 rfl rfl ?_
  refine R_iload_n (pc := 1) hC 1 dX0_begin_1 rfl rfl ?_
  obtain ⟨m1, hm1, hg⟩ := lete_some hg
  refine pf_X0_23 (pc := 2) hC hn dX0_begin_2 ?_
  refine R_mem hm1 ?_
  refine R_aload_n (pc := 5) hC 0 dX0_begin_5 rfl rfl ?_
  obtain ⟨q2, hq2, hg⟩ := bind_some hg
  refine R_callV (pc := 6) (av := []) (rest := []) hC hR 37 (jx hn rfl) ly37 rfl mf_X0_lookRound wm_X0_40 (LX0_lookRound hn hq2) rfl rfl rfl (Nat.le_of_ble_eq_true rfl) dX0_begin_6 rfl ?_
  show RX K 9 [(0, .ref 37), (1, .int a1)] [] q2
  have h9 := gxV hg
  exact R_return (pc := 9) hC dX0_begin_9 h9
theorem dX0_below_0 : decode cX0_below 0 = .ok (.aload_n 0, 1) := by decide +kernel
theorem dX0_below_1 : decode cX0_below 1 = .ok (.aload_n 0, 1) := by decide +kernel
theorem dX0_below_2 : decode cX0_below 2 = .ok (.getfield 23, 3) := by decide +kernel
theorem dX0_below_5 : decode cX0_below 5 = .ok (.ldc 73, 2) := by decide +kernel
theorem dX0_below_7 : decode cX0_below 7 = .ok (.imul, 1) := by decide +kernel
theorem dX0_below_8 : decode cX0_below 8 = .ok (.sipush 12345, 3) := by decide +kernel
theorem dX0_below_11 : decode cX0_below 11 = .ok (.iadd, 1) := by decide +kernel
theorem dX0_below_12 : decode cX0_below 12 = .ok (.putfield 23, 3) := by decide +kernel
theorem dX0_below_15 : decode cX0_below 15 = .ok (.iload_n 1, 1) := by decide +kernel
theorem dX0_below_16 : decode cX0_below 16 = .ok (.ifCond .le 18, 3) := by decide +kernel
theorem dX0_below_19 : decode cX0_below 19 = .ok (.aload_n 0, 1) := by decide +kernel
theorem dX0_below_20 : decode cX0_below 20 = .ok (.getfield 23, 3) := by decide +kernel
theorem dX0_below_23 : decode cX0_below 23 = .ok (.ldc 74, 2) := by decide +kernel
theorem dX0_below_25 : decode cX0_below 25 = .ok (.iand, 1) := by decide +kernel
theorem dX0_below_26 : decode cX0_below 26 = .ok (.ldc 75, 2) := by decide +kernel
theorem dX0_below_28 : decode cX0_below 28 = .ok (.idiv, 1) := by decide +kernel
theorem dX0_below_29 : decode cX0_below 29 = .ok (.iload_n 1, 1) := by decide +kernel
theorem dX0_below_30 : decode cX0_below 30 = .ok (.irem, 1) := by decide +kernel
theorem dX0_below_31 : decode cX0_below 31 = .ok (.goto 4, 3) := by decide +kernel
theorem dX0_below_34 : decode cX0_below 34 = .ok (.iconst 0, 1) := by decide +kernel
theorem dX0_below_35 : decode cX0_below 35 = .ok (.ireturn, 1) := by decide +kernel
def gX0_below (m : Mem) (a1 : Int32) : Option (Int32 × Mem) := lete (mu m 37 3 (((m.1 37 3) * 1103515245) + 12345)) (fun m1 => (if a1 ≤ 0 then some (0, m1) else chk (¬ a1 = 0) (some ((((m1.1 37 3) &&& 2147483647) / 65536) - (((m1.1 37 3) &&& 2147483647) / 65536) / a1 * a1, m1))))
set_option maxHeartbeats 4000000 in
set_option maxRecDepth 20000 in
theorem LX0_below {n : Nat} {m : Mem} {a1 : Int32} {r : Int32 × Mem} (hn : 43 ≤ n) (hg : gX0_below m a1 = some r) : MX yX0_below cX0_below 2 (some .int) { frames := 0, cells := 0, slots := 0, locals := 0 } n [.ref 37, .int a1] m (some (.int r.1)) r.2 := by
  refine MX_of (by decide) (Nat.le_of_ble_eq_true rfl) (Or.inr (Or.inl ⟨rfl, _, rfl⟩)) (fun K hC hk hL hR => ?_)
  replace hn : 43 ≤ kn K := hk.symm ▸ hn
  show RX K 0 [(0, .ref 37), (1, .int a1)] [] m
  rw [gX0_below] at hg
  refine R_aload_n (pc := 0) hC 0 dX0_below_0 rfl rfl ?_
  refine R_aload_n (pc := 1) hC 0 dX0_below_1 rfl rfl ?_
  refine gf_X0_23 (pc := 2) hC hn dX0_below_2 ?_
  refine R_ldc (pc := 5) hC wc_X0_73 dX0_below_5 ?_
  refine R_imul (pc := 7) hC dX0_below_7 ?_
  refine R_sipush (pc := 8) hC dX0_below_8 ks_12345 ?_
  refine R_iadd (pc := 11) hC dX0_below_11 ?_
  obtain ⟨m1, hm1, hg⟩ := lete_some hg
  refine pf_X0_23 (pc := 12) hC hn dX0_below_12 ?_
  refine R_mem hm1 ?_
  refine R_iload_n (pc := 15) hC 1 dX0_below_15 rfl rfl ?_
  refine R_if_le (tgt := 34) (pc := 16) hC dX0_below_16 (by decide) (fun c => ?_) (fun c => ?_)
  · replace hg := (if_pos c).symm.trans hg
    refine R_iconst (pc := 34) hC dX0_below_34 ki_0 ?_
    have h9 := gxIM hg
    exact R_ireturn (pc := 35) hC dX0_below_35 h9
  · replace hg := (if_neg c).symm.trans hg
    refine R_aload_n (pc := 19) hC 0 dX0_below_19 rfl rfl ?_
    refine gf_X0_23 (pc := 20) hC hn dX0_below_20 ?_
    refine R_ldc (pc := 23) hC wc_X0_74 dX0_below_23 ?_
    refine R_iand (pc := 25) hC dX0_below_25 ?_
    refine R_ldc (pc := 26) hC wc_X0_75 dX0_below_26 ?_
    refine R_idiv (pc := 28) hC dX0_below_28 (by decide) ?_
    refine R_iload_n (pc := 29) hC 1 dX0_below_29 rfl rfl ?_
    obtain ⟨c2, hg⟩ := chk_some hg
    refine R_irem (pc := 30) hC dX0_below_30 c2 ?_
    refine R_goto (tgt := 35) (pc := 31) hC dX0_below_31 (by decide) ?_
    have h9 := gxIM hg
    exact R_ireturn (pc := 35) hC dX0_below_35 h9
theorem dX0_laneFrom_0 : decode cX0_laneFrom 0 = .ok (.iload_n 1, 1) := by decide +kernel
theorem dX0_laneFrom_1 : decode cX0_laneFrom 1 = .ok (.ifCond .lt 18, 3) := by decide +kernel
theorem dX0_laneFrom_4 : decode cX0_laneFrom 4 = .ok (.iload_n 1, 1) := by decide +kernel
theorem dX0_laneFrom_5 : decode cX0_laneFrom 5 = .ok (.bipush 7, 2) := by decide +kernel
theorem dX0_laneFrom_7 : decode cX0_laneFrom 7 = .ok (.if_icmp .ge 12, 3) := by decide +kernel
theorem dX0_laneFrom_10 : decode cX0_laneFrom 10 = .ok (.aload_n 0, 1) := by decide +kernel
theorem dX0_laneFrom_11 : decode cX0_laneFrom 11 = .ok (.getfield 27, 3) := by decide +kernel
theorem dX0_laneFrom_14 : decode cX0_laneFrom 14 = .ok (.iload_n 1, 1) := by decide +kernel
theorem dX0_laneFrom_15 : decode cX0_laneFrom 15 = .ok (.iaload, 1) := by decide +kernel
theorem dX0_laneFrom_16 : decode cX0_laneFrom 16 = .ok (.ifCond .ne 6, 3) := by decide +kernel
theorem dX0_laneFrom_19 : decode cX0_laneFrom 19 = .ok (.bipush (-9), 2) := by decide +kernel
theorem dX0_laneFrom_21 : decode cX0_laneFrom 21 = .ok (.ireturn, 1) := by decide +kernel
theorem dX0_laneFrom_22 : decode cX0_laneFrom 22 = .ok (.aload_n 0, 1) := by decide +kernel
theorem dX0_laneFrom_23 : decode cX0_laneFrom 23 = .ok (.aload_n 0, 1) := by decide +kernel
theorem dX0_laneFrom_24 : decode cX0_laneFrom 24 = .ok (.getfield 31, 3) := by decide +kernel
theorem dX0_laneFrom_27 : decode cX0_laneFrom 27 = .ok (.iload_n 1, 1) := by decide +kernel
theorem dX0_laneFrom_28 : decode cX0_laneFrom 28 = .ok (.iaload, 1) := by decide +kernel
theorem dX0_laneFrom_29 : decode cX0_laneFrom 29 = .ok (.invokevirtual 62, 3) := by decide +kernel
theorem dX0_laneFrom_32 : decode cX0_laneFrom 32 = .ok (.istore_n 2, 1) := by decide +kernel
theorem dX0_laneFrom_33 : decode cX0_laneFrom 33 = .ok (.iconst 0, 1) := by decide +kernel
theorem dX0_laneFrom_34 : decode cX0_laneFrom 34 = .ok (.istore_n 3, 1) := by decide +kernel
theorem dX0_laneFrom_35 : decode cX0_laneFrom 35 = .ok (.iload_n 3, 1) := by decide +kernel
theorem dX0_laneFrom_36 : decode cX0_laneFrom 36 = .ok (.aload_n 0, 1) := by decide +kernel
theorem dX0_laneFrom_37 : decode cX0_laneFrom 37 = .ok (.getfield 9, 3) := by decide +kernel
theorem dX0_laneFrom_40 : decode cX0_laneFrom 40 = .ok (.getfield 76, 3) := by decide +kernel
theorem dX0_laneFrom_43 : decode cX0_laneFrom 43 = .ok (.if_icmp .ge 46, 3) := by decide +kernel
theorem dX0_laneFrom_46 : decode cX0_laneFrom 46 = .ok (.iload_n 3, 1) := by decide +kernel
theorem dX0_laneFrom_47 : decode cX0_laneFrom 47 = .ok (.bipush 10, 2) := by decide +kernel
theorem dX0_laneFrom_49 : decode cX0_laneFrom 49 = .ok (.if_icmp .ge 40, 3) := by decide +kernel
theorem dX0_laneFrom_52 : decode cX0_laneFrom 52 = .ok (.aload_n 0, 1) := by decide +kernel
theorem dX0_laneFrom_53 : decode cX0_laneFrom 53 = .ok (.getfield 27, 3) := by decide +kernel
theorem dX0_laneFrom_56 : decode cX0_laneFrom 56 = .ok (.iload_n 1, 1) := by decide +kernel
theorem dX0_laneFrom_57 : decode cX0_laneFrom 57 = .ok (.iaload, 1) := by decide +kernel
theorem dX0_laneFrom_58 : decode cX0_laneFrom 58 = .ok (.iload_n 3, 1) := by decide +kernel
theorem dX0_laneFrom_59 : decode cX0_laneFrom 59 = .ok (.ishr, 1) := by decide +kernel
theorem dX0_laneFrom_60 : decode cX0_laneFrom 60 = .ok (.iconst 1, 1) := by decide +kernel
theorem dX0_laneFrom_61 : decode cX0_laneFrom 61 = .ok (.iand, 1) := by decide +kernel
theorem dX0_laneFrom_62 : decode cX0_laneFrom 62 = .ok (.ifCond .eq 21, 3) := by decide +kernel
theorem dX0_laneFrom_65 : decode cX0_laneFrom 65 = .ok (.iload_n 2, 1) := by decide +kernel
theorem dX0_laneFrom_66 : decode cX0_laneFrom 66 = .ok (.aload_n 0, 1) := by decide +kernel
theorem dX0_laneFrom_67 : decode cX0_laneFrom 67 = .ok (.getfield 9, 3) := by decide +kernel
theorem dX0_laneFrom_70 : decode cX0_laneFrom 70 = .ok (.getfield 85, 3) := by decide +kernel
theorem dX0_laneFrom_73 : decode cX0_laneFrom 73 = .ok (.iload_n 3, 1) := by decide +kernel
theorem dX0_laneFrom_74 : decode cX0_laneFrom 74 = .ok (.iaload, 1) := by decide +kernel
theorem dX0_laneFrom_75 : decode cX0_laneFrom 75 = .ok (.isub, 1) := by decide +kernel
theorem dX0_laneFrom_76 : decode cX0_laneFrom 76 = .ok (.istore_n 2, 1) := by decide +kernel
theorem dX0_laneFrom_77 : decode cX0_laneFrom 77 = .ok (.iload_n 2, 1) := by decide +kernel
theorem dX0_laneFrom_78 : decode cX0_laneFrom 78 = .ok (.ifCond .ge 5, 3) := by decide +kernel
theorem dX0_laneFrom_81 : decode cX0_laneFrom 81 = .ok (.iload_n 3, 1) := by decide +kernel
theorem dX0_laneFrom_82 : decode cX0_laneFrom 82 = .ok (.ireturn, 1) := by decide +kernel
theorem dX0_laneFrom_83 : decode cX0_laneFrom 83 = .ok (.iinc 3 1, 3) := by decide +kernel
theorem dX0_laneFrom_86 : decode cX0_laneFrom 86 = .ok (.goto (-51), 3) := by decide +kernel
theorem dX0_laneFrom_89 : decode cX0_laneFrom 89 = .ok (.bipush (-9), 2) := by decide +kernel
theorem dX0_laneFrom_91 : decode cX0_laneFrom 91 = .ok (.ireturn, 1) := by decide +kernel
def bX0_laneFrom_35 (a1 : Int32) (q3 : Int32 × Mem) : (Int32 × Int32) → Option ((Int32 × Int32) ⊕ ((Int32 × Int32) ⊕ (Int32 × Mem)))
  | (y4, y5) => (if (q3.2.1 1 1) ≤ y5 then some (.inr (.inl (y4, y5))) else (if 10 ≤ y5 then some (.inr (.inl (y4, y5))) else chk (inb a1 7) ((if (((q3.2.1 38 (Int32.toNatClampNeg a1)) >>> (y5 &&& 31)) &&& 1) = 0 then some (.inl (y4, y5 + 1)) else chk (inb y5 10) (lete (y4 - (q3.2.1 5 (Int32.toNatClampNeg y5))) (fun x8 => (if 0 ≤ x8 then some (.inl (x8, y5 + 1)) else some (.inr (.inr (y5, q3.2))))))))))
def gX0_laneFrom (F : Nat) (m : Mem) (a1 : Int32) : Option (Int32 × Mem) := (if a1 < 0 then some ((-9), m) else (if 7 ≤ a1 then some ((-9), m) else chk (inb a1 7) ((if (m.1 38 (Int32.toNatClampNeg a1)) = 0 then some ((-9), m) else chk (inb a1 7) ((gX0_below m (m.1 39 (Int32.toNatClampNeg a1))).bind (fun q3 => (iter F (bX0_laneFrom_35 a1 q3) (q3.1, 0)).bind (fun e9 => Sum.elim (fun s11 => some ((-9), q3.2)) (fun q => some q) e9)))))))
set_option maxHeartbeats 4000000 in
set_option maxRecDepth 20000 in
theorem LX0_laneFrom {n : Nat} {F : Nat} {m : Mem} {a1 : Int32} {r : Int32 × Mem} (hn : 43 ≤ n) (hg : gX0_laneFrom F m a1 = some r) : MX yX0_laneFrom cX0_laneFrom 4 (some .int) { frames := 1, cells := 0, slots := 0, locals := 21 } n [.ref 37, .int a1] m (some (.int r.1)) r.2 := by
  refine MX_of (by decide) (Nat.le_of_ble_eq_true rfl) (Or.inr (Or.inl ⟨rfl, _, rfl⟩)) (fun K hC hk hL hR => ?_)
  replace hn : 43 ≤ kn K := hk.symm ▸ hn
  show RX K 0 [(0, .ref 37), (1, .int a1)] [] m
  rw [gX0_laneFrom] at hg
  refine R_iload_n (pc := 0) hC 1 dX0_laneFrom_0 rfl rfl ?_
  refine R_if_lt (tgt := 19) (pc := 1) hC dX0_laneFrom_1 (by decide) (fun c => ?_) (fun c => ?_)
  · replace hg := (if_pos c).symm.trans hg
    refine R_bipush (pc := 19) hC dX0_laneFrom_19 kb_m9 ?_
    have h9 := gxIM hg
    exact R_ireturn (pc := 21) hC dX0_laneFrom_21 h9
  · replace hg := (if_neg c).symm.trans hg
    refine R_iload_n (pc := 4) hC 1 dX0_laneFrom_4 rfl rfl ?_
    refine R_bipush (pc := 5) hC dX0_laneFrom_5 kb_7 ?_
    refine R_icmp_ge (tgt := 19) (pc := 7) hC dX0_laneFrom_7 (by decide) (fun c => ?_) (fun c => ?_)
    · replace hg := (if_pos c).symm.trans hg
      refine R_bipush (pc := 19) hC dX0_laneFrom_19 kb_m9 ?_
      have h9 := gxIM hg
      exact R_ireturn (pc := 21) hC dX0_laneFrom_21 h9
    · replace hg := (if_neg c).symm.trans hg
      refine R_aload_n (pc := 10) hC 0 dX0_laneFrom_10 rfl rfl ?_
      refine gf_X0_27 (pc := 11) hC hn dX0_laneFrom_11 ?_
      refine R_iload_n (pc := 14) hC 1 dX0_laneFrom_14 rfl rfl ?_
      obtain ⟨c1, hg⟩ := chk_some hg
      refine R_iaload (pc := 15) hC 38 (jx hn rfl) ly38 (inb_vp c1) dX0_laneFrom_15 ?_
      refine R_if_ne (tgt := 22) (pc := 16) hC dX0_laneFrom_16 (by decide) (fun c => ?_) (fun c => ?_)
      · replace hg := (if_neg c).symm.trans hg
        refine R_aload_n (pc := 22) hC 0 dX0_laneFrom_22 rfl rfl ?_
        refine R_aload_n (pc := 23) hC 0 dX0_laneFrom_23 rfl rfl ?_
        refine gf_X0_31 (pc := 24) hC hn dX0_laneFrom_24 ?_
        refine R_iload_n (pc := 27) hC 1 dX0_laneFrom_27 rfl rfl ?_
        obtain ⟨c2, hg⟩ := chk_some hg
        refine R_iaload (pc := 28) hC 39 (jx hn rfl) ly39 (inb_vp c2) dX0_laneFrom_28 ?_
        obtain ⟨q3, hq3, hg⟩ := bind_some hg
        refine R_callV (pc := 29) (av := [.int (m.1 39 (Int32.toNatClampNeg a1))]) (rest := []) hC hR 37 (jx hn rfl) ly37 rfl mf_X0_below wm_X0_62 (LX0_below hn hq3) rfl rfl rfl (Nat.le_of_ble_eq_true rfl) dX0_laneFrom_29 rfl ?_
        show RX K 32 [(0, .ref 37), (1, .int a1)] [.int q3.1] q3.2
        refine R_istore_n (pc := 32) hC dX0_laneFrom_32 rfl hL rfl (show _ = [(2, .int q3.1), (0, .ref 37), (1, .int a1)] from rfl) ?_
        refine R_iconst (pc := 33) hC dX0_laneFrom_33 ki_0 ?_
        refine R_istore_n (pc := 34) hC dX0_laneFrom_34 rfl hL rfl (show _ = [(3, .int 0), (2, .int q3.1), (0, .ref 37), (1, .int a1)] from rfl) ?_
        refine R_pick [2, 3, 1, 0] (ls' := [(0, .ref 37), (1, .int a1), (2, .int q3.1), (3, .int 0)]) rfl ?_
        obtain ⟨e9, he9, hg⟩ := bind_some hg
        refine iter_walk (P := fun s : (Int32 × Int32) => RX K 35 [(0, .ref 37), (1, .int a1), (2, .int s.1), (3, .int s.2)] [] q3.2) (Qe := Sum.elim (fun s : (Int32 × Int32) => RX K 89 [(0, .ref 37), (1, .int a1), (2, .int s.1), (3, .int s.2)] [] q3.2) (fun q : Int32 × Mem => GX (some (.int r.1)) r.2 (some (.int q.1)) q.2)) (fun s10 o hg kL35 kE35 => ?_) _ _ _ he9 ?_
        · obtain ⟨y4, y5⟩ := s10
          rw [bX0_laneFrom_35] at hg
          show RX K 35 [(0, .ref 37), (1, .int a1), (2, .int y4), (3, .int y5)] [] q3.2
          refine R_iload_n (pc := 35) hC 3 dX0_laneFrom_35 rfl rfl ?_
          refine R_aload_n (pc := 36) hC 0 dX0_laneFrom_36 rfl rfl ?_
          refine gf_X0_9 (pc := 37) hC hn dX0_laneFrom_37 ?_
          refine gf_X0_76 (pc := 40) hC hn isv1 dX0_laneFrom_40 ?_
          refine R_icmp_ge (tgt := 89) (pc := 43) hC dX0_laneFrom_43 (by decide) (fun c => ?_) (fun c => ?_)
          · replace hg := (if_pos c).symm.trans hg
            refine R_pick [0, 1, 2, 3] (ls' := [(0, .ref 37), (1, .int a1), (2, .int y4), (3, .int y5)]) rfl ?_
            have h9 := kE35 _ (Option.some.inj hg).symm
            exact h9
          · replace hg := (if_neg c).symm.trans hg
            refine R_iload_n (pc := 46) hC 3 dX0_laneFrom_46 rfl rfl ?_
            refine R_bipush (pc := 47) hC dX0_laneFrom_47 kb_10 ?_
            refine R_icmp_ge (tgt := 89) (pc := 49) hC dX0_laneFrom_49 (by decide) (fun c => ?_) (fun c => ?_)
            · replace hg := (if_pos c).symm.trans hg
              refine R_pick [0, 1, 2, 3] (ls' := [(0, .ref 37), (1, .int a1), (2, .int y4), (3, .int y5)]) rfl ?_
              have h9 := kE35 _ (Option.some.inj hg).symm
              exact h9
            · replace hg := (if_neg c).symm.trans hg
              refine R_aload_n (pc := 52) hC 0 dX0_laneFrom_52 rfl rfl ?_
              refine gf_X0_27 (pc := 53) hC hn dX0_laneFrom_53 ?_
              refine R_iload_n (pc := 56) hC 1 dX0_laneFrom_56 rfl rfl ?_
              obtain ⟨c6, hg⟩ := chk_some hg
              refine R_iaload (pc := 57) hC 38 (jx hn rfl) ly38 (inb_vp c6) dX0_laneFrom_57 ?_
              refine R_iload_n (pc := 58) hC 3 dX0_laneFrom_58 rfl rfl ?_
              refine R_ishr (pc := 59) hC dX0_laneFrom_59 ?_
              refine R_iconst (pc := 60) hC dX0_laneFrom_60 ki_1 ?_
              refine R_iand (pc := 61) hC dX0_laneFrom_61 ?_
              refine R_if_eq (tgt := 83) (pc := 62) hC dX0_laneFrom_62 (by decide) (fun c => ?_) (fun c => ?_)
              · replace hg := (if_pos c).symm.trans hg
                refine R_iinc (pc := 83) hC 3 dX0_laneFrom_83 rfl (iv ki_1) hL rfl (show _ = [(3, .int (y5 + 1)), (0, .ref 37), (1, .int a1), (2, .int y4)] from rfl) ?_
                refine R_goto (tgt := 35) (pc := 86) hC dX0_laneFrom_86 (by decide) ?_
                refine R_pick [1, 2, 3, 0] (ls' := [(0, .ref 37), (1, .int a1), (2, .int y4), (3, .int (y5 + 1))]) rfl ?_
                have h9 := kL35 _ (Option.some.inj hg).symm
                exact h9
              · replace hg := (if_neg c).symm.trans hg
                refine R_iload_n (pc := 65) hC 2 dX0_laneFrom_65 rfl rfl ?_
                refine R_aload_n (pc := 66) hC 0 dX0_laneFrom_66 rfl rfl ?_
                refine gf_X0_9 (pc := 67) hC hn dX0_laneFrom_67 ?_
                refine gf_X0_85 (pc := 70) hC hn isv1 dX0_laneFrom_70 ?_
                refine R_iload_n (pc := 73) hC 3 dX0_laneFrom_73 rfl rfl ?_
                obtain ⟨c7, hg⟩ := chk_some hg
                refine R_iaload (pc := 74) hC 5 (jx hn rfl) ly5 (inb_vp c7) dX0_laneFrom_74 ?_
                refine R_isub (pc := 75) hC dX0_laneFrom_75 ?_
                obtain ⟨x8, hx8, hg⟩ := lete_some hg
                refine R_top hx8 ?_
                refine R_istore_n (pc := 76) hC dX0_laneFrom_76 rfl hL rfl (show _ = [(2, .int x8), (0, .ref 37), (1, .int a1), (3, .int y5)] from rfl) ?_
                refine R_iload_n (pc := 77) hC 0 dX0_laneFrom_77 rfl rfl ?_
                refine R_if_ge (tgt := 83) (pc := 78) hC dX0_laneFrom_78 (by decide) (fun c => ?_) (fun c => ?_)
                · replace hg := (if_pos c).symm.trans hg
                  refine R_iinc (pc := 83) hC 3 dX0_laneFrom_83 rfl (iv ki_1) hL rfl (show _ = [(3, .int (y5 + 1)), (2, .int x8), (0, .ref 37), (1, .int a1)] from rfl) ?_
                  refine R_goto (tgt := 35) (pc := 86) hC dX0_laneFrom_86 (by decide) ?_
                  refine R_pick [2, 3, 1, 0] (ls' := [(0, .ref 37), (1, .int a1), (2, .int x8), (3, .int (y5 + 1))]) rfl ?_
                  have h9 := kL35 _ (Option.some.inj hg).symm
                  exact h9
                · replace hg := (if_neg c).symm.trans hg
                  refine R_iload_n (pc := 81) hC 3 dX0_laneFrom_81 rfl rfl ?_
                  have h9 := kE35 _ (Option.some.inj hg).symm
                  exact R_ireturn (pc := 82) hC dX0_laneFrom_82 h9
        · rcases e9 with s11 | q
          · replace hg := (Sum.elim_inl _ _ _).symm.trans hg
            show RX K 89 [(0, .ref 37), (1, .int a1), (2, .int s11.1), (3, .int s11.2)] [] q3.2
            refine R_bipush (pc := 89) hC dX0_laneFrom_89 kb_m9 ?_
            have h9 := gxIM hg
            exact R_ireturn (pc := 91) hC dX0_laneFrom_91 h9
          · replace hg := (Sum.elim_inr _ _ _).symm.trans hg
            exact gxIM hg
      · replace hg := (if_pos c).symm.trans hg
        refine R_bipush (pc := 19) hC dX0_laneFrom_19 kb_m9 ?_
        have h9 := gxIM hg
        exact R_ireturn (pc := 21) hC dX0_laneFrom_21 h9
theorem dX0_walkAbout_0 : decode cX0_walkAbout 0 = .ok (.aload_n 0, 1) := by decide +kernel
theorem dX0_walkAbout_1 : decode cX0_walkAbout 1 = .ok (.getfield 9, 3) := by decide +kernel
theorem dX0_walkAbout_4 : decode cX0_walkAbout 4 = .ok (.invokevirtual 100, 3) := by decide +kernel
theorem dX0_walkAbout_7 : decode cX0_walkAbout 7 = .ok (.istore_n 1, 1) := by decide +kernel
theorem dX0_walkAbout_8 : decode cX0_walkAbout 8 = .ok (.iconst 0, 1) := by decide +kernel
theorem dX0_walkAbout_9 : decode cX0_walkAbout 9 = .ok (.istore_n 2, 1) := by decide +kernel
theorem dX0_walkAbout_10 : decode cX0_walkAbout 10 = .ok (.iconst 1, 1) := by decide +kernel
theorem dX0_walkAbout_11 : decode cX0_walkAbout 11 = .ok (.istore_n 3, 1) := by decide +kernel
theorem dX0_walkAbout_12 : decode cX0_walkAbout 12 = .ok (.iconst 0, 1) := by decide +kernel
theorem dX0_walkAbout_13 : decode cX0_walkAbout 13 = .ok (.istore 4, 2) := by decide +kernel
theorem dX0_walkAbout_15 : decode cX0_walkAbout 15 = .ok (.iconst 0, 1) := by decide +kernel
theorem dX0_walkAbout_16 : decode cX0_walkAbout 16 = .ok (.istore 5, 2) := by decide +kernel
theorem dX0_walkAbout_18 : decode cX0_walkAbout 18 = .ok (.iload 5, 2) := by decide +kernel
theorem dX0_walkAbout_20 : decode cX0_walkAbout 20 = .ok (.sipush 200, 3) := by decide +kernel
theorem dX0_walkAbout_23 : decode cX0_walkAbout 23 = .ok (.if_icmp .ge 97, 3) := by decide +kernel
theorem dX0_walkAbout_26 : decode cX0_walkAbout 26 = .ok (.iload_n 3, 1) := by decide +kernel
theorem dX0_walkAbout_27 : decode cX0_walkAbout 27 = .ok (.iload_n 1, 1) := by decide +kernel
theorem dX0_walkAbout_28 : decode cX0_walkAbout 28 = .ok (.if_icmp .eq 92, 3) := by decide +kernel
theorem dX0_walkAbout_31 : decode cX0_walkAbout 31 = .ok (.aload_n 0, 1) := by decide +kernel
theorem dX0_walkAbout_32 : decode cX0_walkAbout 32 = .ok (.iload_n 2, 1) := by decide +kernel
theorem dX0_walkAbout_33 : decode cX0_walkAbout 33 = .ok (.invokevirtual 103, 3) := by decide +kernel
theorem dX0_walkAbout_36 : decode cX0_walkAbout 36 = .ok (.istore 6, 2) := by decide +kernel
theorem dX0_walkAbout_38 : decode cX0_walkAbout 38 = .ok (.aload_n 0, 1) := by decide +kernel
theorem dX0_walkAbout_39 : decode cX0_walkAbout 39 = .ok (.getfield 9, 3) := by decide +kernel
theorem dX0_walkAbout_42 : decode cX0_walkAbout 42 = .ok (.iload 6, 2) := by decide +kernel
theorem dX0_walkAbout_44 : decode cX0_walkAbout 44 = .ok (.invokevirtual 106, 3) := by decide +kernel
theorem dX0_walkAbout_47 : decode cX0_walkAbout 47 = .ok (.ifCond .ne 6, 3) := by decide +kernel
theorem dX0_walkAbout_50 : decode cX0_walkAbout 50 = .ok (.bipush (-9), 2) := by decide +kernel
theorem dX0_walkAbout_52 : decode cX0_walkAbout 52 = .ok (.ireturn, 1) := by decide +kernel
theorem dX0_walkAbout_53 : decode cX0_walkAbout 53 = .ok (.aload_n 0, 1) := by decide +kernel
theorem dX0_walkAbout_54 : decode cX0_walkAbout 54 = .ok (.getfield 9, 3) := by decide +kernel
theorem dX0_walkAbout_57 : decode cX0_walkAbout 57 = .ok (.getfield 91, 3) := by decide +kernel
theorem dX0_walkAbout_60 : decode cX0_walkAbout 60 = .ok (.iload 6, 2) := by decide +kernel
theorem dX0_walkAbout_62 : decode cX0_walkAbout 62 = .ok (.iaload, 1) := by decide +kernel
theorem dX0_walkAbout_63 : decode cX0_walkAbout 63 = .ok (.iload_n 2, 1) := by decide +kernel
theorem dX0_walkAbout_64 : decode cX0_walkAbout 64 = .ok (.if_icmp .ne 16, 3) := by decide +kernel
theorem dX0_walkAbout_67 : decode cX0_walkAbout 67 = .ok (.aload_n 0, 1) := by decide +kernel
theorem dX0_walkAbout_68 : decode cX0_walkAbout 68 = .ok (.getfield 9, 3) := by decide +kernel
theorem dX0_walkAbout_71 : decode cX0_walkAbout 71 = .ok (.getfield 94, 3) := by decide +kernel
theorem dX0_walkAbout_74 : decode cX0_walkAbout 74 = .ok (.iload 6, 2) := by decide +kernel
theorem dX0_walkAbout_76 : decode cX0_walkAbout 76 = .ok (.iaload, 1) := by decide +kernel
theorem dX0_walkAbout_77 : decode cX0_walkAbout 77 = .ok (.goto 13, 3) := by decide +kernel
theorem dX0_walkAbout_80 : decode cX0_walkAbout 80 = .ok (.aload_n 0, 1) := by decide +kernel
theorem dX0_walkAbout_81 : decode cX0_walkAbout 81 = .ok (.getfield 9, 3) := by decide +kernel
theorem dX0_walkAbout_84 : decode cX0_walkAbout 84 = .ok (.getfield 91, 3) := by decide +kernel
theorem dX0_walkAbout_87 : decode cX0_walkAbout 87 = .ok (.iload 6, 2) := by decide +kernel
theorem dX0_walkAbout_89 : decode cX0_walkAbout 89 = .ok (.iaload, 1) := by decide +kernel
theorem dX0_walkAbout_90 : decode cX0_walkAbout 90 = .ok (.istore_n 2, 1) := by decide +kernel
theorem dX0_walkAbout_91 : decode cX0_walkAbout 91 = .ok (.iload_n 3, 1) := by decide +kernel
theorem dX0_walkAbout_92 : decode cX0_walkAbout 92 = .ok (.iload_n 2, 1) := by decide +kernel
theorem dX0_walkAbout_93 : decode cX0_walkAbout 93 = .ok (.ishr, 1) := by decide +kernel
theorem dX0_walkAbout_94 : decode cX0_walkAbout 94 = .ok (.iconst 1, 1) := by decide +kernel
theorem dX0_walkAbout_95 : decode cX0_walkAbout 95 = .ok (.iand, 1) := by decide +kernel
theorem dX0_walkAbout_96 : decode cX0_walkAbout 96 = .ok (.ifCond .ne 18, 3) := by decide +kernel
theorem dX0_walkAbout_99 : decode cX0_walkAbout 99 = .ok (.iload_n 3, 1) := by decide +kernel
theorem dX0_walkAbout_100 : decode cX0_walkAbout 100 = .ok (.iconst 1, 1) := by decide +kernel
theorem dX0_walkAbout_101 : decode cX0_walkAbout 101 = .ok (.iload_n 2, 1) := by decide +kernel
theorem dX0_walkAbout_102 : decode cX0_walkAbout 102 = .ok (.ishl, 1) := by decide +kernel
theorem dX0_walkAbout_103 : decode cX0_walkAbout 103 = .ok (.ior, 1) := by decide +kernel
theorem dX0_walkAbout_104 : decode cX0_walkAbout 104 = .ok (.istore_n 3, 1) := by decide +kernel
theorem dX0_walkAbout_105 : decode cX0_walkAbout 105 = .ok (.iload 4, 2) := by decide +kernel
theorem dX0_walkAbout_107 : decode cX0_walkAbout 107 = .ok (.iconst 1, 1) := by decide +kernel
theorem dX0_walkAbout_108 : decode cX0_walkAbout 108 = .ok (.iload 6, 2) := by decide +kernel
theorem dX0_walkAbout_110 : decode cX0_walkAbout 110 = .ok (.ishl, 1) := by decide +kernel
theorem dX0_walkAbout_111 : decode cX0_walkAbout 111 = .ok (.ior, 1) := by decide +kernel
theorem dX0_walkAbout_112 : decode cX0_walkAbout 112 = .ok (.istore 4, 2) := by decide +kernel
theorem dX0_walkAbout_114 : decode cX0_walkAbout 114 = .ok (.iinc 5 1, 3) := by decide +kernel
theorem dX0_walkAbout_117 : decode cX0_walkAbout 117 = .ok (.goto (-99), 3) := by decide +kernel
theorem dX0_walkAbout_120 : decode cX0_walkAbout 120 = .ok (.iload_n 3, 1) := by decide +kernel
theorem dX0_walkAbout_121 : decode cX0_walkAbout 121 = .ok (.iload_n 1, 1) := by decide +kernel
theorem dX0_walkAbout_122 : decode cX0_walkAbout 122 = .ok (.if_icmp .ne 8, 3) := by decide +kernel
theorem dX0_walkAbout_125 : decode cX0_walkAbout 125 = .ok (.iload 4, 2) := by decide +kernel
theorem dX0_walkAbout_127 : decode cX0_walkAbout 127 = .ok (.goto 5, 3) := by decide +kernel
theorem dX0_walkAbout_130 : decode cX0_walkAbout 130 = .ok (.bipush (-9), 2) := by decide +kernel
theorem dX0_walkAbout_132 : decode cX0_walkAbout 132 = .ok (.ireturn, 1) := by decide +kernel
def bX0_walkAbout_18 (F : Nat) (x1 : Int32) : (Int32 × Int32 × Int32 × Int32 × Mem) → Option ((Int32 × Int32 × Int32 × Int32 × Mem) ⊕ ((Int32 × Int32 × Int32 × Int32 × Mem) ⊕ (Int32 × Mem)))
  | (y2, y3, y4, y5, m6) => (if 200 ≤ y5 then some (.inr (.inl (y2, y3, y4, y5, m6))) else (if y3 = x1 then some (.inr (.inl (y2, y3, y4, y5, m6))) else (gX0_laneFrom F m6 y2).bind (fun q7 => (gX6_hasLane q7.2 1 q7.1).bind (fun x8 => (if x8 = true then chk (inb q7.1 10) ((if (q7.2.1 3 (Int32.toNatClampNeg q7.1)) = y2 then chk (inb q7.1 10) (lete (q7.2.1 4 (Int32.toNatClampNeg q7.1)) (fun x15 => (if ((y3 >>> (x15 &&& 31)) &&& 1) = 0 then lete (y3 ||| ((1 : Int32) <<< (x15 &&& 31))) (fun x16 => lete (y4 ||| ((1 : Int32) <<< (q7.1 &&& 31))) (fun x17 => some (.inl (x15, x16, x17, y5 + 1, q7.2)))) else some (.inl (x15, y3, y4, y5 + 1, q7.2))))) else chk (inb q7.1 10) (lete (q7.2.1 3 (Int32.toNatClampNeg q7.1)) (fun x11 => (if ((y3 >>> (x11 &&& 31)) &&& 1) = 0 then lete (y3 ||| ((1 : Int32) <<< (x11 &&& 31))) (fun x12 => lete (y4 ||| ((1 : Int32) <<< (q7.1 &&& 31))) (fun x13 => some (.inl (x11, x12, x13, y5 + 1, q7.2)))) else some (.inl (x11, y3, y4, y5 + 1, q7.2))))))) else some (.inr (.inr ((-9), q7.2))))))))
def gX0_walkAbout (F : Nat) (m : Mem) : Option (Int32 × Mem) := (gX6_allHouses m 1).bind (fun x1 => (iter F (bX0_walkAbout_18 F x1) (0, 1, 0, 0, m)).bind (fun e18 => Sum.elim (fun s20 => (if s20.2.1 = x1 then some (s20.2.2.1, s20.2.2.2.2) else some ((-9), s20.2.2.2.2))) (fun q => some q) e18))
set_option maxHeartbeats 4000000 in
set_option maxRecDepth 20000 in
theorem LX0_walkAbout {n : Nat} {F : Nat} {m : Mem} {r : Int32 × Mem} (hn : 43 ≤ n) (hg : gX0_walkAbout F m  = some r) : MX yX0_walkAbout cX0_walkAbout 7 (some .int) { frames := 2, cells := 0, slots := 0, locals := 44 } n [.ref 37] m (some (.int r.1)) r.2 := by
  refine MX_of (by decide) (Nat.le_of_ble_eq_true rfl) (Or.inr (Or.inl ⟨rfl, _, rfl⟩)) (fun K hC hk hL hR => ?_)
  replace hn : 43 ≤ kn K := hk.symm ▸ hn
  show RX K 0 [(0, .ref 37)] [] m
  rw [gX0_walkAbout] at hg
  refine R_aload_n (pc := 0) hC 0 dX0_walkAbout_0 rfl rfl ?_
  refine gf_X0_9 (pc := 1) hC hn dX0_walkAbout_1 ?_
  obtain ⟨x1, hx1, hg⟩ := bind_some hg
  refine R_callVN (pc := 4) (av := []) (rest := []) hC hR 1 (jx hn rfl) ly1 rfl mf_X6_allHouses wm_X0_100 (LX6_allHouses hn isv1 hx1) rfl rfl rfl (Nat.le_of_ble_eq_true rfl) dX0_walkAbout_4 rfl ?_
  show RX K 7 [(0, .ref 37)] [.int x1] m
  refine R_istore_n (pc := 7) hC dX0_walkAbout_7 rfl hL rfl (show _ = [(1, .int x1), (0, .ref 37)] from rfl) ?_
  refine R_iconst (pc := 8) hC dX0_walkAbout_8 ki_0 ?_
  refine R_istore_n (pc := 9) hC dX0_walkAbout_9 rfl hL rfl (show _ = [(2, .int 0), (1, .int x1), (0, .ref 37)] from rfl) ?_
  refine R_iconst (pc := 10) hC dX0_walkAbout_10 ki_1 ?_
  refine R_istore_n (pc := 11) hC dX0_walkAbout_11 rfl hL rfl (show _ = [(3, .int 1), (2, .int 0), (1, .int x1), (0, .ref 37)] from rfl) ?_
  refine R_iconst (pc := 12) hC dX0_walkAbout_12 ki_0 ?_
  refine R_istore (pc := 13) hC dX0_walkAbout_13 hL rfl (show _ = [(4, .int 0), (3, .int 1), (2, .int 0), (1, .int x1), (0, .ref 37)] from rfl) ?_
  refine R_iconst (pc := 15) hC dX0_walkAbout_15 ki_0 ?_
  refine R_istore (pc := 16) hC dX0_walkAbout_16 hL rfl (show _ = [(5, .int 0), (4, .int 0), (3, .int 1), (2, .int 0), (1, .int x1), (0, .ref 37)] from rfl) ?_
  refine R_pick [5, 4, 3, 2, 1, 0] (ls' := [(0, .ref 37), (1, .int x1), (2, .int 0), (3, .int 1), (4, .int 0), (5, .int 0)]) rfl ?_
  obtain ⟨e18, he18, hg⟩ := bind_some hg
  refine iter_walk (P := fun s : (Int32 × Int32 × Int32 × Int32 × Mem) => RX K 18 [(0, .ref 37), (1, .int x1), (2, .int s.1), (3, .int s.2.1), (4, .int s.2.2.1), (5, .int s.2.2.2.1)] [] s.2.2.2.2) (Qe := Sum.elim (fun s : (Int32 × Int32 × Int32 × Int32 × Mem) => RX K 120 [(0, .ref 37), (1, .int x1), (2, .int s.1), (3, .int s.2.1), (4, .int s.2.2.1), (5, .int s.2.2.2.1)] [] s.2.2.2.2) (fun q : Int32 × Mem => GX (some (.int r.1)) r.2 (some (.int q.1)) q.2)) (fun s19 o hg kL18 kE18 => ?_) _ _ _ he18 ?_
  · obtain ⟨y2, y3, y4, y5, m6⟩ := s19
    rw [bX0_walkAbout_18] at hg
    show RX K 18 [(0, .ref 37), (1, .int x1), (2, .int y2), (3, .int y3), (4, .int y4), (5, .int y5)] [] m6
    refine R_iload (pc := 18) hC 5 dX0_walkAbout_18 rfl ?_
    refine R_sipush (pc := 20) hC dX0_walkAbout_20 ks_200 ?_
    refine R_icmp_ge (tgt := 120) (pc := 23) hC dX0_walkAbout_23 (by decide) (fun c => ?_) (fun c => ?_)
    · replace hg := (if_pos c).symm.trans hg
      refine R_pick [0, 1, 2, 3, 4, 5] (ls' := [(0, .ref 37), (1, .int x1), (2, .int y2), (3, .int y3), (4, .int y4), (5, .int y5)]) rfl ?_
      have h9 := kE18 _ (Option.some.inj hg).symm
      exact h9
    · replace hg := (if_neg c).symm.trans hg
      refine R_iload_n (pc := 26) hC 3 dX0_walkAbout_26 rfl rfl ?_
      refine R_iload_n (pc := 27) hC 1 dX0_walkAbout_27 rfl rfl ?_
      refine R_icmp_eq (tgt := 120) (pc := 28) hC dX0_walkAbout_28 (by decide) (fun c => ?_) (fun c => ?_)
      · replace hg := (if_pos c).symm.trans hg
        refine R_pick [0, 1, 2, 3, 4, 5] (ls' := [(0, .ref 37), (1, .int x1), (2, .int y2), (3, .int y3), (4, .int y4), (5, .int y5)]) rfl ?_
        have h9 := kE18 _ (Option.some.inj hg).symm
        exact h9
      · replace hg := (if_neg c).symm.trans hg
        refine R_aload_n (pc := 31) hC 0 dX0_walkAbout_31 rfl rfl ?_
        refine R_iload_n (pc := 32) hC 2 dX0_walkAbout_32 rfl rfl ?_
        obtain ⟨q7, hq7, hg⟩ := bind_some hg
        refine R_callV (pc := 33) (av := [.int y2]) (rest := []) hC hR 37 (jx hn rfl) ly37 rfl mf_X0_laneFrom wm_X0_103 (LX0_laneFrom hn hq7) rfl rfl rfl (Nat.le_of_ble_eq_true rfl) dX0_walkAbout_33 rfl ?_
        show RX K 36 [(0, .ref 37), (1, .int x1), (2, .int y2), (3, .int y3), (4, .int y4), (5, .int y5)] [.int q7.1] q7.2
        refine R_istore (pc := 36) hC dX0_walkAbout_36 hL rfl (show _ = [(6, .int q7.1), (0, .ref 37), (1, .int x1), (2, .int y2), (3, .int y3), (4, .int y4), (5, .int y5)] from rfl) ?_
        refine R_aload_n (pc := 38) hC 1 dX0_walkAbout_38 rfl rfl ?_
        refine gf_X0_9 (pc := 39) hC hn dX0_walkAbout_39 ?_
        refine R_iload (pc := 42) hC 0 dX0_walkAbout_42 rfl ?_
        obtain ⟨x8, hx8, hg⟩ := bind_some hg
        refine R_callVN (pc := 44) (av := [.int q7.1]) (rest := []) hC hR 1 (jx hn rfl) ly1 rfl mf_X6_hasLane wm_X0_106 (LX6_hasLane hn isv1 hx8) rfl rfl rfl (Nat.le_of_ble_eq_true rfl) dX0_walkAbout_44 rfl ?_
        show RX K 47 [(6, .int q7.1), (0, .ref 37), (1, .int x1), (2, .int y2), (3, .int y3), (4, .int y4), (5, .int y5)] [.int (b2i x8)] q7.2
        refine R_ifB_ne (tgt := 53) (pc := 47) hC dX0_walkAbout_47 (by decide) (fun c => ?_) (fun c => ?_)
        · replace hg := (if_pos c).symm.trans hg
          refine R_aload_n (pc := 53) hC 1 dX0_walkAbout_53 rfl rfl ?_
          refine gf_X0_9 (pc := 54) hC hn dX0_walkAbout_54 ?_
          refine gf_X0_91 (pc := 57) hC hn isv1 dX0_walkAbout_57 ?_
          refine R_iload (pc := 60) hC 0 dX0_walkAbout_60 rfl ?_
          obtain ⟨c9, hg⟩ := chk_some hg
          refine R_iaload (pc := 62) hC 3 (jx hn rfl) ly3 (inb_vp c9) dX0_walkAbout_62 ?_
          refine R_iload_n (pc := 63) hC 3 dX0_walkAbout_63 rfl rfl ?_
          refine R_icmp_ne (tgt := 80) (pc := 64) hC dX0_walkAbout_64 (by decide) (fun c => ?_) (fun c => ?_)
          · replace hg := (if_neg c).symm.trans hg
            refine R_aload_n (pc := 80) hC 1 dX0_walkAbout_80 rfl rfl ?_
            refine gf_X0_9 (pc := 81) hC hn dX0_walkAbout_81 ?_
            refine gf_X0_91 (pc := 84) hC hn isv1 dX0_walkAbout_84 ?_
            refine R_iload (pc := 87) hC 0 dX0_walkAbout_87 rfl ?_
            obtain ⟨c10, hg⟩ := chk_some hg
            refine R_iaload (pc := 89) hC 3 (jx hn rfl) ly3 (inb_vp c10) dX0_walkAbout_89 ?_
            obtain ⟨x11, hx11, hg⟩ := lete_some hg
            refine R_top hx11 ?_
            refine R_istore_n (pc := 90) hC dX0_walkAbout_90 rfl hL rfl (show _ = [(2, .int x11), (6, .int q7.1), (0, .ref 37), (1, .int x1), (3, .int y3), (4, .int y4), (5, .int y5)] from rfl) ?_
            refine R_iload_n (pc := 91) hC 4 dX0_walkAbout_91 rfl rfl ?_
            refine R_iload_n (pc := 92) hC 0 dX0_walkAbout_92 rfl rfl ?_
            refine R_ishr (pc := 93) hC dX0_walkAbout_93 ?_
            refine R_iconst (pc := 94) hC dX0_walkAbout_94 ki_1 ?_
            refine R_iand (pc := 95) hC dX0_walkAbout_95 ?_
            refine R_if_ne (tgt := 114) (pc := 96) hC dX0_walkAbout_96 (by decide) (fun c => ?_) (fun c => ?_)
            · replace hg := (if_neg c).symm.trans hg
              refine R_iinc (pc := 114) hC 6 dX0_walkAbout_114 rfl (iv ki_1) hL rfl (show _ = [(5, .int (y5 + 1)), (2, .int x11), (6, .int q7.1), (0, .ref 37), (1, .int x1), (3, .int y3), (4, .int y4)] from rfl) ?_
              refine R_goto (tgt := 18) (pc := 117) hC dX0_walkAbout_117 (by decide) ?_
              refine R_pick [3, 4, 1, 5, 6, 0] (ls' := [(0, .ref 37), (1, .int x1), (2, .int x11), (3, .int y3), (4, .int y4), (5, .int (y5 + 1))]) rfl ?_
              have h9 := kL18 _ (Option.some.inj hg).symm
              exact h9
            · replace hg := (if_pos c).symm.trans hg
              refine R_iload_n (pc := 99) hC 4 dX0_walkAbout_99 rfl rfl ?_
              refine R_iconst (pc := 100) hC dX0_walkAbout_100 ki_1 ?_
              refine R_iload_n (pc := 101) hC 0 dX0_walkAbout_101 rfl rfl ?_
              refine R_ishl (pc := 102) hC dX0_walkAbout_102 ?_
              refine R_ior (pc := 103) hC dX0_walkAbout_103 ?_
              obtain ⟨x12, hx12, hg⟩ := lete_some hg
              refine R_top hx12 ?_
              refine R_istore_n (pc := 104) hC dX0_walkAbout_104 rfl hL rfl (show _ = [(3, .int x12), (2, .int x11), (6, .int q7.1), (0, .ref 37), (1, .int x1), (4, .int y4), (5, .int y5)] from rfl) ?_
              refine R_iload (pc := 105) hC 5 dX0_walkAbout_105 rfl ?_
              refine R_iconst (pc := 107) hC dX0_walkAbout_107 ki_1 ?_
              refine R_iload (pc := 108) hC 2 dX0_walkAbout_108 rfl ?_
              refine R_ishl (pc := 110) hC dX0_walkAbout_110 ?_
              refine R_ior (pc := 111) hC dX0_walkAbout_111 ?_
              obtain ⟨x13, hx13, hg⟩ := lete_some hg
              refine R_top hx13 ?_
              refine R_istore (pc := 112) hC dX0_walkAbout_112 hL rfl (show _ = [(4, .int x13), (3, .int x12), (2, .int x11), (6, .int q7.1), (0, .ref 37), (1, .int x1), (5, .int y5)] from rfl) ?_
              refine R_iinc (pc := 114) hC 6 dX0_walkAbout_114 rfl (iv ki_1) hL rfl (show _ = [(5, .int (y5 + 1)), (4, .int x13), (3, .int x12), (2, .int x11), (6, .int q7.1), (0, .ref 37), (1, .int x1)] from rfl) ?_
              refine R_goto (tgt := 18) (pc := 117) hC dX0_walkAbout_117 (by decide) ?_
              refine R_pick [5, 6, 3, 2, 1, 0] (ls' := [(0, .ref 37), (1, .int x1), (2, .int x11), (3, .int x12), (4, .int x13), (5, .int (y5 + 1))]) rfl ?_
              have h9 := kL18 _ (Option.some.inj hg).symm
              exact h9
          · replace hg := (if_pos c).symm.trans hg
            refine R_aload_n (pc := 67) hC 1 dX0_walkAbout_67 rfl rfl ?_
            refine gf_X0_9 (pc := 68) hC hn dX0_walkAbout_68 ?_
            refine gf_X0_94 (pc := 71) hC hn isv1 dX0_walkAbout_71 ?_
            refine R_iload (pc := 74) hC 0 dX0_walkAbout_74 rfl ?_
            obtain ⟨c14, hg⟩ := chk_some hg
            refine R_iaload (pc := 76) hC 4 (jx hn rfl) ly4 (inb_vp c14) dX0_walkAbout_76 ?_
            refine R_goto (tgt := 90) (pc := 77) hC dX0_walkAbout_77 (by decide) ?_
            obtain ⟨x15, hx15, hg⟩ := lete_some hg
            refine R_top hx15 ?_
            refine R_istore_n (pc := 90) hC dX0_walkAbout_90 rfl hL rfl (show _ = [(2, .int x15), (6, .int q7.1), (0, .ref 37), (1, .int x1), (3, .int y3), (4, .int y4), (5, .int y5)] from rfl) ?_
            refine R_iload_n (pc := 91) hC 4 dX0_walkAbout_91 rfl rfl ?_
            refine R_iload_n (pc := 92) hC 0 dX0_walkAbout_92 rfl rfl ?_
            refine R_ishr (pc := 93) hC dX0_walkAbout_93 ?_
            refine R_iconst (pc := 94) hC dX0_walkAbout_94 ki_1 ?_
            refine R_iand (pc := 95) hC dX0_walkAbout_95 ?_
            refine R_if_ne (tgt := 114) (pc := 96) hC dX0_walkAbout_96 (by decide) (fun c => ?_) (fun c => ?_)
            · replace hg := (if_neg c).symm.trans hg
              refine R_iinc (pc := 114) hC 6 dX0_walkAbout_114 rfl (iv ki_1) hL rfl (show _ = [(5, .int (y5 + 1)), (2, .int x15), (6, .int q7.1), (0, .ref 37), (1, .int x1), (3, .int y3), (4, .int y4)] from rfl) ?_
              refine R_goto (tgt := 18) (pc := 117) hC dX0_walkAbout_117 (by decide) ?_
              refine R_pick [3, 4, 1, 5, 6, 0] (ls' := [(0, .ref 37), (1, .int x1), (2, .int x15), (3, .int y3), (4, .int y4), (5, .int (y5 + 1))]) rfl ?_
              have h9 := kL18 _ (Option.some.inj hg).symm
              exact h9
            · replace hg := (if_pos c).symm.trans hg
              refine R_iload_n (pc := 99) hC 4 dX0_walkAbout_99 rfl rfl ?_
              refine R_iconst (pc := 100) hC dX0_walkAbout_100 ki_1 ?_
              refine R_iload_n (pc := 101) hC 0 dX0_walkAbout_101 rfl rfl ?_
              refine R_ishl (pc := 102) hC dX0_walkAbout_102 ?_
              refine R_ior (pc := 103) hC dX0_walkAbout_103 ?_
              obtain ⟨x16, hx16, hg⟩ := lete_some hg
              refine R_top hx16 ?_
              refine R_istore_n (pc := 104) hC dX0_walkAbout_104 rfl hL rfl (show _ = [(3, .int x16), (2, .int x15), (6, .int q7.1), (0, .ref 37), (1, .int x1), (4, .int y4), (5, .int y5)] from rfl) ?_
              refine R_iload (pc := 105) hC 5 dX0_walkAbout_105 rfl ?_
              refine R_iconst (pc := 107) hC dX0_walkAbout_107 ki_1 ?_
              refine R_iload (pc := 108) hC 2 dX0_walkAbout_108 rfl ?_
              refine R_ishl (pc := 110) hC dX0_walkAbout_110 ?_
              refine R_ior (pc := 111) hC dX0_walkAbout_111 ?_
              obtain ⟨x17, hx17, hg⟩ := lete_some hg
              refine R_top hx17 ?_
              refine R_istore (pc := 112) hC dX0_walkAbout_112 hL rfl (show _ = [(4, .int x17), (3, .int x16), (2, .int x15), (6, .int q7.1), (0, .ref 37), (1, .int x1), (5, .int y5)] from rfl) ?_
              refine R_iinc (pc := 114) hC 6 dX0_walkAbout_114 rfl (iv ki_1) hL rfl (show _ = [(5, .int (y5 + 1)), (4, .int x17), (3, .int x16), (2, .int x15), (6, .int q7.1), (0, .ref 37), (1, .int x1)] from rfl) ?_
              refine R_goto (tgt := 18) (pc := 117) hC dX0_walkAbout_117 (by decide) ?_
              refine R_pick [5, 6, 3, 2, 1, 0] (ls' := [(0, .ref 37), (1, .int x1), (2, .int x15), (3, .int x16), (4, .int x17), (5, .int (y5 + 1))]) rfl ?_
              have h9 := kL18 _ (Option.some.inj hg).symm
              exact h9
        · replace hg := (if_neg c).symm.trans hg
          refine R_bipush (pc := 50) hC dX0_walkAbout_50 kb_m9 ?_
          have h9 := kE18 _ (Option.some.inj hg).symm
          exact R_ireturn (pc := 52) hC dX0_walkAbout_52 h9
  · rcases e18 with s20 | q
    · replace hg := (Sum.elim_inl _ _ _).symm.trans hg
      show RX K 120 [(0, .ref 37), (1, .int x1), (2, .int s20.1), (3, .int s20.2.1), (4, .int s20.2.2.1), (5, .int s20.2.2.2.1)] [] s20.2.2.2.2
      refine R_iload_n (pc := 120) hC 3 dX0_walkAbout_120 rfl rfl ?_
      refine R_iload_n (pc := 121) hC 1 dX0_walkAbout_121 rfl rfl ?_
      refine R_icmp_ne (tgt := 130) (pc := 122) hC dX0_walkAbout_122 (by decide) (fun c => ?_) (fun c => ?_)
      · replace hg := (if_neg c).symm.trans hg
        refine R_bipush (pc := 130) hC dX0_walkAbout_130 kb_m9 ?_
        have h9 := gxIM hg
        exact R_ireturn (pc := 132) hC dX0_walkAbout_132 h9
      · replace hg := (if_pos c).symm.trans hg
        refine R_iload (pc := 125) hC 4 dX0_walkAbout_125 rfl ?_
        refine R_goto (tgt := 132) (pc := 127) hC dX0_walkAbout_127 (by decide) ?_
        have h9 := gxIM hg
        exact R_ireturn (pc := 132) hC dX0_walkAbout_132 h9
    · replace hg := (Sum.elim_inr _ _ _).symm.trans hg
      exact gxIM hg
theorem dX0_poolWorthWith_0 : decode cX0_poolWorthWith 0 = .ok (.iconst 0, 1) := by decide +kernel
theorem dX0_poolWorthWith_1 : decode cX0_poolWorthWith 1 = .ok (.istore_n 3, 1) := by decide +kernel
theorem dX0_poolWorthWith_2 : decode cX0_poolWorthWith 2 = .ok (.iconst 0, 1) := by decide +kernel
theorem dX0_poolWorthWith_3 : decode cX0_poolWorthWith 3 = .ok (.istore 4, 2) := by decide +kernel
theorem dX0_poolWorthWith_5 : decode cX0_poolWorthWith 5 = .ok (.iload 4, 2) := by decide +kernel
theorem dX0_poolWorthWith_7 : decode cX0_poolWorthWith 7 = .ok (.iload_n 2, 1) := by decide +kernel
theorem dX0_poolWorthWith_8 : decode cX0_poolWorthWith 8 = .ok (.if_icmp .ge 40, 3) := by decide +kernel
theorem dX0_poolWorthWith_11 : decode cX0_poolWorthWith 11 = .ok (.iload 4, 2) := by decide +kernel
theorem dX0_poolWorthWith_13 : decode cX0_poolWorthWith 13 = .ok (.sipush 252, 3) := by decide +kernel
theorem dX0_poolWorthWith_16 : decode cX0_poolWorthWith 16 = .ok (.if_icmp .ge 32, 3) := by decide +kernel
theorem dX0_poolWorthWith_19 : decode cX0_poolWorthWith 19 = .ok (.aload_n 0, 1) := by decide +kernel
theorem dX0_poolWorthWith_20 : decode cX0_poolWorthWith 20 = .ok (.getfield 34, 3) := by decide +kernel
theorem dX0_poolWorthWith_23 : decode cX0_poolWorthWith 23 = .ok (.iload 4, 2) := by decide +kernel
theorem dX0_poolWorthWith_25 : decode cX0_poolWorthWith 25 = .ok (.iaload, 1) := by decide +kernel
theorem dX0_poolWorthWith_26 : decode cX0_poolWorthWith 26 = .ok (.iload_n 1, 1) := by decide +kernel
theorem dX0_poolWorthWith_27 : decode cX0_poolWorthWith 27 = .ok (.iand, 1) := by decide +kernel
theorem dX0_poolWorthWith_28 : decode cX0_poolWorthWith 28 = .ok (.iload_n 1, 1) := by decide +kernel
theorem dX0_poolWorthWith_29 : decode cX0_poolWorthWith 29 = .ok (.if_icmp .ne 13, 3) := by decide +kernel
theorem dX0_poolWorthWith_32 : decode cX0_poolWorthWith 32 = .ok (.iload_n 3, 1) := by decide +kernel
theorem dX0_poolWorthWith_33 : decode cX0_poolWorthWith 33 = .ok (.aload_n 0, 1) := by decide +kernel
theorem dX0_poolWorthWith_34 : decode cX0_poolWorthWith 34 = .ok (.getfield 37, 3) := by decide +kernel
theorem dX0_poolWorthWith_37 : decode cX0_poolWorthWith 37 = .ok (.iload 4, 2) := by decide +kernel
theorem dX0_poolWorthWith_39 : decode cX0_poolWorthWith 39 = .ok (.iaload, 1) := by decide +kernel
theorem dX0_poolWorthWith_40 : decode cX0_poolWorthWith 40 = .ok (.iadd, 1) := by decide +kernel
theorem dX0_poolWorthWith_41 : decode cX0_poolWorthWith 41 = .ok (.istore_n 3, 1) := by decide +kernel
theorem dX0_poolWorthWith_42 : decode cX0_poolWorthWith 42 = .ok (.iinc 4 1, 3) := by decide +kernel
theorem dX0_poolWorthWith_45 : decode cX0_poolWorthWith 45 = .ok (.goto (-40), 3) := by decide +kernel
theorem dX0_poolWorthWith_48 : decode cX0_poolWorthWith 48 = .ok (.iload_n 3, 1) := by decide +kernel
theorem dX0_poolWorthWith_49 : decode cX0_poolWorthWith 49 = .ok (.ireturn, 1) := by decide +kernel
def bX0_poolWorthWith_5 (m : Mem) (a1 : Int32) (a2 : Int32) : (Int32 × Int32) → Option ((Int32 × Int32) ⊕ (Int32 × Int32))
  | (y1, y2) => (if a2 ≤ y2 then some (.inr (y1, y2)) else (if 252 ≤ y2 then some (.inr (y1, y2)) else chk (inb y2 252) ((if ((m.1 40 (Int32.toNatClampNeg y2)) &&& a1) = a1 then chk (inb y2 252) (lete (y1 + (m.1 41 (Int32.toNatClampNeg y2))) (fun x5 => some (.inl (x5, y2 + 1)))) else some (.inl (y1, y2 + 1))))))
def gX0_poolWorthWith (F : Nat) (m : Mem) (a1 : Int32) (a2 : Int32) : Option (Int32) := (iter F (bX0_poolWorthWith_5 m a1 a2) (0, 0)).bind (fun e6 => some e6.1)
set_option maxHeartbeats 4000000 in
set_option maxRecDepth 20000 in
theorem LX0_poolWorthWith {n : Nat} {F : Nat} {m : Mem} {a1 : Int32} {a2 : Int32} {r : Int32} (hn : 43 ≤ n) (hg : gX0_poolWorthWith F m a1 a2 = some r) : MX yX0_poolWorthWith cX0_poolWorthWith 5 (some .int) { frames := 0, cells := 0, slots := 0, locals := 0 } n [.ref 37, .int a1, .int a2] m (some (.int r)) m := by
  refine MX_of (by decide) (Nat.le_of_ble_eq_true rfl) (Or.inr (Or.inl ⟨rfl, _, rfl⟩)) (fun K hC hk hL hR => ?_)
  replace hn : 43 ≤ kn K := hk.symm ▸ hn
  show RX K 0 [(0, .ref 37), (1, .int a1), (2, .int a2)] [] m
  rw [gX0_poolWorthWith] at hg
  refine R_iconst (pc := 0) hC dX0_poolWorthWith_0 ki_0 ?_
  refine R_istore_n (pc := 1) hC dX0_poolWorthWith_1 rfl hL rfl (show _ = [(3, .int 0), (0, .ref 37), (1, .int a1), (2, .int a2)] from rfl) ?_
  refine R_iconst (pc := 2) hC dX0_poolWorthWith_2 ki_0 ?_
  refine R_istore (pc := 3) hC dX0_poolWorthWith_3 hL rfl (show _ = [(4, .int 0), (3, .int 0), (0, .ref 37), (1, .int a1), (2, .int a2)] from rfl) ?_
  refine R_pick [2, 3, 4, 1, 0] (ls' := [(0, .ref 37), (1, .int a1), (2, .int a2), (3, .int 0), (4, .int 0)]) rfl ?_
  obtain ⟨e6, he6, hg⟩ := bind_some hg
  refine iter_walk (P := fun s : (Int32 × Int32) => RX K 5 [(0, .ref 37), (1, .int a1), (2, .int a2), (3, .int s.1), (4, .int s.2)] [] m) (Qe := fun s : (Int32 × Int32) => RX K 48 [(0, .ref 37), (1, .int a1), (2, .int a2), (3, .int s.1), (4, .int s.2)] [] m) (fun s7 o hg kL5 kE5 => ?_) _ _ _ he6 ?_
  · obtain ⟨y1, y2⟩ := s7
    rw [bX0_poolWorthWith_5] at hg
    show RX K 5 [(0, .ref 37), (1, .int a1), (2, .int a2), (3, .int y1), (4, .int y2)] [] m
    refine R_iload (pc := 5) hC 4 dX0_poolWorthWith_5 rfl ?_
    refine R_iload_n (pc := 7) hC 2 dX0_poolWorthWith_7 rfl rfl ?_
    refine R_icmp_ge (tgt := 48) (pc := 8) hC dX0_poolWorthWith_8 (by decide) (fun c => ?_) (fun c => ?_)
    · replace hg := (if_pos c).symm.trans hg
      refine R_pick [0, 1, 2, 3, 4] (ls' := [(0, .ref 37), (1, .int a1), (2, .int a2), (3, .int y1), (4, .int y2)]) rfl ?_
      have h9 := kE5 _ (Option.some.inj hg).symm
      exact h9
    · replace hg := (if_neg c).symm.trans hg
      refine R_iload (pc := 11) hC 4 dX0_poolWorthWith_11 rfl ?_
      refine R_sipush (pc := 13) hC dX0_poolWorthWith_13 ks_252 ?_
      refine R_icmp_ge (tgt := 48) (pc := 16) hC dX0_poolWorthWith_16 (by decide) (fun c => ?_) (fun c => ?_)
      · replace hg := (if_pos c).symm.trans hg
        refine R_pick [0, 1, 2, 3, 4] (ls' := [(0, .ref 37), (1, .int a1), (2, .int a2), (3, .int y1), (4, .int y2)]) rfl ?_
        have h9 := kE5 _ (Option.some.inj hg).symm
        exact h9
      · replace hg := (if_neg c).symm.trans hg
        refine R_aload_n (pc := 19) hC 0 dX0_poolWorthWith_19 rfl rfl ?_
        refine gf_X0_34 (pc := 20) hC hn dX0_poolWorthWith_20 ?_
        refine R_iload (pc := 23) hC 4 dX0_poolWorthWith_23 rfl ?_
        obtain ⟨c3, hg⟩ := chk_some hg
        refine R_iaload (pc := 25) hC 40 (jx hn rfl) ly40 (inb_vp c3) dX0_poolWorthWith_25 ?_
        refine R_iload_n (pc := 26) hC 1 dX0_poolWorthWith_26 rfl rfl ?_
        refine R_iand (pc := 27) hC dX0_poolWorthWith_27 ?_
        refine R_iload_n (pc := 28) hC 1 dX0_poolWorthWith_28 rfl rfl ?_
        refine R_icmp_ne (tgt := 42) (pc := 29) hC dX0_poolWorthWith_29 (by decide) (fun c => ?_) (fun c => ?_)
        · replace hg := (if_neg c).symm.trans hg
          refine R_iinc (pc := 42) hC 4 dX0_poolWorthWith_42 rfl (iv ki_1) hL rfl (show _ = [(4, .int (y2 + 1)), (0, .ref 37), (1, .int a1), (2, .int a2), (3, .int y1)] from rfl) ?_
          refine R_goto (tgt := 5) (pc := 45) hC dX0_poolWorthWith_45 (by decide) ?_
          refine R_pick [1, 2, 3, 4, 0] (ls' := [(0, .ref 37), (1, .int a1), (2, .int a2), (3, .int y1), (4, .int (y2 + 1))]) rfl ?_
          have h9 := kL5 _ (Option.some.inj hg).symm
          exact h9
        · replace hg := (if_pos c).symm.trans hg
          refine R_iload_n (pc := 32) hC 3 dX0_poolWorthWith_32 rfl rfl ?_
          refine R_aload_n (pc := 33) hC 0 dX0_poolWorthWith_33 rfl rfl ?_
          refine gf_X0_37 (pc := 34) hC hn dX0_poolWorthWith_34 ?_
          refine R_iload (pc := 37) hC 4 dX0_poolWorthWith_37 rfl ?_
          obtain ⟨c4, hg⟩ := chk_some hg
          refine R_iaload (pc := 39) hC 41 (jx hn rfl) ly41 (inb_vp c4) dX0_poolWorthWith_39 ?_
          refine R_iadd (pc := 40) hC dX0_poolWorthWith_40 ?_
          obtain ⟨x5, hx5, hg⟩ := lete_some hg
          refine R_top hx5 ?_
          refine R_istore_n (pc := 41) hC dX0_poolWorthWith_41 rfl hL rfl (show _ = [(3, .int x5), (0, .ref 37), (1, .int a1), (2, .int a2), (4, .int y2)] from rfl) ?_
          refine R_iinc (pc := 42) hC 4 dX0_poolWorthWith_42 rfl (iv ki_1) hL rfl (show _ = [(4, .int (y2 + 1)), (3, .int x5), (0, .ref 37), (1, .int a1), (2, .int a2)] from rfl) ?_
          refine R_goto (tgt := 5) (pc := 45) hC dX0_poolWorthWith_45 (by decide) ?_
          refine R_pick [2, 3, 4, 1, 0] (ls' := [(0, .ref 37), (1, .int a1), (2, .int a2), (3, .int x5), (4, .int (y2 + 1))]) rfl ?_
          have h9 := kL5 _ (Option.some.inj hg).symm
          exact h9
  · show RX K 48 [(0, .ref 37), (1, .int a1), (2, .int a2), (3, .int e6.1), (4, .int e6.2)] [] m
    refine R_iload_n (pc := 48) hC 3 dX0_poolWorthWith_48 rfl rfl ?_
    have h9 := gxI (m := m) hg
    exact R_ireturn (pc := 49) hC dX0_poolWorthWith_49 h9
theorem dX0_narrow_0 : decode cX0_narrow 0 = .ok (.iconst 0, 1) := by decide +kernel
theorem dX0_narrow_1 : decode cX0_narrow 1 = .ok (.istore 4, 2) := by decide +kernel
theorem dX0_narrow_3 : decode cX0_narrow 3 = .ok (.iconst 0, 1) := by decide +kernel
theorem dX0_narrow_4 : decode cX0_narrow 4 = .ok (.istore 5, 2) := by decide +kernel
theorem dX0_narrow_6 : decode cX0_narrow 6 = .ok (.iload 5, 2) := by decide +kernel
theorem dX0_narrow_8 : decode cX0_narrow 8 = .ok (.iload_n 2, 1) := by decide +kernel
theorem dX0_narrow_9 : decode cX0_narrow 9 = .ok (.if_icmp .ge 70, 3) := by decide +kernel
theorem dX0_narrow_12 : decode cX0_narrow 12 = .ok (.iload 5, 2) := by decide +kernel
theorem dX0_narrow_14 : decode cX0_narrow 14 = .ok (.sipush 252, 3) := by decide +kernel
theorem dX0_narrow_17 : decode cX0_narrow 17 = .ok (.if_icmp .ge 62, 3) := by decide +kernel
theorem dX0_narrow_20 : decode cX0_narrow 20 = .ok (.aload_n 0, 1) := by decide +kernel
theorem dX0_narrow_21 : decode cX0_narrow 21 = .ok (.getfield 34, 3) := by decide +kernel
theorem dX0_narrow_24 : decode cX0_narrow 24 = .ok (.iload 5, 2) := by decide +kernel
theorem dX0_narrow_26 : decode cX0_narrow 26 = .ok (.iaload, 1) := by decide +kernel
theorem dX0_narrow_27 : decode cX0_narrow 27 = .ok (.iload_n 1, 1) := by decide +kernel
theorem dX0_narrow_28 : decode cX0_narrow 28 = .ok (.iand, 1) := by decide +kernel
theorem dX0_narrow_29 : decode cX0_narrow 29 = .ok (.iload_n 1, 1) := by decide +kernel
theorem dX0_narrow_30 : decode cX0_narrow 30 = .ok (.if_icmp .ne 7, 3) := by decide +kernel
theorem dX0_narrow_33 : decode cX0_narrow 33 = .ok (.iconst 1, 1) := by decide +kernel
theorem dX0_narrow_34 : decode cX0_narrow 34 = .ok (.goto 4, 3) := by decide +kernel
theorem dX0_narrow_37 : decode cX0_narrow 37 = .ok (.iconst 0, 1) := by decide +kernel
theorem dX0_narrow_38 : decode cX0_narrow 38 = .ok (.iload_n 3, 1) := by decide +kernel
theorem dX0_narrow_39 : decode cX0_narrow 39 = .ok (.if_icmp .ne 34, 3) := by decide +kernel
theorem dX0_narrow_42 : decode cX0_narrow 42 = .ok (.aload_n 0, 1) := by decide +kernel
theorem dX0_narrow_43 : decode cX0_narrow 43 = .ok (.getfield 34, 3) := by decide +kernel
theorem dX0_narrow_46 : decode cX0_narrow 46 = .ok (.iload 4, 2) := by decide +kernel
theorem dX0_narrow_48 : decode cX0_narrow 48 = .ok (.aload_n 0, 1) := by decide +kernel
theorem dX0_narrow_49 : decode cX0_narrow 49 = .ok (.getfield 34, 3) := by decide +kernel
theorem dX0_narrow_52 : decode cX0_narrow 52 = .ok (.iload 5, 2) := by decide +kernel
theorem dX0_narrow_54 : decode cX0_narrow 54 = .ok (.iaload, 1) := by decide +kernel
theorem dX0_narrow_55 : decode cX0_narrow 55 = .ok (.iastore, 1) := by decide +kernel
theorem dX0_narrow_56 : decode cX0_narrow 56 = .ok (.aload_n 0, 1) := by decide +kernel
theorem dX0_narrow_57 : decode cX0_narrow 57 = .ok (.getfield 37, 3) := by decide +kernel
theorem dX0_narrow_60 : decode cX0_narrow 60 = .ok (.iload 4, 2) := by decide +kernel
theorem dX0_narrow_62 : decode cX0_narrow 62 = .ok (.aload_n 0, 1) := by decide +kernel
theorem dX0_narrow_63 : decode cX0_narrow 63 = .ok (.getfield 37, 3) := by decide +kernel
theorem dX0_narrow_66 : decode cX0_narrow 66 = .ok (.iload 5, 2) := by decide +kernel
theorem dX0_narrow_68 : decode cX0_narrow 68 = .ok (.iaload, 1) := by decide +kernel
theorem dX0_narrow_69 : decode cX0_narrow 69 = .ok (.iastore, 1) := by decide +kernel
theorem dX0_narrow_70 : decode cX0_narrow 70 = .ok (.iinc 4 1, 3) := by decide +kernel
theorem dX0_narrow_73 : decode cX0_narrow 73 = .ok (.iinc 5 1, 3) := by decide +kernel
theorem dX0_narrow_76 : decode cX0_narrow 76 = .ok (.goto (-70), 3) := by decide +kernel
theorem dX0_narrow_79 : decode cX0_narrow 79 = .ok (.iload 4, 2) := by decide +kernel
theorem dX0_narrow_81 : decode cX0_narrow 81 = .ok (.ireturn, 1) := by decide +kernel
def bX0_narrow_6 (a1 : Int32) (a2 : Int32) (a3 : Bool) : (Int32 × Int32 × Mem) → Option ((Int32 × Int32 × Mem) ⊕ (Int32 × Int32 × Mem))
  | (y1, y2, m3) => (if a2 ≤ y2 then some (.inr (y1, y2, m3)) else (if 252 ≤ y2 then some (.inr (y1, y2, m3)) else chk (inb y2 252) ((if ((m3.1 40 (Int32.toNatClampNeg y2)) &&& a1) = a1 then (if (1 : Int32) = (b2i a3) then chk (inb y2 252) (chk (inb y1 252) (lete (mu m3 40 (Int32.toNatClampNeg y1) (m3.1 40 (Int32.toNatClampNeg y2))) (fun m13 => chk (inb y2 252) (chk (inb y1 252) (lete (mu m13 41 (Int32.toNatClampNeg y1) (m13.1 41 (Int32.toNatClampNeg y2))) (fun m16 => some (.inl (y1 + 1, y2 + 1, m16)))))))) else some (.inl (y1, y2 + 1, m3))) else (if (0 : Int32) = (b2i a3) then chk (inb y2 252) (chk (inb y1 252) (lete (mu m3 40 (Int32.toNatClampNeg y1) (m3.1 40 (Int32.toNatClampNeg y2))) (fun m7 => chk (inb y2 252) (chk (inb y1 252) (lete (mu m7 41 (Int32.toNatClampNeg y1) (m7.1 41 (Int32.toNatClampNeg y2))) (fun m10 => some (.inl (y1 + 1, y2 + 1, m10)))))))) else some (.inl (y1, y2 + 1, m3)))))))
def gX0_narrow (F : Nat) (m : Mem) (a1 : Int32) (a2 : Int32) (a3 : Bool) : Option (Int32 × Mem) := (iter F (bX0_narrow_6 a1 a2 a3) (0, 0, m)).bind (fun e17 => some (e17.1, e17.2.2))
set_option maxHeartbeats 4000000 in
set_option maxRecDepth 20000 in
theorem LX0_narrow {n : Nat} {F : Nat} {m : Mem} {a1 : Int32} {a2 : Int32} {a3 : Bool} {r : Int32 × Mem} (hn : 43 ≤ n) (hg : gX0_narrow F m a1 a2 a3 = some r) : MX yX0_narrow cX0_narrow 6 (some .int) { frames := 0, cells := 0, slots := 0, locals := 0 } n [.ref 37, .int a1, .int a2, .int (b2i a3)] m (some (.int r.1)) r.2 := by
  refine MX_of (by decide) (Nat.le_of_ble_eq_true rfl) (Or.inr (Or.inl ⟨rfl, _, rfl⟩)) (fun K hC hk hL hR => ?_)
  replace hn : 43 ≤ kn K := hk.symm ▸ hn
  show RX K 0 [(0, .ref 37), (1, .int a1), (2, .int a2), (3, .int (b2i a3))] [] m
  rw [gX0_narrow] at hg
  refine R_iconst (pc := 0) hC dX0_narrow_0 ki_0 ?_
  refine R_istore (pc := 1) hC dX0_narrow_1 hL rfl (show _ = [(4, .int 0), (0, .ref 37), (1, .int a1), (2, .int a2), (3, .int (b2i a3))] from rfl) ?_
  refine R_iconst (pc := 3) hC dX0_narrow_3 ki_0 ?_
  refine R_istore (pc := 4) hC dX0_narrow_4 hL rfl (show _ = [(5, .int 0), (4, .int 0), (0, .ref 37), (1, .int a1), (2, .int a2), (3, .int (b2i a3))] from rfl) ?_
  refine R_pick [2, 3, 4, 5, 1, 0] (ls' := [(0, .ref 37), (1, .int a1), (2, .int a2), (3, .int (b2i a3)), (4, .int 0), (5, .int 0)]) rfl ?_
  obtain ⟨e17, he17, hg⟩ := bind_some hg
  refine iter_walk (P := fun s : (Int32 × Int32 × Mem) => RX K 6 [(0, .ref 37), (1, .int a1), (2, .int a2), (3, .int (b2i a3)), (4, .int s.1), (5, .int s.2.1)] [] s.2.2) (Qe := fun s : (Int32 × Int32 × Mem) => RX K 79 [(0, .ref 37), (1, .int a1), (2, .int a2), (3, .int (b2i a3)), (4, .int s.1), (5, .int s.2.1)] [] s.2.2) (fun s18 o hg kL6 kE6 => ?_) _ _ _ he17 ?_
  · obtain ⟨y1, y2, m3⟩ := s18
    rw [bX0_narrow_6] at hg
    show RX K 6 [(0, .ref 37), (1, .int a1), (2, .int a2), (3, .int (b2i a3)), (4, .int y1), (5, .int y2)] [] m3
    refine R_iload (pc := 6) hC 5 dX0_narrow_6 rfl ?_
    refine R_iload_n (pc := 8) hC 2 dX0_narrow_8 rfl rfl ?_
    refine R_icmp_ge (tgt := 79) (pc := 9) hC dX0_narrow_9 (by decide) (fun c => ?_) (fun c => ?_)
    · replace hg := (if_pos c).symm.trans hg
      refine R_pick [0, 1, 2, 3, 4, 5] (ls' := [(0, .ref 37), (1, .int a1), (2, .int a2), (3, .int (b2i a3)), (4, .int y1), (5, .int y2)]) rfl ?_
      have h9 := kE6 _ (Option.some.inj hg).symm
      exact h9
    · replace hg := (if_neg c).symm.trans hg
      refine R_iload (pc := 12) hC 5 dX0_narrow_12 rfl ?_
      refine R_sipush (pc := 14) hC dX0_narrow_14 ks_252 ?_
      refine R_icmp_ge (tgt := 79) (pc := 17) hC dX0_narrow_17 (by decide) (fun c => ?_) (fun c => ?_)
      · replace hg := (if_pos c).symm.trans hg
        refine R_pick [0, 1, 2, 3, 4, 5] (ls' := [(0, .ref 37), (1, .int a1), (2, .int a2), (3, .int (b2i a3)), (4, .int y1), (5, .int y2)]) rfl ?_
        have h9 := kE6 _ (Option.some.inj hg).symm
        exact h9
      · replace hg := (if_neg c).symm.trans hg
        refine R_aload_n (pc := 20) hC 0 dX0_narrow_20 rfl rfl ?_
        refine gf_X0_34 (pc := 21) hC hn dX0_narrow_21 ?_
        refine R_iload (pc := 24) hC 5 dX0_narrow_24 rfl ?_
        obtain ⟨c4, hg⟩ := chk_some hg
        refine R_iaload (pc := 26) hC 40 (jx hn rfl) ly40 (inb_vp c4) dX0_narrow_26 ?_
        refine R_iload_n (pc := 27) hC 1 dX0_narrow_27 rfl rfl ?_
        refine R_iand (pc := 28) hC dX0_narrow_28 ?_
        refine R_iload_n (pc := 29) hC 1 dX0_narrow_29 rfl rfl ?_
        refine R_icmp_ne (tgt := 37) (pc := 30) hC dX0_narrow_30 (by decide) (fun c => ?_) (fun c => ?_)
        · replace hg := (if_neg c).symm.trans hg
          refine R_iconst (pc := 37) hC dX0_narrow_37 ki_0 ?_
          refine R_iload_n (pc := 38) hC 3 dX0_narrow_38 rfl rfl ?_
          refine R_icmp_ne (tgt := 73) (pc := 39) hC dX0_narrow_39 (by decide) (fun c => ?_) (fun c => ?_)
          · replace hg := (if_neg c).symm.trans hg
            refine R_iinc (pc := 73) hC 5 dX0_narrow_73 rfl (iv ki_1) hL rfl (show _ = [(5, .int (y2 + 1)), (0, .ref 37), (1, .int a1), (2, .int a2), (3, .int (b2i a3)), (4, .int y1)] from rfl) ?_
            refine R_goto (tgt := 6) (pc := 76) hC dX0_narrow_76 (by decide) ?_
            refine R_pick [1, 2, 3, 4, 5, 0] (ls' := [(0, .ref 37), (1, .int a1), (2, .int a2), (3, .int (b2i a3)), (4, .int y1), (5, .int (y2 + 1))]) rfl ?_
            have h9 := kL6 _ (Option.some.inj hg).symm
            exact h9
          · replace hg := (if_pos c).symm.trans hg
            refine R_aload_n (pc := 42) hC 0 dX0_narrow_42 rfl rfl ?_
            refine gf_X0_34 (pc := 43) hC hn dX0_narrow_43 ?_
            refine R_iload (pc := 46) hC 4 dX0_narrow_46 rfl ?_
            refine R_aload_n (pc := 48) hC 0 dX0_narrow_48 rfl rfl ?_
            refine gf_X0_34 (pc := 49) hC hn dX0_narrow_49 ?_
            refine R_iload (pc := 52) hC 5 dX0_narrow_52 rfl ?_
            obtain ⟨c5, hg⟩ := chk_some hg
            refine R_iaload (pc := 54) hC 40 (jx hn rfl) ly40 (inb_vp c5) dX0_narrow_54 ?_
            obtain ⟨c6, hg⟩ := chk_some hg
            obtain ⟨m7, hm7, hg⟩ := lete_some hg
            refine R_iastore (pc := 55) hC 40 (jx hn rfl) ly40 (inb_vp c6) dX0_narrow_55 ?_
            refine R_mem hm7 ?_
            refine R_aload_n (pc := 56) hC 0 dX0_narrow_56 rfl rfl ?_
            refine gf_X0_37 (pc := 57) hC hn dX0_narrow_57 ?_
            refine R_iload (pc := 60) hC 4 dX0_narrow_60 rfl ?_
            refine R_aload_n (pc := 62) hC 0 dX0_narrow_62 rfl rfl ?_
            refine gf_X0_37 (pc := 63) hC hn dX0_narrow_63 ?_
            refine R_iload (pc := 66) hC 5 dX0_narrow_66 rfl ?_
            obtain ⟨c8, hg⟩ := chk_some hg
            refine R_iaload (pc := 68) hC 41 (jx hn rfl) ly41 (inb_vp c8) dX0_narrow_68 ?_
            obtain ⟨c9, hg⟩ := chk_some hg
            obtain ⟨m10, hm10, hg⟩ := lete_some hg
            refine R_iastore (pc := 69) hC 41 (jx hn rfl) ly41 (inb_vp c9) dX0_narrow_69 ?_
            refine R_mem hm10 ?_
            refine R_iinc (pc := 70) hC 4 dX0_narrow_70 rfl (iv ki_1) hL rfl (show _ = [(4, .int (y1 + 1)), (0, .ref 37), (1, .int a1), (2, .int a2), (3, .int (b2i a3)), (5, .int y2)] from rfl) ?_
            refine R_iinc (pc := 73) hC 5 dX0_narrow_73 rfl (iv ki_1) hL rfl (show _ = [(5, .int (y2 + 1)), (4, .int (y1 + 1)), (0, .ref 37), (1, .int a1), (2, .int a2), (3, .int (b2i a3))] from rfl) ?_
            refine R_goto (tgt := 6) (pc := 76) hC dX0_narrow_76 (by decide) ?_
            refine R_pick [2, 3, 4, 5, 1, 0] (ls' := [(0, .ref 37), (1, .int a1), (2, .int a2), (3, .int (b2i a3)), (4, .int (y1 + 1)), (5, .int (y2 + 1))]) rfl ?_
            have h9 := kL6 _ (Option.some.inj hg).symm
            exact h9
        · replace hg := (if_pos c).symm.trans hg
          refine R_iconst (pc := 33) hC dX0_narrow_33 ki_1 ?_
          refine R_goto (tgt := 38) (pc := 34) hC dX0_narrow_34 (by decide) ?_
          refine R_iload_n (pc := 38) hC 3 dX0_narrow_38 rfl rfl ?_
          refine R_icmp_ne (tgt := 73) (pc := 39) hC dX0_narrow_39 (by decide) (fun c => ?_) (fun c => ?_)
          · replace hg := (if_neg c).symm.trans hg
            refine R_iinc (pc := 73) hC 5 dX0_narrow_73 rfl (iv ki_1) hL rfl (show _ = [(5, .int (y2 + 1)), (0, .ref 37), (1, .int a1), (2, .int a2), (3, .int (b2i a3)), (4, .int y1)] from rfl) ?_
            refine R_goto (tgt := 6) (pc := 76) hC dX0_narrow_76 (by decide) ?_
            refine R_pick [1, 2, 3, 4, 5, 0] (ls' := [(0, .ref 37), (1, .int a1), (2, .int a2), (3, .int (b2i a3)), (4, .int y1), (5, .int (y2 + 1))]) rfl ?_
            have h9 := kL6 _ (Option.some.inj hg).symm
            exact h9
          · replace hg := (if_pos c).symm.trans hg
            refine R_aload_n (pc := 42) hC 0 dX0_narrow_42 rfl rfl ?_
            refine gf_X0_34 (pc := 43) hC hn dX0_narrow_43 ?_
            refine R_iload (pc := 46) hC 4 dX0_narrow_46 rfl ?_
            refine R_aload_n (pc := 48) hC 0 dX0_narrow_48 rfl rfl ?_
            refine gf_X0_34 (pc := 49) hC hn dX0_narrow_49 ?_
            refine R_iload (pc := 52) hC 5 dX0_narrow_52 rfl ?_
            obtain ⟨c11, hg⟩ := chk_some hg
            refine R_iaload (pc := 54) hC 40 (jx hn rfl) ly40 (inb_vp c11) dX0_narrow_54 ?_
            obtain ⟨c12, hg⟩ := chk_some hg
            obtain ⟨m13, hm13, hg⟩ := lete_some hg
            refine R_iastore (pc := 55) hC 40 (jx hn rfl) ly40 (inb_vp c12) dX0_narrow_55 ?_
            refine R_mem hm13 ?_
            refine R_aload_n (pc := 56) hC 0 dX0_narrow_56 rfl rfl ?_
            refine gf_X0_37 (pc := 57) hC hn dX0_narrow_57 ?_
            refine R_iload (pc := 60) hC 4 dX0_narrow_60 rfl ?_
            refine R_aload_n (pc := 62) hC 0 dX0_narrow_62 rfl rfl ?_
            refine gf_X0_37 (pc := 63) hC hn dX0_narrow_63 ?_
            refine R_iload (pc := 66) hC 5 dX0_narrow_66 rfl ?_
            obtain ⟨c14, hg⟩ := chk_some hg
            refine R_iaload (pc := 68) hC 41 (jx hn rfl) ly41 (inb_vp c14) dX0_narrow_68 ?_
            obtain ⟨c15, hg⟩ := chk_some hg
            obtain ⟨m16, hm16, hg⟩ := lete_some hg
            refine R_iastore (pc := 69) hC 41 (jx hn rfl) ly41 (inb_vp c15) dX0_narrow_69 ?_
            refine R_mem hm16 ?_
            refine R_iinc (pc := 70) hC 4 dX0_narrow_70 rfl (iv ki_1) hL rfl (show _ = [(4, .int (y1 + 1)), (0, .ref 37), (1, .int a1), (2, .int a2), (3, .int (b2i a3)), (5, .int y2)] from rfl) ?_
            refine R_iinc (pc := 73) hC 5 dX0_narrow_73 rfl (iv ki_1) hL rfl (show _ = [(5, .int (y2 + 1)), (4, .int (y1 + 1)), (0, .ref 37), (1, .int a1), (2, .int a2), (3, .int (b2i a3))] from rfl) ?_
            refine R_goto (tgt := 6) (pc := 76) hC dX0_narrow_76 (by decide) ?_
            refine R_pick [2, 3, 4, 5, 1, 0] (ls' := [(0, .ref 37), (1, .int a1), (2, .int a2), (3, .int (b2i a3)), (4, .int (y1 + 1)), (5, .int (y2 + 1))]) rfl ?_
            have h9 := kL6 _ (Option.some.inj hg).symm
            exact h9
  · show RX K 79 [(0, .ref 37), (1, .int a1), (2, .int a2), (3, .int (b2i a3)), (4, .int e17.1), (5, .int e17.2.1)] [] e17.2.2
    refine R_iload (pc := 79) hC 4 dX0_narrow_79 rfl ?_
    have h9 := gxIM hg
    exact R_ireturn (pc := 81) hC dX0_narrow_81 h9
theorem dX0_laneByLane_0 : decode cX0_laneByLane 0 = .ok (.aload_n 0, 1) := by decide +kernel
theorem dX0_laneByLane_1 : decode cX0_laneByLane 1 = .ok (.getfield 15, 3) := by decide +kernel
theorem dX0_laneByLane_4 : decode cX0_laneByLane 4 = .ok (.aload_n 0, 1) := by decide +kernel
theorem dX0_laneByLane_5 : decode cX0_laneByLane 5 = .ok (.getfield 34, 3) := by decide +kernel
theorem dX0_laneByLane_8 : decode cX0_laneByLane 8 = .ok (.aload_n 0, 1) := by decide +kernel
theorem dX0_laneByLane_9 : decode cX0_laneByLane 9 = .ok (.getfield 37, 3) := by decide +kernel
theorem dX0_laneByLane_12 : decode cX0_laneByLane 12 = .ok (.invokevirtual 110, 3) := by decide +kernel
theorem dX0_laneByLane_15 : decode cX0_laneByLane 15 = .ok (.istore_n 1, 1) := by decide +kernel
theorem dX0_laneByLane_16 : decode cX0_laneByLane 16 = .ok (.aload_n 0, 1) := by decide +kernel
theorem dX0_laneByLane_17 : decode cX0_laneByLane 17 = .ok (.iconst 0, 1) := by decide +kernel
theorem dX0_laneByLane_18 : decode cX0_laneByLane 18 = .ok (.iload_n 1, 1) := by decide +kernel
theorem dX0_laneByLane_19 : decode cX0_laneByLane 19 = .ok (.invokevirtual 114, 3) := by decide +kernel
theorem dX0_laneByLane_22 : decode cX0_laneByLane 22 = .ok (.istore_n 2, 1) := by decide +kernel
theorem dX0_laneByLane_23 : decode cX0_laneByLane 23 = .ok (.iconst 0, 1) := by decide +kernel
theorem dX0_laneByLane_24 : decode cX0_laneByLane 24 = .ok (.istore_n 3, 1) := by decide +kernel
theorem dX0_laneByLane_25 : decode cX0_laneByLane 25 = .ok (.iload_n 3, 1) := by decide +kernel
theorem dX0_laneByLane_26 : decode cX0_laneByLane 26 = .ok (.aload_n 0, 1) := by decide +kernel
theorem dX0_laneByLane_27 : decode cX0_laneByLane 27 = .ok (.getfield 9, 3) := by decide +kernel
theorem dX0_laneByLane_30 : decode cX0_laneByLane 30 = .ok (.getfield 76, 3) := by decide +kernel
theorem dX0_laneByLane_33 : decode cX0_laneByLane 33 = .ok (.if_icmp .ge 78, 3) := by decide +kernel
theorem dX0_laneByLane_36 : decode cX0_laneByLane 36 = .ok (.iload_n 1, 1) := by decide +kernel
theorem dX0_laneByLane_37 : decode cX0_laneByLane 37 = .ok (.iconst 1, 1) := by decide +kernel
theorem dX0_laneByLane_38 : decode cX0_laneByLane 38 = .ok (.if_icmp .le 73, 3) := by decide +kernel
theorem dX0_laneByLane_41 : decode cX0_laneByLane 41 = .ok (.aload_n 0, 1) := by decide +kernel
theorem dX0_laneByLane_42 : decode cX0_laneByLane 42 = .ok (.iconst 1, 1) := by decide +kernel
theorem dX0_laneByLane_43 : decode cX0_laneByLane 43 = .ok (.iload_n 3, 1) := by decide +kernel
theorem dX0_laneByLane_44 : decode cX0_laneByLane 44 = .ok (.ishl, 1) := by decide +kernel
theorem dX0_laneByLane_45 : decode cX0_laneByLane 45 = .ok (.iload_n 1, 1) := by decide +kernel
theorem dX0_laneByLane_46 : decode cX0_laneByLane 46 = .ok (.invokevirtual 114, 3) := by decide +kernel
theorem dX0_laneByLane_49 : decode cX0_laneByLane 49 = .ok (.istore 4, 2) := by decide +kernel
theorem dX0_laneByLane_51 : decode cX0_laneByLane 51 = .ok (.iload 4, 2) := by decide +kernel
theorem dX0_laneByLane_53 : decode cX0_laneByLane 53 = .ok (.iload_n 2, 1) := by decide +kernel
theorem dX0_laneByLane_54 : decode cX0_laneByLane 54 = .ok (.if_icmp .eq 18, 3) := by decide +kernel
theorem dX0_laneByLane_57 : decode cX0_laneByLane 57 = .ok (.iload 4, 2) := by decide +kernel
theorem dX0_laneByLane_59 : decode cX0_laneByLane 59 = .ok (.ifCond .le 17, 3) := by decide +kernel
theorem dX0_laneByLane_62 : decode cX0_laneByLane 62 = .ok (.aload_n 0, 1) := by decide +kernel
theorem dX0_laneByLane_63 : decode cX0_laneByLane 63 = .ok (.iload_n 2, 1) := by decide +kernel
theorem dX0_laneByLane_64 : decode cX0_laneByLane 64 = .ok (.invokevirtual 62, 3) := by decide +kernel
theorem dX0_laneByLane_67 : decode cX0_laneByLane 67 = .ok (.iload 4, 2) := by decide +kernel
theorem dX0_laneByLane_69 : decode cX0_laneByLane 69 = .ok (.if_icmp .ge 7, 3) := by decide +kernel
theorem dX0_laneByLane_72 : decode cX0_laneByLane 72 = .ok (.iconst 1, 1) := by decide +kernel
theorem dX0_laneByLane_73 : decode cX0_laneByLane 73 = .ok (.goto 4, 3) := by decide +kernel
theorem dX0_laneByLane_76 : decode cX0_laneByLane 76 = .ok (.iconst 0, 1) := by decide +kernel
theorem dX0_laneByLane_77 : decode cX0_laneByLane 77 = .ok (.istore 5, 2) := by decide +kernel
theorem dX0_laneByLane_79 : decode cX0_laneByLane 79 = .ok (.aload_n 0, 1) := by decide +kernel
theorem dX0_laneByLane_80 : decode cX0_laneByLane 80 = .ok (.iconst 1, 1) := by decide +kernel
theorem dX0_laneByLane_81 : decode cX0_laneByLane 81 = .ok (.iload_n 3, 1) := by decide +kernel
theorem dX0_laneByLane_82 : decode cX0_laneByLane 82 = .ok (.ishl, 1) := by decide +kernel
theorem dX0_laneByLane_83 : decode cX0_laneByLane 83 = .ok (.iload_n 1, 1) := by decide +kernel
theorem dX0_laneByLane_84 : decode cX0_laneByLane 84 = .ok (.iload 5, 2) := by decide +kernel
theorem dX0_laneByLane_86 : decode cX0_laneByLane 86 = .ok (.invokevirtual 118, 3) := by decide +kernel
theorem dX0_laneByLane_89 : decode cX0_laneByLane 89 = .ok (.istore_n 1, 1) := by decide +kernel
theorem dX0_laneByLane_90 : decode cX0_laneByLane 90 = .ok (.iload 5, 2) := by decide +kernel
theorem dX0_laneByLane_92 : decode cX0_laneByLane 92 = .ok (.ifCond .eq 8, 3) := by decide +kernel
theorem dX0_laneByLane_95 : decode cX0_laneByLane 95 = .ok (.iload 4, 2) := by decide +kernel
theorem dX0_laneByLane_97 : decode cX0_laneByLane 97 = .ok (.goto 7, 3) := by decide +kernel
theorem dX0_laneByLane_100 : decode cX0_laneByLane 100 = .ok (.iload_n 2, 1) := by decide +kernel
theorem dX0_laneByLane_101 : decode cX0_laneByLane 101 = .ok (.iload 4, 2) := by decide +kernel
theorem dX0_laneByLane_103 : decode cX0_laneByLane 103 = .ok (.isub, 1) := by decide +kernel
theorem dX0_laneByLane_104 : decode cX0_laneByLane 104 = .ok (.istore_n 2, 1) := by decide +kernel
theorem dX0_laneByLane_105 : decode cX0_laneByLane 105 = .ok (.iinc 3 1, 3) := by decide +kernel
theorem dX0_laneByLane_108 : decode cX0_laneByLane 108 = .ok (.goto (-83), 3) := by decide +kernel
theorem dX0_laneByLane_111 : decode cX0_laneByLane 111 = .ok (.iload_n 1, 1) := by decide +kernel
theorem dX0_laneByLane_112 : decode cX0_laneByLane 112 = .ok (.ifCond .le 12, 3) := by decide +kernel
theorem dX0_laneByLane_115 : decode cX0_laneByLane 115 = .ok (.aload_n 0, 1) := by decide +kernel
theorem dX0_laneByLane_116 : decode cX0_laneByLane 116 = .ok (.getfield 34, 3) := by decide +kernel
theorem dX0_laneByLane_119 : decode cX0_laneByLane 119 = .ok (.iconst 0, 1) := by decide +kernel
theorem dX0_laneByLane_120 : decode cX0_laneByLane 120 = .ok (.iaload, 1) := by decide +kernel
theorem dX0_laneByLane_121 : decode cX0_laneByLane 121 = .ok (.goto 5, 3) := by decide +kernel
theorem dX0_laneByLane_124 : decode cX0_laneByLane 124 = .ok (.bipush (-9), 2) := by decide +kernel
theorem dX0_laneByLane_126 : decode cX0_laneByLane 126 = .ok (.ireturn, 1) := by decide +kernel
def bX0_laneByLane_25 (F : Nat) : (Int32 × Int32 × Int32 × Mem) → Option ((Int32 × Int32 × Int32 × Mem) ⊕ (Int32 × Int32 × Int32 × Mem))
  | (y3, y4, y5, m6) => (if (m6.1 1 1) ≤ y5 then some (.inr (y3, y4, y5, m6)) else (if y3 ≤ 1 then some (.inr (y3, y4, y5, m6)) else (gX0_poolWorthWith F m6 ((1 : Int32) <<< (y5 &&& 31)) y3).bind (fun x7 => (if x7 = y4 then (gX0_narrow F m6 ((1 : Int32) <<< (y5 &&& 31)) y3 true).bind (fun q8 => some (.inl (q8.1, x7, y5 + 1, q8.2))) else (if x7 ≤ 0 then (gX0_narrow F m6 ((1 : Int32) <<< (y5 &&& 31)) y3 false).bind (fun q9 => lete (y4 - x7) (fun x10 => some (.inl (q9.1, x10, y5 + 1, q9.2)))) else (gX0_below m6 y4).bind (fun q11 => (if x7 ≤ q11.1 then (gX0_narrow F q11.2 ((1 : Int32) <<< (y5 &&& 31)) y3 false).bind (fun q12 => lete (y4 - x7) (fun x13 => some (.inl (q12.1, x13, y5 + 1, q12.2)))) else (gX0_narrow F q11.2 ((1 : Int32) <<< (y5 &&& 31)) y3 true).bind (fun q14 => some (.inl (q14.1, x7, y5 + 1, q14.2))))))))))
def gX0_laneByLane (F : Nat) (m : Mem) : Option (Int32 × Mem) := (gX7_copyTo F m).bind (fun q1 => (gX0_poolWorthWith F q1.2 0 q1.1).bind (fun x2 => (iter F (bX0_laneByLane_25 F) (q1.1, x2, 0, q1.2)).bind (fun e15 => (if e15.1 ≤ 0 then some ((-9), e15.2.2.2) else chk (inb 0 252) (some (e15.2.2.2.1 40 (Int32.toNatClampNeg 0), e15.2.2.2))))))
set_option maxHeartbeats 4000000 in
set_option maxRecDepth 20000 in
theorem LX0_laneByLane {n : Nat} {F : Nat} {m : Mem} {r : Int32 × Mem} (hn : 43 ≤ n) (hg : gX0_laneByLane F m  = some r) : MX yX0_laneByLane cX0_laneByLane 6 (some .int) { frames := 1, cells := 0, slots := 0, locals := 25 } n [.ref 37] m (some (.int r.1)) r.2 := by
  refine MX_of (by decide) (Nat.le_of_ble_eq_true rfl) (Or.inr (Or.inl ⟨rfl, _, rfl⟩)) (fun K hC hk hL hR => ?_)
  replace hn : 43 ≤ kn K := hk.symm ▸ hn
  show RX K 0 [(0, .ref 37)] [] m
  rw [gX0_laneByLane] at hg
  refine R_aload_n (pc := 0) hC 0 dX0_laneByLane_0 rfl rfl ?_
  refine gf_X0_15 (pc := 1) hC hn dX0_laneByLane_1 ?_
  refine R_aload_n (pc := 4) hC 0 dX0_laneByLane_4 rfl rfl ?_
  refine gf_X0_34 (pc := 5) hC hn dX0_laneByLane_5 ?_
  refine R_aload_n (pc := 8) hC 0 dX0_laneByLane_8 rfl rfl ?_
  refine gf_X0_37 (pc := 9) hC hn dX0_laneByLane_9 ?_
  obtain ⟨q1, hq1, hg⟩ := bind_some hg
  refine R_callVN (pc := 12) (av := [.ref 40, .ref 41]) (rest := []) hC hR 26 (jx hn rfl) ly26 rfl mf_X7_copyTo wm_X0_110 (LX7_copyTo hn hq1) rfl rfl rfl (Nat.le_of_ble_eq_true rfl) dX0_laneByLane_12 rfl ?_
  show RX K 15 [(0, .ref 37)] [.int q1.1] q1.2
  refine R_istore_n (pc := 15) hC dX0_laneByLane_15 rfl hL rfl (show _ = [(1, .int q1.1), (0, .ref 37)] from rfl) ?_
  refine R_aload_n (pc := 16) hC 1 dX0_laneByLane_16 rfl rfl ?_
  refine R_iconst (pc := 17) hC dX0_laneByLane_17 ki_0 ?_
  refine R_iload_n (pc := 18) hC 0 dX0_laneByLane_18 rfl rfl ?_
  obtain ⟨x2, hx2, hg⟩ := bind_some hg
  refine R_callV (pc := 19) (av := [.int 0, .int q1.1]) (rest := []) hC hR 37 (jx hn rfl) ly37 rfl mf_X0_poolWorthWith wm_X0_114 (LX0_poolWorthWith hn hx2) rfl rfl rfl (Nat.le_of_ble_eq_true rfl) dX0_laneByLane_19 rfl ?_
  show RX K 22 [(1, .int q1.1), (0, .ref 37)] [.int x2] q1.2
  refine R_istore_n (pc := 22) hC dX0_laneByLane_22 rfl hL rfl (show _ = [(2, .int x2), (1, .int q1.1), (0, .ref 37)] from rfl) ?_
  refine R_iconst (pc := 23) hC dX0_laneByLane_23 ki_0 ?_
  refine R_istore_n (pc := 24) hC dX0_laneByLane_24 rfl hL rfl (show _ = [(3, .int 0), (2, .int x2), (1, .int q1.1), (0, .ref 37)] from rfl) ?_
  refine R_pick [3, 2, 1, 0] (ls' := [(0, .ref 37), (1, .int q1.1), (2, .int x2), (3, .int 0)]) rfl ?_
  obtain ⟨e15, he15, hg⟩ := bind_some hg
  refine iter_walk (P := fun s : (Int32 × Int32 × Int32 × Mem) => RX K 25 [(0, .ref 37), (1, .int s.1), (2, .int s.2.1), (3, .int s.2.2.1)] [] s.2.2.2) (Qe := fun s : (Int32 × Int32 × Int32 × Mem) => RX K 111 [(0, .ref 37), (1, .int s.1), (2, .int s.2.1), (3, .int s.2.2.1)] [] s.2.2.2) (fun s16 o hg kL25 kE25 => ?_) _ _ _ he15 ?_
  · obtain ⟨y3, y4, y5, m6⟩ := s16
    rw [bX0_laneByLane_25] at hg
    show RX K 25 [(0, .ref 37), (1, .int y3), (2, .int y4), (3, .int y5)] [] m6
    refine R_iload_n (pc := 25) hC 3 dX0_laneByLane_25 rfl rfl ?_
    refine R_aload_n (pc := 26) hC 0 dX0_laneByLane_26 rfl rfl ?_
    refine gf_X0_9 (pc := 27) hC hn dX0_laneByLane_27 ?_
    refine gf_X0_76 (pc := 30) hC hn isv1 dX0_laneByLane_30 ?_
    refine R_icmp_ge (tgt := 111) (pc := 33) hC dX0_laneByLane_33 (by decide) (fun c => ?_) (fun c => ?_)
    · replace hg := (if_pos c).symm.trans hg
      refine R_pick [0, 1, 2, 3] (ls' := [(0, .ref 37), (1, .int y3), (2, .int y4), (3, .int y5)]) rfl ?_
      have h9 := kE25 _ (Option.some.inj hg).symm
      exact h9
    · replace hg := (if_neg c).symm.trans hg
      refine R_iload_n (pc := 36) hC 1 dX0_laneByLane_36 rfl rfl ?_
      refine R_iconst (pc := 37) hC dX0_laneByLane_37 ki_1 ?_
      refine R_icmp_le (tgt := 111) (pc := 38) hC dX0_laneByLane_38 (by decide) (fun c => ?_) (fun c => ?_)
      · replace hg := (if_pos c).symm.trans hg
        refine R_pick [0, 1, 2, 3] (ls' := [(0, .ref 37), (1, .int y3), (2, .int y4), (3, .int y5)]) rfl ?_
        have h9 := kE25 _ (Option.some.inj hg).symm
        exact h9
      · replace hg := (if_neg c).symm.trans hg
        refine R_aload_n (pc := 41) hC 0 dX0_laneByLane_41 rfl rfl ?_
        refine R_iconst (pc := 42) hC dX0_laneByLane_42 ki_1 ?_
        refine R_iload_n (pc := 43) hC 3 dX0_laneByLane_43 rfl rfl ?_
        refine R_ishl (pc := 44) hC dX0_laneByLane_44 ?_
        refine R_iload_n (pc := 45) hC 1 dX0_laneByLane_45 rfl rfl ?_
        obtain ⟨x7, hx7, hg⟩ := bind_some hg
        refine R_callV (pc := 46) (av := [.int ((1 : Int32) <<< (y5 &&& 31)), .int y3]) (rest := []) hC hR 37 (jx hn rfl) ly37 rfl mf_X0_poolWorthWith wm_X0_114 (LX0_poolWorthWith hn hx7) rfl rfl rfl (Nat.le_of_ble_eq_true rfl) dX0_laneByLane_46 rfl ?_
        show RX K 49 [(0, .ref 37), (1, .int y3), (2, .int y4), (3, .int y5)] [.int x7] m6
        refine R_istore (pc := 49) hC dX0_laneByLane_49 hL rfl (show _ = [(4, .int x7), (0, .ref 37), (1, .int y3), (2, .int y4), (3, .int y5)] from rfl) ?_
        refine R_iload (pc := 51) hC 0 dX0_laneByLane_51 rfl ?_
        refine R_iload_n (pc := 53) hC 3 dX0_laneByLane_53 rfl rfl ?_
        refine R_icmp_eq (tgt := 72) (pc := 54) hC dX0_laneByLane_54 (by decide) (fun c => ?_) (fun c => ?_)
        · replace hg := (if_pos c).symm.trans hg
          refine R_iconst (pc := 72) hC dX0_laneByLane_72 ki_1 ?_
          refine R_goto (tgt := 77) (pc := 73) hC dX0_laneByLane_73 (by decide) ?_
          refine R_istore (pc := 77) hC dX0_laneByLane_77 hL rfl (show _ = [(5, .int 1), (4, .int x7), (0, .ref 37), (1, .int y3), (2, .int y4), (3, .int y5)] from rfl) ?_
          refine R_aload_n (pc := 79) hC 2 dX0_laneByLane_79 rfl rfl ?_
          refine R_iconst (pc := 80) hC dX0_laneByLane_80 ki_1 ?_
          refine R_iload_n (pc := 81) hC 5 dX0_laneByLane_81 rfl rfl ?_
          refine R_ishl (pc := 82) hC dX0_laneByLane_82 ?_
          refine R_iload_n (pc := 83) hC 3 dX0_laneByLane_83 rfl rfl ?_
          refine R_iload (pc := 84) hC 0 dX0_laneByLane_84 rfl ?_
          obtain ⟨q8, hq8, hg⟩ := bind_some hg
          refine R_callV (pc := 86) (av := [.int ((1 : Int32) <<< (y5 &&& 31)), .int y3, .int (b2i true)]) (rest := []) hC hR 37 (jx hn rfl) ly37 rfl mf_X0_narrow wm_X0_118 (LX0_narrow hn hq8) rfl rfl rfl (Nat.le_of_ble_eq_true rfl) dX0_laneByLane_86 rfl ?_
          show RX K 89 [(5, .int 1), (4, .int x7), (0, .ref 37), (1, .int y3), (2, .int y4), (3, .int y5)] [.int q8.1] q8.2
          refine R_istore_n (pc := 89) hC dX0_laneByLane_89 rfl hL rfl (show _ = [(1, .int q8.1), (5, .int 1), (4, .int x7), (0, .ref 37), (2, .int y4), (3, .int y5)] from rfl) ?_
          refine R_iload (pc := 90) hC 1 dX0_laneByLane_90 rfl ?_
          refine R_if_eq (tgt := 100) (pc := 92) hC dX0_laneByLane_92 (by decide) (fun c => absurd c (by decide)) (fun c => ?_)
          refine R_iload (pc := 95) hC 2 dX0_laneByLane_95 rfl ?_
          refine R_goto (tgt := 104) (pc := 97) hC dX0_laneByLane_97 (by decide) ?_
          refine R_istore_n (pc := 104) hC dX0_laneByLane_104 rfl hL rfl (show _ = [(2, .int x7), (1, .int q8.1), (5, .int 1), (4, .int x7), (0, .ref 37), (3, .int y5)] from rfl) ?_
          refine R_iinc (pc := 105) hC 5 dX0_laneByLane_105 rfl (iv ki_1) hL rfl (show _ = [(3, .int (y5 + 1)), (2, .int x7), (1, .int q8.1), (5, .int 1), (4, .int x7), (0, .ref 37)] from rfl) ?_
          refine R_goto (tgt := 25) (pc := 108) hC dX0_laneByLane_108 (by decide) ?_
          refine R_pick [5, 2, 1, 0] (ls' := [(0, .ref 37), (1, .int q8.1), (2, .int x7), (3, .int (y5 + 1))]) rfl ?_
          have h9 := kL25 _ (Option.some.inj hg).symm
          exact h9
        · replace hg := (if_neg c).symm.trans hg
          refine R_iload (pc := 57) hC 0 dX0_laneByLane_57 rfl ?_
          refine R_if_le (tgt := 76) (pc := 59) hC dX0_laneByLane_59 (by decide) (fun c => ?_) (fun c => ?_)
          · replace hg := (if_pos c).symm.trans hg
            refine R_iconst (pc := 76) hC dX0_laneByLane_76 ki_0 ?_
            refine R_istore (pc := 77) hC dX0_laneByLane_77 hL rfl (show _ = [(5, .int 0), (4, .int x7), (0, .ref 37), (1, .int y3), (2, .int y4), (3, .int y5)] from rfl) ?_
            refine R_aload_n (pc := 79) hC 2 dX0_laneByLane_79 rfl rfl ?_
            refine R_iconst (pc := 80) hC dX0_laneByLane_80 ki_1 ?_
            refine R_iload_n (pc := 81) hC 5 dX0_laneByLane_81 rfl rfl ?_
            refine R_ishl (pc := 82) hC dX0_laneByLane_82 ?_
            refine R_iload_n (pc := 83) hC 3 dX0_laneByLane_83 rfl rfl ?_
            refine R_iload (pc := 84) hC 0 dX0_laneByLane_84 rfl ?_
            obtain ⟨q9, hq9, hg⟩ := bind_some hg
            refine R_callV (pc := 86) (av := [.int ((1 : Int32) <<< (y5 &&& 31)), .int y3, .int (b2i false)]) (rest := []) hC hR 37 (jx hn rfl) ly37 rfl mf_X0_narrow wm_X0_118 (LX0_narrow hn hq9) rfl rfl rfl (Nat.le_of_ble_eq_true rfl) dX0_laneByLane_86 rfl ?_
            show RX K 89 [(5, .int 0), (4, .int x7), (0, .ref 37), (1, .int y3), (2, .int y4), (3, .int y5)] [.int q9.1] q9.2
            refine R_istore_n (pc := 89) hC dX0_laneByLane_89 rfl hL rfl (show _ = [(1, .int q9.1), (5, .int 0), (4, .int x7), (0, .ref 37), (2, .int y4), (3, .int y5)] from rfl) ?_
            refine R_iload (pc := 90) hC 1 dX0_laneByLane_90 rfl ?_
            refine R_if_eq (tgt := 100) (pc := 92) hC dX0_laneByLane_92 (by decide) (fun c => ?_) (fun c => absurd c (by decide))
            refine R_iload_n (pc := 100) hC 4 dX0_laneByLane_100 rfl rfl ?_
            refine R_iload (pc := 101) hC 2 dX0_laneByLane_101 rfl ?_
            refine R_isub (pc := 103) hC dX0_laneByLane_103 ?_
            obtain ⟨x10, hx10, hg⟩ := lete_some hg
            refine R_top hx10 ?_
            refine R_istore_n (pc := 104) hC dX0_laneByLane_104 rfl hL rfl (show _ = [(2, .int x10), (1, .int q9.1), (5, .int 0), (4, .int x7), (0, .ref 37), (3, .int y5)] from rfl) ?_
            refine R_iinc (pc := 105) hC 5 dX0_laneByLane_105 rfl (iv ki_1) hL rfl (show _ = [(3, .int (y5 + 1)), (2, .int x10), (1, .int q9.1), (5, .int 0), (4, .int x7), (0, .ref 37)] from rfl) ?_
            refine R_goto (tgt := 25) (pc := 108) hC dX0_laneByLane_108 (by decide) ?_
            refine R_pick [5, 2, 1, 0] (ls' := [(0, .ref 37), (1, .int q9.1), (2, .int x10), (3, .int (y5 + 1))]) rfl ?_
            have h9 := kL25 _ (Option.some.inj hg).symm
            exact h9
          · replace hg := (if_neg c).symm.trans hg
            refine R_aload_n (pc := 62) hC 1 dX0_laneByLane_62 rfl rfl ?_
            refine R_iload_n (pc := 63) hC 3 dX0_laneByLane_63 rfl rfl ?_
            obtain ⟨q11, hq11, hg⟩ := bind_some hg
            refine R_callV (pc := 64) (av := [.int y4]) (rest := []) hC hR 37 (jx hn rfl) ly37 rfl mf_X0_below wm_X0_62 (LX0_below hn hq11) rfl rfl rfl (Nat.le_of_ble_eq_true rfl) dX0_laneByLane_64 rfl ?_
            show RX K 67 [(4, .int x7), (0, .ref 37), (1, .int y3), (2, .int y4), (3, .int y5)] [.int q11.1] q11.2
            refine R_iload (pc := 67) hC 0 dX0_laneByLane_67 rfl ?_
            refine R_icmp_ge (tgt := 76) (pc := 69) hC dX0_laneByLane_69 (by decide) (fun c => ?_) (fun c => ?_)
            · replace hg := (if_pos c).symm.trans hg
              refine R_iconst (pc := 76) hC dX0_laneByLane_76 ki_0 ?_
              refine R_istore (pc := 77) hC dX0_laneByLane_77 hL rfl (show _ = [(5, .int 0), (4, .int x7), (0, .ref 37), (1, .int y3), (2, .int y4), (3, .int y5)] from rfl) ?_
              refine R_aload_n (pc := 79) hC 2 dX0_laneByLane_79 rfl rfl ?_
              refine R_iconst (pc := 80) hC dX0_laneByLane_80 ki_1 ?_
              refine R_iload_n (pc := 81) hC 5 dX0_laneByLane_81 rfl rfl ?_
              refine R_ishl (pc := 82) hC dX0_laneByLane_82 ?_
              refine R_iload_n (pc := 83) hC 3 dX0_laneByLane_83 rfl rfl ?_
              refine R_iload (pc := 84) hC 0 dX0_laneByLane_84 rfl ?_
              obtain ⟨q12, hq12, hg⟩ := bind_some hg
              refine R_callV (pc := 86) (av := [.int ((1 : Int32) <<< (y5 &&& 31)), .int y3, .int (b2i false)]) (rest := []) hC hR 37 (jx hn rfl) ly37 rfl mf_X0_narrow wm_X0_118 (LX0_narrow hn hq12) rfl rfl rfl (Nat.le_of_ble_eq_true rfl) dX0_laneByLane_86 rfl ?_
              show RX K 89 [(5, .int 0), (4, .int x7), (0, .ref 37), (1, .int y3), (2, .int y4), (3, .int y5)] [.int q12.1] q12.2
              refine R_istore_n (pc := 89) hC dX0_laneByLane_89 rfl hL rfl (show _ = [(1, .int q12.1), (5, .int 0), (4, .int x7), (0, .ref 37), (2, .int y4), (3, .int y5)] from rfl) ?_
              refine R_iload (pc := 90) hC 1 dX0_laneByLane_90 rfl ?_
              refine R_if_eq (tgt := 100) (pc := 92) hC dX0_laneByLane_92 (by decide) (fun c => ?_) (fun c => absurd c (by decide))
              refine R_iload_n (pc := 100) hC 4 dX0_laneByLane_100 rfl rfl ?_
              refine R_iload (pc := 101) hC 2 dX0_laneByLane_101 rfl ?_
              refine R_isub (pc := 103) hC dX0_laneByLane_103 ?_
              obtain ⟨x13, hx13, hg⟩ := lete_some hg
              refine R_top hx13 ?_
              refine R_istore_n (pc := 104) hC dX0_laneByLane_104 rfl hL rfl (show _ = [(2, .int x13), (1, .int q12.1), (5, .int 0), (4, .int x7), (0, .ref 37), (3, .int y5)] from rfl) ?_
              refine R_iinc (pc := 105) hC 5 dX0_laneByLane_105 rfl (iv ki_1) hL rfl (show _ = [(3, .int (y5 + 1)), (2, .int x13), (1, .int q12.1), (5, .int 0), (4, .int x7), (0, .ref 37)] from rfl) ?_
              refine R_goto (tgt := 25) (pc := 108) hC dX0_laneByLane_108 (by decide) ?_
              refine R_pick [5, 2, 1, 0] (ls' := [(0, .ref 37), (1, .int q12.1), (2, .int x13), (3, .int (y5 + 1))]) rfl ?_
              have h9 := kL25 _ (Option.some.inj hg).symm
              exact h9
            · replace hg := (if_neg c).symm.trans hg
              refine R_iconst (pc := 72) hC dX0_laneByLane_72 ki_1 ?_
              refine R_goto (tgt := 77) (pc := 73) hC dX0_laneByLane_73 (by decide) ?_
              refine R_istore (pc := 77) hC dX0_laneByLane_77 hL rfl (show _ = [(5, .int 1), (4, .int x7), (0, .ref 37), (1, .int y3), (2, .int y4), (3, .int y5)] from rfl) ?_
              refine R_aload_n (pc := 79) hC 2 dX0_laneByLane_79 rfl rfl ?_
              refine R_iconst (pc := 80) hC dX0_laneByLane_80 ki_1 ?_
              refine R_iload_n (pc := 81) hC 5 dX0_laneByLane_81 rfl rfl ?_
              refine R_ishl (pc := 82) hC dX0_laneByLane_82 ?_
              refine R_iload_n (pc := 83) hC 3 dX0_laneByLane_83 rfl rfl ?_
              refine R_iload (pc := 84) hC 0 dX0_laneByLane_84 rfl ?_
              obtain ⟨q14, hq14, hg⟩ := bind_some hg
              refine R_callV (pc := 86) (av := [.int ((1 : Int32) <<< (y5 &&& 31)), .int y3, .int (b2i true)]) (rest := []) hC hR 37 (jx hn rfl) ly37 rfl mf_X0_narrow wm_X0_118 (LX0_narrow hn hq14) rfl rfl rfl (Nat.le_of_ble_eq_true rfl) dX0_laneByLane_86 rfl ?_
              show RX K 89 [(5, .int 1), (4, .int x7), (0, .ref 37), (1, .int y3), (2, .int y4), (3, .int y5)] [.int q14.1] q14.2
              refine R_istore_n (pc := 89) hC dX0_laneByLane_89 rfl hL rfl (show _ = [(1, .int q14.1), (5, .int 1), (4, .int x7), (0, .ref 37), (2, .int y4), (3, .int y5)] from rfl) ?_
              refine R_iload (pc := 90) hC 1 dX0_laneByLane_90 rfl ?_
              refine R_if_eq (tgt := 100) (pc := 92) hC dX0_laneByLane_92 (by decide) (fun c => absurd c (by decide)) (fun c => ?_)
              refine R_iload (pc := 95) hC 2 dX0_laneByLane_95 rfl ?_
              refine R_goto (tgt := 104) (pc := 97) hC dX0_laneByLane_97 (by decide) ?_
              refine R_istore_n (pc := 104) hC dX0_laneByLane_104 rfl hL rfl (show _ = [(2, .int x7), (1, .int q14.1), (5, .int 1), (4, .int x7), (0, .ref 37), (3, .int y5)] from rfl) ?_
              refine R_iinc (pc := 105) hC 5 dX0_laneByLane_105 rfl (iv ki_1) hL rfl (show _ = [(3, .int (y5 + 1)), (2, .int x7), (1, .int q14.1), (5, .int 1), (4, .int x7), (0, .ref 37)] from rfl) ?_
              refine R_goto (tgt := 25) (pc := 108) hC dX0_laneByLane_108 (by decide) ?_
              refine R_pick [5, 2, 1, 0] (ls' := [(0, .ref 37), (1, .int q14.1), (2, .int x7), (3, .int (y5 + 1))]) rfl ?_
              have h9 := kL25 _ (Option.some.inj hg).symm
              exact h9
  · show RX K 111 [(0, .ref 37), (1, .int e15.1), (2, .int e15.2.1), (3, .int e15.2.2.1)] [] e15.2.2.2
    refine R_iload_n (pc := 111) hC 1 dX0_laneByLane_111 rfl rfl ?_
    refine R_if_le (tgt := 124) (pc := 112) hC dX0_laneByLane_112 (by decide) (fun c => ?_) (fun c => ?_)
    · replace hg := (if_pos c).symm.trans hg
      refine R_bipush (pc := 124) hC dX0_laneByLane_124 kb_m9 ?_
      have h9 := gxIM hg
      exact R_ireturn (pc := 126) hC dX0_laneByLane_126 h9
    · replace hg := (if_neg c).symm.trans hg
      refine R_aload_n (pc := 115) hC 0 dX0_laneByLane_115 rfl rfl ?_
      refine gf_X0_34 (pc := 116) hC hn dX0_laneByLane_116 ?_
      refine R_iconst (pc := 119) hC dX0_laneByLane_119 ki_0 ?_
      obtain ⟨c17, hg⟩ := chk_some hg
      refine R_iaload (pc := 120) hC 40 (jx hn rfl) ly40 (inb_vp c17) dX0_laneByLane_120 ?_
      refine R_goto (tgt := 126) (pc := 121) hC dX0_laneByLane_121 (by decide) ?_
      have h9 := gxIM hg
      exact R_ireturn (pc := 126) hC dX0_laneByLane_126 h9
theorem dX0_makeNext_0 : decode cX0_makeNext 0 = .ok (.iload_n 1, 1) := by decide +kernel
theorem dX0_makeNext_1 : decode cX0_makeNext 1 = .ok (.tableswitch 108 0 5 #[39, 44, 49, 58, 66, 100], 39) := by decide +kernel
theorem dX0_makeNext_40 : decode cX0_makeNext 40 = .ok (.aload_n 0, 1) := by decide +kernel
theorem dX0_makeNext_41 : decode cX0_makeNext 41 = .ok (.invokevirtual 43, 3) := by decide +kernel
theorem dX0_makeNext_44 : decode cX0_makeNext 44 = .ok (.ireturn, 1) := by decide +kernel
theorem dX0_makeNext_45 : decode cX0_makeNext 45 = .ok (.aload_n 0, 1) := by decide +kernel
theorem dX0_makeNext_46 : decode cX0_makeNext 46 = .ok (.invokevirtual 47, 3) := by decide +kernel
theorem dX0_makeNext_49 : decode cX0_makeNext 49 = .ok (.ireturn, 1) := by decide +kernel
theorem dX0_makeNext_50 : decode cX0_makeNext 50 = .ok (.aload_n 0, 1) := by decide +kernel
theorem dX0_makeNext_51 : decode cX0_makeNext 51 = .ok (.getfield 15, 3) := by decide +kernel
theorem dX0_makeNext_54 : decode cX0_makeNext 54 = .ok (.iconst 0, 1) := by decide +kernel
theorem dX0_makeNext_55 : decode cX0_makeNext 55 = .ok (.invokevirtual 50, 3) := by decide +kernel
theorem dX0_makeNext_58 : decode cX0_makeNext 58 = .ok (.ireturn, 1) := by decide +kernel
theorem dX0_makeNext_59 : decode cX0_makeNext 59 = .ok (.aload_n 0, 1) := by decide +kernel
theorem dX0_makeNext_60 : decode cX0_makeNext 60 = .ok (.getfield 15, 3) := by decide +kernel
theorem dX0_makeNext_63 : decode cX0_makeNext 63 = .ok (.invokevirtual 56, 3) := by decide +kernel
theorem dX0_makeNext_66 : decode cX0_makeNext 66 = .ok (.ireturn, 1) := by decide +kernel
theorem dX0_makeNext_67 : decode cX0_makeNext 67 = .ok (.aload_n 0, 1) := by decide +kernel
theorem dX0_makeNext_68 : decode cX0_makeNext 68 = .ok (.getfield 15, 3) := by decide +kernel
theorem dX0_makeNext_71 : decode cX0_makeNext 71 = .ok (.getfield 59, 3) := by decide +kernel
theorem dX0_makeNext_74 : decode cX0_makeNext 74 = .ok (.ifCond .ne 8, 3) := by decide +kernel
theorem dX0_makeNext_77 : decode cX0_makeNext 77 = .ok (.bipush (-9), 2) := by decide +kernel
theorem dX0_makeNext_79 : decode cX0_makeNext 79 = .ok (.goto 21, 3) := by decide +kernel
theorem dX0_makeNext_82 : decode cX0_makeNext 82 = .ok (.aload_n 0, 1) := by decide +kernel
theorem dX0_makeNext_83 : decode cX0_makeNext 83 = .ok (.getfield 15, 3) := by decide +kernel
theorem dX0_makeNext_86 : decode cX0_makeNext 86 = .ok (.aload_n 0, 1) := by decide +kernel
theorem dX0_makeNext_87 : decode cX0_makeNext 87 = .ok (.aload_n 0, 1) := by decide +kernel
theorem dX0_makeNext_88 : decode cX0_makeNext 88 = .ok (.getfield 15, 3) := by decide +kernel
theorem dX0_makeNext_91 : decode cX0_makeNext 91 = .ok (.getfield 59, 3) := by decide +kernel
theorem dX0_makeNext_94 : decode cX0_makeNext 94 = .ok (.invokevirtual 62, 3) := by decide +kernel
theorem dX0_makeNext_97 : decode cX0_makeNext 97 = .ok (.invokevirtual 65, 3) := by decide +kernel
theorem dX0_makeNext_100 : decode cX0_makeNext 100 = .ok (.ireturn, 1) := by decide +kernel
theorem dX0_makeNext_101 : decode cX0_makeNext 101 = .ok (.aload_n 0, 1) := by decide +kernel
theorem dX0_makeNext_102 : decode cX0_makeNext 102 = .ok (.getfield 19, 3) := by decide +kernel
theorem dX0_makeNext_105 : decode cX0_makeNext 105 = .ok (.invokevirtual 68, 3) := by decide +kernel
theorem dX0_makeNext_108 : decode cX0_makeNext 108 = .ok (.ireturn, 1) := by decide +kernel
theorem dX0_makeNext_109 : decode cX0_makeNext 109 = .ok (.bipush (-9), 2) := by decide +kernel
theorem dX0_makeNext_111 : decode cX0_makeNext 111 = .ok (.ireturn, 1) := by decide +kernel
def gX0_makeNext (F : Nat) (m : Mem) (a1 : Int32) : Option (Int32 × Mem) := (if a1 = 0 then (gX0_walkAbout F m).bind (fun q2 => some (q2.1, q2.2)) else (if a1 = 1 then (gX0_laneByLane F m).bind (fun q4 => some (q4.1, q4.2)) else (if a1 = 2 then (gX7_bitsByCost F m 0).bind (fun q6 => some (q6.1, q6.2)) else (if a1 = 3 then (gX7_dearest F m).bind (fun q8 => some (q8.1, q8.2)) else (if a1 = 4 then (if (m.1 26 2) = 0 then some ((-9), m) else (gX0_below m (m.1 26 2)).bind (fun q10 => (gX7_at q10.2 q10.1).bind (fun x11 => some (x11, q10.2)))) else (if a1 = 5 then (gX5_asWay F m).bind (fun x13 => some (x13, m)) else some ((-9), m)))))))
set_option maxHeartbeats 4000000 in
set_option maxRecDepth 20000 in
theorem LX0_makeNext {n : Nat} {F : Nat} {m : Mem} {a1 : Int32} {r : Int32 × Mem} (hn : 43 ≤ n) (hg : gX0_makeNext F m a1 = some r) : MX yX0_makeNext cX0_makeNext 2 (some .int) { frames := 4, cells := 0, slots := 0, locals := 86 } n [.ref 37, .int a1] m (some (.int r.1)) r.2 := by
  refine MX_of (by decide) (Nat.le_of_ble_eq_true rfl) (Or.inr (Or.inl ⟨rfl, _, rfl⟩)) (fun K hC hk hL hR => ?_)
  replace hn : 43 ≤ kn K := hk.symm ▸ hn
  show RX K 0 [(0, .ref 37), (1, .int a1)] [] m
  rw [gX0_makeNext] at hg
  refine R_iload_n (pc := 0) hC 1 dX0_makeNext_0 rfl rfl ?_
  by_cases c1 : a1 = 0
  · replace hg := (if_pos c1).symm.trans hg
    refine R_top c1 ?_
    refine R_tableIn (tgt := 40) (x := 0) (pc := 1) hC dX0_makeNext_1 (by decide) (by decide) (by rfl) (by decide) ?_
    refine R_aload_n (pc := 40) hC 0 dX0_makeNext_40 rfl rfl ?_
    obtain ⟨q2, hq2, hg⟩ := bind_some hg
    refine R_callV (pc := 41) (av := []) (rest := []) hC hR 37 (jx hn rfl) ly37 rfl mf_X0_walkAbout wm_X0_43 (LX0_walkAbout hn hq2) rfl rfl rfl (Nat.le_of_ble_eq_true rfl) dX0_makeNext_41 rfl ?_
    show RX K 44 [(0, .ref 37), (1, .int a1)] [.int q2.1] q2.2
    have h9 := gxIM hg
    exact R_ireturn (pc := 44) hC dX0_makeNext_44 h9
  replace hg := (if_neg c1).symm.trans hg
  by_cases c3 : a1 = 1
  · replace hg := (if_pos c3).symm.trans hg
    refine R_top c3 ?_
    refine R_tableIn (tgt := 45) (x := 1) (pc := 1) hC dX0_makeNext_1 (by decide) (by decide) (by rfl) (by decide) ?_
    refine R_aload_n (pc := 45) hC 0 dX0_makeNext_45 rfl rfl ?_
    obtain ⟨q4, hq4, hg⟩ := bind_some hg
    refine R_callV (pc := 46) (av := []) (rest := []) hC hR 37 (jx hn rfl) ly37 rfl mf_X0_laneByLane wm_X0_47 (LX0_laneByLane hn hq4) rfl rfl rfl (Nat.le_of_ble_eq_true rfl) dX0_makeNext_46 rfl ?_
    show RX K 49 [(0, .ref 37), (1, .int a1)] [.int q4.1] q4.2
    have h9 := gxIM hg
    exact R_ireturn (pc := 49) hC dX0_makeNext_49 h9
  replace hg := (if_neg c3).symm.trans hg
  by_cases c5 : a1 = 2
  · replace hg := (if_pos c5).symm.trans hg
    refine R_top c5 ?_
    refine R_tableIn (tgt := 50) (x := 2) (pc := 1) hC dX0_makeNext_1 (by decide) (by decide) (by rfl) (by decide) ?_
    refine R_aload_n (pc := 50) hC 0 dX0_makeNext_50 rfl rfl ?_
    refine gf_X0_15 (pc := 51) hC hn dX0_makeNext_51 ?_
    refine R_iconst (pc := 54) hC dX0_makeNext_54 ki_0 ?_
    obtain ⟨q6, hq6, hg⟩ := bind_some hg
    refine R_callVN (pc := 55) (av := [.int 0]) (rest := []) hC hR 26 (jx hn rfl) ly26 rfl mf_X7_bitsByCost wm_X0_50 (LX7_bitsByCost hn hq6) rfl rfl rfl (Nat.le_of_ble_eq_true rfl) dX0_makeNext_55 rfl ?_
    show RX K 58 [(0, .ref 37), (1, .int a1)] [.int q6.1] q6.2
    have h9 := gxIM hg
    exact R_ireturn (pc := 58) hC dX0_makeNext_58 h9
  replace hg := (if_neg c5).symm.trans hg
  by_cases c7 : a1 = 3
  · replace hg := (if_pos c7).symm.trans hg
    refine R_top c7 ?_
    refine R_tableIn (tgt := 59) (x := 3) (pc := 1) hC dX0_makeNext_1 (by decide) (by decide) (by rfl) (by decide) ?_
    refine R_aload_n (pc := 59) hC 0 dX0_makeNext_59 rfl rfl ?_
    refine gf_X0_15 (pc := 60) hC hn dX0_makeNext_60 ?_
    obtain ⟨q8, hq8, hg⟩ := bind_some hg
    refine R_callVN (pc := 63) (av := []) (rest := []) hC hR 26 (jx hn rfl) ly26 rfl mf_X7_dearest wm_X0_56 (LX7_dearest hn hq8) rfl rfl rfl (Nat.le_of_ble_eq_true rfl) dX0_makeNext_63 rfl ?_
    show RX K 66 [(0, .ref 37), (1, .int a1)] [.int q8.1] q8.2
    have h9 := gxIM hg
    exact R_ireturn (pc := 66) hC dX0_makeNext_66 h9
  replace hg := (if_neg c7).symm.trans hg
  by_cases c9 : a1 = 4
  · replace hg := (if_pos c9).symm.trans hg
    refine R_top c9 ?_
    refine R_tableIn (tgt := 67) (x := 4) (pc := 1) hC dX0_makeNext_1 (by decide) (by decide) (by rfl) (by decide) ?_
    refine R_aload_n (pc := 67) hC 0 dX0_makeNext_67 rfl rfl ?_
    refine gf_X0_15 (pc := 68) hC hn dX0_makeNext_68 ?_
    refine gf_X0_59 (pc := 71) hC hn dX0_makeNext_71 ?_
    refine R_if_ne (tgt := 82) (pc := 74) hC dX0_makeNext_74 (by decide) (fun c => ?_) (fun c => ?_)
    · replace hg := (if_neg c).symm.trans hg
      refine R_aload_n (pc := 82) hC 0 dX0_makeNext_82 rfl rfl ?_
      refine gf_X0_15 (pc := 83) hC hn dX0_makeNext_83 ?_
      refine R_aload_n (pc := 86) hC 0 dX0_makeNext_86 rfl rfl ?_
      refine R_aload_n (pc := 87) hC 0 dX0_makeNext_87 rfl rfl ?_
      refine gf_X0_15 (pc := 88) hC hn dX0_makeNext_88 ?_
      refine gf_X0_59 (pc := 91) hC hn dX0_makeNext_91 ?_
      obtain ⟨q10, hq10, hg⟩ := bind_some hg
      refine R_callV (pc := 94) (av := [.int (m.1 26 2)]) (rest := [.ref 26]) hC hR 37 (jx hn rfl) ly37 rfl mf_X0_below wm_X0_62 (LX0_below hn hq10) rfl rfl rfl (Nat.le_of_ble_eq_true rfl) dX0_makeNext_94 rfl ?_
      show RX K 97 [(0, .ref 37), (1, .int a1)] [.int q10.1, .ref 26] q10.2
      obtain ⟨x11, hx11, hg⟩ := bind_some hg
      refine R_callVN (pc := 97) (av := [.int q10.1]) (rest := []) hC hR 26 (jx hn rfl) ly26 rfl mf_X7_at wm_X0_65 (LX7_at hn hx11) rfl rfl rfl (Nat.le_of_ble_eq_true rfl) dX0_makeNext_97 rfl ?_
      show RX K 100 [(0, .ref 37), (1, .int a1)] [.int x11] q10.2
      have h9 := gxIM hg
      exact R_ireturn (pc := 100) hC dX0_makeNext_100 h9
    · replace hg := (if_pos c).symm.trans hg
      refine R_bipush (pc := 77) hC dX0_makeNext_77 kb_m9 ?_
      refine R_goto (tgt := 100) (pc := 79) hC dX0_makeNext_79 (by decide) ?_
      have h9 := gxIM hg
      exact R_ireturn (pc := 100) hC dX0_makeNext_100 h9
  replace hg := (if_neg c9).symm.trans hg
  by_cases c12 : a1 = 5
  · replace hg := (if_pos c12).symm.trans hg
    refine R_top c12 ?_
    refine R_tableIn (tgt := 101) (x := 5) (pc := 1) hC dX0_makeNext_1 (by decide) (by decide) (by rfl) (by decide) ?_
    refine R_aload_n (pc := 101) hC 0 dX0_makeNext_101 rfl rfl ?_
    refine gf_X0_19 (pc := 102) hC hn dX0_makeNext_102 ?_
    obtain ⟨x13, hx13, hg⟩ := bind_some hg
    refine R_callVN (pc := 105) (av := []) (rest := []) hC hR 35 (jx hn rfl) ly35 rfl mf_X5_asWay wm_X0_68 (LX5_asWay hn hx13) rfl rfl rfl (Nat.le_of_ble_eq_true rfl) dX0_makeNext_105 rfl ?_
    show RX K 108 [(0, .ref 37), (1, .int a1)] [.int x13] m
    have h9 := gxIM hg
    exact R_ireturn (pc := 108) hC dX0_makeNext_108 h9
  replace hg := (if_neg c12).symm.trans hg
  refine R_tableOut (tgt := 109) (pc := 1) hC dX0_makeNext_1 (tab_out (fun k hk => ?_)) (by decide) ?_
  · have h9 : k = 0 ∨ k = 1 ∨ k = 2 ∨ k = 3 ∨ k = 4 ∨ k = 5 := by omega
    rcases h9 with rfl | rfl | rfl | rfl | rfl | rfl
    · exact i32_ne c1 (by decide)
    · exact i32_ne c3 (by decide)
    · exact i32_ne c5 (by decide)
    · exact i32_ne c7 (by decide)
    · exact i32_ne c9 (by decide)
    · exact i32_ne c12 (by decide)
  refine R_bipush (pc := 109) hC dX0_makeNext_109 kb_m9 ?_
  have h9 := gxIM hg
  exact R_ireturn (pc := 111) hC dX0_makeNext_111 h9
