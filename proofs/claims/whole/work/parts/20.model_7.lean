theorem dX9_judge_0 : decode cX9_judge 0 = .ok (.aload_n 0, 1) := by decide +kernel
theorem dX9_judge_1 : decode cX9_judge 1 = .ok (.getfield 283, 3) := by decide +kernel
theorem dX9_judge_4 : decode cX9_judge 4 = .ok (.istore_n 1, 1) := by decide +kernel
theorem dX9_judge_5 : decode cX9_judge 5 = .ok (.aload_n 0, 1) := by decide +kernel
theorem dX9_judge_6 : decode cX9_judge 6 = .ok (.iconst 0, 1) := by decide +kernel
theorem dX9_judge_7 : decode cX9_judge 7 = .ok (.putfield 283, 3) := by decide +kernel
theorem dX9_judge_10 : decode cX9_judge 10 = .ok (.iconst 0, 1) := by decide +kernel
theorem dX9_judge_11 : decode cX9_judge 11 = .ok (.istore_n 2, 1) := by decide +kernel
theorem dX9_judge_12 : decode cX9_judge 12 = .ok (.iconst 0, 1) := by decide +kernel
theorem dX9_judge_13 : decode cX9_judge 13 = .ok (.istore_n 3, 1) := by decide +kernel
theorem dX9_judge_14 : decode cX9_judge 14 = .ok (.iload_n 3, 1) := by decide +kernel
theorem dX9_judge_15 : decode cX9_judge 15 = .ok (.iload_n 1, 1) := by decide +kernel
theorem dX9_judge_16 : decode cX9_judge 16 = .ok (.if_icmp .ge 112, 3) := by decide +kernel
theorem dX9_judge_19 : decode cX9_judge 19 = .ok (.aload_n 0, 1) := by decide +kernel
theorem dX9_judge_20 : decode cX9_judge 20 = .ok (.getfield 72, 3) := by decide +kernel
theorem dX9_judge_23 : decode cX9_judge 23 = .ok (.iload_n 3, 1) := by decide +kernel
theorem dX9_judge_24 : decode cX9_judge 24 = .ok (.iaload, 1) := by decide +kernel
theorem dX9_judge_25 : decode cX9_judge 25 = .ok (.istore 4, 2) := by decide +kernel
theorem dX9_judge_27 : decode cX9_judge 27 = .ok (.aload_n 0, 1) := by decide +kernel
theorem dX9_judge_28 : decode cX9_judge 28 = .ok (.iload 4, 2) := by decide +kernel
theorem dX9_judge_30 : decode cX9_judge 30 = .ok (.invokevirtual 122, 3) := by decide +kernel
theorem dX9_judge_33 : decode cX9_judge 33 = .ok (.ifCond .eq 27, 3) := by decide +kernel
theorem dX9_judge_36 : decode cX9_judge 36 = .ok (.aload_n 0, 1) := by decide +kernel
theorem dX9_judge_37 : decode cX9_judge 37 = .ok (.getfield 31, 3) := by decide +kernel
theorem dX9_judge_40 : decode cX9_judge 40 = .ok (.iload 4, 2) := by decide +kernel
theorem dX9_judge_42 : decode cX9_judge 42 = .ok (.iaload, 1) := by decide +kernel
theorem dX9_judge_43 : decode cX9_judge 43 = .ok (.iconst 2, 1) := by decide +kernel
theorem dX9_judge_44 : decode cX9_judge 44 = .ok (.if_icmp .eq 16, 3) := by decide +kernel
theorem dX9_judge_47 : decode cX9_judge 47 = .ok (.iload_n 2, 1) := by decide +kernel
theorem dX9_judge_48 : decode cX9_judge 48 = .ok (.iload 4, 2) := by decide +kernel
theorem dX9_judge_50 : decode cX9_judge 50 = .ok (.ishr, 1) := by decide +kernel
theorem dX9_judge_51 : decode cX9_judge 51 = .ok (.iconst 1, 1) := by decide +kernel
theorem dX9_judge_52 : decode cX9_judge 52 = .ok (.iand, 1) := by decide +kernel
theorem dX9_judge_53 : decode cX9_judge 53 = .ok (.ifCond .ne 7, 3) := by decide +kernel
theorem dX9_judge_56 : decode cX9_judge 56 = .ok (.iconst 1, 1) := by decide +kernel
theorem dX9_judge_57 : decode cX9_judge 57 = .ok (.goto 4, 3) := by decide +kernel
theorem dX9_judge_60 : decode cX9_judge 60 = .ok (.iconst 0, 1) := by decide +kernel
theorem dX9_judge_61 : decode cX9_judge 61 = .ok (.istore 5, 2) := by decide +kernel
theorem dX9_judge_63 : decode cX9_judge 63 = .ok (.iload 5, 2) := by decide +kernel
theorem dX9_judge_65 : decode cX9_judge 65 = .ok (.ifCond .eq 43, 3) := by decide +kernel
theorem dX9_judge_68 : decode cX9_judge 68 = .ok (.aload_n 0, 1) := by decide +kernel
theorem dX9_judge_69 : decode cX9_judge 69 = .ok (.iload_n 2, 1) := by decide +kernel
theorem dX9_judge_70 : decode cX9_judge 70 = .ok (.invokevirtual 168, 3) := by decide +kernel
theorem dX9_judge_73 : decode cX9_judge 73 = .ok (.pop, 1) := by decide +kernel
theorem dX9_judge_74 : decode cX9_judge 74 = .ok (.aload_n 0, 1) := by decide +kernel
theorem dX9_judge_75 : decode cX9_judge 75 = .ok (.getfield 53, 3) := by decide +kernel
theorem dX9_judge_78 : decode cX9_judge 78 = .ok (.aload_n 0, 1) := by decide +kernel
theorem dX9_judge_79 : decode cX9_judge 79 = .ok (.getfield 16, 3) := by decide +kernel
theorem dX9_judge_82 : decode cX9_judge 82 = .ok (.iload 4, 2) := by decide +kernel
theorem dX9_judge_84 : decode cX9_judge 84 = .ok (.iaload, 1) := by decide +kernel
theorem dX9_judge_85 : decode cX9_judge 85 = .ok (.iaload, 1) := by decide +kernel
theorem dX9_judge_86 : decode cX9_judge 86 = .ok (.aload_n 0, 1) := by decide +kernel
theorem dX9_judge_87 : decode cX9_judge 87 = .ok (.getfield 53, 3) := by decide +kernel
theorem dX9_judge_90 : decode cX9_judge 90 = .ok (.aload_n 0, 1) := by decide +kernel
theorem dX9_judge_91 : decode cX9_judge 91 = .ok (.getfield 19, 3) := by decide +kernel
theorem dX9_judge_94 : decode cX9_judge 94 = .ok (.iload 4, 2) := by decide +kernel
theorem dX9_judge_96 : decode cX9_judge 96 = .ok (.iaload, 1) := by decide +kernel
theorem dX9_judge_97 : decode cX9_judge 97 = .ok (.iaload, 1) := by decide +kernel
theorem dX9_judge_98 : decode cX9_judge 98 = .ok (.if_icmp .eq 7, 3) := by decide +kernel
theorem dX9_judge_101 : decode cX9_judge 101 = .ok (.iconst 1, 1) := by decide +kernel
theorem dX9_judge_102 : decode cX9_judge 102 = .ok (.goto 4, 3) := by decide +kernel
theorem dX9_judge_105 : decode cX9_judge 105 = .ok (.iconst 0, 1) := by decide +kernel
theorem dX9_judge_106 : decode cX9_judge 106 = .ok (.istore 5, 2) := by decide +kernel
theorem dX9_judge_108 : decode cX9_judge 108 = .ok (.iload 5, 2) := by decide +kernel
theorem dX9_judge_110 : decode cX9_judge 110 = .ok (.ifCond .ne 5, 3) := by decide +kernel
theorem dX9_judge_113 : decode cX9_judge 113 = .ok (.iload_n 3, 1) := by decide +kernel
theorem dX9_judge_114 : decode cX9_judge 114 = .ok (.ireturn, 1) := by decide +kernel
theorem dX9_judge_115 : decode cX9_judge 115 = .ok (.iload_n 2, 1) := by decide +kernel
theorem dX9_judge_116 : decode cX9_judge 116 = .ok (.iconst 1, 1) := by decide +kernel
theorem dX9_judge_117 : decode cX9_judge 117 = .ok (.iload 4, 2) := by decide +kernel
theorem dX9_judge_119 : decode cX9_judge 119 = .ok (.ishl, 1) := by decide +kernel
theorem dX9_judge_120 : decode cX9_judge 120 = .ok (.ior, 1) := by decide +kernel
theorem dX9_judge_121 : decode cX9_judge 121 = .ok (.istore_n 2, 1) := by decide +kernel
theorem dX9_judge_122 : decode cX9_judge 122 = .ok (.iinc 3 1, 3) := by decide +kernel
theorem dX9_judge_125 : decode cX9_judge 125 = .ok (.goto (-111), 3) := by decide +kernel
theorem dX9_judge_128 : decode cX9_judge 128 = .ok (.aload_n 0, 1) := by decide +kernel
theorem dX9_judge_129 : decode cX9_judge 129 = .ok (.iload_n 2, 1) := by decide +kernel
theorem dX9_judge_130 : decode cX9_judge 130 = .ok (.invokevirtual 186, 3) := by decide +kernel
theorem dX9_judge_133 : decode cX9_judge 133 = .ok (.ifCond .eq 8, 3) := by decide +kernel
theorem dX9_judge_136 : decode cX9_judge 136 = .ok (.bipush (-9), 2) := by decide +kernel
theorem dX9_judge_138 : decode cX9_judge 138 = .ok (.goto 4, 3) := by decide +kernel
theorem dX9_judge_141 : decode cX9_judge 141 = .ok (.iload_n 1, 1) := by decide +kernel
theorem dX9_judge_142 : decode cX9_judge 142 = .ok (.ireturn, 1) := by decide +kernel
def bX9_judge_14 (F : Nat) (x1 : Int32) : (Int32 × Int32 × Mem) → Option ((Int32 × Int32 × Mem) ⊕ ((Int32 × Int32 × Mem) ⊕ (Int32 × Mem)))
  | (y3, y4, m5) => (if x1 ≤ y4 then some (.inr (.inl (y3, y4, m5))) else chk (inb y4 10) (lete (m5.1 63 (Int32.toNatClampNeg y4)) (fun x7 => (gX9_isLane m5 x7).bind (fun x8 => (if x8 = true then chk (inb x7 11) ((if (m5.1 51 (Int32.toNatClampNeg x7)) = 2 then some (.inr (.inr (y4, m5))) else (if ((y3 >>> (x7 &&& 31)) &&& 1) = 0 then (gX9_partsOf F m5 y3).bind (fun q10 => chk (inb x7 11) (chk (inb (q10.2.1 46 (Int32.toNatClampNeg x7)) 7) (chk (inb x7 11) (chk (inb (q10.2.1 47 (Int32.toNatClampNeg x7)) 7) ((if (q10.2.1 57 (Int32.toNatClampNeg (q10.2.1 46 (Int32.toNatClampNeg x7)))) = (q10.2.1 57 (Int32.toNatClampNeg (q10.2.1 47 (Int32.toNatClampNeg x7)))) then some (.inr (.inr (y4, q10.2))) else lete (y3 ||| ((1 : Int32) <<< (x7 &&& 31))) (fun x15 => some (.inl (x15, y4 + 1, q10.2))))))))) else some (.inr (.inr (y4, m5)))))) else some (.inr (.inr (y4, m5))))))))
def gX9_judge (F : Nat) (m : Mem) : Option (Int32 × Mem) := lete (m.1 43 34) (fun x1 => lete (mu m 43 34 0) (fun m2 => (iter F (bX9_judge_14 F x1) (0, 0, m2)).bind (fun e16 => Sum.elim (fun s18 => (gX9_isWay F s18.2.2 s18.1).bind (fun q19 => (if q19.1 = true then some ((-9), q19.2) else some (x1, q19.2)))) (fun q => some q) e16)))
set_option maxHeartbeats 4000000 in
set_option maxRecDepth 20000 in
theorem LX9_judge {n : Nat} {F : Nat} {m : Mem} {r : Int32 × Mem} (hn64 : 64 ≤ n) (hg : gX9_judge F m  = some r) : MX yX9_judge cX9_judge 6 (some .int) { frames := 3, cells := 0, slots := 0, locals := 69 } n [.ref 43] m (some (.int r.1)) r.2 := by
  refine MX_of (by decide) (Nat.le_of_ble_eq_true rfl) (Or.inr (Or.inl ⟨rfl, _, rfl⟩)) (fun K hC hk hL hR => ?_)
  replace hn64 : 64 ≤ kn K := hk.symm ▸ hn64
  show RX K 0 [(0, .ref 43)] [] m
  rw [gX9_judge] at hg
  refine R_aload_n (pc := 0) hC 0 dX9_judge_0 rfl rfl ?_
  refine gf_X9_283 (pc := 1) hC hn64 dX9_judge_1 ?_
  obtain ⟨x1, hx1, hg⟩ := lete_some hg
  refine R_top hx1 ?_
  refine R_istore_n (pc := 4) hC dX9_judge_4 rfl hL rfl (show _ = [(1, .int x1), (0, .ref 43)] from rfl) ?_
  refine R_aload_n (pc := 5) hC 1 dX9_judge_5 rfl rfl ?_
  refine R_iconst (pc := 6) hC dX9_judge_6 ki_0 ?_
  obtain ⟨m2, hm2, hg⟩ := lete_some hg
  refine pf_X9_283 (pc := 7) hC hn64 dX9_judge_7 ?_
  refine R_mem hm2 ?_
  refine R_iconst (pc := 10) hC dX9_judge_10 ki_0 ?_
  refine R_istore_n (pc := 11) hC dX9_judge_11 rfl hL rfl (show _ = [(2, .int 0), (1, .int x1), (0, .ref 43)] from rfl) ?_
  refine R_iconst (pc := 12) hC dX9_judge_12 ki_0 ?_
  refine R_istore_n (pc := 13) hC dX9_judge_13 rfl hL rfl (show _ = [(3, .int 0), (2, .int 0), (1, .int x1), (0, .ref 43)] from rfl) ?_
  refine R_pick [3, 2, 1, 0] (ls' := [(0, .ref 43), (1, .int x1), (2, .int 0), (3, .int 0)]) rfl ?_
  obtain ⟨e16, he16, hg⟩ := bind_some hg
  refine iter_walk (P := fun s : (Int32 × Int32 × Mem) => RX K 14 [(0, .ref 43), (1, .int x1), (2, .int s.1), (3, .int s.2.1)] [] s.2.2) (Qe := Sum.elim (fun s : (Int32 × Int32 × Mem) => RX K 128 [(0, .ref 43), (1, .int x1), (2, .int s.1), (3, .int s.2.1)] [] s.2.2) (fun q : Int32 × Mem => GX (some (.int r.1)) r.2 (some (.int q.1)) q.2)) (fun s17 o hg kL14 kE14 => ?_) _ _ _ he16 ?_
  · obtain ⟨y3, y4, m5⟩ := s17
    rw [bX9_judge_14] at hg
    show RX K 14 [(0, .ref 43), (1, .int x1), (2, .int y3), (3, .int y4)] [] m5
    refine R_iload_n (pc := 14) hC 3 dX9_judge_14 rfl rfl ?_
    refine R_iload_n (pc := 15) hC 1 dX9_judge_15 rfl rfl ?_
    refine R_icmp_ge (tgt := 128) (pc := 16) hC dX9_judge_16 (by decide) (fun c => ?_) (fun c => ?_)
    · replace hg := (if_pos c).symm.trans hg
      refine R_pick [0, 1, 2, 3] (ls' := [(0, .ref 43), (1, .int x1), (2, .int y3), (3, .int y4)]) rfl ?_
      have h9 := kE14 _ (Option.some.inj hg).symm
      exact h9
    · replace hg := (if_neg c).symm.trans hg
      refine R_aload_n (pc := 19) hC 0 dX9_judge_19 rfl rfl ?_
      refine gf_X9_72 (pc := 20) hC hn64 dX9_judge_20 ?_
      refine R_iload_n (pc := 23) hC 3 dX9_judge_23 rfl rfl ?_
      obtain ⟨c6, hg⟩ := chk_some hg
      refine R_iaload (pc := 24) hC 63 (jx hn64 rfl) ly63 (inb_vp c6) dX9_judge_24 ?_
      obtain ⟨x7, hx7, hg⟩ := lete_some hg
      refine R_top hx7 ?_
      refine R_istore (pc := 25) hC dX9_judge_25 hL rfl (show _ = [(4, .int x7), (0, .ref 43), (1, .int x1), (2, .int y3), (3, .int y4)] from rfl) ?_
      refine R_aload_n (pc := 27) hC 1 dX9_judge_27 rfl rfl ?_
      refine R_iload (pc := 28) hC 0 dX9_judge_28 rfl ?_
      obtain ⟨x8, hx8, hg⟩ := bind_some hg
      refine R_callV (pc := 30) (av := [.int x7]) (rest := []) hC hR 43 (jx hn64 rfl) ly43 rfl mf_X9_isLane wm_X9_122 (LX9_isLane hn64 hx8) rfl rfl rfl (Nat.le_of_ble_eq_true rfl) dX9_judge_30 rfl ?_
      show RX K 33 [(4, .int x7), (0, .ref 43), (1, .int x1), (2, .int y3), (3, .int y4)] [.int (b2i x8)] m5
      refine R_ifB_eq (tgt := 60) (pc := 33) hC dX9_judge_33 (by decide) (fun c => ?_) (fun c => ?_)
      · replace hg := (if_neg c).symm.trans hg
        refine R_iconst (pc := 60) hC dX9_judge_60 ki_0 ?_
        refine R_istore (pc := 61) hC dX9_judge_61 hL rfl (show _ = [(5, .int 0), (4, .int x7), (0, .ref 43), (1, .int x1), (2, .int y3), (3, .int y4)] from rfl) ?_
        refine R_iload (pc := 63) hC 0 dX9_judge_63 rfl ?_
        refine R_if_eq (tgt := 108) (pc := 65) hC dX9_judge_65 (by decide) (fun c => ?_) (fun c => absurd c (by decide))
        refine R_iload (pc := 108) hC 0 dX9_judge_108 rfl ?_
        refine R_if_ne (tgt := 115) (pc := 110) hC dX9_judge_110 (by decide) (fun c => absurd c (by decide)) (fun c => ?_)
        refine R_iload_n (pc := 113) hC 5 dX9_judge_113 rfl rfl ?_
        have h9 := kE14 _ (Option.some.inj hg).symm
        exact R_ireturn (pc := 114) hC dX9_judge_114 h9
      · replace hg := (if_pos c).symm.trans hg
        refine R_aload_n (pc := 36) hC 1 dX9_judge_36 rfl rfl ?_
        refine gf_X9_31 (pc := 37) hC hn64 dX9_judge_37 ?_
        refine R_iload (pc := 40) hC 0 dX9_judge_40 rfl ?_
        obtain ⟨c9, hg⟩ := chk_some hg
        refine R_iaload (pc := 42) hC 51 (jx hn64 rfl) ly51 (inb_vp c9) dX9_judge_42 ?_
        refine R_iconst (pc := 43) hC dX9_judge_43 ki_2 ?_
        refine R_icmp_eq (tgt := 60) (pc := 44) hC dX9_judge_44 (by decide) (fun c => ?_) (fun c => ?_)
        · replace hg := (if_pos c).symm.trans hg
          refine R_iconst (pc := 60) hC dX9_judge_60 ki_0 ?_
          refine R_istore (pc := 61) hC dX9_judge_61 hL rfl (show _ = [(5, .int 0), (4, .int x7), (0, .ref 43), (1, .int x1), (2, .int y3), (3, .int y4)] from rfl) ?_
          refine R_iload (pc := 63) hC 0 dX9_judge_63 rfl ?_
          refine R_if_eq (tgt := 108) (pc := 65) hC dX9_judge_65 (by decide) (fun c => ?_) (fun c => absurd c (by decide))
          refine R_iload (pc := 108) hC 0 dX9_judge_108 rfl ?_
          refine R_if_ne (tgt := 115) (pc := 110) hC dX9_judge_110 (by decide) (fun c => absurd c (by decide)) (fun c => ?_)
          refine R_iload_n (pc := 113) hC 5 dX9_judge_113 rfl rfl ?_
          have h9 := kE14 _ (Option.some.inj hg).symm
          exact R_ireturn (pc := 114) hC dX9_judge_114 h9
        · replace hg := (if_neg c).symm.trans hg
          refine R_iload_n (pc := 47) hC 3 dX9_judge_47 rfl rfl ?_
          refine R_iload (pc := 48) hC 0 dX9_judge_48 rfl ?_
          refine R_ishr (pc := 50) hC dX9_judge_50 ?_
          refine R_iconst (pc := 51) hC dX9_judge_51 ki_1 ?_
          refine R_iand (pc := 52) hC dX9_judge_52 ?_
          refine R_if_ne (tgt := 60) (pc := 53) hC dX9_judge_53 (by decide) (fun c => ?_) (fun c => ?_)
          · replace hg := (if_neg c).symm.trans hg
            refine R_iconst (pc := 60) hC dX9_judge_60 ki_0 ?_
            refine R_istore (pc := 61) hC dX9_judge_61 hL rfl (show _ = [(5, .int 0), (4, .int x7), (0, .ref 43), (1, .int x1), (2, .int y3), (3, .int y4)] from rfl) ?_
            refine R_iload (pc := 63) hC 0 dX9_judge_63 rfl ?_
            refine R_if_eq (tgt := 108) (pc := 65) hC dX9_judge_65 (by decide) (fun c => ?_) (fun c => absurd c (by decide))
            refine R_iload (pc := 108) hC 0 dX9_judge_108 rfl ?_
            refine R_if_ne (tgt := 115) (pc := 110) hC dX9_judge_110 (by decide) (fun c => absurd c (by decide)) (fun c => ?_)
            refine R_iload_n (pc := 113) hC 5 dX9_judge_113 rfl rfl ?_
            have h9 := kE14 _ (Option.some.inj hg).symm
            exact R_ireturn (pc := 114) hC dX9_judge_114 h9
          · replace hg := (if_pos c).symm.trans hg
            refine R_iconst (pc := 56) hC dX9_judge_56 ki_1 ?_
            refine R_goto (tgt := 61) (pc := 57) hC dX9_judge_57 (by decide) ?_
            refine R_istore (pc := 61) hC dX9_judge_61 hL rfl (show _ = [(5, .int 1), (4, .int x7), (0, .ref 43), (1, .int x1), (2, .int y3), (3, .int y4)] from rfl) ?_
            refine R_iload (pc := 63) hC 0 dX9_judge_63 rfl ?_
            refine R_if_eq (tgt := 108) (pc := 65) hC dX9_judge_65 (by decide) (fun c => absurd c (by decide)) (fun c => ?_)
            refine R_aload_n (pc := 68) hC 2 dX9_judge_68 rfl rfl ?_
            refine R_iload_n (pc := 69) hC 4 dX9_judge_69 rfl rfl ?_
            obtain ⟨q10, hq10, hg⟩ := bind_some hg
            refine R_callV (pc := 70) (av := [.int y3]) (rest := []) hC hR 43 (jx hn64 rfl) ly43 rfl mf_X9_partsOf wm_X9_168 (LX9_partsOf hn64 hq10) rfl rfl rfl (Nat.le_of_ble_eq_true rfl) dX9_judge_70 rfl ?_
            show RX K 73 [(5, .int 1), (4, .int x7), (0, .ref 43), (1, .int x1), (2, .int y3), (3, .int y4)] [.int q10.1] q10.2
            refine R_pop (pc := 73) hC dX9_judge_73 rfl ?_
            refine R_aload_n (pc := 74) hC 2 dX9_judge_74 rfl rfl ?_
            refine gf_X9_53 (pc := 75) hC hn64 dX9_judge_75 ?_
            refine R_aload_n (pc := 78) hC 2 dX9_judge_78 rfl rfl ?_
            refine gf_X9_16 (pc := 79) hC hn64 dX9_judge_79 ?_
            refine R_iload (pc := 82) hC 1 dX9_judge_82 rfl ?_
            obtain ⟨c11, hg⟩ := chk_some hg
            refine R_iaload (pc := 84) hC 46 (jx hn64 rfl) ly46 (inb_vp c11) dX9_judge_84 ?_
            obtain ⟨c12, hg⟩ := chk_some hg
            refine R_iaload (pc := 85) hC 57 (jx hn64 rfl) ly57 (inb_vp c12) dX9_judge_85 ?_
            refine R_aload_n (pc := 86) hC 2 dX9_judge_86 rfl rfl ?_
            refine gf_X9_53 (pc := 87) hC hn64 dX9_judge_87 ?_
            refine R_aload_n (pc := 90) hC 2 dX9_judge_90 rfl rfl ?_
            refine gf_X9_19 (pc := 91) hC hn64 dX9_judge_91 ?_
            refine R_iload (pc := 94) hC 1 dX9_judge_94 rfl ?_
            obtain ⟨c13, hg⟩ := chk_some hg
            refine R_iaload (pc := 96) hC 47 (jx hn64 rfl) ly47 (inb_vp c13) dX9_judge_96 ?_
            obtain ⟨c14, hg⟩ := chk_some hg
            refine R_iaload (pc := 97) hC 57 (jx hn64 rfl) ly57 (inb_vp c14) dX9_judge_97 ?_
            refine R_icmp_eq (tgt := 105) (pc := 98) hC dX9_judge_98 (by decide) (fun c => ?_) (fun c => ?_)
            · replace hg := (if_pos c).symm.trans hg
              refine R_iconst (pc := 105) hC dX9_judge_105 ki_0 ?_
              refine R_istore (pc := 106) hC dX9_judge_106 hL rfl (show _ = [(5, .int 0), (4, .int x7), (0, .ref 43), (1, .int x1), (2, .int y3), (3, .int y4)] from rfl) ?_
              refine R_iload (pc := 108) hC 0 dX9_judge_108 rfl ?_
              refine R_if_ne (tgt := 115) (pc := 110) hC dX9_judge_110 (by decide) (fun c => absurd c (by decide)) (fun c => ?_)
              refine R_iload_n (pc := 113) hC 5 dX9_judge_113 rfl rfl ?_
              have h9 := kE14 _ (Option.some.inj hg).symm
              exact R_ireturn (pc := 114) hC dX9_judge_114 h9
            · replace hg := (if_neg c).symm.trans hg
              refine R_iconst (pc := 101) hC dX9_judge_101 ki_1 ?_
              refine R_goto (tgt := 106) (pc := 102) hC dX9_judge_102 (by decide) ?_
              refine R_istore (pc := 106) hC dX9_judge_106 hL rfl (show _ = [(5, .int 1), (4, .int x7), (0, .ref 43), (1, .int x1), (2, .int y3), (3, .int y4)] from rfl) ?_
              refine R_iload (pc := 108) hC 0 dX9_judge_108 rfl ?_
              refine R_if_ne (tgt := 115) (pc := 110) hC dX9_judge_110 (by decide) (fun c => ?_) (fun c => absurd c (by decide))
              refine R_iload_n (pc := 115) hC 4 dX9_judge_115 rfl rfl ?_
              refine R_iconst (pc := 116) hC dX9_judge_116 ki_1 ?_
              refine R_iload (pc := 117) hC 1 dX9_judge_117 rfl ?_
              refine R_ishl (pc := 119) hC dX9_judge_119 ?_
              refine R_ior (pc := 120) hC dX9_judge_120 ?_
              obtain ⟨x15, hx15, hg⟩ := lete_some hg
              refine R_top hx15 ?_
              refine R_istore_n (pc := 121) hC dX9_judge_121 rfl hL rfl (show _ = [(2, .int x15), (5, .int 1), (4, .int x7), (0, .ref 43), (1, .int x1), (3, .int y4)] from rfl) ?_
              refine R_iinc (pc := 122) hC 5 dX9_judge_122 rfl (iv ki_1) hL rfl (show _ = [(3, .int (y4 + 1)), (2, .int x15), (5, .int 1), (4, .int x7), (0, .ref 43), (1, .int x1)] from rfl) ?_
              refine R_goto (tgt := 14) (pc := 125) hC dX9_judge_125 (by decide) ?_
              refine R_pick [4, 5, 1, 0] (ls' := [(0, .ref 43), (1, .int x1), (2, .int x15), (3, .int (y4 + 1))]) rfl ?_
              have h9 := kL14 _ (Option.some.inj hg).symm
              exact h9
  · rcases e16 with s18 | q
    · replace hg := (Sum.elim_inl _ _ _).symm.trans hg
      show RX K 128 [(0, .ref 43), (1, .int x1), (2, .int s18.1), (3, .int s18.2.1)] [] s18.2.2
      refine R_aload_n (pc := 128) hC 0 dX9_judge_128 rfl rfl ?_
      refine R_iload_n (pc := 129) hC 2 dX9_judge_129 rfl rfl ?_
      obtain ⟨q19, hq19, hg⟩ := bind_some hg
      refine R_callV (pc := 130) (av := [.int s18.1]) (rest := []) hC hR 43 (jx hn64 rfl) ly43 rfl mf_X9_isWay wm_X9_186 (LX9_isWay hn64 hq19) rfl rfl rfl (Nat.le_of_ble_eq_true rfl) dX9_judge_130 rfl ?_
      show RX K 133 [(0, .ref 43), (1, .int x1), (2, .int s18.1), (3, .int s18.2.1)] [.int (b2i q19.1)] q19.2
      refine R_ifB_eq (tgt := 141) (pc := 133) hC dX9_judge_133 (by decide) (fun c => ?_) (fun c => ?_)
      · replace hg := (if_neg c).symm.trans hg
        refine R_iload_n (pc := 141) hC 1 dX9_judge_141 rfl rfl ?_
        have h9 := gxIM hg
        exact R_ireturn (pc := 142) hC dX9_judge_142 h9
      · replace hg := (if_pos c).symm.trans hg
        refine R_bipush (pc := 136) hC dX9_judge_136 kb_m9 ?_
        refine R_goto (tgt := 142) (pc := 138) hC dX9_judge_138 (by decide) ?_
        have h9 := gxIM hg
        exact R_ireturn (pc := 142) hC dX9_judge_142 h9
    · replace hg := (Sum.elim_inr _ _ _).symm.trans hg
      exact gxIM hg
theorem dX9_count_0 : decode cX9_count 0 = .ok (.iload_n 1, 1) := by decide +kernel
theorem dX9_count_1 : decode cX9_count 1 = .ok (.bipush 11, 2) := by decide +kernel
theorem dX9_count_3 : decode cX9_count 3 = .ok (.bipush 16, 2) := by decide +kernel
theorem dX9_count_5 : decode cX9_count 5 = .ok (.invokestatic 98, 3) := by decide +kernel
theorem dX9_count_8 : decode cX9_count 8 = .ok (.ifCond .eq 13, 3) := by decide +kernel
theorem dX9_count_11 : decode cX9_count 11 = .ok (.aload_n 0, 1) := by decide +kernel
theorem dX9_count_12 : decode cX9_count 12 = .ok (.getfield 7, 3) := by decide +kernel
theorem dX9_count_15 : decode cX9_count 15 = .ok (.iload_n 1, 1) := by decide +kernel
theorem dX9_count_16 : decode cX9_count 16 = .ok (.bipush 10, 2) := by decide +kernel
theorem dX9_count_18 : decode cX9_count 18 = .ok (.isub, 1) := by decide +kernel
theorem dX9_count_19 : decode cX9_count 19 = .ok (.iaload, 1) := by decide +kernel
theorem dX9_count_20 : decode cX9_count 20 = .ok (.ireturn, 1) := by decide +kernel
theorem dX9_count_21 : decode cX9_count 21 = .ok (.iconst 0, 1) := by decide +kernel
theorem dX9_count_22 : decode cX9_count 22 = .ok (.istore_n 2, 1) := by decide +kernel
theorem dX9_count_23 : decode cX9_count 23 = .ok (.iload_n 1, 1) := by decide +kernel
theorem dX9_count_24 : decode cX9_count 24 = .ok (.tableswitch 108 0 6 #[44, 49, 54, 63, 72, 98, 103], 44) := by decide +kernel
theorem dX9_count_68 : decode cX9_count 68 = .ok (.aload_n 0, 1) := by decide +kernel
theorem dX9_count_69 : decode cX9_count 69 = .ok (.getfield 34, 3) := by decide +kernel
theorem dX9_count_72 : decode cX9_count 72 = .ok (.ireturn, 1) := by decide +kernel
theorem dX9_count_73 : decode cX9_count 73 = .ok (.aload_n 0, 1) := by decide +kernel
theorem dX9_count_74 : decode cX9_count 74 = .ok (.getfield 77, 3) := by decide +kernel
theorem dX9_count_77 : decode cX9_count 77 = .ok (.ireturn, 1) := by decide +kernel
theorem dX9_count_78 : decode cX9_count 78 = .ok (.aload_n 0, 1) := by decide +kernel
theorem dX9_count_79 : decode cX9_count 79 = .ok (.iconst 1, 1) := by decide +kernel
theorem dX9_count_80 : decode cX9_count 80 = .ok (.invokevirtual 171, 3) := by decide +kernel
theorem dX9_count_83 : decode cX9_count 83 = .ok (.invokestatic 165, 3) := by decide +kernel
theorem dX9_count_86 : decode cX9_count 86 = .ok (.ireturn, 1) := by decide +kernel
theorem dX9_count_87 : decode cX9_count 87 = .ok (.aload_n 0, 1) := by decide +kernel
theorem dX9_count_88 : decode cX9_count 88 = .ok (.iconst 2, 1) := by decide +kernel
theorem dX9_count_89 : decode cX9_count 89 = .ok (.invokevirtual 171, 3) := by decide +kernel
theorem dX9_count_92 : decode cX9_count 92 = .ok (.invokestatic 165, 3) := by decide +kernel
theorem dX9_count_95 : decode cX9_count 95 = .ok (.ireturn, 1) := by decide +kernel
theorem dX9_count_96 : decode cX9_count 96 = .ok (.iconst 0, 1) := by decide +kernel
theorem dX9_count_97 : decode cX9_count 97 = .ok (.istore_n 3, 1) := by decide +kernel
theorem dX9_count_98 : decode cX9_count 98 = .ok (.iload_n 3, 1) := by decide +kernel
theorem dX9_count_99 : decode cX9_count 99 = .ok (.aload_n 0, 1) := by decide +kernel
theorem dX9_count_100 : decode cX9_count 100 = .ok (.getfield 77, 3) := by decide +kernel
theorem dX9_count_103 : decode cX9_count 103 = .ok (.if_icmp .ge 17, 3) := by decide +kernel
theorem dX9_count_106 : decode cX9_count 106 = .ok (.iload_n 2, 1) := by decide +kernel
theorem dX9_count_107 : decode cX9_count 107 = .ok (.aload_n 0, 1) := by decide +kernel
theorem dX9_count_108 : decode cX9_count 108 = .ok (.iload_n 3, 1) := by decide +kernel
theorem dX9_count_109 : decode cX9_count 109 = .ok (.invokevirtual 156, 3) := by decide +kernel
theorem dX9_count_112 : decode cX9_count 112 = .ok (.iadd, 1) := by decide +kernel
theorem dX9_count_113 : decode cX9_count 113 = .ok (.istore_n 2, 1) := by decide +kernel
theorem dX9_count_114 : decode cX9_count 114 = .ok (.iinc 3 1, 3) := by decide +kernel
theorem dX9_count_117 : decode cX9_count 117 = .ok (.goto (-19), 3) := by decide +kernel
theorem dX9_count_120 : decode cX9_count 120 = .ok (.iload_n 2, 1) := by decide +kernel
theorem dX9_count_121 : decode cX9_count 121 = .ok (.ireturn, 1) := by decide +kernel
theorem dX9_count_122 : decode cX9_count 122 = .ok (.aload_n 0, 1) := by decide +kernel
theorem dX9_count_123 : decode cX9_count 123 = .ok (.getfield 84, 3) := by decide +kernel
theorem dX9_count_126 : decode cX9_count 126 = .ok (.ireturn, 1) := by decide +kernel
theorem dX9_count_127 : decode cX9_count 127 = .ok (.aload_n 0, 1) := by decide +kernel
theorem dX9_count_128 : decode cX9_count 128 = .ok (.getfield 283, 3) := by decide +kernel
theorem dX9_count_131 : decode cX9_count 131 = .ok (.ireturn, 1) := by decide +kernel
theorem dX9_count_132 : decode cX9_count 132 = .ok (.bipush (-9), 2) := by decide +kernel
theorem dX9_count_134 : decode cX9_count 134 = .ok (.ireturn, 1) := by decide +kernel
def bX9_count_98 (m : Mem) : (Int32 × Int32) → Option ((Int32 × Int32) ⊕ (Int32 × Int32))
  | (y11, y12) => (if (m.1 43 9) ≤ y12 then some (.inr (y11, y12)) else (gX9_costOf m y12).bind (fun x13 => lete (y11 + x13) (fun x14 => some (.inl (x14, y12 + 1)))))
def gX9_count (F : Nat) (m : Mem) (a1 : Int32) : Option (Int32) := (gX9_isIn a1 11 16).bind (fun x1 => (if x1 = true then chk (inb (a1 - 10) 7) (some (m.1 44 (Int32.toNatClampNeg (a1 - 10)))) else (if a1 = 0 then some (m.1 43 8) else (if a1 = 1 then some (m.1 43 9) else (if a1 = 2 then (gX9_ruledAs F m 1).bind (fun x5 => (gX9_bits F x5).bind (fun x6 => some x6)) else (if a1 = 3 then (gX9_ruledAs F m 2).bind (fun x8 => (gX9_bits F x8).bind (fun x9 => some x9)) else (if a1 = 4 then (iter F (bX9_count_98 m) (0, 0)).bind (fun e15 => some e15.1) else (if a1 = 5 then some (m.1 43 14) else (if a1 = 6 then some (m.1 43 34) else some (-9))))))))))
set_option maxHeartbeats 4000000 in
set_option maxRecDepth 20000 in
theorem LX9_count {n : Nat} {F : Nat} {m : Mem} {a1 : Int32} {r : Int32} (hn64 : 64 ≤ n) (hg : gX9_count F m a1 = some r) : MX yX9_count cX9_count 4 (some .int) { frames := 1, cells := 0, slots := 0, locals := 23 } n [.ref 43, .int a1] m (some (.int r)) m := by
  refine MX_of (by decide) (Nat.le_of_ble_eq_true rfl) (Or.inr (Or.inl ⟨rfl, _, rfl⟩)) (fun K hC hk hL hR => ?_)
  replace hn64 : 64 ≤ kn K := hk.symm ▸ hn64
  show RX K 0 [(0, .ref 43), (1, .int a1)] [] m
  rw [gX9_count] at hg
  refine R_iload_n (pc := 0) hC 1 dX9_count_0 rfl rfl ?_
  refine R_bipush (pc := 1) hC dX9_count_1 kb_11 ?_
  refine R_bipush (pc := 3) hC dX9_count_3 kb_16 ?_
  obtain ⟨x1, hx1, hg⟩ := bind_some hg
  refine R_callS (pc := 5) (av := [.int a1, .int 11, .int 16]) (rest := []) hC hR mf_X9_isIn wm_X9_98 (LX9_isIn hn64 hx1) rfl rfl rfl (Nat.le_of_ble_eq_true rfl) dX9_count_5 rfl ?_
  show RX K 8 [(0, .ref 43), (1, .int a1)] [.int (b2i x1)] m
  refine R_ifB_eq (tgt := 21) (pc := 8) hC dX9_count_8 (by decide) (fun c => ?_) (fun c => ?_)
  · replace hg := (if_neg c).symm.trans hg
    refine R_iconst (pc := 21) hC dX9_count_21 ki_0 ?_
    refine R_istore_n (pc := 22) hC dX9_count_22 rfl hL rfl (show _ = [(2, .int 0), (0, .ref 43), (1, .int a1)] from rfl) ?_
    refine R_iload_n (pc := 23) hC 2 dX9_count_23 rfl rfl ?_
    by_cases c2 : a1 = 0
    · replace hg := (if_pos c2).symm.trans hg
      refine R_top c2 ?_
      refine R_tableIn (tgt := 68) (x := 0) (pc := 24) hC dX9_count_24 (by decide) (by decide) (by rfl) (by decide) ?_
      refine R_aload_n (pc := 68) hC 1 dX9_count_68 rfl rfl ?_
      refine gf_X9_34 (pc := 69) hC hn64 dX9_count_69 ?_
      have h9 := gxI (m := m) hg
      exact R_ireturn (pc := 72) hC dX9_count_72 h9
    replace hg := (if_neg c2).symm.trans hg
    by_cases c3 : a1 = 1
    · replace hg := (if_pos c3).symm.trans hg
      refine R_top c3 ?_
      refine R_tableIn (tgt := 73) (x := 1) (pc := 24) hC dX9_count_24 (by decide) (by decide) (by rfl) (by decide) ?_
      refine R_aload_n (pc := 73) hC 1 dX9_count_73 rfl rfl ?_
      refine gf_X9_77 (pc := 74) hC hn64 dX9_count_74 ?_
      have h9 := gxI (m := m) hg
      exact R_ireturn (pc := 77) hC dX9_count_77 h9
    replace hg := (if_neg c3).symm.trans hg
    by_cases c4 : a1 = 2
    · replace hg := (if_pos c4).symm.trans hg
      refine R_top c4 ?_
      refine R_tableIn (tgt := 78) (x := 2) (pc := 24) hC dX9_count_24 (by decide) (by decide) (by rfl) (by decide) ?_
      refine R_aload_n (pc := 78) hC 1 dX9_count_78 rfl rfl ?_
      refine R_iconst (pc := 79) hC dX9_count_79 ki_1 ?_
      obtain ⟨x5, hx5, hg⟩ := bind_some hg
      refine R_callV (pc := 80) (av := [.int 1]) (rest := []) hC hR 43 (jx hn64 rfl) ly43 rfl mf_X9_ruledAs wm_X9_171 (LX9_ruledAs hn64 hx5) rfl rfl rfl (Nat.le_of_ble_eq_true rfl) dX9_count_80 rfl ?_
      show RX K 83 [(2, .int 0), (0, .ref 43), (1, .int a1)] [.int x5] m
      obtain ⟨x6, hx6, hg⟩ := bind_some hg
      refine R_callS (pc := 83) (av := [.int x5]) (rest := []) hC hR mf_X9_bits wm_X9_165 (LX9_bits hn64 hx6) rfl rfl rfl (Nat.le_of_ble_eq_true rfl) dX9_count_83 rfl ?_
      show RX K 86 [(2, .int 0), (0, .ref 43), (1, .int a1)] [.int x6] m
      have h9 := gxI (m := m) hg
      exact R_ireturn (pc := 86) hC dX9_count_86 h9
    replace hg := (if_neg c4).symm.trans hg
    by_cases c7 : a1 = 3
    · replace hg := (if_pos c7).symm.trans hg
      refine R_top c7 ?_
      refine R_tableIn (tgt := 87) (x := 3) (pc := 24) hC dX9_count_24 (by decide) (by decide) (by rfl) (by decide) ?_
      refine R_aload_n (pc := 87) hC 1 dX9_count_87 rfl rfl ?_
      refine R_iconst (pc := 88) hC dX9_count_88 ki_2 ?_
      obtain ⟨x8, hx8, hg⟩ := bind_some hg
      refine R_callV (pc := 89) (av := [.int 2]) (rest := []) hC hR 43 (jx hn64 rfl) ly43 rfl mf_X9_ruledAs wm_X9_171 (LX9_ruledAs hn64 hx8) rfl rfl rfl (Nat.le_of_ble_eq_true rfl) dX9_count_89 rfl ?_
      show RX K 92 [(2, .int 0), (0, .ref 43), (1, .int a1)] [.int x8] m
      obtain ⟨x9, hx9, hg⟩ := bind_some hg
      refine R_callS (pc := 92) (av := [.int x8]) (rest := []) hC hR mf_X9_bits wm_X9_165 (LX9_bits hn64 hx9) rfl rfl rfl (Nat.le_of_ble_eq_true rfl) dX9_count_92 rfl ?_
      show RX K 95 [(2, .int 0), (0, .ref 43), (1, .int a1)] [.int x9] m
      have h9 := gxI (m := m) hg
      exact R_ireturn (pc := 95) hC dX9_count_95 h9
    replace hg := (if_neg c7).symm.trans hg
    by_cases c10 : a1 = 4
    · replace hg := (if_pos c10).symm.trans hg
      refine R_top c10 ?_
      refine R_tableIn (tgt := 96) (x := 4) (pc := 24) hC dX9_count_24 (by decide) (by decide) (by rfl) (by decide) ?_
      refine R_iconst (pc := 96) hC dX9_count_96 ki_0 ?_
      refine R_istore_n (pc := 97) hC dX9_count_97 rfl hL rfl (show _ = [(3, .int 0), (2, .int 0), (0, .ref 43), (1, .int a1)] from rfl) ?_
      refine R_pick [2, 3, 1, 0] (ls' := [(0, .ref 43), (1, .int a1), (2, .int 0), (3, .int 0)]) rfl ?_
      obtain ⟨e15, he15, hg⟩ := bind_some hg
      refine iter_walk (P := fun s : (Int32 × Int32) => RX K 98 [(0, .ref 43), (1, .int a1), (2, .int s.1), (3, .int s.2)] [] m) (Qe := fun s : (Int32 × Int32) => RX K 120 [(0, .ref 43), (1, .int a1), (2, .int s.1), (3, .int s.2)] [] m) (fun s16 o hg kL98 kE98 => ?_) _ _ _ he15 ?_
      · obtain ⟨y11, y12⟩ := s16
        rw [bX9_count_98] at hg
        show RX K 98 [(0, .ref 43), (1, .int a1), (2, .int y11), (3, .int y12)] [] m
        refine R_iload_n (pc := 98) hC 3 dX9_count_98 rfl rfl ?_
        refine R_aload_n (pc := 99) hC 0 dX9_count_99 rfl rfl ?_
        refine gf_X9_77 (pc := 100) hC hn64 dX9_count_100 ?_
        refine R_icmp_ge (tgt := 120) (pc := 103) hC dX9_count_103 (by decide) (fun c => ?_) (fun c => ?_)
        · replace hg := (if_pos c).symm.trans hg
          refine R_pick [0, 1, 2, 3] (ls' := [(0, .ref 43), (1, .int a1), (2, .int y11), (3, .int y12)]) rfl ?_
          have h9 := kE98 _ (Option.some.inj hg).symm
          exact h9
        · replace hg := (if_neg c).symm.trans hg
          refine R_iload_n (pc := 106) hC 2 dX9_count_106 rfl rfl ?_
          refine R_aload_n (pc := 107) hC 0 dX9_count_107 rfl rfl ?_
          refine R_iload_n (pc := 108) hC 3 dX9_count_108 rfl rfl ?_
          obtain ⟨x13, hx13, hg⟩ := bind_some hg
          refine R_callV (pc := 109) (av := [.int y12]) (rest := [.int y11]) hC hR 43 (jx hn64 rfl) ly43 rfl mf_X9_costOf wm_X9_156 (LX9_costOf hn64 hx13) rfl rfl rfl (Nat.le_of_ble_eq_true rfl) dX9_count_109 rfl ?_
          show RX K 112 [(0, .ref 43), (1, .int a1), (2, .int y11), (3, .int y12)] [.int x13, .int y11] m
          refine R_iadd (pc := 112) hC dX9_count_112 ?_
          obtain ⟨x14, hx14, hg⟩ := lete_some hg
          refine R_top hx14 ?_
          refine R_istore_n (pc := 113) hC dX9_count_113 rfl hL rfl (show _ = [(2, .int x14), (0, .ref 43), (1, .int a1), (3, .int y12)] from rfl) ?_
          refine R_iinc (pc := 114) hC 3 dX9_count_114 rfl (iv ki_1) hL rfl (show _ = [(3, .int (y12 + 1)), (2, .int x14), (0, .ref 43), (1, .int a1)] from rfl) ?_
          refine R_goto (tgt := 98) (pc := 117) hC dX9_count_117 (by decide) ?_
          refine R_pick [2, 3, 1, 0] (ls' := [(0, .ref 43), (1, .int a1), (2, .int x14), (3, .int (y12 + 1))]) rfl ?_
          have h9 := kL98 _ (Option.some.inj hg).symm
          exact h9
      · show RX K 120 [(0, .ref 43), (1, .int a1), (2, .int e15.1), (3, .int e15.2)] [] m
        refine R_iload_n (pc := 120) hC 2 dX9_count_120 rfl rfl ?_
        have h9 := gxI (m := m) hg
        exact R_ireturn (pc := 121) hC dX9_count_121 h9
    replace hg := (if_neg c10).symm.trans hg
    by_cases c17 : a1 = 5
    · replace hg := (if_pos c17).symm.trans hg
      refine R_top c17 ?_
      refine R_tableIn (tgt := 122) (x := 5) (pc := 24) hC dX9_count_24 (by decide) (by decide) (by rfl) (by decide) ?_
      refine R_aload_n (pc := 122) hC 1 dX9_count_122 rfl rfl ?_
      refine gf_X9_84 (pc := 123) hC hn64 dX9_count_123 ?_
      have h9 := gxI (m := m) hg
      exact R_ireturn (pc := 126) hC dX9_count_126 h9
    replace hg := (if_neg c17).symm.trans hg
    by_cases c18 : a1 = 6
    · replace hg := (if_pos c18).symm.trans hg
      refine R_top c18 ?_
      refine R_tableIn (tgt := 127) (x := 6) (pc := 24) hC dX9_count_24 (by decide) (by decide) (by rfl) (by decide) ?_
      refine R_aload_n (pc := 127) hC 1 dX9_count_127 rfl rfl ?_
      refine gf_X9_283 (pc := 128) hC hn64 dX9_count_128 ?_
      have h9 := gxI (m := m) hg
      exact R_ireturn (pc := 131) hC dX9_count_131 h9
    replace hg := (if_neg c18).symm.trans hg
    refine R_tableOut (tgt := 132) (pc := 24) hC dX9_count_24 (tab_out (fun k hk => ?_)) (by decide) ?_
    · have h9 : k = 0 ∨ k = 1 ∨ k = 2 ∨ k = 3 ∨ k = 4 ∨ k = 5 ∨ k = 6 := by omega
      rcases h9 with rfl | rfl | rfl | rfl | rfl | rfl | rfl
      · exact i32_ne c2 (by decide)
      · exact i32_ne c3 (by decide)
      · exact i32_ne c4 (by decide)
      · exact i32_ne c7 (by decide)
      · exact i32_ne c10 (by decide)
      · exact i32_ne c17 (by decide)
      · exact i32_ne c18 (by decide)
    refine R_bipush (pc := 132) hC dX9_count_132 kb_m9 ?_
    have h9 := gxI (m := m) hg
    exact R_ireturn (pc := 134) hC dX9_count_134 h9
  · replace hg := (if_pos c).symm.trans hg
    refine R_aload_n (pc := 11) hC 0 dX9_count_11 rfl rfl ?_
    refine gf_X9_7 (pc := 12) hC hn64 dX9_count_12 ?_
    refine R_iload_n (pc := 15) hC 1 dX9_count_15 rfl rfl ?_
    refine R_bipush (pc := 16) hC dX9_count_16 kb_10 ?_
    refine R_isub (pc := 18) hC dX9_count_18 ?_
    obtain ⟨c19, hg⟩ := chk_some hg
    refine R_iaload (pc := 19) hC 44 (jx hn64 rfl) ly44 (inb_vp c19) dX9_count_19 ?_
    have h9 := gxI (m := m) hg
    exact R_ireturn (pc := 20) hC dX9_count_20 h9
