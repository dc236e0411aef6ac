theorem dX9_plan_0 : decode cX9_plan 0 = .ok (.iload_n 2, 1) := by decide +kernel
theorem dX9_plan_1 : decode cX9_plan 1 = .ok (.iconst 0, 1) := by decide +kernel
theorem dX9_plan_2 : decode cX9_plan 2 = .ok (.iconst 1, 1) := by decide +kernel
theorem dX9_plan_3 : decode cX9_plan 3 = .ok (.invokestatic 98, 3) := by decide +kernel
theorem dX9_plan_6 : decode cX9_plan 6 = .ok (.ifCond .ne 8, 3) := by decide +kernel
theorem dX9_plan_9 : decode cX9_plan 9 = .ok (.bipush (-2), 2) := by decide +kernel
theorem dX9_plan_11 : decode cX9_plan 11 = .ok (.goto 50, 3) := by decide +kernel
theorem dX9_plan_14 : decode cX9_plan 14 = .ok (.iload_n 1, 1) := by decide +kernel
theorem dX9_plan_15 : decode cX9_plan 15 = .ok (.iconst 1, 1) := by decide +kernel
theorem dX9_plan_16 : decode cX9_plan 16 = .ok (.if_icmp .ge 8, 3) := by decide +kernel
theorem dX9_plan_19 : decode cX9_plan 19 = .ok (.bipush (-4), 2) := by decide +kernel
theorem dX9_plan_21 : decode cX9_plan 21 = .ok (.goto 40, 3) := by decide +kernel
theorem dX9_plan_24 : decode cX9_plan 24 = .ok (.iload_n 1, 1) := by decide +kernel
theorem dX9_plan_25 : decode cX9_plan 25 = .ok (.bipush 10, 2) := by decide +kernel
theorem dX9_plan_27 : decode cX9_plan 27 = .ok (.if_icmp .gt 28, 3) := by decide +kernel
theorem dX9_plan_30 : decode cX9_plan 30 = .ok (.aload_n 0, 1) := by decide +kernel
theorem dX9_plan_31 : decode cX9_plan 31 = .ok (.getfield 34, 3) := by decide +kernel
theorem dX9_plan_34 : decode cX9_plan 34 = .ok (.iconst 5, 1) := by decide +kernel
theorem dX9_plan_35 : decode cX9_plan 35 = .ok (.if_icmp .gt 20, 3) := by decide +kernel
theorem dX9_plan_38 : decode cX9_plan 38 = .ok (.iload_n 1, 1) := by decide +kernel
theorem dX9_plan_39 : decode cX9_plan 39 = .ok (.aload_n 0, 1) := by decide +kernel
theorem dX9_plan_40 : decode cX9_plan 40 = .ok (.getfield 34, 3) := by decide +kernel
theorem dX9_plan_43 : decode cX9_plan 43 = .ok (.aload_n 0, 1) := by decide +kernel
theorem dX9_plan_44 : decode cX9_plan 44 = .ok (.getfield 34, 3) := by decide +kernel
theorem dX9_plan_47 : decode cX9_plan 47 = .ok (.iconst 1, 1) := by decide +kernel
theorem dX9_plan_48 : decode cX9_plan 48 = .ok (.isub, 1) := by decide +kernel
theorem dX9_plan_49 : decode cX9_plan 49 = .ok (.imul, 1) := by decide +kernel
theorem dX9_plan_50 : decode cX9_plan 50 = .ok (.iconst 2, 1) := by decide +kernel
theorem dX9_plan_51 : decode cX9_plan 51 = .ok (.idiv, 1) := by decide +kernel
theorem dX9_plan_52 : decode cX9_plan 52 = .ok (.if_icmp .le 8, 3) := by decide +kernel
theorem dX9_plan_55 : decode cX9_plan 55 = .ok (.bipush (-6), 2) := by decide +kernel
theorem dX9_plan_57 : decode cX9_plan 57 = .ok (.goto 4, 3) := by decide +kernel
theorem dX9_plan_60 : decode cX9_plan 60 = .ok (.iconst 0, 1) := by decide +kernel
theorem dX9_plan_61 : decode cX9_plan 61 = .ok (.istore_n 3, 1) := by decide +kernel
theorem dX9_plan_62 : decode cX9_plan 62 = .ok (.iload_n 3, 1) := by decide +kernel
theorem dX9_plan_63 : decode cX9_plan 63 = .ok (.ifCond .eq 9, 3) := by decide +kernel
theorem dX9_plan_66 : decode cX9_plan 66 = .ok (.aload_n 0, 1) := by decide +kernel
theorem dX9_plan_67 : decode cX9_plan 67 = .ok (.iload_n 3, 1) := by decide +kernel
theorem dX9_plan_68 : decode cX9_plan 68 = .ok (.invokevirtual 87, 3) := by decide +kernel
theorem dX9_plan_71 : decode cX9_plan 71 = .ok (.ireturn, 1) := by decide +kernel
theorem dX9_plan_72 : decode cX9_plan 72 = .ok (.aload_n 0, 1) := by decide +kernel
theorem dX9_plan_73 : decode cX9_plan 73 = .ok (.iconst 0, 1) := by decide +kernel
theorem dX9_plan_74 : decode cX9_plan 74 = .ok (.putfield 247, 3) := by decide +kernel
theorem dX9_plan_77 : decode cX9_plan 77 = .ok (.iconst 0, 1) := by decide +kernel
theorem dX9_plan_78 : decode cX9_plan 78 = .ok (.istore 4, 2) := by decide +kernel
theorem dX9_plan_80 : decode cX9_plan 80 = .ok (.iload 4, 2) := by decide +kernel
theorem dX9_plan_82 : decode cX9_plan 82 = .ok (.aload_n 0, 1) := by decide +kernel
theorem dX9_plan_83 : decode cX9_plan 83 = .ok (.getfield 34, 3) := by decide +kernel
theorem dX9_plan_86 : decode cX9_plan 86 = .ok (.if_icmp .ge 62, 3) := by decide +kernel
theorem dX9_plan_89 : decode cX9_plan 89 = .ok (.iload 4, 2) := by decide +kernel
theorem dX9_plan_91 : decode cX9_plan 91 = .ok (.iconst 1, 1) := by decide +kernel
theorem dX9_plan_92 : decode cX9_plan 92 = .ok (.iadd, 1) := by decide +kernel
theorem dX9_plan_93 : decode cX9_plan 93 = .ok (.istore 5, 2) := by decide +kernel
theorem dX9_plan_95 : decode cX9_plan 95 = .ok (.iload 5, 2) := by decide +kernel
theorem dX9_plan_97 : decode cX9_plan 97 = .ok (.aload_n 0, 1) := by decide +kernel
theorem dX9_plan_98 : decode cX9_plan 98 = .ok (.getfield 34, 3) := by decide +kernel
theorem dX9_plan_101 : decode cX9_plan 101 = .ok (.if_icmp .ge 41, 3) := by decide +kernel
theorem dX9_plan_104 : decode cX9_plan 104 = .ok (.aload_n 0, 1) := by decide +kernel
theorem dX9_plan_105 : decode cX9_plan 105 = .ok (.getfield 63, 3) := by decide +kernel
theorem dX9_plan_108 : decode cX9_plan 108 = .ok (.aload_n 0, 1) := by decide +kernel
theorem dX9_plan_109 : decode cX9_plan 109 = .ok (.getfield 247, 3) := by decide +kernel
theorem dX9_plan_112 : decode cX9_plan 112 = .ok (.iload 4, 2) := by decide +kernel
theorem dX9_plan_114 : decode cX9_plan 114 = .ok (.iastore, 1) := by decide +kernel
theorem dX9_plan_115 : decode cX9_plan 115 = .ok (.aload_n 0, 1) := by decide +kernel
theorem dX9_plan_116 : decode cX9_plan 116 = .ok (.getfield 66, 3) := by decide +kernel
theorem dX9_plan_119 : decode cX9_plan 119 = .ok (.aload_n 0, 1) := by decide +kernel
theorem dX9_plan_120 : decode cX9_plan 120 = .ok (.getfield 247, 3) := by decide +kernel
theorem dX9_plan_123 : decode cX9_plan 123 = .ok (.iload 5, 2) := by decide +kernel
theorem dX9_plan_125 : decode cX9_plan 125 = .ok (.iastore, 1) := by decide +kernel
theorem dX9_plan_126 : decode cX9_plan 126 = .ok (.aload_n 0, 1) := by decide +kernel
theorem dX9_plan_127 : decode cX9_plan 127 = .ok (.dup, 1) := by decide +kernel
theorem dX9_plan_128 : decode cX9_plan 128 = .ok (.getfield 247, 3) := by decide +kernel
theorem dX9_plan_131 : decode cX9_plan 131 = .ok (.iconst 1, 1) := by decide +kernel
theorem dX9_plan_132 : decode cX9_plan 132 = .ok (.iadd, 1) := by decide +kernel
theorem dX9_plan_133 : decode cX9_plan 133 = .ok (.putfield 247, 3) := by decide +kernel
theorem dX9_plan_136 : decode cX9_plan 136 = .ok (.iinc 5 1, 3) := by decide +kernel
theorem dX9_plan_139 : decode cX9_plan 139 = .ok (.goto (-44), 3) := by decide +kernel
theorem dX9_plan_142 : decode cX9_plan 142 = .ok (.iinc 4 1, 3) := by decide +kernel
theorem dX9_plan_145 : decode cX9_plan 145 = .ok (.goto (-65), 3) := by decide +kernel
theorem dX9_plan_148 : decode cX9_plan 148 = .ok (.aload_n 0, 1) := by decide +kernel
theorem dX9_plan_149 : decode cX9_plan 149 = .ok (.iload_n 1, 1) := by decide +kernel
theorem dX9_plan_150 : decode cX9_plan 150 = .ok (.invokevirtual 262, 3) := by decide +kernel
theorem dX9_plan_153 : decode cX9_plan 153 = .ok (.iload_n 2, 1) := by decide +kernel
theorem dX9_plan_154 : decode cX9_plan 154 = .ok (.ifCond .ne 10, 3) := by decide +kernel
theorem dX9_plan_157 : decode cX9_plan 157 = .ok (.aload_n 0, 1) := by decide +kernel
theorem dX9_plan_158 : decode cX9_plan 158 = .ok (.getfield 256, 3) := by decide +kernel
theorem dX9_plan_161 : decode cX9_plan 161 = .ok (.goto 7, 3) := by decide +kernel
theorem dX9_plan_164 : decode cX9_plan 164 = .ok (.aload_n 0, 1) := by decide +kernel
theorem dX9_plan_165 : decode cX9_plan 165 = .ok (.getfield 259, 3) := by decide +kernel
theorem dX9_plan_168 : decode cX9_plan 168 = .ok (.ireturn, 1) := by decide +kernel
def bX9_plan_95 (y5 : Int32) : (Int32 × Mem) → Option ((Int32 × Mem) ⊕ (Int32 × Mem))
  | (y8, m9) => (if (m9.1 43 8) ≤ y8 then some (.inr (y8, m9)) else chk (inb (m9.1 43 28) 10) (lete (mu m9 60 (Int32.toNatClampNeg (m9.1 43 28)) y5) (fun m11 => chk (inb (m11.1 43 28) 10) (lete (mu m11 61 (Int32.toNatClampNeg (m11.1 43 28)) y8) (fun m13 => lete (mu m13 43 28 ((m13.1 43 28) + 1)) (fun m14 => some (.inl (y8 + 1, m14))))))))
def bX9_plan_80 (F : Nat) : (Int32 × Mem) → Option ((Int32 × Mem) ⊕ (Int32 × Mem))
  | (y5, m6) => (if (m6.1 43 8) ≤ y5 then some (.inr (y5, m6)) else lete (y5 + 1) (fun x7 => (iter F (bX9_plan_95 y5) (x7, m6)).bind (fun e15 => some (.inl (y5 + 1, e15.2)))))
def gX9_plan (F : Nat) (m : Mem) (a1 : Int32) (a2 : Int32) : Option (Int32 × Mem) := (gX9_isIn a2 0 1).bind (fun x1 => (if x1 = true then (if 1 ≤ a1 then (if 10 < a1 then (gX9_no m (-6)).bind (fun q2 => some (q2.1, q2.2)) else (if 5 < (m.1 43 8) then (gX9_no m (-6)).bind (fun q3 => some (q3.1, q3.2)) else (if a1 ≤ (((m.1 43 8) * ((m.1 43 8) - 1)) / 2) then lete (mu m 43 28 0) (fun m4 => (iter F (bX9_plan_80 F) (0, m4)).bind (fun e17 => (gX9_findPlan F e17.2 a1).bind (fun q19 => (if a2 = 0 then some (q19.1 43 30, q19) else some (q19.1 43 31, q19))))) else (gX9_no m (-6)).bind (fun q20 => some (q20.1, q20.2))))) else (gX9_no m (-4)).bind (fun q21 => some (q21.1, q21.2))) else (gX9_no m (-2)).bind (fun q22 => some (q22.1, q22.2))))
set_option maxHeartbeats 4000000 in
set_option maxRecDepth 20000 in
theorem LX9_plan {n : Nat} {F : Nat} {m : Mem} {a1 : Int32} {a2 : Int32} {r : Int32 × Mem} (hn64 : 64 ≤ n) (hg : gX9_plan F m a1 a2 = some r) : MX yX9_plan cX9_plan 6 (some .int) { frames := 2, cells := 0, slots := 0, locals := 50 } n [.ref 43, .int a1, .int a2] m (some (.int r.1)) r.2 := by
  refine MX_of (by decide) (Nat.le_of_ble_eq_true rfl) (Or.inr (Or.inl ⟨rfl, _, rfl⟩)) (fun K hC hk hL hR => ?_)
  replace hn64 : 64 ≤ kn K := hk.symm ▸ hn64
  show RX K 0 [(0, .ref 43), (1, .int a1), (2, .int a2)] [] m
  rw [gX9_plan] at hg
  refine R_iload_n (pc := 0) hC 2 dX9_plan_0 rfl rfl ?_
  refine R_iconst (pc := 1) hC dX9_plan_1 ki_0 ?_
  refine R_iconst (pc := 2) hC dX9_plan_2 ki_1 ?_
  obtain ⟨x1, hx1, hg⟩ := bind_some hg
  refine R_callS (pc := 3) (av := [.int a2, .int 0, .int 1]) (rest := []) hC hR mf_X9_isIn wm_X9_98 (LX9_isIn hn64 hx1) rfl rfl rfl (Nat.le_of_ble_eq_true rfl) dX9_plan_3 rfl ?_
  show RX K 6 [(0, .ref 43), (1, .int a1), (2, .int a2)] [.int (b2i x1)] m
  refine R_ifB_ne (tgt := 14) (pc := 6) hC dX9_plan_6 (by decide) (fun c => ?_) (fun c => ?_)
  · replace hg := (if_pos c).symm.trans hg
    refine R_iload_n (pc := 14) hC 1 dX9_plan_14 rfl rfl ?_
    refine R_iconst (pc := 15) hC dX9_plan_15 ki_1 ?_
    refine R_icmp_ge (tgt := 24) (pc := 16) hC dX9_plan_16 (by decide) (fun c => ?_) (fun c => ?_)
    · replace hg := (if_pos c).symm.trans hg
      refine R_iload_n (pc := 24) hC 1 dX9_plan_24 rfl rfl ?_
      refine R_bipush (pc := 25) hC dX9_plan_25 kb_10 ?_
      refine R_icmp_gt (tgt := 55) (pc := 27) hC dX9_plan_27 (by decide) (fun c => ?_) (fun c => ?_)
      · replace hg := (if_pos c).symm.trans hg
        refine R_bipush (pc := 55) hC dX9_plan_55 kb_m6 ?_
        refine R_goto (tgt := 61) (pc := 57) hC dX9_plan_57 (by decide) ?_
        refine R_istore_n (pc := 61) hC dX9_plan_61 rfl hL rfl (show _ = [(3, .int (-6)), (0, .ref 43), (1, .int a1), (2, .int a2)] from rfl) ?_
        refine R_iload_n (pc := 62) hC 0 dX9_plan_62 rfl rfl ?_
        refine R_if_eq (tgt := 72) (pc := 63) hC dX9_plan_63 (by decide) (fun c => absurd c (by decide)) (fun c => ?_)
        refine R_aload_n (pc := 66) hC 1 dX9_plan_66 rfl rfl ?_
        refine R_iload_n (pc := 67) hC 0 dX9_plan_67 rfl rfl ?_
        obtain ⟨q2, hq2, hg⟩ := bind_some hg
        refine R_callV (pc := 68) (av := [.int (-6)]) (rest := []) hC hR 43 (jx hn64 rfl) ly43 rfl mf_X9_no wm_X9_87 (LX9_no hn64 hq2) rfl rfl rfl (Nat.le_of_ble_eq_true rfl) dX9_plan_68 rfl ?_
        show RX K 71 [(3, .int (-6)), (0, .ref 43), (1, .int a1), (2, .int a2)] [.int q2.1] q2.2
        have h9 := gxIM hg
        exact R_ireturn (pc := 71) hC dX9_plan_71 h9
      · replace hg := (if_neg c).symm.trans hg
        refine R_aload_n (pc := 30) hC 0 dX9_plan_30 rfl rfl ?_
        refine gf_X9_34 (pc := 31) hC hn64 dX9_plan_31 ?_
        refine R_iconst (pc := 34) hC dX9_plan_34 ki_5 ?_
        refine R_icmp_gt (tgt := 55) (pc := 35) hC dX9_plan_35 (by decide) (fun c => ?_) (fun c => ?_)
        · replace hg := (if_pos c).symm.trans hg
          refine R_bipush (pc := 55) hC dX9_plan_55 kb_m6 ?_
          refine R_goto (tgt := 61) (pc := 57) hC dX9_plan_57 (by decide) ?_
          refine R_istore_n (pc := 61) hC dX9_plan_61 rfl hL rfl (show _ = [(3, .int (-6)), (0, .ref 43), (1, .int a1), (2, .int a2)] from rfl) ?_
          refine R_iload_n (pc := 62) hC 0 dX9_plan_62 rfl rfl ?_
          refine R_if_eq (tgt := 72) (pc := 63) hC dX9_plan_63 (by decide) (fun c => absurd c (by decide)) (fun c => ?_)
          refine R_aload_n (pc := 66) hC 1 dX9_plan_66 rfl rfl ?_
          refine R_iload_n (pc := 67) hC 0 dX9_plan_67 rfl rfl ?_
          obtain ⟨q3, hq3, hg⟩ := bind_some hg
          refine R_callV (pc := 68) (av := [.int (-6)]) (rest := []) hC hR 43 (jx hn64 rfl) ly43 rfl mf_X9_no wm_X9_87 (LX9_no hn64 hq3) rfl rfl rfl (Nat.le_of_ble_eq_true rfl) dX9_plan_68 rfl ?_
          show RX K 71 [(3, .int (-6)), (0, .ref 43), (1, .int a1), (2, .int a2)] [.int q3.1] q3.2
          have h9 := gxIM hg
          exact R_ireturn (pc := 71) hC dX9_plan_71 h9
        · replace hg := (if_neg c).symm.trans hg
          refine R_iload_n (pc := 38) hC 1 dX9_plan_38 rfl rfl ?_
          refine R_aload_n (pc := 39) hC 0 dX9_plan_39 rfl rfl ?_
          refine gf_X9_34 (pc := 40) hC hn64 dX9_plan_40 ?_
          refine R_aload_n (pc := 43) hC 0 dX9_plan_43 rfl rfl ?_
          refine gf_X9_34 (pc := 44) hC hn64 dX9_plan_44 ?_
          refine R_iconst (pc := 47) hC dX9_plan_47 ki_1 ?_
          refine R_isub (pc := 48) hC dX9_plan_48 ?_
          refine R_imul (pc := 49) hC dX9_plan_49 ?_
          refine R_iconst (pc := 50) hC dX9_plan_50 ki_2 ?_
          refine R_idiv (pc := 51) hC dX9_plan_51 (by decide) ?_
          refine R_icmp_le (tgt := 60) (pc := 52) hC dX9_plan_52 (by decide) (fun c => ?_) (fun c => ?_)
          · replace hg := (if_pos c).symm.trans hg
            refine R_iconst (pc := 60) hC dX9_plan_60 ki_0 ?_
            refine R_istore_n (pc := 61) hC dX9_plan_61 rfl hL rfl (show _ = [(3, .int 0), (0, .ref 43), (1, .int a1), (2, .int a2)] from rfl) ?_
            refine R_iload_n (pc := 62) hC 0 dX9_plan_62 rfl rfl ?_
            refine R_if_eq (tgt := 72) (pc := 63) hC dX9_plan_63 (by decide) (fun c => ?_) (fun c => absurd c (by decide))
            refine R_aload_n (pc := 72) hC 1 dX9_plan_72 rfl rfl ?_
            refine R_iconst (pc := 73) hC dX9_plan_73 ki_0 ?_
            obtain ⟨m4, hm4, hg⟩ := lete_some hg
            refine pf_X9_247 (pc := 74) hC hn64 dX9_plan_74 ?_
            refine R_mem hm4 ?_
            refine R_iconst (pc := 77) hC dX9_plan_77 ki_0 ?_
            refine R_istore (pc := 78) hC dX9_plan_78 hL rfl (show _ = [(4, .int 0), (3, .int 0), (0, .ref 43), (1, .int a1), (2, .int a2)] from rfl) ?_
            refine R_pick [2, 3, 4, 1, 0] (ls' := [(0, .ref 43), (1, .int a1), (2, .int a2), (3, .int 0), (4, .int 0)]) rfl ?_
            obtain ⟨e17, he17, hg⟩ := bind_some hg
            refine iter_walk (P := fun s : (Int32 × Mem) => RX K 80 [(0, .ref 43), (1, .int a1), (2, .int a2), (3, .int 0), (4, .int s.1)] [] s.2) (Qe := fun s : (Int32 × Mem) => RX K 148 [(0, .ref 43), (1, .int a1), (2, .int a2), (3, .int 0), (4, .int s.1)] [] s.2) (fun s18 o hg kL80 kE80 => ?_) _ _ _ he17 ?_
            · obtain ⟨y5, m6⟩ := s18
              rw [bX9_plan_80] at hg
              show RX K 80 [(0, .ref 43), (1, .int a1), (2, .int a2), (3, .int 0), (4, .int y5)] [] m6
              refine R_iload (pc := 80) hC 4 dX9_plan_80 rfl ?_
              refine R_aload_n (pc := 82) hC 0 dX9_plan_82 rfl rfl ?_
              refine gf_X9_34 (pc := 83) hC hn64 dX9_plan_83 ?_
              refine R_icmp_ge (tgt := 148) (pc := 86) hC dX9_plan_86 (by decide) (fun c => ?_) (fun c => ?_)
              · replace hg := (if_pos c).symm.trans hg
                refine R_pick [0, 1, 2, 3, 4] (ls' := [(0, .ref 43), (1, .int a1), (2, .int a2), (3, .int 0), (4, .int y5)]) rfl ?_
                have h9 := kE80 _ (Option.some.inj hg).symm
                exact h9
              · replace hg := (if_neg c).symm.trans hg
                refine R_iload (pc := 89) hC 4 dX9_plan_89 rfl ?_
                refine R_iconst (pc := 91) hC dX9_plan_91 ki_1 ?_
                refine R_iadd (pc := 92) hC dX9_plan_92 ?_
                obtain ⟨x7, hx7, hg⟩ := lete_some hg
                refine R_top hx7 ?_
                refine R_istore (pc := 93) hC dX9_plan_93 hL rfl (show _ = [(5, .int x7), (0, .ref 43), (1, .int a1), (2, .int a2), (3, .int 0), (4, .int y5)] from rfl) ?_
                refine R_pick [1, 2, 3, 4, 5, 0] (ls' := [(0, .ref 43), (1, .int a1), (2, .int a2), (3, .int 0), (4, .int y5), (5, .int x7)]) rfl ?_
                obtain ⟨e15, he15, hg⟩ := bind_some hg
                refine iter_walk (P := fun s : (Int32 × Mem) => RX K 95 [(0, .ref 43), (1, .int a1), (2, .int a2), (3, .int 0), (4, .int y5), (5, .int s.1)] [] s.2) (Qe := fun s : (Int32 × Mem) => RX K 142 [(0, .ref 43), (1, .int a1), (2, .int a2), (3, .int 0), (4, .int y5), (5, .int s.1)] [] s.2) (fun s16 o hg kL95 kE95 => ?_) _ _ _ he15 ?_
                · obtain ⟨y8, m9⟩ := s16
                  rw [bX9_plan_95] at hg
                  show RX K 95 [(0, .ref 43), (1, .int a1), (2, .int a2), (3, .int 0), (4, .int y5), (5, .int y8)] [] m9
                  refine R_iload (pc := 95) hC 5 dX9_plan_95 rfl ?_
                  refine R_aload_n (pc := 97) hC 0 dX9_plan_97 rfl rfl ?_
                  refine gf_X9_34 (pc := 98) hC hn64 dX9_plan_98 ?_
                  refine R_icmp_ge (tgt := 142) (pc := 101) hC dX9_plan_101 (by decide) (fun c => ?_) (fun c => ?_)
                  · replace hg := (if_pos c).symm.trans hg
                    refine R_pick [0, 1, 2, 3, 4, 5] (ls' := [(0, .ref 43), (1, .int a1), (2, .int a2), (3, .int 0), (4, .int y5), (5, .int y8)]) rfl ?_
                    have h9 := kE95 _ (Option.some.inj hg).symm
                    exact h9
                  · replace hg := (if_neg c).symm.trans hg
                    refine R_aload_n (pc := 104) hC 0 dX9_plan_104 rfl rfl ?_
                    refine gf_X9_63 (pc := 105) hC hn64 dX9_plan_105 ?_
                    refine R_aload_n (pc := 108) hC 0 dX9_plan_108 rfl rfl ?_
                    refine gf_X9_247 (pc := 109) hC hn64 dX9_plan_109 ?_
                    refine R_iload (pc := 112) hC 4 dX9_plan_112 rfl ?_
                    obtain ⟨c10, hg⟩ := chk_some hg
                    obtain ⟨m11, hm11, hg⟩ := lete_some hg
                    refine R_iastore (pc := 114) hC 60 (jx hn64 rfl) ly60 (inb_vp c10) dX9_plan_114 ?_
                    refine R_mem hm11 ?_
                    refine R_aload_n (pc := 115) hC 0 dX9_plan_115 rfl rfl ?_
                    refine gf_X9_66 (pc := 116) hC hn64 dX9_plan_116 ?_
                    refine R_aload_n (pc := 119) hC 0 dX9_plan_119 rfl rfl ?_
                    refine gf_X9_247 (pc := 120) hC hn64 dX9_plan_120 ?_
                    refine R_iload (pc := 123) hC 5 dX9_plan_123 rfl ?_
                    obtain ⟨c12, hg⟩ := chk_some hg
                    obtain ⟨m13, hm13, hg⟩ := lete_some hg
                    refine R_iastore (pc := 125) hC 61 (jx hn64 rfl) ly61 (inb_vp c12) dX9_plan_125 ?_
                    refine R_mem hm13 ?_
                    refine R_aload_n (pc := 126) hC 0 dX9_plan_126 rfl rfl ?_
                    refine R_dup (pc := 127) hC dX9_plan_127 rfl ?_
                    refine gf_X9_247 (pc := 128) hC hn64 dX9_plan_128 ?_
                    refine R_iconst (pc := 131) hC dX9_plan_131 ki_1 ?_
                    refine R_iadd (pc := 132) hC dX9_plan_132 ?_
                    obtain ⟨m14, hm14, hg⟩ := lete_some hg
                    refine pf_X9_247 (pc := 133) hC hn64 dX9_plan_133 ?_
                    refine R_mem hm14 ?_
                    refine R_iinc (pc := 136) hC 5 dX9_plan_136 rfl (iv ki_1) hL rfl (show _ = [(5, .int (y8 + 1)), (0, .ref 43), (1, .int a1), (2, .int a2), (3, .int 0), (4, .int y5)] from rfl) ?_
                    refine R_goto (tgt := 95) (pc := 139) hC dX9_plan_139 (by decide) ?_
                    refine R_pick [1, 2, 3, 4, 5, 0] (ls' := [(0, .ref 43), (1, .int a1), (2, .int a2), (3, .int 0), (4, .int y5), (5, .int (y8 + 1))]) rfl ?_
                    have h9 := kL95 _ (Option.some.inj hg).symm
                    exact h9
                · show RX K 142 [(0, .ref 43), (1, .int a1), (2, .int a2), (3, .int 0), (4, .int y5), (5, .int e15.1)] [] e15.2
                  refine R_iinc (pc := 142) hC 4 dX9_plan_142 rfl (iv ki_1) hL rfl (show _ = [(4, .int (y5 + 1)), (0, .ref 43), (1, .int a1), (2, .int a2), (3, .int 0), (5, .int e15.1)] from rfl) ?_
                  refine R_goto (tgt := 80) (pc := 145) hC dX9_plan_145 (by decide) ?_
                  refine R_pick [1, 2, 3, 4, 0] (ls' := [(0, .ref 43), (1, .int a1), (2, .int a2), (3, .int 0), (4, .int (y5 + 1))]) rfl ?_
                  have h9 := kL80 _ (Option.some.inj hg).symm
                  exact h9
            · show RX K 148 [(0, .ref 43), (1, .int a1), (2, .int a2), (3, .int 0), (4, .int e17.1)] [] e17.2
              refine R_aload_n (pc := 148) hC 0 dX9_plan_148 rfl rfl ?_
              refine R_iload_n (pc := 149) hC 1 dX9_plan_149 rfl rfl ?_
              obtain ⟨q19, hq19, hg⟩ := bind_some hg
              refine R_callV (pc := 150) (av := [.int a1]) (rest := []) hC hR 43 (jx hn64 rfl) ly43 rfl mf_X9_findPlan wm_X9_262 (LX9_findPlan hn64 hq19) rfl rfl rfl (Nat.le_of_ble_eq_true rfl) dX9_plan_150 rfl ?_
              show RX K 153 [(0, .ref 43), (1, .int a1), (2, .int a2), (3, .int 0), (4, .int e17.1)] [] q19
              refine R_iload_n (pc := 153) hC 2 dX9_plan_153 rfl rfl ?_
              refine R_if_ne (tgt := 164) (pc := 154) hC dX9_plan_154 (by decide) (fun c => ?_) (fun c => ?_)
              · replace hg := (if_neg c).symm.trans hg
                refine R_aload_n (pc := 164) hC 0 dX9_plan_164 rfl rfl ?_
                refine gf_X9_259 (pc := 165) hC hn64 dX9_plan_165 ?_
                have h9 := gxIM hg
                exact R_ireturn (pc := 168) hC dX9_plan_168 h9
              · replace hg := (if_pos c).symm.trans hg
                refine R_aload_n (pc := 157) hC 0 dX9_plan_157 rfl rfl ?_
                refine gf_X9_256 (pc := 158) hC hn64 dX9_plan_158 ?_
                refine R_goto (tgt := 168) (pc := 161) hC dX9_plan_161 (by decide) ?_
                have h9 := gxIM hg
                exact R_ireturn (pc := 168) hC dX9_plan_168 h9
          · replace hg := (if_neg c).symm.trans hg
            refine R_bipush (pc := 55) hC dX9_plan_55 kb_m6 ?_
            refine R_goto (tgt := 61) (pc := 57) hC dX9_plan_57 (by decide) ?_
            refine R_istore_n (pc := 61) hC dX9_plan_61 rfl hL rfl (show _ = [(3, .int (-6)), (0, .ref 43), (1, .int a1), (2, .int a2)] from rfl) ?_
            refine R_iload_n (pc := 62) hC 0 dX9_plan_62 rfl rfl ?_
            refine R_if_eq (tgt := 72) (pc := 63) hC dX9_plan_63 (by decide) (fun c => absurd c (by decide)) (fun c => ?_)
            refine R_aload_n (pc := 66) hC 1 dX9_plan_66 rfl rfl ?_
            refine R_iload_n (pc := 67) hC 0 dX9_plan_67 rfl rfl ?_
            obtain ⟨q20, hq20, hg⟩ := bind_some hg
            refine R_callV (pc := 68) (av := [.int (-6)]) (rest := []) hC hR 43 (jx hn64 rfl) ly43 rfl mf_X9_no wm_X9_87 (LX9_no hn64 hq20) rfl rfl rfl (Nat.le_of_ble_eq_true rfl) dX9_plan_68 rfl ?_
            show RX K 71 [(3, .int (-6)), (0, .ref 43), (1, .int a1), (2, .int a2)] [.int q20.1] q20.2
            have h9 := gxIM hg
            exact R_ireturn (pc := 71) hC dX9_plan_71 h9
    · replace hg := (if_neg c).symm.trans hg
      refine R_bipush (pc := 19) hC dX9_plan_19 kb_m4 ?_
      refine R_goto (tgt := 61) (pc := 21) hC dX9_plan_21 (by decide) ?_
      refine R_istore_n (pc := 61) hC dX9_plan_61 rfl hL rfl (show _ = [(3, .int (-4)), (0, .ref 43), (1, .int a1), (2, .int a2)] from rfl) ?_
      refine R_iload_n (pc := 62) hC 0 dX9_plan_62 rfl rfl ?_
      refine R_if_eq (tgt := 72) (pc := 63) hC dX9_plan_63 (by decide) (fun c => absurd c (by decide)) (fun c => ?_)
      refine R_aload_n (pc := 66) hC 1 dX9_plan_66 rfl rfl ?_
      refine R_iload_n (pc := 67) hC 0 dX9_plan_67 rfl rfl ?_
      obtain ⟨q21, hq21, hg⟩ := bind_some hg
      refine R_callV (pc := 68) (av := [.int (-4)]) (rest := []) hC hR 43 (jx hn64 rfl) ly43 rfl mf_X9_no wm_X9_87 (LX9_no hn64 hq21) rfl rfl rfl (Nat.le_of_ble_eq_true rfl) dX9_plan_68 rfl ?_
      show RX K 71 [(3, .int (-4)), (0, .ref 43), (1, .int a1), (2, .int a2)] [.int q21.1] q21.2
      have h9 := gxIM hg
      exact R_ireturn (pc := 71) hC dX9_plan_71 h9
  · replace hg := (if_neg c).symm.trans hg
    refine R_bipush (pc := 9) hC dX9_plan_9 kb_m2 ?_
    refine R_goto (tgt := 61) (pc := 11) hC dX9_plan_11 (by decide) ?_
    refine R_istore_n (pc := 61) hC dX9_plan_61 rfl hL rfl (show _ = [(3, .int (-2)), (0, .ref 43), (1, .int a1), (2, .int a2)] from rfl) ?_
    refine R_iload_n (pc := 62) hC 0 dX9_plan_62 rfl rfl ?_
    refine R_if_eq (tgt := 72) (pc := 63) hC dX9_plan_63 (by decide) (fun c => absurd c (by decide)) (fun c => ?_)
    refine R_aload_n (pc := 66) hC 1 dX9_plan_66 rfl rfl ?_
    refine R_iload_n (pc := 67) hC 0 dX9_plan_67 rfl rfl ?_
    obtain ⟨q22, hq22, hg⟩ := bind_some hg
    refine R_callV (pc := 68) (av := [.int (-2)]) (rest := []) hC hR 43 (jx hn64 rfl) ly43 rfl mf_X9_no wm_X9_87 (LX9_no hn64 hq22) rfl rfl rfl (Nat.le_of_ble_eq_true rfl) dX9_plan_68 rfl ?_
    show RX K 71 [(3, .int (-2)), (0, .ref 43), (1, .int a1), (2, .int a2)] [.int q22.1] q22.2
    have h9 := gxIM hg
    exact R_ireturn (pc := 71) hC dX9_plan_71 h9
theorem dX9_drawn_0 : decode cX9_drawn 0 = .ok (.aload_n 0, 1) := by decide +kernel
theorem dX9_drawn_1 : decode cX9_drawn 1 = .ok (.aload_n 0, 1) := by decide +kernel
theorem dX9_drawn_2 : decode cX9_drawn 2 = .ok (.getfield 266, 3) := by decide +kernel
theorem dX9_drawn_5 : decode cX9_drawn 5 = .ok (.ldc_w 269, 3) := by decide +kernel
theorem dX9_drawn_8 : decode cX9_drawn 8 = .ok (.imul, 1) := by decide +kernel
theorem dX9_drawn_9 : decode cX9_drawn 9 = .ok (.sipush 12345, 3) := by decide +kernel
theorem dX9_drawn_12 : decode cX9_drawn 12 = .ok (.iadd, 1) := by decide +kernel
theorem dX9_drawn_13 : decode cX9_drawn 13 = .ok (.putfield 266, 3) := by decide +kernel
theorem dX9_drawn_16 : decode cX9_drawn 16 = .ok (.aload_n 0, 1) := by decide +kernel
theorem dX9_drawn_17 : decode cX9_drawn 17 = .ok (.getfield 266, 3) := by decide +kernel
theorem dX9_drawn_20 : decode cX9_drawn 20 = .ok (.ldc_w 270, 3) := by decide +kernel
theorem dX9_drawn_23 : decode cX9_drawn 23 = .ok (.iand, 1) := by decide +kernel
theorem dX9_drawn_24 : decode cX9_drawn 24 = .ok (.ldc_w 271, 3) := by decide +kernel
theorem dX9_drawn_27 : decode cX9_drawn 27 = .ok (.idiv, 1) := by decide +kernel
theorem dX9_drawn_28 : decode cX9_drawn 28 = .ok (.i2l, 1) := by decide +kernel
theorem dX9_drawn_29 : decode cX9_drawn 29 = .ok (.lload_n 1, 1) := by decide +kernel
theorem dX9_drawn_30 : decode cX9_drawn 30 = .ok (.lrem, 1) := by decide +kernel
theorem dX9_drawn_31 : decode cX9_drawn 31 = .ok (.l2i, 1) := by decide +kernel
theorem dX9_drawn_32 : decode cX9_drawn 32 = .ok (.ireturn, 1) := by decide +kernel
def gX9_drawn (m : Mem) (a1 : Int64) : Option (Int32 × Mem) := lete (mu m 43 32 (((m.1 43 32) * 1103515245) + 12345)) (fun m1 => chk (¬ a1 = 0) (some (Int64.toInt32 (((((m1.1 43 32) &&& 2147483647) / 65536).toInt64) - ((((m1.1 43 32) &&& 2147483647) / 65536).toInt64) / a1 * a1), m1)))
set_option maxHeartbeats 4000000 in
set_option maxRecDepth 20000 in
theorem LX9_drawn {n : Nat} {m : Mem} {a1 : Int64} {r : Int32 × Mem} (hn64 : 64 ≤ n) (hg : gX9_drawn m a1 = some r) : MX yX9_drawn cX9_drawn 3 (some .int) { frames := 0, cells := 0, slots := 0, locals := 0 } n [.ref 43, .long a1] m (some (.int r.1)) r.2 := by
  refine MX_of (by decide) (Nat.le_of_ble_eq_true rfl) (Or.inr (Or.inl ⟨rfl, _, rfl⟩)) (fun K hC hk hL hR => ?_)
  replace hn64 : 64 ≤ kn K := hk.symm ▸ hn64
  show RX K 0 [(0, .ref 43), (1, .long a1)] [] m
  rw [gX9_drawn] at hg
  refine R_aload_n (pc := 0) hC 0 dX9_drawn_0 rfl rfl ?_
  refine R_aload_n (pc := 1) hC 0 dX9_drawn_1 rfl rfl ?_
  refine gf_X9_266 (pc := 2) hC hn64 dX9_drawn_2 ?_
  refine R_ldcw (pc := 5) hC wc_X9_269 dX9_drawn_5 ?_
  refine R_imul (pc := 8) hC dX9_drawn_8 ?_
  refine R_sipush (pc := 9) hC dX9_drawn_9 ks_12345 ?_
  refine R_iadd (pc := 12) hC dX9_drawn_12 ?_
  obtain ⟨m1, hm1, hg⟩ := lete_some hg
  refine pf_X9_266 (pc := 13) hC hn64 dX9_drawn_13 ?_
  refine R_mem hm1 ?_
  refine R_aload_n (pc := 16) hC 0 dX9_drawn_16 rfl rfl ?_
  refine gf_X9_266 (pc := 17) hC hn64 dX9_drawn_17 ?_
  refine R_ldcw (pc := 20) hC wc_X9_270 dX9_drawn_20 ?_
  refine R_iand (pc := 23) hC dX9_drawn_23 ?_
  refine R_ldcw (pc := 24) hC wc_X9_271 dX9_drawn_24 ?_
  refine R_idiv (pc := 27) hC dX9_drawn_27 (by decide) ?_
  refine R_i2l (pc := 28) hC dX9_drawn_28 ?_
  refine R_lload_n (pc := 29) hC 1 dX9_drawn_29 rfl rfl ?_
  obtain ⟨c2, hg⟩ := chk_some hg
  refine R_lrem (pc := 30) hC dX9_drawn_30 c2 ?_
  refine R_l2i (pc := 31) hC dX9_drawn_31 ?_
  have h9 := gxIM hg
  exact R_ireturn (pc := 32) hC dX9_drawn_32 h9
theorem dX9_leads_0 : decode cX9_leads 0 = .ok (.aload_n 0, 1) := by decide +kernel
theorem dX9_leads_1 : decode cX9_leads 1 = .ok (.getfield 31, 3) := by decide +kernel
theorem dX9_leads_4 : decode cX9_leads 4 = .ok (.iload_n 1, 1) := by decide +kernel
theorem dX9_leads_5 : decode cX9_leads 5 = .ok (.iaload, 1) := by decide +kernel
theorem dX9_leads_6 : decode cX9_leads 6 = .ok (.iconst 2, 1) := by decide +kernel
theorem dX9_leads_7 : decode cX9_leads 7 = .ok (.if_icmp .ne 6, 3) := by decide +kernel
theorem dX9_leads_10 : decode cX9_leads 10 = .ok (.bipush (-9), 2) := by decide +kernel
theorem dX9_leads_12 : decode cX9_leads 12 = .ok (.ireturn, 1) := by decide +kernel
theorem dX9_leads_13 : decode cX9_leads 13 = .ok (.aload_n 0, 1) := by decide +kernel
theorem dX9_leads_14 : decode cX9_leads 14 = .ok (.getfield 16, 3) := by decide +kernel
theorem dX9_leads_17 : decode cX9_leads 17 = .ok (.iload_n 1, 1) := by decide +kernel
theorem dX9_leads_18 : decode cX9_leads 18 = .ok (.iaload, 1) := by decide +kernel
theorem dX9_leads_19 : decode cX9_leads 19 = .ok (.iload_n 2, 1) := by decide +kernel
theorem dX9_leads_20 : decode cX9_leads 20 = .ok (.if_icmp .ne 12, 3) := by decide +kernel
theorem dX9_leads_23 : decode cX9_leads 23 = .ok (.aload_n 0, 1) := by decide +kernel
theorem dX9_leads_24 : decode cX9_leads 24 = .ok (.getfield 19, 3) := by decide +kernel
theorem dX9_leads_27 : decode cX9_leads 27 = .ok (.iload_n 1, 1) := by decide +kernel
theorem dX9_leads_28 : decode cX9_leads 28 = .ok (.iaload, 1) := by decide +kernel
theorem dX9_leads_29 : decode cX9_leads 29 = .ok (.goto 34, 3) := by decide +kernel
theorem dX9_leads_32 : decode cX9_leads 32 = .ok (.aload_n 0, 1) := by decide +kernel
theorem dX9_leads_33 : decode cX9_leads 33 = .ok (.getfield 19, 3) := by decide +kernel
theorem dX9_leads_36 : decode cX9_leads 36 = .ok (.iload_n 1, 1) := by decide +kernel
theorem dX9_leads_37 : decode cX9_leads 37 = .ok (.iaload, 1) := by decide +kernel
theorem dX9_leads_38 : decode cX9_leads 38 = .ok (.iload_n 2, 1) := by decide +kernel
theorem dX9_leads_39 : decode cX9_leads 39 = .ok (.if_icmp .ne 22, 3) := by decide +kernel
theorem dX9_leads_42 : decode cX9_leads 42 = .ok (.aload_n 0, 1) := by decide +kernel
theorem dX9_leads_43 : decode cX9_leads 43 = .ok (.getfield 13, 3) := by decide +kernel
theorem dX9_leads_46 : decode cX9_leads 46 = .ok (.iload_n 1, 1) := by decide +kernel
theorem dX9_leads_47 : decode cX9_leads 47 = .ok (.iaload, 1) := by decide +kernel
theorem dX9_leads_48 : decode cX9_leads 48 = .ok (.iconst 3, 1) := by decide +kernel
theorem dX9_leads_49 : decode cX9_leads 49 = .ok (.if_icmp .eq 12, 3) := by decide +kernel
theorem dX9_leads_52 : decode cX9_leads 52 = .ok (.aload_n 0, 1) := by decide +kernel
theorem dX9_leads_53 : decode cX9_leads 53 = .ok (.getfield 16, 3) := by decide +kernel
theorem dX9_leads_56 : decode cX9_leads 56 = .ok (.iload_n 1, 1) := by decide +kernel
theorem dX9_leads_57 : decode cX9_leads 57 = .ok (.iaload, 1) := by decide +kernel
theorem dX9_leads_58 : decode cX9_leads 58 = .ok (.goto 5, 3) := by decide +kernel
theorem dX9_leads_61 : decode cX9_leads 61 = .ok (.bipush (-9), 2) := by decide +kernel
theorem dX9_leads_63 : decode cX9_leads 63 = .ok (.ireturn, 1) := by decide +kernel
def gX9_leads (m : Mem) (a1 : Int32) (a2 : Int32) : Option (Int32) := chk (inb a1 11) ((if (m.1 51 (Int32.toNatClampNeg a1)) = 2 then some (-9) else chk (inb a1 11) ((if (m.1 46 (Int32.toNatClampNeg a1)) = a2 then chk (inb a1 11) (some (m.1 47 (Int32.toNatClampNeg a1))) else chk (inb a1 11) ((if (m.1 47 (Int32.toNatClampNeg a1)) = a2 then chk (inb a1 11) ((if (m.1 45 (Int32.toNatClampNeg a1)) = 3 then some (-9) else chk (inb a1 11) (some (m.1 46 (Int32.toNatClampNeg a1))))) else some (-9)))))))
set_option maxHeartbeats 4000000 in
set_option maxRecDepth 20000 in
theorem LX9_leads {n : Nat} {m : Mem} {a1 : Int32} {a2 : Int32} {r : Int32} (hn64 : 64 ≤ n) (hg : gX9_leads m a1 a2 = some r) : MX yX9_leads cX9_leads 3 (some .int) { frames := 0, cells := 0, slots := 0, locals := 0 } n [.ref 43, .int a1, .int a2] m (some (.int r)) m := by
  refine MX_of (by decide) (Nat.le_of_ble_eq_true rfl) (Or.inr (Or.inl ⟨rfl, _, rfl⟩)) (fun K hC hk hL hR => ?_)
  replace hn64 : 64 ≤ kn K := hk.symm ▸ hn64
  show RX K 0 [(0, .ref 43), (1, .int a1), (2, .int a2)] [] m
  rw [gX9_leads] at hg
  refine R_aload_n (pc := 0) hC 0 dX9_leads_0 rfl rfl ?_
  refine gf_X9_31 (pc := 1) hC hn64 dX9_leads_1 ?_
  refine R_iload_n (pc := 4) hC 1 dX9_leads_4 rfl rfl ?_
  obtain ⟨c1, hg⟩ := chk_some hg
  refine R_iaload (pc := 5) hC 51 (jx hn64 rfl) ly51 (inb_vp c1) dX9_leads_5 ?_
  refine R_iconst (pc := 6) hC dX9_leads_6 ki_2 ?_
  refine R_icmp_ne (tgt := 13) (pc := 7) hC dX9_leads_7 (by decide) (fun c => ?_) (fun c => ?_)
  · replace hg := (if_neg c).symm.trans hg
    refine R_aload_n (pc := 13) hC 0 dX9_leads_13 rfl rfl ?_
    refine gf_X9_16 (pc := 14) hC hn64 dX9_leads_14 ?_
    refine R_iload_n (pc := 17) hC 1 dX9_leads_17 rfl rfl ?_
    obtain ⟨c2, hg⟩ := chk_some hg
    refine R_iaload (pc := 18) hC 46 (jx hn64 rfl) ly46 (inb_vp c2) dX9_leads_18 ?_
    refine R_iload_n (pc := 19) hC 2 dX9_leads_19 rfl rfl ?_
    refine R_icmp_ne (tgt := 32) (pc := 20) hC dX9_leads_20 (by decide) (fun c => ?_) (fun c => ?_)
    · replace hg := (if_neg c).symm.trans hg
      refine R_aload_n (pc := 32) hC 0 dX9_leads_32 rfl rfl ?_
      refine gf_X9_19 (pc := 33) hC hn64 dX9_leads_33 ?_
      refine R_iload_n (pc := 36) hC 1 dX9_leads_36 rfl rfl ?_
      obtain ⟨c3, hg⟩ := chk_some hg
      refine R_iaload (pc := 37) hC 47 (jx hn64 rfl) ly47 (inb_vp c3) dX9_leads_37 ?_
      refine R_iload_n (pc := 38) hC 2 dX9_leads_38 rfl rfl ?_
      refine R_icmp_ne (tgt := 61) (pc := 39) hC dX9_leads_39 (by decide) (fun c => ?_) (fun c => ?_)
      · replace hg := (if_neg c).symm.trans hg
        refine R_bipush (pc := 61) hC dX9_leads_61 kb_m9 ?_
        have h9 := gxI (m := m) hg
        exact R_ireturn (pc := 63) hC dX9_leads_63 h9
      · replace hg := (if_pos c).symm.trans hg
        refine R_aload_n (pc := 42) hC 0 dX9_leads_42 rfl rfl ?_
        refine gf_X9_13 (pc := 43) hC hn64 dX9_leads_43 ?_
        refine R_iload_n (pc := 46) hC 1 dX9_leads_46 rfl rfl ?_
        obtain ⟨c4, hg⟩ := chk_some hg
        refine R_iaload (pc := 47) hC 45 (jx hn64 rfl) ly45 (inb_vp c4) dX9_leads_47 ?_
        refine R_iconst (pc := 48) hC dX9_leads_48 ki_3 ?_
        refine R_icmp_eq (tgt := 61) (pc := 49) hC dX9_leads_49 (by decide) (fun c => ?_) (fun c => ?_)
        · replace hg := (if_pos c).symm.trans hg
          refine R_bipush (pc := 61) hC dX9_leads_61 kb_m9 ?_
          have h9 := gxI (m := m) hg
          exact R_ireturn (pc := 63) hC dX9_leads_63 h9
        · replace hg := (if_neg c).symm.trans hg
          refine R_aload_n (pc := 52) hC 0 dX9_leads_52 rfl rfl ?_
          refine gf_X9_16 (pc := 53) hC hn64 dX9_leads_53 ?_
          refine R_iload_n (pc := 56) hC 1 dX9_leads_56 rfl rfl ?_
          obtain ⟨c5, hg⟩ := chk_some hg
          refine R_iaload (pc := 57) hC 46 (jx hn64 rfl) ly46 (inb_vp c5) dX9_leads_57 ?_
          refine R_goto (tgt := 63) (pc := 58) hC dX9_leads_58 (by decide) ?_
          have h9 := gxI (m := m) hg
          exact R_ireturn (pc := 63) hC dX9_leads_63 h9
    · replace hg := (if_pos c).symm.trans hg
      refine R_aload_n (pc := 23) hC 0 dX9_leads_23 rfl rfl ?_
      refine gf_X9_19 (pc := 24) hC hn64 dX9_leads_24 ?_
      refine R_iload_n (pc := 27) hC 1 dX9_leads_27 rfl rfl ?_
      obtain ⟨c6, hg⟩ := chk_some hg
      refine R_iaload (pc := 28) hC 47 (jx hn64 rfl) ly47 (inb_vp c6) dX9_leads_28 ?_
      refine R_goto (tgt := 63) (pc := 29) hC dX9_leads_29 (by decide) ?_
      have h9 := gxI (m := m) hg
      exact R_ireturn (pc := 63) hC dX9_leads_63 h9
  · replace hg := (if_pos c).symm.trans hg
    refine R_bipush (pc := 10) hC dX9_leads_10 kb_m9 ?_
    have h9 := gxI (m := m) hg
    exact R_ireturn (pc := 12) hC dX9_leads_12 h9
theorem dX9_weightsFrom_0 : decode cX9_weightsFrom 0 = .ok (.iconst 0, 1) := by decide +kernel
theorem dX9_weightsFrom_1 : decode cX9_weightsFrom 1 = .ok (.istore_n 2, 1) := by decide +kernel
theorem dX9_weightsFrom_2 : decode cX9_weightsFrom 2 = .ok (.iconst 0, 1) := by decide +kernel
theorem dX9_weightsFrom_3 : decode cX9_weightsFrom 3 = .ok (.istore_n 3, 1) := by decide +kernel
theorem dX9_weightsFrom_4 : decode cX9_weightsFrom 4 = .ok (.iload_n 3, 1) := by decide +kernel
theorem dX9_weightsFrom_5 : decode cX9_weightsFrom 5 = .ok (.aload_n 0, 1) := by decide +kernel
theorem dX9_weightsFrom_6 : decode cX9_weightsFrom 6 = .ok (.getfield 77, 3) := by decide +kernel
theorem dX9_weightsFrom_9 : decode cX9_weightsFrom 9 = .ok (.if_icmp .ge 30, 3) := by decide +kernel
theorem dX9_weightsFrom_12 : decode cX9_weightsFrom 12 = .ok (.iload_n 2, 1) := by decide +kernel
theorem dX9_weightsFrom_13 : decode cX9_weightsFrom 13 = .ok (.aload_n 0, 1) := by decide +kernel
theorem dX9_weightsFrom_14 : decode cX9_weightsFrom 14 = .ok (.iload_n 3, 1) := by decide +kernel
theorem dX9_weightsFrom_15 : decode cX9_weightsFrom 15 = .ok (.iload_n 1, 1) := by decide +kernel
theorem dX9_weightsFrom_16 : decode cX9_weightsFrom 16 = .ok (.invokevirtual 272, 3) := by decide +kernel
theorem dX9_weightsFrom_19 : decode cX9_weightsFrom 19 = .ok (.ifCond .lt 11, 3) := by decide +kernel
theorem dX9_weightsFrom_22 : decode cX9_weightsFrom 22 = .ok (.aload_n 0, 1) := by decide +kernel
theorem dX9_weightsFrom_23 : decode cX9_weightsFrom 23 = .ok (.iload_n 3, 1) := by decide +kernel
theorem dX9_weightsFrom_24 : decode cX9_weightsFrom 24 = .ok (.invokevirtual 153, 3) := by decide +kernel
theorem dX9_weightsFrom_27 : decode cX9_weightsFrom 27 = .ok (.goto 4, 3) := by decide +kernel
theorem dX9_weightsFrom_30 : decode cX9_weightsFrom 30 = .ok (.iconst 0, 1) := by decide +kernel
theorem dX9_weightsFrom_31 : decode cX9_weightsFrom 31 = .ok (.iadd, 1) := by decide +kernel
theorem dX9_weightsFrom_32 : decode cX9_weightsFrom 32 = .ok (.istore_n 2, 1) := by decide +kernel
theorem dX9_weightsFrom_33 : decode cX9_weightsFrom 33 = .ok (.iinc 3 1, 3) := by decide +kernel
theorem dX9_weightsFrom_36 : decode cX9_weightsFrom 36 = .ok (.goto (-32), 3) := by decide +kernel
theorem dX9_weightsFrom_39 : decode cX9_weightsFrom 39 = .ok (.iload_n 2, 1) := by decide +kernel
theorem dX9_weightsFrom_40 : decode cX9_weightsFrom 40 = .ok (.ireturn, 1) := by decide +kernel
def bX9_weightsFrom_4 (m : Mem) (a1 : Int32) : (Int32 × Int32) → Option ((Int32 × Int32) ⊕ (Int32 × Int32))
  | (y1, y2) => (if (m.1 43 9) ≤ y2 then some (.inr (y1, y2)) else (gX9_leads m y2 a1).bind (fun x3 => (if x3 < 0 then lete (y1 + 0) (fun x4 => some (.inl (x4, y2 + 1))) else (gX9_weightOf m y2).bind (fun x5 => lete (y1 + x5) (fun x6 => some (.inl (x6, y2 + 1)))))))
def gX9_weightsFrom (F : Nat) (m : Mem) (a1 : Int32) : Option (Int32) := (iter F (bX9_weightsFrom_4 m a1) (0, 0)).bind (fun e7 => some e7.1)
set_option maxHeartbeats 4000000 in
set_option maxRecDepth 20000 in
theorem LX9_weightsFrom {n : Nat} {F : Nat} {m : Mem} {a1 : Int32} {r : Int32} (hn64 : 64 ≤ n) (hg : gX9_weightsFrom F m a1 = some r) : MX yX9_weightsFrom cX9_weightsFrom 4 (some .int) { frames := 1, cells := 0, slots := 0, locals := 22 } n [.ref 43, .int a1] m (some (.int r)) m := by
  refine MX_of (by decide) (Nat.le_of_ble_eq_true rfl) (Or.inr (Or.inl ⟨rfl, _, rfl⟩)) (fun K hC hk hL hR => ?_)
  replace hn64 : 64 ≤ kn K := hk.symm ▸ hn64
  show RX K 0 [(0, .ref 43), (1, .int a1)] [] m
  rw [gX9_weightsFrom] at hg
  refine R_iconst (pc := 0) hC dX9_weightsFrom_0 ki_0 ?_
  refine R_istore_n (pc := 1) hC dX9_weightsFrom_1 rfl hL rfl (show _ = [(2, .int 0), (0, .ref 43), (1, .int a1)] from rfl) ?_
  refine R_iconst (pc := 2) hC dX9_weightsFrom_2 ki_0 ?_
  refine R_istore_n (pc := 3) hC dX9_weightsFrom_3 rfl hL rfl (show _ = [(3, .int 0), (2, .int 0), (0, .ref 43), (1, .int a1)] from rfl) ?_
  refine R_pick [2, 3, 1, 0] (ls' := [(0, .ref 43), (1, .int a1), (2, .int 0), (3, .int 0)]) rfl ?_
  obtain ⟨e7, he7, hg⟩ := bind_some hg
  refine iter_walk (P := fun s : (Int32 × Int32) => RX K 4 [(0, .ref 43), (1, .int a1), (2, .int s.1), (3, .int s.2)] [] m) (Qe := fun s : (Int32 × Int32) => RX K 39 [(0, .ref 43), (1, .int a1), (2, .int s.1), (3, .int s.2)] [] m) (fun s8 o hg kL4 kE4 => ?_) _ _ _ he7 ?_
  · obtain ⟨y1, y2⟩ := s8
    rw [bX9_weightsFrom_4] at hg
    show RX K 4 [(0, .ref 43), (1, .int a1), (2, .int y1), (3, .int y2)] [] m
    refine R_iload_n (pc := 4) hC 3 dX9_weightsFrom_4 rfl rfl ?_
    refine R_aload_n (pc := 5) hC 0 dX9_weightsFrom_5 rfl rfl ?_
    refine gf_X9_77 (pc := 6) hC hn64 dX9_weightsFrom_6 ?_
    refine R_icmp_ge (tgt := 39) (pc := 9) hC dX9_weightsFrom_9 (by decide) (fun c => ?_) (fun c => ?_)
    · replace hg := (if_pos c).symm.trans hg
      refine R_pick [0, 1, 2, 3] (ls' := [(0, .ref 43), (1, .int a1), (2, .int y1), (3, .int y2)]) rfl ?_
      have h9 := kE4 _ (Option.some.inj hg).symm
      exact h9
    · replace hg := (if_neg c).symm.trans hg
      refine R_iload_n (pc := 12) hC 2 dX9_weightsFrom_12 rfl rfl ?_
      refine R_aload_n (pc := 13) hC 0 dX9_weightsFrom_13 rfl rfl ?_
      refine R_iload_n (pc := 14) hC 3 dX9_weightsFrom_14 rfl rfl ?_
      refine R_iload_n (pc := 15) hC 1 dX9_weightsFrom_15 rfl rfl ?_
      obtain ⟨x3, hx3, hg⟩ := bind_some hg
      refine R_callV (pc := 16) (av := [.int y2, .int a1]) (rest := [.int y1]) hC hR 43 (jx hn64 rfl) ly43 rfl mf_X9_leads wm_X9_272 (LX9_leads hn64 hx3) rfl rfl rfl (Nat.le_of_ble_eq_true rfl) dX9_weightsFrom_16 rfl ?_
      show RX K 19 [(0, .ref 43), (1, .int a1), (2, .int y1), (3, .int y2)] [.int x3, .int y1] m
      refine R_if_lt (tgt := 30) (pc := 19) hC dX9_weightsFrom_19 (by decide) (fun c => ?_) (fun c => ?_)
      · replace hg := (if_pos c).symm.trans hg
        refine R_iconst (pc := 30) hC dX9_weightsFrom_30 ki_0 ?_
        refine R_iadd (pc := 31) hC dX9_weightsFrom_31 ?_
        obtain ⟨x4, hx4, hg⟩ := lete_some hg
        refine R_top hx4 ?_
        refine R_istore_n (pc := 32) hC dX9_weightsFrom_32 rfl hL rfl (show _ = [(2, .int x4), (0, .ref 43), (1, .int a1), (3, .int y2)] from rfl) ?_
        refine R_iinc (pc := 33) hC 3 dX9_weightsFrom_33 rfl (iv ki_1) hL rfl (show _ = [(3, .int (y2 + 1)), (2, .int x4), (0, .ref 43), (1, .int a1)] from rfl) ?_
        refine R_goto (tgt := 4) (pc := 36) hC dX9_weightsFrom_36 (by decide) ?_
        refine R_pick [2, 3, 1, 0] (ls' := [(0, .ref 43), (1, .int a1), (2, .int x4), (3, .int (y2 + 1))]) rfl ?_
        have h9 := kL4 _ (Option.some.inj hg).symm
        exact h9
      · replace hg := (if_neg c).symm.trans hg
        refine R_aload_n (pc := 22) hC 0 dX9_weightsFrom_22 rfl rfl ?_
        refine R_iload_n (pc := 23) hC 3 dX9_weightsFrom_23 rfl rfl ?_
        obtain ⟨x5, hx5, hg⟩ := bind_some hg
        refine R_callV (pc := 24) (av := [.int y2]) (rest := [.int y1]) hC hR 43 (jx hn64 rfl) ly43 rfl mf_X9_weightOf wm_X9_153 (LX9_weightOf hn64 hx5) rfl rfl rfl (Nat.le_of_ble_eq_true rfl) dX9_weightsFrom_24 rfl ?_
        show RX K 27 [(0, .ref 43), (1, .int a1), (2, .int y1), (3, .int y2)] [.int x5, .int y1] m
        refine R_goto (tgt := 31) (pc := 27) hC dX9_weightsFrom_27 (by decide) ?_
        refine R_iadd (pc := 31) hC dX9_weightsFrom_31 ?_
        obtain ⟨x6, hx6, hg⟩ := lete_some hg
        refine R_top hx6 ?_
        refine R_istore_n (pc := 32) hC dX9_weightsFrom_32 rfl hL rfl (show _ = [(2, .int x6), (0, .ref 43), (1, .int a1), (3, .int y2)] from rfl) ?_
        refine R_iinc (pc := 33) hC 3 dX9_weightsFrom_33 rfl (iv ki_1) hL rfl (show _ = [(3, .int (y2 + 1)), (2, .int x6), (0, .ref 43), (1, .int a1)] from rfl) ?_
        refine R_goto (tgt := 4) (pc := 36) hC dX9_weightsFrom_36 (by decide) ?_
        refine R_pick [2, 3, 1, 0] (ls' := [(0, .ref 43), (1, .int a1), (2, .int x6), (3, .int (y2 + 1))]) rfl ?_
        have h9 := kL4 _ (Option.some.inj hg).symm
        exact h9
  · show RX K 39 [(0, .ref 43), (1, .int a1), (2, .int e7.1), (3, .int e7.2)] [] m
    refine R_iload_n (pc := 39) hC 2 dX9_weightsFrom_39 rfl rfl ?_
    have h9 := gxI (m := m) hg
    exact R_ireturn (pc := 40) hC dX9_weightsFrom_40 h9
theorem dX9_walks_0 : decode cX9_walks 0 = .ok (.iconst 0, 1) := by decide +kernel
theorem dX9_walks_1 : decode cX9_walks 1 = .ok (.istore_n 1, 1) := by decide +kernel
theorem dX9_walks_2 : decode cX9_walks 2 = .ok (.iconst 1, 1) := by decide +kernel
theorem dX9_walks_3 : decode cX9_walks 3 = .ok (.istore_n 2, 1) := by decide +kernel
theorem dX9_walks_4 : decode cX9_walks 4 = .ok (.iconst 0, 1) := by decide +kernel
theorem dX9_walks_5 : decode cX9_walks 5 = .ok (.istore_n 3, 1) := by decide +kernel
theorem dX9_walks_6 : decode cX9_walks 6 = .ok (.iconst 0, 1) := by decide +kernel
theorem dX9_walks_7 : decode cX9_walks 7 = .ok (.istore 4, 2) := by decide +kernel
theorem dX9_walks_9 : decode cX9_walks 9 = .ok (.iload 4, 2) := by decide +kernel
theorem dX9_walks_11 : decode cX9_walks 11 = .ok (.sipush 200, 3) := by decide +kernel
theorem dX9_walks_14 : decode cX9_walks 14 = .ok (.if_icmp .ge 129, 3) := by decide +kernel
theorem dX9_walks_17 : decode cX9_walks 17 = .ok (.iload_n 2, 1) := by decide +kernel
theorem dX9_walks_18 : decode cX9_walks 18 = .ok (.iconst 1, 1) := by decide +kernel
theorem dX9_walks_19 : decode cX9_walks 19 = .ok (.aload_n 0, 1) := by decide +kernel
theorem dX9_walks_20 : decode cX9_walks 20 = .ok (.getfield 34, 3) := by decide +kernel
theorem dX9_walks_23 : decode cX9_walks 23 = .ok (.ishl, 1) := by decide +kernel
theorem dX9_walks_24 : decode cX9_walks 24 = .ok (.iconst 1, 1) := by decide +kernel
theorem dX9_walks_25 : decode cX9_walks 25 = .ok (.isub, 1) := by decide +kernel
theorem dX9_walks_26 : decode cX9_walks 26 = .ok (.if_icmp .eq 117, 3) := by decide +kernel
theorem dX9_walks_29 : decode cX9_walks 29 = .ok (.aload_n 0, 1) := by decide +kernel
theorem dX9_walks_30 : decode cX9_walks 30 = .ok (.iload_n 1, 1) := by decide +kernel
theorem dX9_walks_31 : decode cX9_walks 31 = .ok (.invokevirtual 276, 3) := by decide +kernel
theorem dX9_walks_34 : decode cX9_walks 34 = .ok (.istore 5, 2) := by decide +kernel
theorem dX9_walks_36 : decode cX9_walks 36 = .ok (.iload 5, 2) := by decide +kernel
theorem dX9_walks_38 : decode cX9_walks 38 = .ok (.ifCond .ne 6, 3) := by decide +kernel
theorem dX9_walks_41 : decode cX9_walks 41 = .ok (.bipush (-9), 2) := by decide +kernel
theorem dX9_walks_43 : decode cX9_walks 43 = .ok (.ireturn, 1) := by decide +kernel
theorem dX9_walks_44 : decode cX9_walks 44 = .ok (.aload_n 0, 1) := by decide +kernel
theorem dX9_walks_45 : decode cX9_walks 45 = .ok (.iload 5, 2) := by decide +kernel
theorem dX9_walks_47 : decode cX9_walks 47 = .ok (.i2l, 1) := by decide +kernel
theorem dX9_walks_48 : decode cX9_walks 48 = .ok (.invokevirtual 279, 3) := by decide +kernel
theorem dX9_walks_51 : decode cX9_walks 51 = .ok (.istore 6, 2) := by decide +kernel
theorem dX9_walks_53 : decode cX9_walks 53 = .ok (.iconst 0, 1) := by decide +kernel
theorem dX9_walks_54 : decode cX9_walks 54 = .ok (.istore 7, 2) := by decide +kernel
theorem dX9_walks_56 : decode cX9_walks 56 = .ok (.aload_n 0, 1) := by decide +kernel
theorem dX9_walks_57 : decode cX9_walks 57 = .ok (.iload 7, 2) := by decide +kernel
theorem dX9_walks_59 : decode cX9_walks 59 = .ok (.iload_n 1, 1) := by decide +kernel
theorem dX9_walks_60 : decode cX9_walks 60 = .ok (.invokevirtual 272, 3) := by decide +kernel
theorem dX9_walks_63 : decode cX9_walks 63 = .ok (.ifCond .lt 14, 3) := by decide +kernel
theorem dX9_walks_66 : decode cX9_walks 66 = .ok (.iload 6, 2) := by decide +kernel
theorem dX9_walks_68 : decode cX9_walks 68 = .ok (.aload_n 0, 1) := by decide +kernel
theorem dX9_walks_69 : decode cX9_walks 69 = .ok (.iload 7, 2) := by decide +kernel
theorem dX9_walks_71 : decode cX9_walks 71 = .ok (.invokevirtual 153, 3) := by decide +kernel
theorem dX9_walks_74 : decode cX9_walks 74 = .ok (.if_icmp .lt 34, 3) := by decide +kernel
theorem dX9_walks_77 : decode cX9_walks 77 = .ok (.iload 6, 2) := by decide +kernel
theorem dX9_walks_79 : decode cX9_walks 79 = .ok (.aload_n 0, 1) := by decide +kernel
theorem dX9_walks_80 : decode cX9_walks 80 = .ok (.iload 7, 2) := by decide +kernel
theorem dX9_walks_82 : decode cX9_walks 82 = .ok (.iload_n 1, 1) := by decide +kernel
theorem dX9_walks_83 : decode cX9_walks 83 = .ok (.invokevirtual 272, 3) := by decide +kernel
theorem dX9_walks_86 : decode cX9_walks 86 = .ok (.ifCond .lt 12, 3) := by decide +kernel
theorem dX9_walks_89 : decode cX9_walks 89 = .ok (.aload_n 0, 1) := by decide +kernel
theorem dX9_walks_90 : decode cX9_walks 90 = .ok (.iload 7, 2) := by decide +kernel
theorem dX9_walks_92 : decode cX9_walks 92 = .ok (.invokevirtual 153, 3) := by decide +kernel
theorem dX9_walks_95 : decode cX9_walks 95 = .ok (.goto 4, 3) := by decide +kernel
theorem dX9_walks_98 : decode cX9_walks 98 = .ok (.iconst 0, 1) := by decide +kernel
theorem dX9_walks_99 : decode cX9_walks 99 = .ok (.isub, 1) := by decide +kernel
theorem dX9_walks_100 : decode cX9_walks 100 = .ok (.istore 6, 2) := by decide +kernel
theorem dX9_walks_102 : decode cX9_walks 102 = .ok (.iinc 7 1, 3) := by decide +kernel
theorem dX9_walks_105 : decode cX9_walks 105 = .ok (.goto (-49), 3) := by decide +kernel
theorem dX9_walks_108 : decode cX9_walks 108 = .ok (.aload_n 0, 1) := by decide +kernel
theorem dX9_walks_109 : decode cX9_walks 109 = .ok (.iload 7, 2) := by decide +kernel
theorem dX9_walks_111 : decode cX9_walks 111 = .ok (.iload_n 1, 1) := by decide +kernel
theorem dX9_walks_112 : decode cX9_walks 112 = .ok (.invokevirtual 272, 3) := by decide +kernel
theorem dX9_walks_115 : decode cX9_walks 115 = .ok (.istore_n 1, 1) := by decide +kernel
theorem dX9_walks_116 : decode cX9_walks 116 = .ok (.iload_n 2, 1) := by decide +kernel
theorem dX9_walks_117 : decode cX9_walks 117 = .ok (.iload_n 1, 1) := by decide +kernel
theorem dX9_walks_118 : decode cX9_walks 118 = .ok (.ishr, 1) := by decide +kernel
theorem dX9_walks_119 : decode cX9_walks 119 = .ok (.iconst 1, 1) := by decide +kernel
theorem dX9_walks_120 : decode cX9_walks 120 = .ok (.iand, 1) := by decide +kernel
theorem dX9_walks_121 : decode cX9_walks 121 = .ok (.ifCond .ne 10, 3) := by decide +kernel
theorem dX9_walks_124 : decode cX9_walks 124 = .ok (.iload_n 3, 1) := by decide +kernel
theorem dX9_walks_125 : decode cX9_walks 125 = .ok (.iconst 1, 1) := by decide +kernel
theorem dX9_walks_126 : decode cX9_walks 126 = .ok (.iload 7, 2) := by decide +kernel
theorem dX9_walks_128 : decode cX9_walks 128 = .ok (.ishl, 1) := by decide +kernel
theorem dX9_walks_129 : decode cX9_walks 129 = .ok (.ior, 1) := by decide +kernel
theorem dX9_walks_130 : decode cX9_walks 130 = .ok (.istore_n 3, 1) := by decide +kernel
theorem dX9_walks_131 : decode cX9_walks 131 = .ok (.iload_n 2, 1) := by decide +kernel
theorem dX9_walks_132 : decode cX9_walks 132 = .ok (.iconst 1, 1) := by decide +kernel
theorem dX9_walks_133 : decode cX9_walks 133 = .ok (.iload_n 1, 1) := by decide +kernel
theorem dX9_walks_134 : decode cX9_walks 134 = .ok (.ishl, 1) := by decide +kernel
theorem dX9_walks_135 : decode cX9_walks 135 = .ok (.ior, 1) := by decide +kernel
theorem dX9_walks_136 : decode cX9_walks 136 = .ok (.istore_n 2, 1) := by decide +kernel
theorem dX9_walks_137 : decode cX9_walks 137 = .ok (.iinc 4 1, 3) := by decide +kernel
theorem dX9_walks_140 : decode cX9_walks 140 = .ok (.goto (-131), 3) := by decide +kernel
theorem dX9_walks_143 : decode cX9_walks 143 = .ok (.iload_n 2, 1) := by decide +kernel
theorem dX9_walks_144 : decode cX9_walks 144 = .ok (.iconst 1, 1) := by decide +kernel
theorem dX9_walks_145 : decode cX9_walks 145 = .ok (.aload_n 0, 1) := by decide +kernel
theorem dX9_walks_146 : decode cX9_walks 146 = .ok (.getfield 34, 3) := by decide +kernel
theorem dX9_walks_149 : decode cX9_walks 149 = .ok (.ishl, 1) := by decide +kernel
theorem dX9_walks_150 : decode cX9_walks 150 = .ok (.iconst 1, 1) := by decide +kernel
theorem dX9_walks_151 : decode cX9_walks 151 = .ok (.isub, 1) := by decide +kernel
theorem dX9_walks_152 : decode cX9_walks 152 = .ok (.if_icmp .ne 7, 3) := by decide +kernel
theorem dX9_walks_155 : decode cX9_walks 155 = .ok (.iload_n 3, 1) := by decide +kernel
theorem dX9_walks_156 : decode cX9_walks 156 = .ok (.goto 5, 3) := by decide +kernel
theorem dX9_walks_159 : decode cX9_walks 159 = .ok (.bipush (-9), 2) := by decide +kernel
theorem dX9_walks_161 : decode cX9_walks 161 = .ok (.ireturn, 1) := by decide +kernel
def bX9_walks_56 (y1 : Int32) (q7 : Int32 × Mem) : (Int32 × Int32) → Option ((Int32 × Int32) ⊕ (Int32 × Int32))
  | (y8, y9) => (gX9_leads q7.2 y9 y1).bind (fun x10 => (if x10 < 0 then (gX9_leads q7.2 y9 y1).bind (fun x11 => (if x11 < 0 then lete (y8 - 0) (fun x12 => some (.inl (x12, y9 + 1))) else (gX9_weightOf q7.2 y9).bind (fun x13 => lete (y8 - x13) (fun x14 => some (.inl (x14, y9 + 1)))))) else (gX9_weightOf q7.2 y9).bind (fun x15 => (if y8 < x15 then some (.inr (y8, y9)) else (gX9_leads q7.2 y9 y1).bind (fun x16 => (if x16 < 0 then lete (y8 - 0) (fun x17 => some (.inl (x17, y9 + 1))) else (gX9_weightOf q7.2 y9).bind (fun x18 => lete (y8 - x18) (fun x19 => some (.inl (x19, y9 + 1))))))))))
def bX9_walks_9 (F : Nat) : (Int32 × Int32 × Int32 × Int32 × Mem) → Option ((Int32 × Int32 × Int32 × Int32 × Mem) ⊕ ((Int32 × Int32 × Int32 × Int32 × Mem) ⊕ (Int32 × Mem)))
  | (y1, y2, y3, y4, m5) => (if 200 ≤ y4 then some (.inr (.inl (y1, y2, y3, y4, m5))) else (if y2 = (((1 : Int32) <<< ((m5.1 43 8) &&& 31)) - 1) then some (.inr (.inl (y1, y2, y3, y4, m5))) else (gX9_weightsFrom F m5 y1).bind (fun x6 => (if x6 = 0 then some (.inr (.inr ((-9), m5))) else (gX9_drawn m5 (Int32.toInt64 x6)).bind (fun q7 => (iter F (bX9_walks_56 y1 q7) (q7.1, 0)).bind (fun e20 => (gX9_leads q7.2 e20.2 y1).bind (fun x22 => (if ((y2 >>> (x22 &&& 31)) &&& 1) = 0 then lete (y3 ||| ((1 : Int32) <<< (e20.2 &&& 31))) (fun x24 => lete (y2 ||| ((1 : Int32) <<< (x22 &&& 31))) (fun x25 => some (.inl (x22, x25, x24, y4 + 1, q7.2)))) else lete (y2 ||| ((1 : Int32) <<< (x22 &&& 31))) (fun x23 => some (.inl (x22, x23, y3, y4 + 1, q7.2)))))))))))
def gX9_walks (F : Nat) (m : Mem) : Option (Int32 × Mem) := (iter F (bX9_walks_9 F) (0, 1, 0, 0, m)).bind (fun e26 => Sum.elim (fun s28 => (if s28.2.1 = (((1 : Int32) <<< ((s28.2.2.2.2.1 43 8) &&& 31)) - 1) then some (s28.2.2.1, s28.2.2.2.2) else some ((-9), s28.2.2.2.2))) (fun q => some q) e26)
set_option maxHeartbeats 4000000 in
set_option maxRecDepth 20000 in
theorem LX9_walks {n : Nat} {F : Nat} {m : Mem} {r : Int32 × Mem} (hn64 : 64 ≤ n) (hg : gX9_walks F m  = some r) : MX yX9_walks cX9_walks 8 (some .int) { frames := 2, cells := 0, slots := 0, locals := 45 } n [.ref 43] m (some (.int r.1)) r.2 := by
  refine MX_of (by decide) (Nat.le_of_ble_eq_true rfl) (Or.inr (Or.inl ⟨rfl, _, rfl⟩)) (fun K hC hk hL hR => ?_)
  replace hn64 : 64 ≤ kn K := hk.symm ▸ hn64
  show RX K 0 [(0, .ref 43)] [] m
  rw [gX9_walks] at hg
  refine R_iconst (pc := 0) hC dX9_walks_0 ki_0 ?_
  refine R_istore_n (pc := 1) hC dX9_walks_1 rfl hL rfl (show _ = [(1, .int 0), (0, .ref 43)] from rfl) ?_
  refine R_iconst (pc := 2) hC dX9_walks_2 ki_1 ?_
  refine R_istore_n (pc := 3) hC dX9_walks_3 rfl hL rfl (show _ = [(2, .int 1), (1, .int 0), (0, .ref 43)] from rfl) ?_
  refine R_iconst (pc := 4) hC dX9_walks_4 ki_0 ?_
  refine R_istore_n (pc := 5) hC dX9_walks_5 rfl hL rfl (show _ = [(3, .int 0), (2, .int 1), (1, .int 0), (0, .ref 43)] from rfl) ?_
  refine R_iconst (pc := 6) hC dX9_walks_6 ki_0 ?_
  refine R_istore (pc := 7) hC dX9_walks_7 hL rfl (show _ = [(4, .int 0), (3, .int 0), (2, .int 1), (1, .int 0), (0, .ref 43)] from rfl) ?_
  refine R_pick [4, 3, 2, 1, 0] (ls' := [(0, .ref 43), (1, .int 0), (2, .int 1), (3, .int 0), (4, .int 0)]) rfl ?_
  obtain ⟨e26, he26, hg⟩ := bind_some hg
  refine iter_walk (P := fun s : (Int32 × Int32 × Int32 × Int32 × Mem) => RX K 9 [(0, .ref 43), (1, .int s.1), (2, .int s.2.1), (3, .int s.2.2.1), (4, .int s.2.2.2.1)] [] s.2.2.2.2) (Qe := Sum.elim (fun s : (Int32 × Int32 × Int32 × Int32 × Mem) => RX K 143 [(0, .ref 43), (1, .int s.1), (2, .int s.2.1), (3, .int s.2.2.1), (4, .int s.2.2.2.1)] [] s.2.2.2.2) (fun q : Int32 × Mem => GX (some (.int r.1)) r.2 (some (.int q.1)) q.2)) (fun s27 o hg kL9 kE9 => ?_) _ _ _ he26 ?_
  · obtain ⟨y1, y2, y3, y4, m5⟩ := s27
    rw [bX9_walks_9] at hg
    show RX K 9 [(0, .ref 43), (1, .int y1), (2, .int y2), (3, .int y3), (4, .int y4)] [] m5
    refine R_iload (pc := 9) hC 4 dX9_walks_9 rfl ?_
    refine R_sipush (pc := 11) hC dX9_walks_11 ks_200 ?_
    refine R_icmp_ge (tgt := 143) (pc := 14) hC dX9_walks_14 (by decide) (fun c => ?_) (fun c => ?_)
    · replace hg := (if_pos c).symm.trans hg
      refine R_pick [0, 1, 2, 3, 4] (ls' := [(0, .ref 43), (1, .int y1), (2, .int y2), (3, .int y3), (4, .int y4)]) rfl ?_
      have h9 := kE9 _ (Option.some.inj hg).symm
      exact h9
    · replace hg := (if_neg c).symm.trans hg
      refine R_iload_n (pc := 17) hC 2 dX9_walks_17 rfl rfl ?_
      refine R_iconst (pc := 18) hC dX9_walks_18 ki_1 ?_
      refine R_aload_n (pc := 19) hC 0 dX9_walks_19 rfl rfl ?_
      refine gf_X9_34 (pc := 20) hC hn64 dX9_walks_20 ?_
      refine R_ishl (pc := 23) hC dX9_walks_23 ?_
      refine R_iconst (pc := 24) hC dX9_walks_24 ki_1 ?_
      refine R_isub (pc := 25) hC dX9_walks_25 ?_
      refine R_icmp_eq (tgt := 143) (pc := 26) hC dX9_walks_26 (by decide) (fun c => ?_) (fun c => ?_)
      · replace hg := (if_pos c).symm.trans hg
        refine R_pick [0, 1, 2, 3, 4] (ls' := [(0, .ref 43), (1, .int y1), (2, .int y2), (3, .int y3), (4, .int y4)]) rfl ?_
        have h9 := kE9 _ (Option.some.inj hg).symm
        exact h9
      · replace hg := (if_neg c).symm.trans hg
        refine R_aload_n (pc := 29) hC 0 dX9_walks_29 rfl rfl ?_
        refine R_iload_n (pc := 30) hC 1 dX9_walks_30 rfl rfl ?_
        obtain ⟨x6, hx6, hg⟩ := bind_some hg
        refine R_callV (pc := 31) (av := [.int y1]) (rest := []) hC hR 43 (jx hn64 rfl) ly43 rfl mf_X9_weightsFrom wm_X9_276 (LX9_weightsFrom hn64 hx6) rfl rfl rfl (Nat.le_of_ble_eq_true rfl) dX9_walks_31 rfl ?_
        show RX K 34 [(0, .ref 43), (1, .int y1), (2, .int y2), (3, .int y3), (4, .int y4)] [.int x6] m5
        refine R_istore (pc := 34) hC dX9_walks_34 hL rfl (show _ = [(5, .int x6), (0, .ref 43), (1, .int y1), (2, .int y2), (3, .int y3), (4, .int y4)] from rfl) ?_
        refine R_iload (pc := 36) hC 0 dX9_walks_36 rfl ?_
        refine R_if_ne (tgt := 44) (pc := 38) hC dX9_walks_38 (by decide) (fun c => ?_) (fun c => ?_)
        · replace hg := (if_neg c).symm.trans hg
          refine R_aload_n (pc := 44) hC 1 dX9_walks_44 rfl rfl ?_
          refine R_iload (pc := 45) hC 0 dX9_walks_45 rfl ?_
          refine R_i2l (pc := 47) hC dX9_walks_47 ?_
          obtain ⟨q7, hq7, hg⟩ := bind_some hg
          refine R_callV (pc := 48) (av := [.long (Int32.toInt64 x6)]) (rest := []) hC hR 43 (jx hn64 rfl) ly43 rfl mf_X9_drawn wm_X9_279 (LX9_drawn hn64 hq7) rfl rfl rfl (Nat.le_of_ble_eq_true rfl) dX9_walks_48 rfl ?_
          show RX K 51 [(5, .int x6), (0, .ref 43), (1, .int y1), (2, .int y2), (3, .int y3), (4, .int y4)] [.int q7.1] q7.2
          refine R_istore (pc := 51) hC dX9_walks_51 hL rfl (show _ = [(6, .int q7.1), (5, .int x6), (0, .ref 43), (1, .int y1), (2, .int y2), (3, .int y3), (4, .int y4)] from rfl) ?_
          refine R_iconst (pc := 53) hC dX9_walks_53 ki_0 ?_
          refine R_istore (pc := 54) hC dX9_walks_54 hL rfl (show _ = [(7, .int 0), (6, .int q7.1), (5, .int x6), (0, .ref 43), (1, .int y1), (2, .int y2), (3, .int y3), (4, .int y4)] from rfl) ?_
          refine R_pick [3, 4, 5, 6, 7, 2, 1, 0] (ls' := [(0, .ref 43), (1, .int y1), (2, .int y2), (3, .int y3), (4, .int y4), (5, .int x6), (6, .int q7.1), (7, .int 0)]) rfl ?_
          obtain ⟨e20, he20, hg⟩ := bind_some hg
          refine iter_walk (P := fun s : (Int32 × Int32) => RX K 56 [(0, .ref 43), (1, .int y1), (2, .int y2), (3, .int y3), (4, .int y4), (5, .int x6), (6, .int s.1), (7, .int s.2)] [] q7.2) (Qe := fun s : (Int32 × Int32) => RX K 108 [(0, .ref 43), (1, .int y1), (2, .int y2), (3, .int y3), (4, .int y4), (5, .int x6), (6, .int s.1), (7, .int s.2)] [] q7.2) (fun s21 o hg kL56 kE56 => ?_) _ _ _ he20 ?_
          · obtain ⟨y8, y9⟩ := s21
            rw [bX9_walks_56] at hg
            show RX K 56 [(0, .ref 43), (1, .int y1), (2, .int y2), (3, .int y3), (4, .int y4), (5, .int x6), (6, .int y8), (7, .int y9)] [] q7.2
            refine R_aload_n (pc := 56) hC 0 dX9_walks_56 rfl rfl ?_
            refine R_iload (pc := 57) hC 7 dX9_walks_57 rfl ?_
            refine R_iload_n (pc := 59) hC 1 dX9_walks_59 rfl rfl ?_
            obtain ⟨x10, hx10, hg⟩ := bind_some hg
            refine R_callV (pc := 60) (av := [.int y9, .int y1]) (rest := []) hC hR 43 (jx hn64 rfl) ly43 rfl mf_X9_leads wm_X9_272 (LX9_leads hn64 hx10) rfl rfl rfl (Nat.le_of_ble_eq_true rfl) dX9_walks_60 rfl ?_
            show RX K 63 [(0, .ref 43), (1, .int y1), (2, .int y2), (3, .int y3), (4, .int y4), (5, .int x6), (6, .int y8), (7, .int y9)] [.int x10] q7.2
            refine R_if_lt (tgt := 77) (pc := 63) hC dX9_walks_63 (by decide) (fun c => ?_) (fun c => ?_)
            · replace hg := (if_pos c).symm.trans hg
              refine R_iload (pc := 77) hC 6 dX9_walks_77 rfl ?_
              refine R_aload_n (pc := 79) hC 0 dX9_walks_79 rfl rfl ?_
              refine R_iload (pc := 80) hC 7 dX9_walks_80 rfl ?_
              refine R_iload_n (pc := 82) hC 1 dX9_walks_82 rfl rfl ?_
              obtain ⟨x11, hx11, hg⟩ := bind_some hg
              refine R_callV (pc := 83) (av := [.int y9, .int y1]) (rest := [.int y8]) hC hR 43 (jx hn64 rfl) ly43 rfl mf_X9_leads wm_X9_272 (LX9_leads hn64 hx11) rfl rfl rfl (Nat.le_of_ble_eq_true rfl) dX9_walks_83 rfl ?_
              show RX K 86 [(0, .ref 43), (1, .int y1), (2, .int y2), (3, .int y3), (4, .int y4), (5, .int x6), (6, .int y8), (7, .int y9)] [.int x11, .int y8] q7.2
              refine R_if_lt (tgt := 98) (pc := 86) hC dX9_walks_86 (by decide) (fun c => ?_) (fun c => ?_)
              · replace hg := (if_pos c).symm.trans hg
                refine R_iconst (pc := 98) hC dX9_walks_98 ki_0 ?_
                refine R_isub (pc := 99) hC dX9_walks_99 ?_
                obtain ⟨x12, hx12, hg⟩ := lete_some hg
                refine R_top hx12 ?_
                refine R_istore (pc := 100) hC dX9_walks_100 hL rfl (show _ = [(6, .int x12), (0, .ref 43), (1, .int y1), (2, .int y2), (3, .int y3), (4, .int y4), (5, .int x6), (7, .int y9)] from rfl) ?_
                refine R_iinc (pc := 102) hC 7 dX9_walks_102 rfl (iv ki_1) hL rfl (show _ = [(7, .int (y9 + 1)), (6, .int x12), (0, .ref 43), (1, .int y1), (2, .int y2), (3, .int y3), (4, .int y4), (5, .int x6)] from rfl) ?_
                refine R_goto (tgt := 56) (pc := 105) hC dX9_walks_105 (by decide) ?_
                refine R_pick [2, 3, 4, 5, 6, 7, 1, 0] (ls' := [(0, .ref 43), (1, .int y1), (2, .int y2), (3, .int y3), (4, .int y4), (5, .int x6), (6, .int x12), (7, .int (y9 + 1))]) rfl ?_
                have h9 := kL56 _ (Option.some.inj hg).symm
                exact h9
              · replace hg := (if_neg c).symm.trans hg
                refine R_aload_n (pc := 89) hC 0 dX9_walks_89 rfl rfl ?_
                refine R_iload (pc := 90) hC 7 dX9_walks_90 rfl ?_
                obtain ⟨x13, hx13, hg⟩ := bind_some hg
                refine R_callV (pc := 92) (av := [.int y9]) (rest := [.int y8]) hC hR 43 (jx hn64 rfl) ly43 rfl mf_X9_weightOf wm_X9_153 (LX9_weightOf hn64 hx13) rfl rfl rfl (Nat.le_of_ble_eq_true rfl) dX9_walks_92 rfl ?_
                show RX K 95 [(0, .ref 43), (1, .int y1), (2, .int y2), (3, .int y3), (4, .int y4), (5, .int x6), (6, .int y8), (7, .int y9)] [.int x13, .int y8] q7.2
                refine R_goto (tgt := 99) (pc := 95) hC dX9_walks_95 (by decide) ?_
                refine R_isub (pc := 99) hC dX9_walks_99 ?_
                obtain ⟨x14, hx14, hg⟩ := lete_some hg
                refine R_top hx14 ?_
                refine R_istore (pc := 100) hC dX9_walks_100 hL rfl (show _ = [(6, .int x14), (0, .ref 43), (1, .int y1), (2, .int y2), (3, .int y3), (4, .int y4), (5, .int x6), (7, .int y9)] from rfl) ?_
                refine R_iinc (pc := 102) hC 7 dX9_walks_102 rfl (iv ki_1) hL rfl (show _ = [(7, .int (y9 + 1)), (6, .int x14), (0, .ref 43), (1, .int y1), (2, .int y2), (3, .int y3), (4, .int y4), (5, .int x6)] from rfl) ?_
                refine R_goto (tgt := 56) (pc := 105) hC dX9_walks_105 (by decide) ?_
                refine R_pick [2, 3, 4, 5, 6, 7, 1, 0] (ls' := [(0, .ref 43), (1, .int y1), (2, .int y2), (3, .int y3), (4, .int y4), (5, .int x6), (6, .int x14), (7, .int (y9 + 1))]) rfl ?_
                have h9 := kL56 _ (Option.some.inj hg).symm
                exact h9
            · replace hg := (if_neg c).symm.trans hg
              refine R_iload (pc := 66) hC 6 dX9_walks_66 rfl ?_
              refine R_aload_n (pc := 68) hC 0 dX9_walks_68 rfl rfl ?_
              refine R_iload (pc := 69) hC 7 dX9_walks_69 rfl ?_
              obtain ⟨x15, hx15, hg⟩ := bind_some hg
              refine R_callV (pc := 71) (av := [.int y9]) (rest := [.int y8]) hC hR 43 (jx hn64 rfl) ly43 rfl mf_X9_weightOf wm_X9_153 (LX9_weightOf hn64 hx15) rfl rfl rfl (Nat.le_of_ble_eq_true rfl) dX9_walks_71 rfl ?_
              show RX K 74 [(0, .ref 43), (1, .int y1), (2, .int y2), (3, .int y3), (4, .int y4), (5, .int x6), (6, .int y8), (7, .int y9)] [.int x15, .int y8] q7.2
              refine R_icmp_lt (tgt := 108) (pc := 74) hC dX9_walks_74 (by decide) (fun c => ?_) (fun c => ?_)
              · replace hg := (if_pos c).symm.trans hg
                refine R_pick [0, 1, 2, 3, 4, 5, 6, 7] (ls' := [(0, .ref 43), (1, .int y1), (2, .int y2), (3, .int y3), (4, .int y4), (5, .int x6), (6, .int y8), (7, .int y9)]) rfl ?_
                have h9 := kE56 _ (Option.some.inj hg).symm
                exact h9
              · replace hg := (if_neg c).symm.trans hg
                refine R_iload (pc := 77) hC 6 dX9_walks_77 rfl ?_
                refine R_aload_n (pc := 79) hC 0 dX9_walks_79 rfl rfl ?_
                refine R_iload (pc := 80) hC 7 dX9_walks_80 rfl ?_
                refine R_iload_n (pc := 82) hC 1 dX9_walks_82 rfl rfl ?_
                obtain ⟨x16, hx16, hg⟩ := bind_some hg
                refine R_callV (pc := 83) (av := [.int y9, .int y1]) (rest := [.int y8]) hC hR 43 (jx hn64 rfl) ly43 rfl mf_X9_leads wm_X9_272 (LX9_leads hn64 hx16) rfl rfl rfl (Nat.le_of_ble_eq_true rfl) dX9_walks_83 rfl ?_
                show RX K 86 [(0, .ref 43), (1, .int y1), (2, .int y2), (3, .int y3), (4, .int y4), (5, .int x6), (6, .int y8), (7, .int y9)] [.int x16, .int y8] q7.2
                refine R_if_lt (tgt := 98) (pc := 86) hC dX9_walks_86 (by decide) (fun c => ?_) (fun c => ?_)
                · replace hg := (if_pos c).symm.trans hg
                  refine R_iconst (pc := 98) hC dX9_walks_98 ki_0 ?_
                  refine R_isub (pc := 99) hC dX9_walks_99 ?_
                  obtain ⟨x17, hx17, hg⟩ := lete_some hg
                  refine R_top hx17 ?_
                  refine R_istore (pc := 100) hC dX9_walks_100 hL rfl (show _ = [(6, .int x17), (0, .ref 43), (1, .int y1), (2, .int y2), (3, .int y3), (4, .int y4), (5, .int x6), (7, .int y9)] from rfl) ?_
                  refine R_iinc (pc := 102) hC 7 dX9_walks_102 rfl (iv ki_1) hL rfl (show _ = [(7, .int (y9 + 1)), (6, .int x17), (0, .ref 43), (1, .int y1), (2, .int y2), (3, .int y3), (4, .int y4), (5, .int x6)] from rfl) ?_
                  refine R_goto (tgt := 56) (pc := 105) hC dX9_walks_105 (by decide) ?_
                  refine R_pick [2, 3, 4, 5, 6, 7, 1, 0] (ls' := [(0, .ref 43), (1, .int y1), (2, .int y2), (3, .int y3), (4, .int y4), (5, .int x6), (6, .int x17), (7, .int (y9 + 1))]) rfl ?_
                  have h9 := kL56 _ (Option.some.inj hg).symm
                  exact h9
                · replace hg := (if_neg c).symm.trans hg
                  refine R_aload_n (pc := 89) hC 0 dX9_walks_89 rfl rfl ?_
                  refine R_iload (pc := 90) hC 7 dX9_walks_90 rfl ?_
                  obtain ⟨x18, hx18, hg⟩ := bind_some hg
                  refine R_callV (pc := 92) (av := [.int y9]) (rest := [.int y8]) hC hR 43 (jx hn64 rfl) ly43 rfl mf_X9_weightOf wm_X9_153 (LX9_weightOf hn64 hx18) rfl rfl rfl (Nat.le_of_ble_eq_true rfl) dX9_walks_92 rfl ?_
                  show RX K 95 [(0, .ref 43), (1, .int y1), (2, .int y2), (3, .int y3), (4, .int y4), (5, .int x6), (6, .int y8), (7, .int y9)] [.int x18, .int y8] q7.2
                  refine R_goto (tgt := 99) (pc := 95) hC dX9_walks_95 (by decide) ?_
                  refine R_isub (pc := 99) hC dX9_walks_99 ?_
                  obtain ⟨x19, hx19, hg⟩ := lete_some hg
                  refine R_top hx19 ?_
                  refine R_istore (pc := 100) hC dX9_walks_100 hL rfl (show _ = [(6, .int x19), (0, .ref 43), (1, .int y1), (2, .int y2), (3, .int y3), (4, .int y4), (5, .int x6), (7, .int y9)] from rfl) ?_
                  refine R_iinc (pc := 102) hC 7 dX9_walks_102 rfl (iv ki_1) hL rfl (show _ = [(7, .int (y9 + 1)), (6, .int x19), (0, .ref 43), (1, .int y1), (2, .int y2), (3, .int y3), (4, .int y4), (5, .int x6)] from rfl) ?_
                  refine R_goto (tgt := 56) (pc := 105) hC dX9_walks_105 (by decide) ?_
                  refine R_pick [2, 3, 4, 5, 6, 7, 1, 0] (ls' := [(0, .ref 43), (1, .int y1), (2, .int y2), (3, .int y3), (4, .int y4), (5, .int x6), (6, .int x19), (7, .int (y9 + 1))]) rfl ?_
                  have h9 := kL56 _ (Option.some.inj hg).symm
                  exact h9
          · show RX K 108 [(0, .ref 43), (1, .int y1), (2, .int y2), (3, .int y3), (4, .int y4), (5, .int x6), (6, .int e20.1), (7, .int e20.2)] [] q7.2
            refine R_aload_n (pc := 108) hC 0 dX9_walks_108 rfl rfl ?_
            refine R_iload (pc := 109) hC 7 dX9_walks_109 rfl ?_
            refine R_iload_n (pc := 111) hC 1 dX9_walks_111 rfl rfl ?_
            obtain ⟨x22, hx22, hg⟩ := bind_some hg
            refine R_callV (pc := 112) (av := [.int e20.2, .int y1]) (rest := []) hC hR 43 (jx hn64 rfl) ly43 rfl mf_X9_leads wm_X9_272 (LX9_leads hn64 hx22) rfl rfl rfl (Nat.le_of_ble_eq_true rfl) dX9_walks_112 rfl ?_
            show RX K 115 [(0, .ref 43), (1, .int y1), (2, .int y2), (3, .int y3), (4, .int y4), (5, .int x6), (6, .int e20.1), (7, .int e20.2)] [.int x22] q7.2
            refine R_istore_n (pc := 115) hC dX9_walks_115 rfl hL rfl (show _ = [(1, .int x22), (0, .ref 43), (2, .int y2), (3, .int y3), (4, .int y4), (5, .int x6), (6, .int e20.1), (7, .int e20.2)] from rfl) ?_
            refine R_iload_n (pc := 116) hC 2 dX9_walks_116 rfl rfl ?_
            refine R_iload_n (pc := 117) hC 0 dX9_walks_117 rfl rfl ?_
            refine R_ishr (pc := 118) hC dX9_walks_118 ?_
            refine R_iconst (pc := 119) hC dX9_walks_119 ki_1 ?_
            refine R_iand (pc := 120) hC dX9_walks_120 ?_
            refine R_if_ne (tgt := 131) (pc := 121) hC dX9_walks_121 (by decide) (fun c => ?_) (fun c => ?_)
            · replace hg := (if_neg c).symm.trans hg
              refine R_iload_n (pc := 131) hC 2 dX9_walks_131 rfl rfl ?_
              refine R_iconst (pc := 132) hC dX9_walks_132 ki_1 ?_
              refine R_iload_n (pc := 133) hC 0 dX9_walks_133 rfl rfl ?_
              refine R_ishl (pc := 134) hC dX9_walks_134 ?_
              refine R_ior (pc := 135) hC dX9_walks_135 ?_
              obtain ⟨x23, hx23, hg⟩ := lete_some hg
              refine R_top hx23 ?_
              refine R_istore_n (pc := 136) hC dX9_walks_136 rfl hL rfl (show _ = [(2, .int x23), (1, .int x22), (0, .ref 43), (3, .int y3), (4, .int y4), (5, .int x6), (6, .int e20.1), (7, .int e20.2)] from rfl) ?_
              refine R_iinc (pc := 137) hC 4 dX9_walks_137 rfl (iv ki_1) hL rfl (show _ = [(4, .int (y4 + 1)), (2, .int x23), (1, .int x22), (0, .ref 43), (3, .int y3), (5, .int x6), (6, .int e20.1), (7, .int e20.2)] from rfl) ?_
              refine R_goto (tgt := 9) (pc := 140) hC dX9_walks_140 (by decide) ?_
              refine R_pick [3, 2, 1, 4, 0] (ls' := [(0, .ref 43), (1, .int x22), (2, .int x23), (3, .int y3), (4, .int (y4 + 1))]) rfl ?_
              have h9 := kL9 _ (Option.some.inj hg).symm
              exact h9
            · replace hg := (if_pos c).symm.trans hg
              refine R_iload_n (pc := 124) hC 3 dX9_walks_124 rfl rfl ?_
              refine R_iconst (pc := 125) hC dX9_walks_125 ki_1 ?_
              refine R_iload (pc := 126) hC 7 dX9_walks_126 rfl ?_
              refine R_ishl (pc := 128) hC dX9_walks_128 ?_
              refine R_ior (pc := 129) hC dX9_walks_129 ?_
              obtain ⟨x24, hx24, hg⟩ := lete_some hg
              refine R_top hx24 ?_
              refine R_istore_n (pc := 130) hC dX9_walks_130 rfl hL rfl (show _ = [(3, .int x24), (1, .int x22), (0, .ref 43), (2, .int y2), (4, .int y4), (5, .int x6), (6, .int e20.1), (7, .int e20.2)] from rfl) ?_
              refine R_iload_n (pc := 131) hC 3 dX9_walks_131 rfl rfl ?_
              refine R_iconst (pc := 132) hC dX9_walks_132 ki_1 ?_
              refine R_iload_n (pc := 133) hC 1 dX9_walks_133 rfl rfl ?_
              refine R_ishl (pc := 134) hC dX9_walks_134 ?_
              refine R_ior (pc := 135) hC dX9_walks_135 ?_
              obtain ⟨x25, hx25, hg⟩ := lete_some hg
              refine R_top hx25 ?_
              refine R_istore_n (pc := 136) hC dX9_walks_136 rfl hL rfl (show _ = [(2, .int x25), (3, .int x24), (1, .int x22), (0, .ref 43), (4, .int y4), (5, .int x6), (6, .int e20.1), (7, .int e20.2)] from rfl) ?_
              refine R_iinc (pc := 137) hC 4 dX9_walks_137 rfl (iv ki_1) hL rfl (show _ = [(4, .int (y4 + 1)), (2, .int x25), (3, .int x24), (1, .int x22), (0, .ref 43), (5, .int x6), (6, .int e20.1), (7, .int e20.2)] from rfl) ?_
              refine R_goto (tgt := 9) (pc := 140) hC dX9_walks_140 (by decide) ?_
              refine R_pick [4, 3, 1, 2, 0] (ls' := [(0, .ref 43), (1, .int x22), (2, .int x25), (3, .int x24), (4, .int (y4 + 1))]) rfl ?_
              have h9 := kL9 _ (Option.some.inj hg).symm
              exact h9
        · replace hg := (if_pos c).symm.trans hg
          refine R_bipush (pc := 41) hC dX9_walks_41 kb_m9 ?_
          have h9 := kE9 _ (Option.some.inj hg).symm
          exact R_ireturn (pc := 43) hC dX9_walks_43 h9
  · rcases e26 with s28 | q
    · replace hg := (Sum.elim_inl _ _ _).symm.trans hg
      show RX K 143 [(0, .ref 43), (1, .int s28.1), (2, .int s28.2.1), (3, .int s28.2.2.1), (4, .int s28.2.2.2.1)] [] s28.2.2.2.2
      refine R_iload_n (pc := 143) hC 2 dX9_walks_143 rfl rfl ?_
      refine R_iconst (pc := 144) hC dX9_walks_144 ki_1 ?_
      refine R_aload_n (pc := 145) hC 0 dX9_walks_145 rfl rfl ?_
      refine gf_X9_34 (pc := 146) hC hn64 dX9_walks_146 ?_
      refine R_ishl (pc := 149) hC dX9_walks_149 ?_
      refine R_iconst (pc := 150) hC dX9_walks_150 ki_1 ?_
      refine R_isub (pc := 151) hC dX9_walks_151 ?_
      refine R_icmp_ne (tgt := 159) (pc := 152) hC dX9_walks_152 (by decide) (fun c => ?_) (fun c => ?_)
      · replace hg := (if_neg c).symm.trans hg
        refine R_bipush (pc := 159) hC dX9_walks_159 kb_m9 ?_
        have h9 := gxIM hg
        exact R_ireturn (pc := 161) hC dX9_walks_161 h9
      · replace hg := (if_pos c).symm.trans hg
        refine R_iload_n (pc := 155) hC 3 dX9_walks_155 rfl rfl ?_
        refine R_goto (tgt := 161) (pc := 156) hC dX9_walks_156 (by decide) ?_
        have h9 := gxIM hg
        exact R_ireturn (pc := 161) hC dX9_walks_161 h9
    · replace hg := (Sum.elim_inr _ _ _).symm.trans hg
      exact gxIM hg
theorem dX9_steps_0 : decode cX9_steps 0 = .ok (.iconst 0, 1) := by decide +kernel
theorem dX9_steps_1 : decode cX9_steps 1 = .ok (.istore_n 1, 1) := by decide +kernel
theorem dX9_steps_2 : decode cX9_steps 2 = .ok (.iconst 0, 1) := by decide +kernel
theorem dX9_steps_3 : decode cX9_steps 3 = .ok (.istore_n 2, 1) := by decide +kernel
theorem dX9_steps_4 : decode cX9_steps 4 = .ok (.iconst 0, 1) := by decide +kernel
theorem dX9_steps_5 : decode cX9_steps 5 = .ok (.istore_n 3, 1) := by decide +kernel
theorem dX9_steps_6 : decode cX9_steps 6 = .ok (.iload_n 3, 1) := by decide +kernel
theorem dX9_steps_7 : decode cX9_steps 7 = .ok (.aload_n 0, 1) := by decide +kernel
theorem dX9_steps_8 : decode cX9_steps 8 = .ok (.getfield 77, 3) := by decide +kernel
theorem dX9_steps_11 : decode cX9_steps 11 = .ok (.if_icmp .ge 84, 3) := by decide +kernel
theorem dX9_steps_14 : decode cX9_steps 14 = .ok (.aload_n 0, 1) := by decide +kernel
theorem dX9_steps_15 : decode cX9_steps 15 = .ok (.iload_n 1, 1) := by decide +kernel
theorem dX9_steps_16 : decode cX9_steps 16 = .ok (.iload_n 2, 1) := by decide +kernel
theorem dX9_steps_17 : decode cX9_steps 17 = .ok (.invokevirtual 196, 3) := by decide +kernel
theorem dX9_steps_20 : decode cX9_steps 20 = .ok (.lstore 4, 2) := by decide +kernel
theorem dX9_steps_22 : decode cX9_steps 22 = .ok (.aload_n 0, 1) := by decide +kernel
theorem dX9_steps_23 : decode cX9_steps 23 = .ok (.iload_n 1, 1) := by decide +kernel
theorem dX9_steps_24 : decode cX9_steps 24 = .ok (.iconst 1, 1) := by decide +kernel
theorem dX9_steps_25 : decode cX9_steps 25 = .ok (.iload_n 3, 1) := by decide +kernel
theorem dX9_steps_26 : decode cX9_steps 26 = .ok (.ishl, 1) := by decide +kernel
theorem dX9_steps_27 : decode cX9_steps 27 = .ok (.ior, 1) := by decide +kernel
theorem dX9_steps_28 : decode cX9_steps 28 = .ok (.iload_n 2, 1) := by decide +kernel
theorem dX9_steps_29 : decode cX9_steps 29 = .ok (.invokevirtual 196, 3) := by decide +kernel
theorem dX9_steps_32 : decode cX9_steps 32 = .ok (.lstore 6, 2) := by decide +kernel
theorem dX9_steps_34 : decode cX9_steps 34 = .ok (.lload 6, 2) := by decide +kernel
theorem dX9_steps_36 : decode cX9_steps 36 = .ok (.lload 4, 2) := by decide +kernel
theorem dX9_steps_38 : decode cX9_steps 38 = .ok (.lcmp, 1) := by decide +kernel
theorem dX9_steps_39 : decode cX9_steps 39 = .ok (.ifCond .eq 23, 3) := by decide +kernel
theorem dX9_steps_42 : decode cX9_steps 42 = .ok (.lload 6, 2) := by decide +kernel
theorem dX9_steps_44 : decode cX9_steps 44 = .ok (.lconst 0, 1) := by decide +kernel
theorem dX9_steps_45 : decode cX9_steps 45 = .ok (.lcmp, 1) := by decide +kernel
theorem dX9_steps_46 : decode cX9_steps 46 = .ok (.ifCond .le 20, 3) := by decide +kernel
theorem dX9_steps_49 : decode cX9_steps 49 = .ok (.aload_n 0, 1) := by decide +kernel
theorem dX9_steps_50 : decode cX9_steps 50 = .ok (.lload 4, 2) := by decide +kernel
theorem dX9_steps_52 : decode cX9_steps 52 = .ok (.invokevirtual 279, 3) := by decide +kernel
theorem dX9_steps_55 : decode cX9_steps 55 = .ok (.i2l, 1) := by decide +kernel
theorem dX9_steps_56 : decode cX9_steps 56 = .ok (.lload 6, 2) := by decide +kernel
theorem dX9_steps_58 : decode cX9_steps 58 = .ok (.lcmp, 1) := by decide +kernel
theorem dX9_steps_59 : decode cX9_steps 59 = .ok (.ifCond .ge 7, 3) := by decide +kernel
theorem dX9_steps_62 : decode cX9_steps 62 = .ok (.iconst 1, 1) := by decide +kernel
theorem dX9_steps_63 : decode cX9_steps 63 = .ok (.goto 4, 3) := by decide +kernel
theorem dX9_steps_66 : decode cX9_steps 66 = .ok (.iconst 0, 1) := by decide +kernel
theorem dX9_steps_67 : decode cX9_steps 67 = .ok (.istore 8, 2) := by decide +kernel
theorem dX9_steps_69 : decode cX9_steps 69 = .ok (.iload 8, 2) := by decide +kernel
theorem dX9_steps_71 : decode cX9_steps 71 = .ok (.ifCond .eq 12, 3) := by decide +kernel
theorem dX9_steps_74 : decode cX9_steps 74 = .ok (.iload_n 1, 1) := by decide +kernel
theorem dX9_steps_75 : decode cX9_steps 75 = .ok (.iconst 1, 1) := by decide +kernel
theorem dX9_steps_76 : decode cX9_steps 76 = .ok (.iload_n 3, 1) := by decide +kernel
theorem dX9_steps_77 : decode cX9_steps 77 = .ok (.ishl, 1) := by decide +kernel
theorem dX9_steps_78 : decode cX9_steps 78 = .ok (.ior, 1) := by decide +kernel
theorem dX9_steps_79 : decode cX9_steps 79 = .ok (.istore_n 1, 1) := by decide +kernel
theorem dX9_steps_80 : decode cX9_steps 80 = .ok (.goto 9, 3) := by decide +kernel
theorem dX9_steps_83 : decode cX9_steps 83 = .ok (.iload_n 2, 1) := by decide +kernel
theorem dX9_steps_84 : decode cX9_steps 84 = .ok (.iconst 1, 1) := by decide +kernel
theorem dX9_steps_85 : decode cX9_steps 85 = .ok (.iload_n 3, 1) := by decide +kernel
theorem dX9_steps_86 : decode cX9_steps 86 = .ok (.ishl, 1) := by decide +kernel
theorem dX9_steps_87 : decode cX9_steps 87 = .ok (.ior, 1) := by decide +kernel
theorem dX9_steps_88 : decode cX9_steps 88 = .ok (.istore_n 2, 1) := by decide +kernel
theorem dX9_steps_89 : decode cX9_steps 89 = .ok (.iinc 3 1, 3) := by decide +kernel
theorem dX9_steps_92 : decode cX9_steps 92 = .ok (.goto (-86), 3) := by decide +kernel
theorem dX9_steps_95 : decode cX9_steps 95 = .ok (.iload_n 1, 1) := by decide +kernel
theorem dX9_steps_96 : decode cX9_steps 96 = .ok (.ireturn, 1) := by decide +kernel
def bX9_steps_6 (F : Nat) : (Int32 × Int32 × Int32 × Mem) → Option ((Int32 × Int32 × Int32 × Mem) ⊕ (Int32 × Int32 × Int32 × Mem))
  | (y1, y2, y3, m4) => (if (m4.1 43 9) ≤ y3 then some (.inr (y1, y2, y3, m4)) else (gX9_sumWith F m4 y1 y2).bind (fun x5 => (gX9_sumWith F m4 (y1 ||| ((1 : Int32) <<< (y3 &&& 31))) y2).bind (fun x6 => (if (lg_cmp x6 x5) = 0 then lete (y1 ||| ((1 : Int32) <<< (y3 &&& 31))) (fun x7 => some (.inl (x7, y2, y3 + 1, m4))) else (if (lg_cmp x6 0) ≤ 0 then lete (y2 ||| ((1 : Int32) <<< (y3 &&& 31))) (fun x8 => some (.inl (y1, x8, y3 + 1, m4))) else (gX9_drawn m4 x5).bind (fun q9 => (if 0 ≤ (lg_cmp (Int32.toInt64 q9.1) x6) then lete (y2 ||| ((1 : Int32) <<< (y3 &&& 31))) (fun x10 => some (.inl (y1, x10, y3 + 1, q9.2))) else lete (y1 ||| ((1 : Int32) <<< (y3 &&& 31))) (fun x11 => some (.inl (x11, y2, y3 + 1, q9.2))))))))))
def gX9_steps (F : Nat) (m : Mem) : Option (Int32 × Mem) := (iter F (bX9_steps_6 F) (0, 0, 0, m)).bind (fun e12 => some (e12.1, e12.2.2.2))
set_option maxHeartbeats 4000000 in
set_option maxRecDepth 20000 in
theorem LX9_steps {n : Nat} {F : Nat} {m : Mem} {r : Int32 × Mem} (hn64 : 64 ≤ n) (hg : gX9_steps F m  = some r) : MX yX9_steps cX9_steps 9 (some .int) { frames := 1, cells := 0, slots := 0, locals := 25 } n [.ref 43] m (some (.int r.1)) r.2 := by
  refine MX_of (by decide) (Nat.le_of_ble_eq_true rfl) (Or.inr (Or.inl ⟨rfl, _, rfl⟩)) (fun K hC hk hL hR => ?_)
  replace hn64 : 64 ≤ kn K := hk.symm ▸ hn64
  show RX K 0 [(0, .ref 43)] [] m
  rw [gX9_steps] at hg
  refine R_iconst (pc := 0) hC dX9_steps_0 ki_0 ?_
  refine R_istore_n (pc := 1) hC dX9_steps_1 rfl hL rfl (show _ = [(1, .int 0), (0, .ref 43)] from rfl) ?_
  refine R_iconst (pc := 2) hC dX9_steps_2 ki_0 ?_
  refine R_istore_n (pc := 3) hC dX9_steps_3 rfl hL rfl (show _ = [(2, .int 0), (1, .int 0), (0, .ref 43)] from rfl) ?_
  refine R_iconst (pc := 4) hC dX9_steps_4 ki_0 ?_
  refine R_istore_n (pc := 5) hC dX9_steps_5 rfl hL rfl (show _ = [(3, .int 0), (2, .int 0), (1, .int 0), (0, .ref 43)] from rfl) ?_
  refine R_pick [3, 2, 1, 0] (ls' := [(0, .ref 43), (1, .int 0), (2, .int 0), (3, .int 0)]) rfl ?_
  obtain ⟨e12, he12, hg⟩ := bind_some hg
  refine iter_walk (P := fun s : (Int32 × Int32 × Int32 × Mem) => RX K 6 [(0, .ref 43), (1, .int s.1), (2, .int s.2.1), (3, .int s.2.2.1)] [] s.2.2.2) (Qe := fun s : (Int32 × Int32 × Int32 × Mem) => RX K 95 [(0, .ref 43), (1, .int s.1), (2, .int s.2.1), (3, .int s.2.2.1)] [] s.2.2.2) (fun s13 o hg kL6 kE6 => ?_) _ _ _ he12 ?_
  · obtain ⟨y1, y2, y3, m4⟩ := s13
    rw [bX9_steps_6] at hg
    show RX K 6 [(0, .ref 43), (1, .int y1), (2, .int y2), (3, .int y3)] [] m4
    refine R_iload_n (pc := 6) hC 3 dX9_steps_6 rfl rfl ?_
    refine R_aload_n (pc := 7) hC 0 dX9_steps_7 rfl rfl ?_
    refine gf_X9_77 (pc := 8) hC hn64 dX9_steps_8 ?_
    refine R_icmp_ge (tgt := 95) (pc := 11) hC dX9_steps_11 (by decide) (fun c => ?_) (fun c => ?_)
    · replace hg := (if_pos c).symm.trans hg
      refine R_pick [0, 1, 2, 3] (ls' := [(0, .ref 43), (1, .int y1), (2, .int y2), (3, .int y3)]) rfl ?_
      have h9 := kE6 _ (Option.some.inj hg).symm
      exact h9
    · replace hg := (if_neg c).symm.trans hg
      refine R_aload_n (pc := 14) hC 0 dX9_steps_14 rfl rfl ?_
      refine R_iload_n (pc := 15) hC 1 dX9_steps_15 rfl rfl ?_
      refine R_iload_n (pc := 16) hC 2 dX9_steps_16 rfl rfl ?_
      obtain ⟨x5, hx5, hg⟩ := bind_some hg
      refine R_callV (pc := 17) (av := [.int y1, .int y2]) (rest := []) hC hR 43 (jx hn64 rfl) ly43 rfl mf_X9_sumWith wm_X9_196 (LX9_sumWith hn64 hx5) rfl rfl rfl (Nat.le_of_ble_eq_true rfl) dX9_steps_17 rfl ?_
      show RX K 20 [(0, .ref 43), (1, .int y1), (2, .int y2), (3, .int y3)] [.long x5] m4
      refine R_lstore (pc := 20) hC dX9_steps_20 hL rfl (show _ = [(4, .long x5), (0, .ref 43), (1, .int y1), (2, .int y2), (3, .int y3)] from rfl) ?_
      refine R_aload_n (pc := 22) hC 1 dX9_steps_22 rfl rfl ?_
      refine R_iload_n (pc := 23) hC 2 dX9_steps_23 rfl rfl ?_
      refine R_iconst (pc := 24) hC dX9_steps_24 ki_1 ?_
      refine R_iload_n (pc := 25) hC 4 dX9_steps_25 rfl rfl ?_
      refine R_ishl (pc := 26) hC dX9_steps_26 ?_
      refine R_ior (pc := 27) hC dX9_steps_27 ?_
      refine R_iload_n (pc := 28) hC 3 dX9_steps_28 rfl rfl ?_
      obtain ⟨x6, hx6, hg⟩ := bind_some hg
      refine R_callV (pc := 29) (av := [.int (y1 ||| ((1 : Int32) <<< (y3 &&& 31))), .int y2]) (rest := []) hC hR 43 (jx hn64 rfl) ly43 rfl mf_X9_sumWith wm_X9_196 (LX9_sumWith hn64 hx6) rfl rfl rfl (Nat.le_of_ble_eq_true rfl) dX9_steps_29 rfl ?_
      show RX K 32 [(4, .long x5), (0, .ref 43), (1, .int y1), (2, .int y2), (3, .int y3)] [.long x6] m4
      refine R_lstore (pc := 32) hC dX9_steps_32 hL rfl (show _ = [(6, .long x6), (4, .long x5), (0, .ref 43), (1, .int y1), (2, .int y2), (3, .int y3)] from rfl) ?_
      refine R_lload (pc := 34) hC 0 dX9_steps_34 rfl ?_
      refine R_lload (pc := 36) hC 1 dX9_steps_36 rfl ?_
      refine R_lcmp (pc := 38) hC dX9_steps_38 ?_
      refine R_if_eq (tgt := 62) (pc := 39) hC dX9_steps_39 (by decide) (fun c => ?_) (fun c => ?_)
      · replace hg := (if_pos c).symm.trans hg
        refine R_iconst (pc := 62) hC dX9_steps_62 ki_1 ?_
        refine R_goto (tgt := 67) (pc := 63) hC dX9_steps_63 (by decide) ?_
        refine R_istore (pc := 67) hC dX9_steps_67 hL rfl (show _ = [(8, .int 1), (6, .long x6), (4, .long x5), (0, .ref 43), (1, .int y1), (2, .int y2), (3, .int y3)] from rfl) ?_
        refine R_iload (pc := 69) hC 0 dX9_steps_69 rfl ?_
        refine R_if_eq (tgt := 83) (pc := 71) hC dX9_steps_71 (by decide) (fun c => absurd c (by decide)) (fun c => ?_)
        refine R_iload_n (pc := 74) hC 4 dX9_steps_74 rfl rfl ?_
        refine R_iconst (pc := 75) hC dX9_steps_75 ki_1 ?_
        refine R_iload_n (pc := 76) hC 6 dX9_steps_76 rfl rfl ?_
        refine R_ishl (pc := 77) hC dX9_steps_77 ?_
        refine R_ior (pc := 78) hC dX9_steps_78 ?_
        obtain ⟨x7, hx7, hg⟩ := lete_some hg
        refine R_top hx7 ?_
        refine R_istore_n (pc := 79) hC dX9_steps_79 rfl hL rfl (show _ = [(1, .int x7), (8, .int 1), (6, .long x6), (4, .long x5), (0, .ref 43), (2, .int y2), (3, .int y3)] from rfl) ?_
        refine R_goto (tgt := 89) (pc := 80) hC dX9_steps_80 (by decide) ?_
        refine R_iinc (pc := 89) hC 6 dX9_steps_89 rfl (iv ki_1) hL rfl (show _ = [(3, .int (y3 + 1)), (1, .int x7), (8, .int 1), (6, .long x6), (4, .long x5), (0, .ref 43), (2, .int y2)] from rfl) ?_
        refine R_goto (tgt := 6) (pc := 92) hC dX9_steps_92 (by decide) ?_
        refine R_pick [5, 1, 6, 0] (ls' := [(0, .ref 43), (1, .int x7), (2, .int y2), (3, .int (y3 + 1))]) rfl ?_
        have h9 := kL6 _ (Option.some.inj hg).symm
        exact h9
      · replace hg := (if_neg c).symm.trans hg
        refine R_lload (pc := 42) hC 0 dX9_steps_42 rfl ?_
        refine R_lconst (pc := 44) hC dX9_steps_44 kl_0 ?_
        refine R_lcmp (pc := 45) hC dX9_steps_45 ?_
        refine R_if_le (tgt := 66) (pc := 46) hC dX9_steps_46 (by decide) (fun c => ?_) (fun c => ?_)
        · replace hg := (if_pos c).symm.trans hg
          refine R_iconst (pc := 66) hC dX9_steps_66 ki_0 ?_
          refine R_istore (pc := 67) hC dX9_steps_67 hL rfl (show _ = [(8, .int 0), (6, .long x6), (4, .long x5), (0, .ref 43), (1, .int y1), (2, .int y2), (3, .int y3)] from rfl) ?_
          refine R_iload (pc := 69) hC 0 dX9_steps_69 rfl ?_
          refine R_if_eq (tgt := 83) (pc := 71) hC dX9_steps_71 (by decide) (fun c => ?_) (fun c => absurd c (by decide))
          refine R_iload_n (pc := 83) hC 5 dX9_steps_83 rfl rfl ?_
          refine R_iconst (pc := 84) hC dX9_steps_84 ki_1 ?_
          refine R_iload_n (pc := 85) hC 6 dX9_steps_85 rfl rfl ?_
          refine R_ishl (pc := 86) hC dX9_steps_86 ?_
          refine R_ior (pc := 87) hC dX9_steps_87 ?_
          obtain ⟨x8, hx8, hg⟩ := lete_some hg
          refine R_top hx8 ?_
          refine R_istore_n (pc := 88) hC dX9_steps_88 rfl hL rfl (show _ = [(2, .int x8), (8, .int 0), (6, .long x6), (4, .long x5), (0, .ref 43), (1, .int y1), (3, .int y3)] from rfl) ?_
          refine R_iinc (pc := 89) hC 6 dX9_steps_89 rfl (iv ki_1) hL rfl (show _ = [(3, .int (y3 + 1)), (2, .int x8), (8, .int 0), (6, .long x6), (4, .long x5), (0, .ref 43), (1, .int y1)] from rfl) ?_
          refine R_goto (tgt := 6) (pc := 92) hC dX9_steps_92 (by decide) ?_
          refine R_pick [5, 6, 1, 0] (ls' := [(0, .ref 43), (1, .int y1), (2, .int x8), (3, .int (y3 + 1))]) rfl ?_
          have h9 := kL6 _ (Option.some.inj hg).symm
          exact h9
        · replace hg := (if_neg c).symm.trans hg
          refine R_aload_n (pc := 49) hC 2 dX9_steps_49 rfl rfl ?_
          refine R_lload (pc := 50) hC 1 dX9_steps_50 rfl ?_
          obtain ⟨q9, hq9, hg⟩ := bind_some hg
          refine R_callV (pc := 52) (av := [.long x5]) (rest := []) hC hR 43 (jx hn64 rfl) ly43 rfl mf_X9_drawn wm_X9_279 (LX9_drawn hn64 hq9) rfl rfl rfl (Nat.le_of_ble_eq_true rfl) dX9_steps_52 rfl ?_
          show RX K 55 [(6, .long x6), (4, .long x5), (0, .ref 43), (1, .int y1), (2, .int y2), (3, .int y3)] [.int q9.1] q9.2
          refine R_i2l (pc := 55) hC dX9_steps_55 ?_
          refine R_lload (pc := 56) hC 0 dX9_steps_56 rfl ?_
          refine R_lcmp (pc := 58) hC dX9_steps_58 ?_
          refine R_if_ge (tgt := 66) (pc := 59) hC dX9_steps_59 (by decide) (fun c => ?_) (fun c => ?_)
          · replace hg := (if_pos c).symm.trans hg
            refine R_iconst (pc := 66) hC dX9_steps_66 ki_0 ?_
            refine R_istore (pc := 67) hC dX9_steps_67 hL rfl (show _ = [(8, .int 0), (6, .long x6), (4, .long x5), (0, .ref 43), (1, .int y1), (2, .int y2), (3, .int y3)] from rfl) ?_
            refine R_iload (pc := 69) hC 0 dX9_steps_69 rfl ?_
            refine R_if_eq (tgt := 83) (pc := 71) hC dX9_steps_71 (by decide) (fun c => ?_) (fun c => absurd c (by decide))
            refine R_iload_n (pc := 83) hC 5 dX9_steps_83 rfl rfl ?_
            refine R_iconst (pc := 84) hC dX9_steps_84 ki_1 ?_
            refine R_iload_n (pc := 85) hC 6 dX9_steps_85 rfl rfl ?_
            refine R_ishl (pc := 86) hC dX9_steps_86 ?_
            refine R_ior (pc := 87) hC dX9_steps_87 ?_
            obtain ⟨x10, hx10, hg⟩ := lete_some hg
            refine R_top hx10 ?_
            refine R_istore_n (pc := 88) hC dX9_steps_88 rfl hL rfl (show _ = [(2, .int x10), (8, .int 0), (6, .long x6), (4, .long x5), (0, .ref 43), (1, .int y1), (3, .int y3)] from rfl) ?_
            refine R_iinc (pc := 89) hC 6 dX9_steps_89 rfl (iv ki_1) hL rfl (show _ = [(3, .int (y3 + 1)), (2, .int x10), (8, .int 0), (6, .long x6), (4, .long x5), (0, .ref 43), (1, .int y1)] from rfl) ?_
            refine R_goto (tgt := 6) (pc := 92) hC dX9_steps_92 (by decide) ?_
            refine R_pick [5, 6, 1, 0] (ls' := [(0, .ref 43), (1, .int y1), (2, .int x10), (3, .int (y3 + 1))]) rfl ?_
            have h9 := kL6 _ (Option.some.inj hg).symm
            exact h9
          · replace hg := (if_neg c).symm.trans hg
            refine R_iconst (pc := 62) hC dX9_steps_62 ki_1 ?_
            refine R_goto (tgt := 67) (pc := 63) hC dX9_steps_63 (by decide) ?_
            refine R_istore (pc := 67) hC dX9_steps_67 hL rfl (show _ = [(8, .int 1), (6, .long x6), (4, .long x5), (0, .ref 43), (1, .int y1), (2, .int y2), (3, .int y3)] from rfl) ?_
            refine R_iload (pc := 69) hC 0 dX9_steps_69 rfl ?_
            refine R_if_eq (tgt := 83) (pc := 71) hC dX9_steps_71 (by decide) (fun c => absurd c (by decide)) (fun c => ?_)
            refine R_iload_n (pc := 74) hC 4 dX9_steps_74 rfl rfl ?_
            refine R_iconst (pc := 75) hC dX9_steps_75 ki_1 ?_
            refine R_iload_n (pc := 76) hC 6 dX9_steps_76 rfl rfl ?_
            refine R_ishl (pc := 77) hC dX9_steps_77 ?_
            refine R_ior (pc := 78) hC dX9_steps_78 ?_
            obtain ⟨x11, hx11, hg⟩ := lete_some hg
            refine R_top hx11 ?_
            refine R_istore_n (pc := 79) hC dX9_steps_79 rfl hL rfl (show _ = [(1, .int x11), (8, .int 1), (6, .long x6), (4, .long x5), (0, .ref 43), (2, .int y2), (3, .int y3)] from rfl) ?_
            refine R_goto (tgt := 89) (pc := 80) hC dX9_steps_80 (by decide) ?_
            refine R_iinc (pc := 89) hC 6 dX9_steps_89 rfl (iv ki_1) hL rfl (show _ = [(3, .int (y3 + 1)), (1, .int x11), (8, .int 1), (6, .long x6), (4, .long x5), (0, .ref 43), (2, .int y2)] from rfl) ?_
            refine R_goto (tgt := 6) (pc := 92) hC dX9_steps_92 (by decide) ?_
            refine R_pick [5, 1, 6, 0] (ls' := [(0, .ref 43), (1, .int x11), (2, .int y2), (3, .int (y3 + 1))]) rfl ?_
            have h9 := kL6 _ (Option.some.inj hg).symm
            exact h9
  · show RX K 95 [(0, .ref 43), (1, .int e12.1), (2, .int e12.2.1), (3, .int e12.2.2.1)] [] e12.2.2.2
    refine R_iload_n (pc := 95) hC 1 dX9_steps_95 rfl rfl ?_
    have h9 := gxIM hg
    exact R_ireturn (pc := 96) hC dX9_steps_96 h9
theorem dX9_dearest_0 : decode cX9_dearest 0 = .ok (.iconst 0, 1) := by decide +kernel
theorem dX9_dearest_1 : decode cX9_dearest 1 = .ok (.istore_n 1, 1) := by decide +kernel
theorem dX9_dearest_2 : decode cX9_dearest 2 = .ok (.iconst 1, 1) := by decide +kernel
theorem dX9_dearest_3 : decode cX9_dearest 3 = .ok (.istore_n 2, 1) := by decide +kernel
theorem dX9_dearest_4 : decode cX9_dearest 4 = .ok (.iload_n 2, 1) := by decide +kernel
theorem dX9_dearest_5 : decode cX9_dearest 5 = .ok (.aload_n 0, 1) := by decide +kernel
theorem dX9_dearest_6 : decode cX9_dearest 6 = .ok (.getfield 183, 3) := by decide +kernel
theorem dX9_dearest_9 : decode cX9_dearest 9 = .ok (.if_icmp .ge 38, 3) := by decide +kernel
theorem dX9_dearest_12 : decode cX9_dearest 12 = .ok (.aload_n 0, 1) := by decide +kernel
theorem dX9_dearest_13 : decode cX9_dearest 13 = .ok (.aload_n 0, 1) := by decide +kernel
theorem dX9_dearest_14 : decode cX9_dearest 14 = .ok (.getfield 56, 3) := by decide +kernel
theorem dX9_dearest_17 : decode cX9_dearest 17 = .ok (.iload_n 2, 1) := by decide +kernel
theorem dX9_dearest_18 : decode cX9_dearest 18 = .ok (.iaload, 1) := by decide +kernel
theorem dX9_dearest_19 : decode cX9_dearest 19 = .ok (.invokevirtual 222, 3) := by decide +kernel
theorem dX9_dearest_22 : decode cX9_dearest 22 = .ok (.aload_n 0, 1) := by decide +kernel
theorem dX9_dearest_23 : decode cX9_dearest 23 = .ok (.aload_n 0, 1) := by decide +kernel
theorem dX9_dearest_24 : decode cX9_dearest 24 = .ok (.getfield 56, 3) := by decide +kernel
theorem dX9_dearest_27 : decode cX9_dearest 27 = .ok (.iload_n 1, 1) := by decide +kernel
theorem dX9_dearest_28 : decode cX9_dearest 28 = .ok (.iaload, 1) := by decide +kernel
theorem dX9_dearest_29 : decode cX9_dearest 29 = .ok (.invokevirtual 222, 3) := by decide +kernel
theorem dX9_dearest_32 : decode cX9_dearest 32 = .ok (.if_icmp .le 7, 3) := by decide +kernel
theorem dX9_dearest_35 : decode cX9_dearest 35 = .ok (.iload_n 2, 1) := by decide +kernel
theorem dX9_dearest_36 : decode cX9_dearest 36 = .ok (.goto 4, 3) := by decide +kernel
theorem dX9_dearest_39 : decode cX9_dearest 39 = .ok (.iload_n 1, 1) := by decide +kernel
theorem dX9_dearest_40 : decode cX9_dearest 40 = .ok (.istore_n 1, 1) := by decide +kernel
theorem dX9_dearest_41 : decode cX9_dearest 41 = .ok (.iinc 2 1, 3) := by decide +kernel
theorem dX9_dearest_44 : decode cX9_dearest 44 = .ok (.goto (-40), 3) := by decide +kernel
theorem dX9_dearest_47 : decode cX9_dearest 47 = .ok (.aload_n 0, 1) := by decide +kernel
theorem dX9_dearest_48 : decode cX9_dearest 48 = .ok (.getfield 56, 3) := by decide +kernel
theorem dX9_dearest_51 : decode cX9_dearest 51 = .ok (.iload_n 1, 1) := by decide +kernel
theorem dX9_dearest_52 : decode cX9_dearest 52 = .ok (.iaload, 1) := by decide +kernel
theorem dX9_dearest_53 : decode cX9_dearest 53 = .ok (.ireturn, 1) := by decide +kernel
def bX9_dearest_4 (F : Nat) (m : Mem) : (Int32 × Int32) → Option ((Int32 × Int32) ⊕ (Int32 × Int32))
  | (y1, y2) => (if (m.1 43 24) ≤ y2 then some (.inr (y1, y2)) else chk (inb y2 1024) ((gX9_costsOf F m (m.1 58 (Int32.toNatClampNeg y2))).bind (fun x4 => chk (inb y1 1024) ((gX9_costsOf F m (m.1 58 (Int32.toNatClampNeg y1))).bind (fun x6 => (if x4 ≤ x6 then some (.inl (y1, y2 + 1)) else some (.inl (y2, y2 + 1))))))))
def gX9_dearest (F : Nat) (m : Mem) : Option (Int32) := (iter F (bX9_dearest_4 F m) (0, 1)).bind (fun e7 => chk (inb e7.1 1024) (some (m.1 58 (Int32.toNatClampNeg e7.1))))
set_option maxHeartbeats 4000000 in
set_option maxRecDepth 20000 in
theorem LX9_dearest {n : Nat} {F : Nat} {m : Mem} {r : Int32} (hn64 : 64 ≤ n) (hg : gX9_dearest F m  = some r) : MX yX9_dearest cX9_dearest 3 (some .int) { frames := 2, cells := 0, slots := 0, locals := 44 } n [.ref 43] m (some (.int r)) m := by
  refine MX_of (by decide) (Nat.le_of_ble_eq_true rfl) (Or.inr (Or.inl ⟨rfl, _, rfl⟩)) (fun K hC hk hL hR => ?_)
  replace hn64 : 64 ≤ kn K := hk.symm ▸ hn64
  show RX K 0 [(0, .ref 43)] [] m
  rw [gX9_dearest] at hg
  refine R_iconst (pc := 0) hC dX9_dearest_0 ki_0 ?_
  refine R_istore_n (pc := 1) hC dX9_dearest_1 rfl hL rfl (show _ = [(1, .int 0), (0, .ref 43)] from rfl) ?_
  refine R_iconst (pc := 2) hC dX9_dearest_2 ki_1 ?_
  refine R_istore_n (pc := 3) hC dX9_dearest_3 rfl hL rfl (show _ = [(2, .int 1), (1, .int 0), (0, .ref 43)] from rfl) ?_
  refine R_pick [2, 1, 0] (ls' := [(0, .ref 43), (1, .int 0), (2, .int 1)]) rfl ?_
  obtain ⟨e7, he7, hg⟩ := bind_some hg
  refine iter_walk (P := fun s : (Int32 × Int32) => RX K 4 [(0, .ref 43), (1, .int s.1), (2, .int s.2)] [] m) (Qe := fun s : (Int32 × Int32) => RX K 47 [(0, .ref 43), (1, .int s.1), (2, .int s.2)] [] m) (fun s8 o hg kL4 kE4 => ?_) _ _ _ he7 ?_
  · obtain ⟨y1, y2⟩ := s8
    rw [bX9_dearest_4] at hg
    show RX K 4 [(0, .ref 43), (1, .int y1), (2, .int y2)] [] m
    refine R_iload_n (pc := 4) hC 2 dX9_dearest_4 rfl rfl ?_
    refine R_aload_n (pc := 5) hC 0 dX9_dearest_5 rfl rfl ?_
    refine gf_X9_183 (pc := 6) hC hn64 dX9_dearest_6 ?_
    refine R_icmp_ge (tgt := 47) (pc := 9) hC dX9_dearest_9 (by decide) (fun c => ?_) (fun c => ?_)
    · replace hg := (if_pos c).symm.trans hg
      refine R_pick [0, 1, 2] (ls' := [(0, .ref 43), (1, .int y1), (2, .int y2)]) rfl ?_
      have h9 := kE4 _ (Option.some.inj hg).symm
      exact h9
    · replace hg := (if_neg c).symm.trans hg
      refine R_aload_n (pc := 12) hC 0 dX9_dearest_12 rfl rfl ?_
      refine R_aload_n (pc := 13) hC 0 dX9_dearest_13 rfl rfl ?_
      refine gf_X9_56 (pc := 14) hC hn64 dX9_dearest_14 ?_
      refine R_iload_n (pc := 17) hC 2 dX9_dearest_17 rfl rfl ?_
      obtain ⟨c3, hg⟩ := chk_some hg
      refine R_iaload (pc := 18) hC 58 (jx hn64 rfl) ly58 (inb_vp c3) dX9_dearest_18 ?_
      obtain ⟨x4, hx4, hg⟩ := bind_some hg
      refine R_callV (pc := 19) (av := [.int (m.1 58 (Int32.toNatClampNeg y2))]) (rest := []) hC hR 43 (jx hn64 rfl) ly43 rfl mf_X9_costsOf wm_X9_222 (LX9_costsOf hn64 hx4) rfl rfl rfl (Nat.le_of_ble_eq_true rfl) dX9_dearest_19 rfl ?_
      show RX K 22 [(0, .ref 43), (1, .int y1), (2, .int y2)] [.int x4] m
      refine R_aload_n (pc := 22) hC 0 dX9_dearest_22 rfl rfl ?_
      refine R_aload_n (pc := 23) hC 0 dX9_dearest_23 rfl rfl ?_
      refine gf_X9_56 (pc := 24) hC hn64 dX9_dearest_24 ?_
      refine R_iload_n (pc := 27) hC 1 dX9_dearest_27 rfl rfl ?_
      obtain ⟨c5, hg⟩ := chk_some hg
      refine R_iaload (pc := 28) hC 58 (jx hn64 rfl) ly58 (inb_vp c5) dX9_dearest_28 ?_
      obtain ⟨x6, hx6, hg⟩ := bind_some hg
      refine R_callV (pc := 29) (av := [.int (m.1 58 (Int32.toNatClampNeg y1))]) (rest := [.int x4]) hC hR 43 (jx hn64 rfl) ly43 rfl mf_X9_costsOf wm_X9_222 (LX9_costsOf hn64 hx6) rfl rfl rfl (Nat.le_of_ble_eq_true rfl) dX9_dearest_29 rfl ?_
      show RX K 32 [(0, .ref 43), (1, .int y1), (2, .int y2)] [.int x6, .int x4] m
      refine R_icmp_le (tgt := 39) (pc := 32) hC dX9_dearest_32 (by decide) (fun c => ?_) (fun c => ?_)
      · replace hg := (if_pos c).symm.trans hg
        refine R_iload_n (pc := 39) hC 1 dX9_dearest_39 rfl rfl ?_
        refine R_istore_n (pc := 40) hC dX9_dearest_40 rfl hL rfl (show _ = [(1, .int y1), (0, .ref 43), (2, .int y2)] from rfl) ?_
        refine R_iinc (pc := 41) hC 2 dX9_dearest_41 rfl (iv ki_1) hL rfl (show _ = [(2, .int (y2 + 1)), (1, .int y1), (0, .ref 43)] from rfl) ?_
        refine R_goto (tgt := 4) (pc := 44) hC dX9_dearest_44 (by decide) ?_
        refine R_pick [2, 1, 0] (ls' := [(0, .ref 43), (1, .int y1), (2, .int (y2 + 1))]) rfl ?_
        have h9 := kL4 _ (Option.some.inj hg).symm
        exact h9
      · replace hg := (if_neg c).symm.trans hg
        refine R_iload_n (pc := 35) hC 2 dX9_dearest_35 rfl rfl ?_
        refine R_goto (tgt := 40) (pc := 36) hC dX9_dearest_36 (by decide) ?_
        refine R_istore_n (pc := 40) hC dX9_dearest_40 rfl hL rfl (show _ = [(1, .int y2), (0, .ref 43), (2, .int y2)] from rfl) ?_
        refine R_iinc (pc := 41) hC 2 dX9_dearest_41 rfl (iv ki_1) hL rfl (show _ = [(2, .int (y2 + 1)), (1, .int y2), (0, .ref 43)] from rfl) ?_
        refine R_goto (tgt := 4) (pc := 44) hC dX9_dearest_44 (by decide) ?_
        refine R_pick [2, 1, 0] (ls' := [(0, .ref 43), (1, .int y2), (2, .int (y2 + 1))]) rfl ?_
        have h9 := kL4 _ (Option.some.inj hg).symm
        exact h9
  · show RX K 47 [(0, .ref 43), (1, .int e7.1), (2, .int e7.2)] [] m
    refine R_aload_n (pc := 47) hC 0 dX9_dearest_47 rfl rfl ?_
    refine gf_X9_56 (pc := 48) hC hn64 dX9_dearest_48 ?_
    refine R_iload_n (pc := 51) hC 1 dX9_dearest_51 rfl rfl ?_
    obtain ⟨c9, hg⟩ := chk_some hg
    refine R_iaload (pc := 52) hC 58 (jx hn64 rfl) ly58 (inb_vp c9) dX9_dearest_52 ?_
    have h9 := gxI (m := m) hg
    exact R_ireturn (pc := 53) hC dX9_dearest_53 h9
theorem dX9_rowWay_0 : decode cX9_rowWay 0 = .ok (.iconst 0, 1) := by decide +kernel
theorem dX9_rowWay_1 : decode cX9_rowWay 1 = .ok (.istore_n 1, 1) := by decide +kernel
theorem dX9_rowWay_2 : decode cX9_rowWay 2 = .ok (.iconst 0, 1) := by decide +kernel
theorem dX9_rowWay_3 : decode cX9_rowWay 3 = .ok (.istore_n 2, 1) := by decide +kernel
theorem dX9_rowWay_4 : decode cX9_rowWay 4 = .ok (.iload_n 2, 1) := by decide +kernel
theorem dX9_rowWay_5 : decode cX9_rowWay 5 = .ok (.aload_n 0, 1) := by decide +kernel
theorem dX9_rowWay_6 : decode cX9_rowWay 6 = .ok (.getfield 283, 3) := by decide +kernel
theorem dX9_rowWay_9 : decode cX9_rowWay 9 = .ok (.if_icmp .ge 20, 3) := by decide +kernel
theorem dX9_rowWay_12 : decode cX9_rowWay 12 = .ok (.iload_n 1, 1) := by decide +kernel
theorem dX9_rowWay_13 : decode cX9_rowWay 13 = .ok (.iconst 1, 1) := by decide +kernel
theorem dX9_rowWay_14 : decode cX9_rowWay 14 = .ok (.aload_n 0, 1) := by decide +kernel
theorem dX9_rowWay_15 : decode cX9_rowWay 15 = .ok (.getfield 72, 3) := by decide +kernel
theorem dX9_rowWay_18 : decode cX9_rowWay 18 = .ok (.iload_n 2, 1) := by decide +kernel
theorem dX9_rowWay_19 : decode cX9_rowWay 19 = .ok (.iaload, 1) := by decide +kernel
theorem dX9_rowWay_20 : decode cX9_rowWay 20 = .ok (.ishl, 1) := by decide +kernel
theorem dX9_rowWay_21 : decode cX9_rowWay 21 = .ok (.ior, 1) := by decide +kernel
theorem dX9_rowWay_22 : decode cX9_rowWay 22 = .ok (.istore_n 1, 1) := by decide +kernel
theorem dX9_rowWay_23 : decode cX9_rowWay 23 = .ok (.iinc 2 1, 3) := by decide +kernel
theorem dX9_rowWay_26 : decode cX9_rowWay 26 = .ok (.goto (-22), 3) := by decide +kernel
theorem dX9_rowWay_29 : decode cX9_rowWay 29 = .ok (.aload_n 0, 1) := by decide +kernel
theorem dX9_rowWay_30 : decode cX9_rowWay 30 = .ok (.iload_n 1, 1) := by decide +kernel
theorem dX9_rowWay_31 : decode cX9_rowWay 31 = .ok (.invokevirtual 186, 3) := by decide +kernel
theorem dX9_rowWay_34 : decode cX9_rowWay 34 = .ok (.ifCond .eq 7, 3) := by decide +kernel
theorem dX9_rowWay_37 : decode cX9_rowWay 37 = .ok (.iload_n 1, 1) := by decide +kernel
theorem dX9_rowWay_38 : decode cX9_rowWay 38 = .ok (.goto 5, 3) := by decide +kernel
theorem dX9_rowWay_41 : decode cX9_rowWay 41 = .ok (.bipush (-9), 2) := by decide +kernel
theorem dX9_rowWay_43 : decode cX9_rowWay 43 = .ok (.ireturn, 1) := by decide +kernel
def bX9_rowWay_4 (m : Mem) : (Int32 × Int32) → Option ((Int32 × Int32) ⊕ (Int32 × Int32))
  | (y1, y2) => (if (m.1 43 34) ≤ y2 then some (.inr (y1, y2)) else chk (inb y2 10) (lete (y1 ||| ((1 : Int32) <<< ((m.1 63 (Int32.toNatClampNeg y2)) &&& 31))) (fun x4 => some (.inl (x4, y2 + 1)))))
def gX9_rowWay (F : Nat) (m : Mem) : Option (Int32 × Mem) := (iter F (bX9_rowWay_4 m) (0, 0)).bind (fun e5 => (gX9_isWay F m e5.1).bind (fun q7 => (if q7.1 = true then some (e5.1, q7.2) else some ((-9), q7.2))))
set_option maxHeartbeats 4000000 in
set_option maxRecDepth 20000 in
theorem LX9_rowWay {n : Nat} {F : Nat} {m : Mem} {r : Int32 × Mem} (hn64 : 64 ≤ n) (hg : gX9_rowWay F m  = some r) : MX yX9_rowWay cX9_rowWay 3 (some .int) { frames := 3, cells := 0, slots := 0, locals := 69 } n [.ref 43] m (some (.int r.1)) r.2 := by
  refine MX_of (by decide) (Nat.le_of_ble_eq_true rfl) (Or.inr (Or.inl ⟨rfl, _, rfl⟩)) (fun K hC hk hL hR => ?_)
  replace hn64 : 64 ≤ kn K := hk.symm ▸ hn64
  show RX K 0 [(0, .ref 43)] [] m
  rw [gX9_rowWay] at hg
  refine R_iconst (pc := 0) hC dX9_rowWay_0 ki_0 ?_
  refine R_istore_n (pc := 1) hC dX9_rowWay_1 rfl hL rfl (show _ = [(1, .int 0), (0, .ref 43)] from rfl) ?_
  refine R_iconst (pc := 2) hC dX9_rowWay_2 ki_0 ?_
  refine R_istore_n (pc := 3) hC dX9_rowWay_3 rfl hL rfl (show _ = [(2, .int 0), (1, .int 0), (0, .ref 43)] from rfl) ?_
  refine R_pick [2, 1, 0] (ls' := [(0, .ref 43), (1, .int 0), (2, .int 0)]) rfl ?_
  obtain ⟨e5, he5, hg⟩ := bind_some hg
  refine iter_walk (P := fun s : (Int32 × Int32) => RX K 4 [(0, .ref 43), (1, .int s.1), (2, .int s.2)] [] m) (Qe := fun s : (Int32 × Int32) => RX K 29 [(0, .ref 43), (1, .int s.1), (2, .int s.2)] [] m) (fun s6 o hg kL4 kE4 => ?_) _ _ _ he5 ?_
  · obtain ⟨y1, y2⟩ := s6
    rw [bX9_rowWay_4] at hg
    show RX K 4 [(0, .ref 43), (1, .int y1), (2, .int y2)] [] m
    refine R_iload_n (pc := 4) hC 2 dX9_rowWay_4 rfl rfl ?_
    refine R_aload_n (pc := 5) hC 0 dX9_rowWay_5 rfl rfl ?_
    refine gf_X9_283 (pc := 6) hC hn64 dX9_rowWay_6 ?_
    refine R_icmp_ge (tgt := 29) (pc := 9) hC dX9_rowWay_9 (by decide) (fun c => ?_) (fun c => ?_)
    · replace hg := (if_pos c).symm.trans hg
      refine R_pick [0, 1, 2] (ls' := [(0, .ref 43), (1, .int y1), (2, .int y2)]) rfl ?_
      have h9 := kE4 _ (Option.some.inj hg).symm
      exact h9
    · replace hg := (if_neg c).symm.trans hg
      refine R_iload_n (pc := 12) hC 1 dX9_rowWay_12 rfl rfl ?_
      refine R_iconst (pc := 13) hC dX9_rowWay_13 ki_1 ?_
      refine R_aload_n (pc := 14) hC 0 dX9_rowWay_14 rfl rfl ?_
      refine gf_X9_72 (pc := 15) hC hn64 dX9_rowWay_15 ?_
      refine R_iload_n (pc := 18) hC 2 dX9_rowWay_18 rfl rfl ?_
      obtain ⟨c3, hg⟩ := chk_some hg
      refine R_iaload (pc := 19) hC 63 (jx hn64 rfl) ly63 (inb_vp c3) dX9_rowWay_19 ?_
      refine R_ishl (pc := 20) hC dX9_rowWay_20 ?_
      refine R_ior (pc := 21) hC dX9_rowWay_21 ?_
      obtain ⟨x4, hx4, hg⟩ := lete_some hg
      refine R_top hx4 ?_
      refine R_istore_n (pc := 22) hC dX9_rowWay_22 rfl hL rfl (show _ = [(1, .int x4), (0, .ref 43), (2, .int y2)] from rfl) ?_
      refine R_iinc (pc := 23) hC 2 dX9_rowWay_23 rfl (iv ki_1) hL rfl (show _ = [(2, .int (y2 + 1)), (1, .int x4), (0, .ref 43)] from rfl) ?_
      refine R_goto (tgt := 4) (pc := 26) hC dX9_rowWay_26 (by decide) ?_
      refine R_pick [2, 1, 0] (ls' := [(0, .ref 43), (1, .int x4), (2, .int (y2 + 1))]) rfl ?_
      have h9 := kL4 _ (Option.some.inj hg).symm
      exact h9
  · show RX K 29 [(0, .ref 43), (1, .int e5.1), (2, .int e5.2)] [] m
    refine R_aload_n (pc := 29) hC 0 dX9_rowWay_29 rfl rfl ?_
    refine R_iload_n (pc := 30) hC 1 dX9_rowWay_30 rfl rfl ?_
    obtain ⟨q7, hq7, hg⟩ := bind_some hg
    refine R_callV (pc := 31) (av := [.int e5.1]) (rest := []) hC hR 43 (jx hn64 rfl) ly43 rfl mf_X9_isWay wm_X9_186 (LX9_isWay hn64 hq7) rfl rfl rfl (Nat.le_of_ble_eq_true rfl) dX9_rowWay_31 rfl ?_
    show RX K 34 [(0, .ref 43), (1, .int e5.1), (2, .int e5.2)] [.int (b2i q7.1)] q7.2
    refine R_ifB_eq (tgt := 41) (pc := 34) hC dX9_rowWay_34 (by decide) (fun c => ?_) (fun c => ?_)
    · replace hg := (if_neg c).symm.trans hg
      refine R_bipush (pc := 41) hC dX9_rowWay_41 kb_m9 ?_
      have h9 := gxIM hg
      exact R_ireturn (pc := 43) hC dX9_rowWay_43 h9
    · replace hg := (if_pos c).symm.trans hg
      refine R_iload_n (pc := 37) hC 1 dX9_rowWay_37 rfl rfl ?_
      refine R_goto (tgt := 43) (pc := 38) hC dX9_rowWay_38 (by decide) ?_
      have h9 := gxIM hg
      exact R_ireturn (pc := 43) hC dX9_rowWay_43 h9
theorem dX9_makes_0 : decode cX9_makes 0 = .ok (.iload_n 1, 1) := by decide +kernel
theorem dX9_makes_1 : decode cX9_makes 1 = .ok (.ifCond .ne 8, 3) := by decide +kernel
theorem dX9_makes_4 : decode cX9_makes 4 = .ok (.aload_n 0, 1) := by decide +kernel
theorem dX9_makes_5 : decode cX9_makes 5 = .ok (.invokevirtual 286, 3) := by decide +kernel
theorem dX9_makes_8 : decode cX9_makes 8 = .ok (.ireturn, 1) := by decide +kernel
theorem dX9_makes_9 : decode cX9_makes 9 = .ok (.iload_n 1, 1) := by decide +kernel
theorem dX9_makes_10 : decode cX9_makes 10 = .ok (.iconst 5, 1) := by decide +kernel
theorem dX9_makes_11 : decode cX9_makes 11 = .ok (.if_icmp .ne 8, 3) := by decide +kernel
theorem dX9_makes_14 : decode cX9_makes 14 = .ok (.aload_n 0, 1) := by decide +kernel
theorem dX9_makes_15 : decode cX9_makes 15 = .ok (.invokevirtual 289, 3) := by decide +kernel
theorem dX9_makes_18 : decode cX9_makes 18 = .ok (.ireturn, 1) := by decide +kernel
theorem dX9_makes_19 : decode cX9_makes 19 = .ok (.aload_n 0, 1) := by decide +kernel
theorem dX9_makes_20 : decode cX9_makes 20 = .ok (.invokevirtual 193, 3) := by decide +kernel
theorem dX9_makes_23 : decode cX9_makes 23 = .ok (.aload_n 0, 1) := by decide +kernel
theorem dX9_makes_24 : decode cX9_makes 24 = .ok (.getfield 183, 3) := by decide +kernel
theorem dX9_makes_27 : decode cX9_makes 27 = .ok (.ifCond .ne 6, 3) := by decide +kernel
theorem dX9_makes_30 : decode cX9_makes 30 = .ok (.bipush (-9), 2) := by decide +kernel
theorem dX9_makes_32 : decode cX9_makes 32 = .ok (.ireturn, 1) := by decide +kernel
theorem dX9_makes_33 : decode cX9_makes 33 = .ok (.iload_n 1, 1) := by decide +kernel
theorem dX9_makes_34 : decode cX9_makes 34 = .ok (.tableswitch 47 1 3 #[26, 31, 42], 26) := by decide +kernel
theorem dX9_makes_60 : decode cX9_makes 60 = .ok (.aload_n 0, 1) := by decide +kernel
theorem dX9_makes_61 : decode cX9_makes 61 = .ok (.invokevirtual 292, 3) := by decide +kernel
theorem dX9_makes_64 : decode cX9_makes 64 = .ok (.ireturn, 1) := by decide +kernel
theorem dX9_makes_65 : decode cX9_makes 65 = .ok (.aload_n 0, 1) := by decide +kernel
theorem dX9_makes_66 : decode cX9_makes 66 = .ok (.getfield 56, 3) := by decide +kernel
theorem dX9_makes_69 : decode cX9_makes 69 = .ok (.aload_n 0, 1) := by decide +kernel
theorem dX9_makes_70 : decode cX9_makes 70 = .ok (.iconst 0, 1) := by decide +kernel
theorem dX9_makes_71 : decode cX9_makes 71 = .ok (.invokevirtual 225, 3) := by decide +kernel
theorem dX9_makes_74 : decode cX9_makes 74 = .ok (.iaload, 1) := by decide +kernel
theorem dX9_makes_75 : decode cX9_makes 75 = .ok (.ireturn, 1) := by decide +kernel
theorem dX9_makes_76 : decode cX9_makes 76 = .ok (.aload_n 0, 1) := by decide +kernel
theorem dX9_makes_77 : decode cX9_makes 77 = .ok (.invokevirtual 295, 3) := by decide +kernel
theorem dX9_makes_80 : decode cX9_makes 80 = .ok (.ireturn, 1) := by decide +kernel
theorem dX9_makes_81 : decode cX9_makes 81 = .ok (.aload_n 0, 1) := by decide +kernel
theorem dX9_makes_82 : decode cX9_makes 82 = .ok (.getfield 56, 3) := by decide +kernel
theorem dX9_makes_85 : decode cX9_makes 85 = .ok (.aload_n 0, 1) := by decide +kernel
theorem dX9_makes_86 : decode cX9_makes 86 = .ok (.aload_n 0, 1) := by decide +kernel
theorem dX9_makes_87 : decode cX9_makes 87 = .ok (.getfield 183, 3) := by decide +kernel
theorem dX9_makes_90 : decode cX9_makes 90 = .ok (.i2l, 1) := by decide +kernel
theorem dX9_makes_91 : decode cX9_makes 91 = .ok (.invokevirtual 279, 3) := by decide +kernel
theorem dX9_makes_94 : decode cX9_makes 94 = .ok (.iaload, 1) := by decide +kernel
theorem dX9_makes_95 : decode cX9_makes 95 = .ok (.ireturn, 1) := by decide +kernel
def gX9_makes (F : Nat) (m : Mem) (a1 : Int32) : Option (Int32 × Mem) := (if a1 = 0 then (gX9_walks F m).bind (fun q12 => some (q12.1, q12.2)) else (if a1 = 5 then (gX9_rowWay F m).bind (fun q11 => some (q11.1, q11.2)) else (gX9_findWays F m).bind (fun q1 => (if (q1.1 43 24) = 0 then some ((-9), q1) else (if a1 = 1 then (gX9_steps F q1).bind (fun q3 => some (q3.1, q3.2)) else (if a1 = 2 then (gX9_cheapest F q1 0).bind (fun x5 => chk (inb x5 1024) (some (q1.1 58 (Int32.toNatClampNeg x5), q1))) else (if a1 = 3 then (gX9_dearest F q1).bind (fun x8 => some (x8, q1)) else (gX9_drawn q1 ((q1.1 43 24).toInt64)).bind (fun q9 => chk (inb q9.1 1024) (some (q9.2.1 58 (Int32.toNatClampNeg q9.1), q9.2))))))))))
set_option maxHeartbeats 4000000 in
set_option maxRecDepth 20000 in
theorem LX9_makes {n : Nat} {F : Nat} {m : Mem} {a1 : Int32} {r : Int32 × Mem} (hn64 : 64 ≤ n) (hg : gX9_makes F m a1 = some r) : MX yX9_makes cX9_makes 2 (some .int) { frames := 4, cells := 0, slots := 0, locals := 91 } n [.ref 43, .int a1] m (some (.int r.1)) r.2 := by
  refine MX_of (by decide) (Nat.le_of_ble_eq_true rfl) (Or.inr (Or.inl ⟨rfl, _, rfl⟩)) (fun K hC hk hL hR => ?_)
  replace hn64 : 64 ≤ kn K := hk.symm ▸ hn64
  show RX K 0 [(0, .ref 43), (1, .int a1)] [] m
  rw [gX9_makes] at hg
  refine R_iload_n (pc := 0) hC 1 dX9_makes_0 rfl rfl ?_
  refine R_if_ne (tgt := 9) (pc := 1) hC dX9_makes_1 (by decide) (fun c => ?_) (fun c => ?_)
  · replace hg := (if_neg c).symm.trans hg
    refine R_iload_n (pc := 9) hC 1 dX9_makes_9 rfl rfl ?_
    refine R_iconst (pc := 10) hC dX9_makes_10 ki_5 ?_
    refine R_icmp_ne (tgt := 19) (pc := 11) hC dX9_makes_11 (by decide) (fun c => ?_) (fun c => ?_)
    · replace hg := (if_neg c).symm.trans hg
      refine R_aload_n (pc := 19) hC 0 dX9_makes_19 rfl rfl ?_
      obtain ⟨q1, hq1, hg⟩ := bind_some hg
      refine R_callV (pc := 20) (av := []) (rest := []) hC hR 43 (jx hn64 rfl) ly43 rfl mf_X9_findWays wm_X9_193 (LX9_findWays hn64 hq1) rfl rfl rfl (Nat.le_of_ble_eq_true rfl) dX9_makes_20 rfl ?_
      show RX K 23 [(0, .ref 43), (1, .int a1)] [] q1
      refine R_aload_n (pc := 23) hC 0 dX9_makes_23 rfl rfl ?_
      refine gf_X9_183 (pc := 24) hC hn64 dX9_makes_24 ?_
      refine R_if_ne (tgt := 33) (pc := 27) hC dX9_makes_27 (by decide) (fun c => ?_) (fun c => ?_)
      · replace hg := (if_neg c).symm.trans hg
        refine R_iload_n (pc := 33) hC 1 dX9_makes_33 rfl rfl ?_
        by_cases c2 : a1 = 1
        · replace hg := (if_pos c2).symm.trans hg
          refine R_top c2 ?_
          refine R_tableIn (tgt := 60) (x := 1) (pc := 34) hC dX9_makes_34 (by decide) (by decide) (by rfl) (by decide) ?_
          refine R_aload_n (pc := 60) hC 0 dX9_makes_60 rfl rfl ?_
          obtain ⟨q3, hq3, hg⟩ := bind_some hg
          refine R_callV (pc := 61) (av := []) (rest := []) hC hR 43 (jx hn64 rfl) ly43 rfl mf_X9_steps wm_X9_292 (LX9_steps hn64 hq3) rfl rfl rfl (Nat.le_of_ble_eq_true rfl) dX9_makes_61 rfl ?_
          show RX K 64 [(0, .ref 43), (1, .int a1)] [.int q3.1] q3.2
          have h9 := gxIM hg
          exact R_ireturn (pc := 64) hC dX9_makes_64 h9
        replace hg := (if_neg c2).symm.trans hg
        by_cases c4 : a1 = 2
        · replace hg := (if_pos c4).symm.trans hg
          refine R_top c4 ?_
          refine R_tableIn (tgt := 65) (x := 2) (pc := 34) hC dX9_makes_34 (by decide) (by decide) (by rfl) (by decide) ?_
          refine R_aload_n (pc := 65) hC 0 dX9_makes_65 rfl rfl ?_
          refine gf_X9_56 (pc := 66) hC hn64 dX9_makes_66 ?_
          refine R_aload_n (pc := 69) hC 0 dX9_makes_69 rfl rfl ?_
          refine R_iconst (pc := 70) hC dX9_makes_70 ki_0 ?_
          obtain ⟨x5, hx5, hg⟩ := bind_some hg
          refine R_callV (pc := 71) (av := [.int 0]) (rest := [.ref 58]) hC hR 43 (jx hn64 rfl) ly43 rfl mf_X9_cheapest wm_X9_225 (LX9_cheapest hn64 hx5) rfl rfl rfl (Nat.le_of_ble_eq_true rfl) dX9_makes_71 rfl ?_
          show RX K 74 [(0, .ref 43), (1, .int a1)] [.int x5, .ref 58] q1
          obtain ⟨c6, hg⟩ := chk_some hg
          refine R_iaload (pc := 74) hC 58 (jx hn64 rfl) ly58 (inb_vp c6) dX9_makes_74 ?_
          have h9 := gxIM hg
          exact R_ireturn (pc := 75) hC dX9_makes_75 h9
        replace hg := (if_neg c4).symm.trans hg
        by_cases c7 : a1 = 3
        · replace hg := (if_pos c7).symm.trans hg
          refine R_top c7 ?_
          refine R_tableIn (tgt := 76) (x := 3) (pc := 34) hC dX9_makes_34 (by decide) (by decide) (by rfl) (by decide) ?_
          refine R_aload_n (pc := 76) hC 0 dX9_makes_76 rfl rfl ?_
          obtain ⟨x8, hx8, hg⟩ := bind_some hg
          refine R_callV (pc := 77) (av := []) (rest := []) hC hR 43 (jx hn64 rfl) ly43 rfl mf_X9_dearest wm_X9_295 (LX9_dearest hn64 hx8) rfl rfl rfl (Nat.le_of_ble_eq_true rfl) dX9_makes_77 rfl ?_
          show RX K 80 [(0, .ref 43), (1, .int a1)] [.int x8] q1
          have h9 := gxIM hg
          exact R_ireturn (pc := 80) hC dX9_makes_80 h9
        replace hg := (if_neg c7).symm.trans hg
        refine R_tableOut (tgt := 81) (pc := 34) hC dX9_makes_34 (tab_out (fun k hk => ?_)) (by decide) ?_
        · have h9 : k = 0 ∨ k = 1 ∨ k = 2 := by omega
          rcases h9 with rfl | rfl | rfl
          · exact i32_ne c2 (by decide)
          · exact i32_ne c4 (by decide)
          · exact i32_ne c7 (by decide)
        refine R_aload_n (pc := 81) hC 0 dX9_makes_81 rfl rfl ?_
        refine gf_X9_56 (pc := 82) hC hn64 dX9_makes_82 ?_
        refine R_aload_n (pc := 85) hC 0 dX9_makes_85 rfl rfl ?_
        refine R_aload_n (pc := 86) hC 0 dX9_makes_86 rfl rfl ?_
        refine gf_X9_183 (pc := 87) hC hn64 dX9_makes_87 ?_
        refine R_i2l (pc := 90) hC dX9_makes_90 ?_
        obtain ⟨q9, hq9, hg⟩ := bind_some hg
        refine R_callV (pc := 91) (av := [.long ((q1.1 43 24).toInt64)]) (rest := [.ref 58]) hC hR 43 (jx hn64 rfl) ly43 rfl mf_X9_drawn wm_X9_279 (LX9_drawn hn64 hq9) rfl rfl rfl (Nat.le_of_ble_eq_true rfl) dX9_makes_91 rfl ?_
        show RX K 94 [(0, .ref 43), (1, .int a1)] [.int q9.1, .ref 58] q9.2
        obtain ⟨c10, hg⟩ := chk_some hg
        refine R_iaload (pc := 94) hC 58 (jx hn64 rfl) ly58 (inb_vp c10) dX9_makes_94 ?_
        have h9 := gxIM hg
        exact R_ireturn (pc := 95) hC dX9_makes_95 h9
      · replace hg := (if_pos c).symm.trans hg
        refine R_bipush (pc := 30) hC dX9_makes_30 kb_m9 ?_
        have h9 := gxIM hg
        exact R_ireturn (pc := 32) hC dX9_makes_32 h9
    · replace hg := (if_pos c).symm.trans hg
      refine R_aload_n (pc := 14) hC 0 dX9_makes_14 rfl rfl ?_
      obtain ⟨q11, hq11, hg⟩ := bind_some hg
      refine R_callV (pc := 15) (av := []) (rest := []) hC hR 43 (jx hn64 rfl) ly43 rfl mf_X9_rowWay wm_X9_289 (LX9_rowWay hn64 hq11) rfl rfl rfl (Nat.le_of_ble_eq_true rfl) dX9_makes_15 rfl ?_
      show RX K 18 [(0, .ref 43), (1, .int a1)] [.int q11.1] q11.2
      have h9 := gxIM hg
      exact R_ireturn (pc := 18) hC dX9_makes_18 h9
  · replace hg := (if_pos c).symm.trans hg
    refine R_aload_n (pc := 4) hC 0 dX9_makes_4 rfl rfl ?_
    obtain ⟨q12, hq12, hg⟩ := bind_some hg
    refine R_callV (pc := 5) (av := []) (rest := []) hC hR 43 (jx hn64 rfl) ly43 rfl mf_X9_walks wm_X9_286 (LX9_walks hn64 hq12) rfl rfl rfl (Nat.le_of_ble_eq_true rfl) dX9_makes_5 rfl ?_
    show RX K 8 [(0, .ref 43), (1, .int a1)] [.int q12.1] q12.2
    have h9 := gxIM hg
    exact R_ireturn (pc := 8) hC dX9_makes_8 h9
theorem dX9_isDrawer_0 : decode cX9_isDrawer 0 = .ok (.iload_n 0, 1) := by decide +kernel
theorem dX9_isDrawer_1 : decode cX9_isDrawer 1 = .ok (.ifCond .lt 13, 3) := by decide +kernel
theorem dX9_isDrawer_4 : decode cX9_isDrawer 4 = .ok (.iload_n 0, 1) := by decide +kernel
theorem dX9_isDrawer_5 : decode cX9_isDrawer 5 = .ok (.bipush 6, 2) := by decide +kernel
theorem dX9_isDrawer_7 : decode cX9_isDrawer 7 = .ok (.if_icmp .ge 7, 3) := by decide +kernel
theorem dX9_isDrawer_10 : decode cX9_isDrawer 10 = .ok (.iconst 1, 1) := by decide +kernel
theorem dX9_isDrawer_11 : decode cX9_isDrawer 11 = .ok (.goto 4, 3) := by decide +kernel
theorem dX9_isDrawer_14 : decode cX9_isDrawer 14 = .ok (.iconst 0, 1) := by decide +kernel
theorem dX9_isDrawer_15 : decode cX9_isDrawer 15 = .ok (.ireturn, 1) := by decide +kernel
def gX9_isDrawer (a1 : Int32) : Option (Bool) := (if a1 < 0 then some false else (if 6 ≤ a1 then some false else some true))
set_option maxHeartbeats 4000000 in
set_option maxRecDepth 20000 in
theorem LX9_isDrawer {n : Nat} {m : Mem} {a1 : Int32} {r : Bool} (hn64 : 64 ≤ n) (hg : gX9_isDrawer a1 = some r) : MX yX9_isDrawer cX9_isDrawer 1 (some .boolean) { frames := 0, cells := 0, slots := 0, locals := 0 } n [.int a1] m (some (.int (b2i r))) m := by
  refine MX_of (by decide) (Nat.le_of_ble_eq_true rfl) (Or.inr (Or.inr (Or.inr ⟨rfl, _, rfl⟩))) (fun K hC hk hL hR => ?_)
  replace hn64 : 64 ≤ kn K := hk.symm ▸ hn64
  show RX K 0 [(0, .int a1)] [] m
  rw [gX9_isDrawer] at hg
  refine R_iload_n (pc := 0) hC 0 dX9_isDrawer_0 rfl rfl ?_
  refine R_if_lt (tgt := 14) (pc := 1) hC dX9_isDrawer_1 (by decide) (fun c => ?_) (fun c => ?_)
  · replace hg := (if_pos c).symm.trans hg
    refine R_iconst (pc := 14) hC dX9_isDrawer_14 ki_0 ?_
    have h9 := gxZ (m := m) hg
    exact R_ireturn (pc := 15) hC dX9_isDrawer_15 h9
  · replace hg := (if_neg c).symm.trans hg
    refine R_iload_n (pc := 4) hC 0 dX9_isDrawer_4 rfl rfl ?_
    refine R_bipush (pc := 5) hC dX9_isDrawer_5 kb_6 ?_
    refine R_icmp_ge (tgt := 14) (pc := 7) hC dX9_isDrawer_7 (by decide) (fun c => ?_) (fun c => ?_)
    · replace hg := (if_pos c).symm.trans hg
      refine R_iconst (pc := 14) hC dX9_isDrawer_14 ki_0 ?_
      have h9 := gxZ (m := m) hg
      exact R_ireturn (pc := 15) hC dX9_isDrawer_15 h9
    · replace hg := (if_neg c).symm.trans hg
      refine R_iconst (pc := 10) hC dX9_isDrawer_10 ki_1 ?_
      refine R_goto (tgt := 15) (pc := 11) hC dX9_isDrawer_11 (by decide) ?_
      have h9 := gxZ (m := m) hg
      exact R_ireturn (pc := 15) hC dX9_isDrawer_15 h9
theorem dX9_draw_0 : decode cX9_draw 0 = .ok (.iload_n 1, 1) := by decide +kernel
theorem dX9_draw_1 : decode cX9_draw 1 = .ok (.invokestatic 298, 3) := by decide +kernel
theorem dX9_draw_4 : decode cX9_draw 4 = .ok (.ifCond .ne 10, 3) := by decide +kernel
theorem dX9_draw_7 : decode cX9_draw 7 = .ok (.aload_n 0, 1) := by decide +kernel
theorem dX9_draw_8 : decode cX9_draw 8 = .ok (.bipush (-2), 2) := by decide +kernel
theorem dX9_draw_10 : decode cX9_draw 10 = .ok (.invokevirtual 87, 3) := by decide +kernel
theorem dX9_draw_13 : decode cX9_draw 13 = .ok (.ireturn, 1) := by decide +kernel
theorem dX9_draw_14 : decode cX9_draw 14 = .ok (.aload_n 0, 1) := by decide +kernel
theorem dX9_draw_15 : decode cX9_draw 15 = .ok (.iload_n 2, 1) := by decide +kernel
theorem dX9_draw_16 : decode cX9_draw 16 = .ok (.putfield 266, 3) := by decide +kernel
theorem dX9_draw_19 : decode cX9_draw 19 = .ok (.aload_n 0, 1) := by decide +kernel
theorem dX9_draw_20 : decode cX9_draw 20 = .ok (.iload_n 1, 1) := by decide +kernel
theorem dX9_draw_21 : decode cX9_draw 21 = .ok (.invokevirtual 301, 3) := by decide +kernel
theorem dX9_draw_24 : decode cX9_draw 24 = .ok (.ireturn, 1) := by decide +kernel
def gX9_draw (F : Nat) (m : Mem) (a1 : Int32) (a2 : Int32) : Option (Int32 × Mem) := (gX9_isDrawer a1).bind (fun x1 => (if x1 = true then lete (mu m 43 32 a2) (fun m2 => (gX9_makes F m2 a1).bind (fun q3 => some (q3.1, q3.2))) else (gX9_no m (-2)).bind (fun q4 => some (q4.1, q4.2))))
set_option maxHeartbeats 4000000 in
set_option maxRecDepth 20000 in
theorem LX9_draw {n : Nat} {F : Nat} {m : Mem} {a1 : Int32} {a2 : Int32} {r : Int32 × Mem} (hn64 : 64 ≤ n) (hg : gX9_draw F m a1 a2 = some r) : MX yX9_draw cX9_draw 3 (some .int) { frames := 5, cells := 0, slots := 0, locals := 112 } n [.ref 43, .int a1, .int a2] m (some (.int r.1)) r.2 := by
  refine MX_of (by decide) (Nat.le_of_ble_eq_true rfl) (Or.inr (Or.inl ⟨rfl, _, rfl⟩)) (fun K hC hk hL hR => ?_)
  replace hn64 : 64 ≤ kn K := hk.symm ▸ hn64
  show RX K 0 [(0, .ref 43), (1, .int a1), (2, .int a2)] [] m
  rw [gX9_draw] at hg
  refine R_iload_n (pc := 0) hC 1 dX9_draw_0 rfl rfl ?_
  obtain ⟨x1, hx1, hg⟩ := bind_some hg
  refine R_callS (pc := 1) (av := [.int a1]) (rest := []) hC hR mf_X9_isDrawer wm_X9_298 (LX9_isDrawer hn64 hx1) rfl rfl rfl (Nat.le_of_ble_eq_true rfl) dX9_draw_1 rfl ?_
  show RX K 4 [(0, .ref 43), (1, .int a1), (2, .int a2)] [.int (b2i x1)] m
  refine R_ifB_ne (tgt := 14) (pc := 4) hC dX9_draw_4 (by decide) (fun c => ?_) (fun c => ?_)
  · replace hg := (if_pos c).symm.trans hg
    refine R_aload_n (pc := 14) hC 0 dX9_draw_14 rfl rfl ?_
    refine R_iload_n (pc := 15) hC 2 dX9_draw_15 rfl rfl ?_
    obtain ⟨m2, hm2, hg⟩ := lete_some hg
    refine pf_X9_266 (pc := 16) hC hn64 dX9_draw_16 ?_
    refine R_mem hm2 ?_
    refine R_aload_n (pc := 19) hC 0 dX9_draw_19 rfl rfl ?_
    refine R_iload_n (pc := 20) hC 1 dX9_draw_20 rfl rfl ?_
    obtain ⟨q3, hq3, hg⟩ := bind_some hg
    refine R_callV (pc := 21) (av := [.int a1]) (rest := []) hC hR 43 (jx hn64 rfl) ly43 rfl mf_X9_makes wm_X9_301 (LX9_makes hn64 hq3) rfl rfl rfl (Nat.le_of_ble_eq_true rfl) dX9_draw_21 rfl ?_
    show RX K 24 [(0, .ref 43), (1, .int a1), (2, .int a2)] [.int q3.1] q3.2
    have h9 := gxIM hg
    exact R_ireturn (pc := 24) hC dX9_draw_24 h9
  · replace hg := (if_neg c).symm.trans hg
    refine R_aload_n (pc := 7) hC 0 dX9_draw_7 rfl rfl ?_
    refine R_bipush (pc := 8) hC dX9_draw_8 kb_m2 ?_
    obtain ⟨q4, hq4, hg⟩ := bind_some hg
    refine R_callV (pc := 10) (av := [.int (-2)]) (rest := []) hC hR 43 (jx hn64 rfl) ly43 rfl mf_X9_no wm_X9_87 (LX9_no hn64 hq4) rfl rfl rfl (Nat.le_of_ble_eq_true rfl) dX9_draw_10 rfl ?_
    show RX K 13 [(0, .ref 43), (1, .int a1), (2, .int a2)] [.int q4.1] q4.2
    have h9 := gxIM hg
    exact R_ireturn (pc := 13) hC dX9_draw_13 h9
theorem dX9_often_0 : decode cX9_often 0 = .ok (.iload_n 1, 1) := by decide +kernel
theorem dX9_often_1 : decode cX9_often 1 = .ok (.invokestatic 298, 3) := by decide +kernel
theorem dX9_often_4 : decode cX9_often 4 = .ok (.ifCond .ne 8, 3) := by decide +kernel
theorem dX9_often_7 : decode cX9_often 7 = .ok (.bipush (-2), 2) := by decide +kernel
theorem dX9_often_9 : decode cX9_often 9 = .ok (.goto 22, 3) := by decide +kernel
theorem dX9_often_12 : decode cX9_often 12 = .ok (.aload_n 0, 1) := by decide +kernel
theorem dX9_often_13 : decode cX9_often 13 = .ok (.iload_n 2, 1) := by decide +kernel
theorem dX9_often_14 : decode cX9_often 14 = .ok (.invokevirtual 122, 3) := by decide +kernel
theorem dX9_often_17 : decode cX9_often 17 = .ok (.ifCond .ne 7, 3) := by decide +kernel
theorem dX9_often_20 : decode cX9_often 20 = .ok (.iconst (-1), 1) := by decide +kernel
theorem dX9_often_21 : decode cX9_often 21 = .ok (.goto 10, 3) := by decide +kernel
theorem dX9_often_24 : decode cX9_often 24 = .ok (.iload_n 3, 1) := by decide +kernel
theorem dX9_often_25 : decode cX9_often 25 = .ok (.iconst 1, 1) := by decide +kernel
theorem dX9_often_26 : decode cX9_often 26 = .ok (.bipush 30, 2) := by decide +kernel
theorem dX9_often_28 : decode cX9_often 28 = .ok (.invokestatic 80, 3) := by decide +kernel
theorem dX9_often_31 : decode cX9_often 31 = .ok (.istore 5, 2) := by decide +kernel
theorem dX9_often_33 : decode cX9_often 33 = .ok (.iload 5, 2) := by decide +kernel
theorem dX9_often_35 : decode cX9_often 35 = .ok (.ifCond .eq 10, 3) := by decide +kernel
theorem dX9_often_38 : decode cX9_often 38 = .ok (.aload_n 0, 1) := by decide +kernel
theorem dX9_often_39 : decode cX9_often 39 = .ok (.iload 5, 2) := by decide +kernel
theorem dX9_often_41 : decode cX9_often 41 = .ok (.invokevirtual 87, 3) := by decide +kernel
theorem dX9_often_44 : decode cX9_often 44 = .ok (.ireturn, 1) := by decide +kernel
theorem dX9_often_45 : decode cX9_often 45 = .ok (.aload_n 0, 1) := by decide +kernel
theorem dX9_often_46 : decode cX9_often 46 = .ok (.iload 4, 2) := by decide +kernel
theorem dX9_often_48 : decode cX9_often 48 = .ok (.putfield 266, 3) := by decide +kernel
theorem dX9_often_51 : decode cX9_often 51 = .ok (.iconst 0, 1) := by decide +kernel
theorem dX9_often_52 : decode cX9_often 52 = .ok (.istore 6, 2) := by decide +kernel
theorem dX9_often_54 : decode cX9_often 54 = .ok (.iconst 0, 1) := by decide +kernel
theorem dX9_often_55 : decode cX9_often 55 = .ok (.istore 7, 2) := by decide +kernel
theorem dX9_often_57 : decode cX9_often 57 = .ok (.iload 7, 2) := by decide +kernel
theorem dX9_often_59 : decode cX9_often 59 = .ok (.iload_n 3, 1) := by decide +kernel
theorem dX9_often_60 : decode cX9_often 60 = .ok (.if_icmp .ge 36, 3) := by decide +kernel
theorem dX9_often_63 : decode cX9_often 63 = .ok (.aload_n 0, 1) := by decide +kernel
theorem dX9_often_64 : decode cX9_often 64 = .ok (.iload_n 1, 1) := by decide +kernel
theorem dX9_often_65 : decode cX9_often 65 = .ok (.invokevirtual 301, 3) := by decide +kernel
theorem dX9_often_68 : decode cX9_often 68 = .ok (.istore 8, 2) := by decide +kernel
theorem dX9_often_70 : decode cX9_often 70 = .ok (.iload 6, 2) := by decide +kernel
theorem dX9_often_72 : decode cX9_often 72 = .ok (.iload 8, 2) := by decide +kernel
theorem dX9_often_74 : decode cX9_often 74 = .ok (.ifCond .lt 12, 3) := by decide +kernel
theorem dX9_often_77 : decode cX9_often 77 = .ok (.iload 8, 2) := by decide +kernel
theorem dX9_often_79 : decode cX9_often 79 = .ok (.iload_n 2, 1) := by decide +kernel
theorem dX9_often_80 : decode cX9_often 80 = .ok (.ishr, 1) := by decide +kernel
theorem dX9_often_81 : decode cX9_often 81 = .ok (.iconst 1, 1) := by decide +kernel
theorem dX9_often_82 : decode cX9_often 82 = .ok (.iand, 1) := by decide +kernel
theorem dX9_often_83 : decode cX9_often 83 = .ok (.goto 4, 3) := by decide +kernel
theorem dX9_often_86 : decode cX9_often 86 = .ok (.iconst 0, 1) := by decide +kernel
theorem dX9_often_87 : decode cX9_often 87 = .ok (.iadd, 1) := by decide +kernel
theorem dX9_often_88 : decode cX9_often 88 = .ok (.istore 6, 2) := by decide +kernel
theorem dX9_often_90 : decode cX9_often 90 = .ok (.iinc 7 1, 3) := by decide +kernel
theorem dX9_often_93 : decode cX9_often 93 = .ok (.goto (-36), 3) := by decide +kernel
theorem dX9_often_96 : decode cX9_often 96 = .ok (.iload 6, 2) := by decide +kernel
theorem dX9_often_98 : decode cX9_often 98 = .ok (.ireturn, 1) := by decide +kernel
def bX9_often_57 (F : Nat) (a1 : Int32) (a2 : Int32) (a3 : Int32) : (Int32 × Int32 × Mem) → Option ((Int32 × Int32 × Mem) ⊕ (Int32 × Int32 × Mem))
  | (y5, y6, m7) => (if a3 ≤ y6 then some (.inr (y5, y6, m7)) else (gX9_makes F m7 a1).bind (fun q8 => (if q8.1 < 0 then lete (y5 + 0) (fun x9 => some (.inl (x9, y6 + 1, q8.2))) else lete (y5 + ((q8.1 >>> (a2 &&& 31)) &&& 1)) (fun x10 => some (.inl (x10, y6 + 1, q8.2))))))
def gX9_often (F : Nat) (m : Mem) (a1 : Int32) (a2 : Int32) (a3 : Int32) (a4 : Int32) : Option (Int32 × Mem) := (gX9_isDrawer a1).bind (fun x1 => (if x1 = true then (gX9_isLane m a2).bind (fun x2 => (if x2 = true then (gX9_bound a3 1 30).bind (fun x3 => (if x3 = 0 then lete (mu m 43 32 a4) (fun m4 => (iter F (bX9_often_57 F a1 a2 a3) (0, 0, m4)).bind (fun e11 => some (e11.1, e11.2.2))) else (gX9_no m x3).bind (fun q13 => some (q13.1, q13.2)))) else (gX9_no m (-1)).bind (fun q14 => some (q14.1, q14.2)))) else (gX9_no m (-2)).bind (fun q15 => some (q15.1, q15.2))))
set_option maxHeartbeats 4000000 in
set_option maxRecDepth 20000 in
theorem LX9_often {n : Nat} {F : Nat} {m : Mem} {a1 : Int32} {a2 : Int32} {a3 : Int32} {a4 : Int32} {r : Int32 × Mem} (hn64 : 64 ≤ n) (hg : gX9_often F m a1 a2 a3 a4 = some r) : MX yX9_often cX9_often 9 (some .int) { frames := 5, cells := 0, slots := 0, locals := 112 } n [.ref 43, .int a1, .int a2, .int a3, .int a4] m (some (.int r.1)) r.2 := by
  refine MX_of (by decide) (Nat.le_of_ble_eq_true rfl) (Or.inr (Or.inl ⟨rfl, _, rfl⟩)) (fun K hC hk hL hR => ?_)
  replace hn64 : 64 ≤ kn K := hk.symm ▸ hn64
  show RX K 0 [(0, .ref 43), (1, .int a1), (2, .int a2), (3, .int a3), (4, .int a4)] [] m
  rw [gX9_often] at hg
  refine R_iload_n (pc := 0) hC 1 dX9_often_0 rfl rfl ?_
  obtain ⟨x1, hx1, hg⟩ := bind_some hg
  refine R_callS (pc := 1) (av := [.int a1]) (rest := []) hC hR mf_X9_isDrawer wm_X9_298 (LX9_isDrawer hn64 hx1) rfl rfl rfl (Nat.le_of_ble_eq_true rfl) dX9_often_1 rfl ?_
  show RX K 4 [(0, .ref 43), (1, .int a1), (2, .int a2), (3, .int a3), (4, .int a4)] [.int (b2i x1)] m
  refine R_ifB_ne (tgt := 12) (pc := 4) hC dX9_often_4 (by decide) (fun c => ?_) (fun c => ?_)
  · replace hg := (if_pos c).symm.trans hg
    refine R_aload_n (pc := 12) hC 0 dX9_often_12 rfl rfl ?_
    refine R_iload_n (pc := 13) hC 2 dX9_often_13 rfl rfl ?_
    obtain ⟨x2, hx2, hg⟩ := bind_some hg
    refine R_callV (pc := 14) (av := [.int a2]) (rest := []) hC hR 43 (jx hn64 rfl) ly43 rfl mf_X9_isLane wm_X9_122 (LX9_isLane hn64 hx2) rfl rfl rfl (Nat.le_of_ble_eq_true rfl) dX9_often_14 rfl ?_
    show RX K 17 [(0, .ref 43), (1, .int a1), (2, .int a2), (3, .int a3), (4, .int a4)] [.int (b2i x2)] m
    refine R_ifB_ne (tgt := 24) (pc := 17) hC dX9_often_17 (by decide) (fun c => ?_) (fun c => ?_)
    · replace hg := (if_pos c).symm.trans hg
      refine R_iload_n (pc := 24) hC 3 dX9_often_24 rfl rfl ?_
      refine R_iconst (pc := 25) hC dX9_often_25 ki_1 ?_
      refine R_bipush (pc := 26) hC dX9_often_26 kb_30 ?_
      obtain ⟨x3, hx3, hg⟩ := bind_some hg
      refine R_callS (pc := 28) (av := [.int a3, .int 1, .int 30]) (rest := []) hC hR mf_X9_bound wm_X9_80 (LX9_bound hn64 hx3) rfl rfl rfl (Nat.le_of_ble_eq_true rfl) dX9_often_28 rfl ?_
      show RX K 31 [(0, .ref 43), (1, .int a1), (2, .int a2), (3, .int a3), (4, .int a4)] [.int x3] m
      refine R_istore (pc := 31) hC dX9_often_31 hL rfl (show _ = [(5, .int x3), (0, .ref 43), (1, .int a1), (2, .int a2), (3, .int a3), (4, .int a4)] from rfl) ?_
      refine R_iload (pc := 33) hC 0 dX9_often_33 rfl ?_
      refine R_if_eq (tgt := 45) (pc := 35) hC dX9_often_35 (by decide) (fun c => ?_) (fun c => ?_)
      · replace hg := (if_pos c).symm.trans hg
        refine R_aload_n (pc := 45) hC 1 dX9_often_45 rfl rfl ?_
        refine R_iload (pc := 46) hC 5 dX9_often_46 rfl ?_
        obtain ⟨m4, hm4, hg⟩ := lete_some hg
        refine pf_X9_266 (pc := 48) hC hn64 dX9_often_48 ?_
        refine R_mem hm4 ?_
        refine R_iconst (pc := 51) hC dX9_often_51 ki_0 ?_
        refine R_istore (pc := 52) hC dX9_often_52 hL rfl (show _ = [(6, .int 0), (5, .int x3), (0, .ref 43), (1, .int a1), (2, .int a2), (3, .int a3), (4, .int a4)] from rfl) ?_
        refine R_iconst (pc := 54) hC dX9_often_54 ki_0 ?_
        refine R_istore (pc := 55) hC dX9_often_55 hL rfl (show _ = [(7, .int 0), (6, .int 0), (5, .int x3), (0, .ref 43), (1, .int a1), (2, .int a2), (3, .int a3), (4, .int a4)] from rfl) ?_
        refine R_pick [3, 4, 5, 6, 7, 2, 1, 0] (ls' := [(0, .ref 43), (1, .int a1), (2, .int a2), (3, .int a3), (4, .int a4), (5, .int x3), (6, .int 0), (7, .int 0)]) rfl ?_
        obtain ⟨e11, he11, hg⟩ := bind_some hg
        refine iter_walk (P := fun s : (Int32 × Int32 × Mem) => RX K 57 [(0, .ref 43), (1, .int a1), (2, .int a2), (3, .int a3), (4, .int a4), (5, .int x3), (6, .int s.1), (7, .int s.2.1)] [] s.2.2) (Qe := fun s : (Int32 × Int32 × Mem) => RX K 96 [(0, .ref 43), (1, .int a1), (2, .int a2), (3, .int a3), (4, .int a4), (5, .int x3), (6, .int s.1), (7, .int s.2.1)] [] s.2.2) (fun s12 o hg kL57 kE57 => ?_) _ _ _ he11 ?_
        · obtain ⟨y5, y6, m7⟩ := s12
          rw [bX9_often_57] at hg
          show RX K 57 [(0, .ref 43), (1, .int a1), (2, .int a2), (3, .int a3), (4, .int a4), (5, .int x3), (6, .int y5), (7, .int y6)] [] m7
          refine R_iload (pc := 57) hC 7 dX9_often_57 rfl ?_
          refine R_iload_n (pc := 59) hC 3 dX9_often_59 rfl rfl ?_
          refine R_icmp_ge (tgt := 96) (pc := 60) hC dX9_often_60 (by decide) (fun c => ?_) (fun c => ?_)
          · replace hg := (if_pos c).symm.trans hg
            refine R_pick [0, 1, 2, 3, 4, 5, 6, 7] (ls' := [(0, .ref 43), (1, .int a1), (2, .int a2), (3, .int a3), (4, .int a4), (5, .int x3), (6, .int y5), (7, .int y6)]) rfl ?_
            have h9 := kE57 _ (Option.some.inj hg).symm
            exact h9
          · replace hg := (if_neg c).symm.trans hg
            refine R_aload_n (pc := 63) hC 0 dX9_often_63 rfl rfl ?_
            refine R_iload_n (pc := 64) hC 1 dX9_often_64 rfl rfl ?_
            obtain ⟨q8, hq8, hg⟩ := bind_some hg
            refine R_callV (pc := 65) (av := [.int a1]) (rest := []) hC hR 43 (jx hn64 rfl) ly43 rfl mf_X9_makes wm_X9_301 (LX9_makes hn64 hq8) rfl rfl rfl (Nat.le_of_ble_eq_true rfl) dX9_often_65 rfl ?_
            show RX K 68 [(0, .ref 43), (1, .int a1), (2, .int a2), (3, .int a3), (4, .int a4), (5, .int x3), (6, .int y5), (7, .int y6)] [.int q8.1] q8.2
            refine R_istore (pc := 68) hC dX9_often_68 hL rfl (show _ = [(8, .int q8.1), (0, .ref 43), (1, .int a1), (2, .int a2), (3, .int a3), (4, .int a4), (5, .int x3), (6, .int y5), (7, .int y6)] from rfl) ?_
            refine R_iload (pc := 70) hC 7 dX9_often_70 rfl ?_
            refine R_iload (pc := 72) hC 0 dX9_often_72 rfl ?_
            refine R_if_lt (tgt := 86) (pc := 74) hC dX9_often_74 (by decide) (fun c => ?_) (fun c => ?_)
            · replace hg := (if_pos c).symm.trans hg
              refine R_iconst (pc := 86) hC dX9_often_86 ki_0 ?_
              refine R_iadd (pc := 87) hC dX9_often_87 ?_
              obtain ⟨x9, hx9, hg⟩ := lete_some hg
              refine R_top hx9 ?_
              refine R_istore (pc := 88) hC dX9_often_88 hL rfl (show _ = [(6, .int x9), (8, .int q8.1), (0, .ref 43), (1, .int a1), (2, .int a2), (3, .int a3), (4, .int a4), (5, .int x3), (7, .int y6)] from rfl) ?_
              refine R_iinc (pc := 90) hC 8 dX9_often_90 rfl (iv ki_1) hL rfl (show _ = [(7, .int (y6 + 1)), (6, .int x9), (8, .int q8.1), (0, .ref 43), (1, .int a1), (2, .int a2), (3, .int a3), (4, .int a4), (5, .int x3)] from rfl) ?_
              refine R_goto (tgt := 57) (pc := 93) hC dX9_often_93 (by decide) ?_
              refine R_pick [3, 4, 5, 6, 7, 8, 1, 0] (ls' := [(0, .ref 43), (1, .int a1), (2, .int a2), (3, .int a3), (4, .int a4), (5, .int x3), (6, .int x9), (7, .int (y6 + 1))]) rfl ?_
              have h9 := kL57 _ (Option.some.inj hg).symm
              exact h9
            · replace hg := (if_neg c).symm.trans hg
              refine R_iload (pc := 77) hC 0 dX9_often_77 rfl ?_
              refine R_iload_n (pc := 79) hC 3 dX9_often_79 rfl rfl ?_
              refine R_ishr (pc := 80) hC dX9_often_80 ?_
              refine R_iconst (pc := 81) hC dX9_often_81 ki_1 ?_
              refine R_iand (pc := 82) hC dX9_often_82 ?_
              refine R_goto (tgt := 87) (pc := 83) hC dX9_often_83 (by decide) ?_
              refine R_iadd (pc := 87) hC dX9_often_87 ?_
              obtain ⟨x10, hx10, hg⟩ := lete_some hg
              refine R_top hx10 ?_
              refine R_istore (pc := 88) hC dX9_often_88 hL rfl (show _ = [(6, .int x10), (8, .int q8.1), (0, .ref 43), (1, .int a1), (2, .int a2), (3, .int a3), (4, .int a4), (5, .int x3), (7, .int y6)] from rfl) ?_
              refine R_iinc (pc := 90) hC 8 dX9_often_90 rfl (iv ki_1) hL rfl (show _ = [(7, .int (y6 + 1)), (6, .int x10), (8, .int q8.1), (0, .ref 43), (1, .int a1), (2, .int a2), (3, .int a3), (4, .int a4), (5, .int x3)] from rfl) ?_
              refine R_goto (tgt := 57) (pc := 93) hC dX9_often_93 (by decide) ?_
              refine R_pick [3, 4, 5, 6, 7, 8, 1, 0] (ls' := [(0, .ref 43), (1, .int a1), (2, .int a2), (3, .int a3), (4, .int a4), (5, .int x3), (6, .int x10), (7, .int (y6 + 1))]) rfl ?_
              have h9 := kL57 _ (Option.some.inj hg).symm
              exact h9
        · show RX K 96 [(0, .ref 43), (1, .int a1), (2, .int a2), (3, .int a3), (4, .int a4), (5, .int x3), (6, .int e11.1), (7, .int e11.2.1)] [] e11.2.2
          refine R_iload (pc := 96) hC 6 dX9_often_96 rfl ?_
          have h9 := gxIM hg
          exact R_ireturn (pc := 98) hC dX9_often_98 h9
      · replace hg := (if_neg c).symm.trans hg
        refine R_aload_n (pc := 38) hC 1 dX9_often_38 rfl rfl ?_
        refine R_iload (pc := 39) hC 0 dX9_often_39 rfl ?_
        obtain ⟨q13, hq13, hg⟩ := bind_some hg
        refine R_callV (pc := 41) (av := [.int x3]) (rest := []) hC hR 43 (jx hn64 rfl) ly43 rfl mf_X9_no wm_X9_87 (LX9_no hn64 hq13) rfl rfl rfl (Nat.le_of_ble_eq_true rfl) dX9_often_41 rfl ?_
        show RX K 44 [(5, .int x3), (0, .ref 43), (1, .int a1), (2, .int a2), (3, .int a3), (4, .int a4)] [.int q13.1] q13.2
        have h9 := gxIM hg
        exact R_ireturn (pc := 44) hC dX9_often_44 h9
    · replace hg := (if_neg c).symm.trans hg
      refine R_iconst (pc := 20) hC dX9_often_20 ki_m1 ?_
      refine R_goto (tgt := 31) (pc := 21) hC dX9_often_21 (by decide) ?_
      refine R_istore (pc := 31) hC dX9_often_31 hL rfl (show _ = [(5, .int (-1)), (0, .ref 43), (1, .int a1), (2, .int a2), (3, .int a3), (4, .int a4)] from rfl) ?_
      refine R_iload (pc := 33) hC 0 dX9_often_33 rfl ?_
      refine R_if_eq (tgt := 45) (pc := 35) hC dX9_often_35 (by decide) (fun c => absurd c (by decide)) (fun c => ?_)
      refine R_aload_n (pc := 38) hC 1 dX9_often_38 rfl rfl ?_
      refine R_iload (pc := 39) hC 0 dX9_often_39 rfl ?_
      obtain ⟨q14, hq14, hg⟩ := bind_some hg
      refine R_callV (pc := 41) (av := [.int (-1)]) (rest := []) hC hR 43 (jx hn64 rfl) ly43 rfl mf_X9_no wm_X9_87 (LX9_no hn64 hq14) rfl rfl rfl (Nat.le_of_ble_eq_true rfl) dX9_often_41 rfl ?_
      show RX K 44 [(5, .int (-1)), (0, .ref 43), (1, .int a1), (2, .int a2), (3, .int a3), (4, .int a4)] [.int q14.1] q14.2
      have h9 := gxIM hg
      exact R_ireturn (pc := 44) hC dX9_often_44 h9
  · replace hg := (if_neg c).symm.trans hg
    refine R_bipush (pc := 7) hC dX9_often_7 kb_m2 ?_
    refine R_goto (tgt := 31) (pc := 9) hC dX9_often_9 (by decide) ?_
    refine R_istore (pc := 31) hC dX9_often_31 hL rfl (show _ = [(5, .int (-2)), (0, .ref 43), (1, .int a1), (2, .int a2), (3, .int a3), (4, .int a4)] from rfl) ?_
    refine R_iload (pc := 33) hC 0 dX9_often_33 rfl ?_
    refine R_if_eq (tgt := 45) (pc := 35) hC dX9_often_35 (by decide) (fun c => absurd c (by decide)) (fun c => ?_)
    refine R_aload_n (pc := 38) hC 1 dX9_often_38 rfl rfl ?_
    refine R_iload (pc := 39) hC 0 dX9_often_39 rfl ?_
    obtain ⟨q15, hq15, hg⟩ := bind_some hg
    refine R_callV (pc := 41) (av := [.int (-2)]) (rest := []) hC hR 43 (jx hn64 rfl) ly43 rfl mf_X9_no wm_X9_87 (LX9_no hn64 hq15) rfl rfl rfl (Nat.le_of_ble_eq_true rfl) dX9_often_41 rfl ?_
    show RX K 44 [(5, .int (-2)), (0, .ref 43), (1, .int a1), (2, .int a2), (3, .int a3), (4, .int a4)] [.int q15.1] q15.2
    have h9 := gxIM hg
    exact R_ireturn (pc := 44) hC dX9_often_44 h9
theorem dX9_row_0 : decode cX9_row 0 = .ok (.iload_n 1, 1) := by decide +kernel
theorem dX9_row_1 : decode cX9_row 1 = .ok (.iconst 0, 1) := by decide +kernel
theorem dX9_row_2 : decode cX9_row 2 = .ok (.bipush 9, 2) := by decide +kernel
theorem dX9_row_4 : decode cX9_row 4 = .ok (.invokestatic 80, 3) := by decide +kernel
theorem dX9_row_7 : decode cX9_row 7 = .ok (.istore_n 2, 1) := by decide +kernel
theorem dX9_row_8 : decode cX9_row 8 = .ok (.iload_n 2, 1) := by decide +kernel
theorem dX9_row_9 : decode cX9_row 9 = .ok (.ifCond .ne 15, 3) := by decide +kernel
theorem dX9_row_12 : decode cX9_row 12 = .ok (.aload_n 0, 1) := by decide +kernel
theorem dX9_row_13 : decode cX9_row 13 = .ok (.getfield 283, 3) := by decide +kernel
theorem dX9_row_16 : decode cX9_row 16 = .ok (.bipush 10, 2) := by decide +kernel
theorem dX9_row_18 : decode cX9_row 18 = .ok (.if_icmp .ne 6, 3) := by decide +kernel
theorem dX9_row_21 : decode cX9_row 21 = .ok (.bipush (-6), 2) := by decide +kernel
theorem dX9_row_23 : decode cX9_row 23 = .ok (.istore_n 2, 1) := by decide +kernel
theorem dX9_row_24 : decode cX9_row 24 = .ok (.iload_n 2, 1) := by decide +kernel
theorem dX9_row_25 : decode cX9_row 25 = .ok (.ifCond .eq 9, 3) := by decide +kernel
theorem dX9_row_28 : decode cX9_row 28 = .ok (.aload_n 0, 1) := by decide +kernel
theorem dX9_row_29 : decode cX9_row 29 = .ok (.iload_n 2, 1) := by decide +kernel
theorem dX9_row_30 : decode cX9_row 30 = .ok (.invokevirtual 87, 3) := by decide +kernel
theorem dX9_row_33 : decode cX9_row 33 = .ok (.ireturn, 1) := by decide +kernel
theorem dX9_row_34 : decode cX9_row 34 = .ok (.aload_n 0, 1) := by decide +kernel
theorem dX9_row_35 : decode cX9_row 35 = .ok (.getfield 72, 3) := by decide +kernel
theorem dX9_row_38 : decode cX9_row 38 = .ok (.aload_n 0, 1) := by decide +kernel
theorem dX9_row_39 : decode cX9_row 39 = .ok (.getfield 283, 3) := by decide +kernel
theorem dX9_row_42 : decode cX9_row 42 = .ok (.iload_n 1, 1) := by decide +kernel
theorem dX9_row_43 : decode cX9_row 43 = .ok (.iastore, 1) := by decide +kernel
theorem dX9_row_44 : decode cX9_row 44 = .ok (.aload_n 0, 1) := by decide +kernel
theorem dX9_row_45 : decode cX9_row 45 = .ok (.dup, 1) := by decide +kernel
theorem dX9_row_46 : decode cX9_row 46 = .ok (.getfield 283, 3) := by decide +kernel
theorem dX9_row_49 : decode cX9_row 49 = .ok (.iconst 1, 1) := by decide +kernel
theorem dX9_row_50 : decode cX9_row 50 = .ok (.iadd, 1) := by decide +kernel
theorem dX9_row_51 : decode cX9_row 51 = .ok (.putfield 283, 3) := by decide +kernel
theorem dX9_row_54 : decode cX9_row 54 = .ok (.aload_n 0, 1) := by decide +kernel
theorem dX9_row_55 : decode cX9_row 55 = .ok (.getfield 283, 3) := by decide +kernel
theorem dX9_row_58 : decode cX9_row 58 = .ok (.ireturn, 1) := by decide +kernel
def gX9_row (m : Mem) (a1 : Int32) : Option (Int32 × Mem) := (gX9_bound a1 0 9).bind (fun x1 => (if x1 = 0 then (if (m.1 43 34) = 10 then (gX9_no m (-6)).bind (fun q10 => some (q10.1, q10.2)) else (if x1 = 0 then chk (inb (m.1 43 34) 10) (lete (mu m 63 (Int32.toNatClampNeg (m.1 43 34)) a1) (fun m7 => lete (mu m7 43 34 ((m7.1 43 34) + 1)) (fun m8 => some (m8.1 43 34, m8)))) else (gX9_no m x1).bind (fun q9 => some (q9.1, q9.2)))) else (if x1 = 0 then chk (inb (m.1 43 34) 10) (lete (mu m 63 (Int32.toNatClampNeg (m.1 43 34)) a1) (fun m3 => lete (mu m3 43 34 ((m3.1 43 34) + 1)) (fun m4 => some (m4.1 43 34, m4)))) else (gX9_no m x1).bind (fun q5 => some (q5.1, q5.2)))))
set_option maxHeartbeats 4000000 in
set_option maxRecDepth 20000 in
theorem LX9_row {n : Nat} {m : Mem} {a1 : Int32} {r : Int32 × Mem} (hn64 : 64 ≤ n) (hg : gX9_row m a1 = some r) : MX yX9_row cX9_row 3 (some .int) { frames := 1, cells := 0, slots := 0, locals := 22 } n [.ref 43, .int a1] m (some (.int r.1)) r.2 := by
  refine MX_of (by decide) (Nat.le_of_ble_eq_true rfl) (Or.inr (Or.inl ⟨rfl, _, rfl⟩)) (fun K hC hk hL hR => ?_)
  replace hn64 : 64 ≤ kn K := hk.symm ▸ hn64
  show RX K 0 [(0, .ref 43), (1, .int a1)] [] m
  rw [gX9_row] at hg
  refine R_iload_n (pc := 0) hC 1 dX9_row_0 rfl rfl ?_
  refine R_iconst (pc := 1) hC dX9_row_1 ki_0 ?_
  refine R_bipush (pc := 2) hC dX9_row_2 kb_9 ?_
  obtain ⟨x1, hx1, hg⟩ := bind_some hg
  refine R_callS (pc := 4) (av := [.int a1, .int 0, .int 9]) (rest := []) hC hR mf_X9_bound wm_X9_80 (LX9_bound hn64 hx1) rfl rfl rfl (Nat.le_of_ble_eq_true rfl) dX9_row_4 rfl ?_
  show RX K 7 [(0, .ref 43), (1, .int a1)] [.int x1] m
  refine R_istore_n (pc := 7) hC dX9_row_7 rfl hL rfl (show _ = [(2, .int x1), (0, .ref 43), (1, .int a1)] from rfl) ?_
  refine R_iload_n (pc := 8) hC 0 dX9_row_8 rfl rfl ?_
  refine R_if_ne (tgt := 24) (pc := 9) hC dX9_row_9 (by decide) (fun c => ?_) (fun c => ?_)
  · replace hg := (if_neg c).symm.trans hg
    refine R_iload_n (pc := 24) hC 0 dX9_row_24 rfl rfl ?_
    refine R_if_eq (tgt := 34) (pc := 25) hC dX9_row_25 (by decide) (fun c => ?_) (fun c => ?_)
    · replace hg := (if_pos c).symm.trans hg
      refine R_aload_n (pc := 34) hC 1 dX9_row_34 rfl rfl ?_
      refine gf_X9_72 (pc := 35) hC hn64 dX9_row_35 ?_
      refine R_aload_n (pc := 38) hC 1 dX9_row_38 rfl rfl ?_
      refine gf_X9_283 (pc := 39) hC hn64 dX9_row_39 ?_
      refine R_iload_n (pc := 42) hC 2 dX9_row_42 rfl rfl ?_
      obtain ⟨c2, hg⟩ := chk_some hg
      obtain ⟨m3, hm3, hg⟩ := lete_some hg
      refine R_iastore (pc := 43) hC 63 (jx hn64 rfl) ly63 (inb_vp c2) dX9_row_43 ?_
      refine R_mem hm3 ?_
      refine R_aload_n (pc := 44) hC 1 dX9_row_44 rfl rfl ?_
      refine R_dup (pc := 45) hC dX9_row_45 rfl ?_
      refine gf_X9_283 (pc := 46) hC hn64 dX9_row_46 ?_
      refine R_iconst (pc := 49) hC dX9_row_49 ki_1 ?_
      refine R_iadd (pc := 50) hC dX9_row_50 ?_
      obtain ⟨m4, hm4, hg⟩ := lete_some hg
      refine pf_X9_283 (pc := 51) hC hn64 dX9_row_51 ?_
      refine R_mem hm4 ?_
      refine R_aload_n (pc := 54) hC 1 dX9_row_54 rfl rfl ?_
      refine gf_X9_283 (pc := 55) hC hn64 dX9_row_55 ?_
      have h9 := gxIM hg
      exact R_ireturn (pc := 58) hC dX9_row_58 h9
    · replace hg := (if_neg c).symm.trans hg
      refine R_aload_n (pc := 28) hC 1 dX9_row_28 rfl rfl ?_
      refine R_iload_n (pc := 29) hC 0 dX9_row_29 rfl rfl ?_
      obtain ⟨q5, hq5, hg⟩ := bind_some hg
      refine R_callV (pc := 30) (av := [.int x1]) (rest := []) hC hR 43 (jx hn64 rfl) ly43 rfl mf_X9_no wm_X9_87 (LX9_no hn64 hq5) rfl rfl rfl (Nat.le_of_ble_eq_true rfl) dX9_row_30 rfl ?_
      show RX K 33 [(2, .int x1), (0, .ref 43), (1, .int a1)] [.int q5.1] q5.2
      have h9 := gxIM hg
      exact R_ireturn (pc := 33) hC dX9_row_33 h9
  · replace hg := (if_pos c).symm.trans hg
    refine R_aload_n (pc := 12) hC 1 dX9_row_12 rfl rfl ?_
    refine gf_X9_283 (pc := 13) hC hn64 dX9_row_13 ?_
    refine R_bipush (pc := 16) hC dX9_row_16 kb_10 ?_
    refine R_icmp_ne (tgt := 24) (pc := 18) hC dX9_row_18 (by decide) (fun c => ?_) (fun c => ?_)
    · replace hg := (if_neg c).symm.trans hg
      refine R_iload_n (pc := 24) hC 0 dX9_row_24 rfl rfl ?_
      refine R_if_eq (tgt := 34) (pc := 25) hC dX9_row_25 (by decide) (fun c => ?_) (fun c => ?_)
      · replace hg := (if_pos c).symm.trans hg
        refine R_aload_n (pc := 34) hC 1 dX9_row_34 rfl rfl ?_
        refine gf_X9_72 (pc := 35) hC hn64 dX9_row_35 ?_
        refine R_aload_n (pc := 38) hC 1 dX9_row_38 rfl rfl ?_
        refine gf_X9_283 (pc := 39) hC hn64 dX9_row_39 ?_
        refine R_iload_n (pc := 42) hC 2 dX9_row_42 rfl rfl ?_
        obtain ⟨c6, hg⟩ := chk_some hg
        obtain ⟨m7, hm7, hg⟩ := lete_some hg
        refine R_iastore (pc := 43) hC 63 (jx hn64 rfl) ly63 (inb_vp c6) dX9_row_43 ?_
        refine R_mem hm7 ?_
        refine R_aload_n (pc := 44) hC 1 dX9_row_44 rfl rfl ?_
        refine R_dup (pc := 45) hC dX9_row_45 rfl ?_
        refine gf_X9_283 (pc := 46) hC hn64 dX9_row_46 ?_
        refine R_iconst (pc := 49) hC dX9_row_49 ki_1 ?_
        refine R_iadd (pc := 50) hC dX9_row_50 ?_
        obtain ⟨m8, hm8, hg⟩ := lete_some hg
        refine pf_X9_283 (pc := 51) hC hn64 dX9_row_51 ?_
        refine R_mem hm8 ?_
        refine R_aload_n (pc := 54) hC 1 dX9_row_54 rfl rfl ?_
        refine gf_X9_283 (pc := 55) hC hn64 dX9_row_55 ?_
        have h9 := gxIM hg
        exact R_ireturn (pc := 58) hC dX9_row_58 h9
      · replace hg := (if_neg c).symm.trans hg
        refine R_aload_n (pc := 28) hC 1 dX9_row_28 rfl rfl ?_
        refine R_iload_n (pc := 29) hC 0 dX9_row_29 rfl rfl ?_
        obtain ⟨q9, hq9, hg⟩ := bind_some hg
        refine R_callV (pc := 30) (av := [.int x1]) (rest := []) hC hR 43 (jx hn64 rfl) ly43 rfl mf_X9_no wm_X9_87 (LX9_no hn64 hq9) rfl rfl rfl (Nat.le_of_ble_eq_true rfl) dX9_row_30 rfl ?_
        show RX K 33 [(2, .int x1), (0, .ref 43), (1, .int a1)] [.int q9.1] q9.2
        have h9 := gxIM hg
        exact R_ireturn (pc := 33) hC dX9_row_33 h9
    · replace hg := (if_pos c).symm.trans hg
      refine R_bipush (pc := 21) hC dX9_row_21 kb_m6 ?_
      refine R_istore_n (pc := 23) hC dX9_row_23 rfl hL rfl (show _ = [(2, .int (-6)), (0, .ref 43), (1, .int a1)] from rfl) ?_
      refine R_iload_n (pc := 24) hC 0 dX9_row_24 rfl rfl ?_
      refine R_if_eq (tgt := 34) (pc := 25) hC dX9_row_25 (by decide) (fun c => absurd c (by decide)) (fun c => ?_)
      refine R_aload_n (pc := 28) hC 1 dX9_row_28 rfl rfl ?_
      refine R_iload_n (pc := 29) hC 0 dX9_row_29 rfl rfl ?_
      obtain ⟨q10, hq10, hg⟩ := bind_some hg
      refine R_callV (pc := 30) (av := [.int (-6)]) (rest := []) hC hR 43 (jx hn64 rfl) ly43 rfl mf_X9_no wm_X9_87 (LX9_no hn64 hq10) rfl rfl rfl (Nat.le_of_ble_eq_true rfl) dX9_row_30 rfl ?_
      show RX K 33 [(2, .int (-6)), (0, .ref 43), (1, .int a1)] [.int q10.1] q10.2
      have h9 := gxIM hg
      exact R_ireturn (pc := 33) hC dX9_row_33 h9
