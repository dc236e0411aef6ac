theorem dX9_comesLane_0 : decode cX9_comesLane 0 = .ok (.aload_n 0, 1) := by decide +kernel
theorem dX9_comesLane_1 : decode cX9_comesLane 1 = .ok (.getfield 47, 3) := by decide +kernel
theorem dX9_comesLane_4 : decode cX9_comesLane 4 = .ok (.iload_n 1, 1) := by decide +kernel
theorem dX9_comesLane_5 : decode cX9_comesLane 5 = .ok (.iaload, 1) := by decide +kernel
theorem dX9_comesLane_6 : decode cX9_comesLane 6 = .ok (.iconst 5, 1) := by decide +kernel
theorem dX9_comesLane_7 : decode cX9_comesLane 7 = .ok (.if_icmp .gt 77, 3) := by decide +kernel
theorem dX9_comesLane_10 : decode cX9_comesLane 10 = .ok (.aload_n 0, 1) := by decide +kernel
theorem dX9_comesLane_11 : decode cX9_comesLane 11 = .ok (.aload_n 0, 1) := by decide +kernel
theorem dX9_comesLane_12 : decode cX9_comesLane 12 = .ok (.getfield 47, 3) := by decide +kernel
theorem dX9_comesLane_15 : decode cX9_comesLane 15 = .ok (.iload_n 1, 1) := by decide +kernel
theorem dX9_comesLane_16 : decode cX9_comesLane 16 = .ok (.iconst 1, 1) := by decide +kernel
theorem dX9_comesLane_17 : decode cX9_comesLane 17 = .ok (.iadd, 1) := by decide +kernel
theorem dX9_comesLane_18 : decode cX9_comesLane 18 = .ok (.iaload, 1) := by decide +kernel
theorem dX9_comesLane_19 : decode cX9_comesLane 19 = .ok (.invokevirtual 113, 3) := by decide +kernel
theorem dX9_comesLane_22 : decode cX9_comesLane 22 = .ok (.ifCond .eq 62, 3) := by decide +kernel
theorem dX9_comesLane_25 : decode cX9_comesLane 25 = .ok (.aload_n 0, 1) := by decide +kernel
theorem dX9_comesLane_26 : decode cX9_comesLane 26 = .ok (.aload_n 0, 1) := by decide +kernel
theorem dX9_comesLane_27 : decode cX9_comesLane 27 = .ok (.getfield 47, 3) := by decide +kernel
theorem dX9_comesLane_30 : decode cX9_comesLane 30 = .ok (.iload_n 1, 1) := by decide +kernel
theorem dX9_comesLane_31 : decode cX9_comesLane 31 = .ok (.iconst 2, 1) := by decide +kernel
theorem dX9_comesLane_32 : decode cX9_comesLane 32 = .ok (.iadd, 1) := by decide +kernel
theorem dX9_comesLane_33 : decode cX9_comesLane 33 = .ok (.iaload, 1) := by decide +kernel
theorem dX9_comesLane_34 : decode cX9_comesLane 34 = .ok (.invokevirtual 113, 3) := by decide +kernel
theorem dX9_comesLane_37 : decode cX9_comesLane 37 = .ok (.ifCond .eq 47, 3) := by decide +kernel
theorem dX9_comesLane_40 : decode cX9_comesLane 40 = .ok (.aload_n 0, 1) := by decide +kernel
theorem dX9_comesLane_41 : decode cX9_comesLane 41 = .ok (.getfield 47, 3) := by decide +kernel
theorem dX9_comesLane_44 : decode cX9_comesLane 44 = .ok (.iload_n 1, 1) := by decide +kernel
theorem dX9_comesLane_45 : decode cX9_comesLane 45 = .ok (.iconst 1, 1) := by decide +kernel
theorem dX9_comesLane_46 : decode cX9_comesLane 46 = .ok (.iadd, 1) := by decide +kernel
theorem dX9_comesLane_47 : decode cX9_comesLane 47 = .ok (.iaload, 1) := by decide +kernel
theorem dX9_comesLane_48 : decode cX9_comesLane 48 = .ok (.aload_n 0, 1) := by decide +kernel
theorem dX9_comesLane_49 : decode cX9_comesLane 49 = .ok (.getfield 47, 3) := by decide +kernel
theorem dX9_comesLane_52 : decode cX9_comesLane 52 = .ok (.iload_n 1, 1) := by decide +kernel
theorem dX9_comesLane_53 : decode cX9_comesLane 53 = .ok (.iconst 2, 1) := by decide +kernel
theorem dX9_comesLane_54 : decode cX9_comesLane 54 = .ok (.iadd, 1) := by decide +kernel
theorem dX9_comesLane_55 : decode cX9_comesLane 55 = .ok (.iaload, 1) := by decide +kernel
theorem dX9_comesLane_56 : decode cX9_comesLane 56 = .ok (.if_icmp .eq 28, 3) := by decide +kernel
theorem dX9_comesLane_59 : decode cX9_comesLane 59 = .ok (.aload_n 0, 1) := by decide +kernel
theorem dX9_comesLane_60 : decode cX9_comesLane 60 = .ok (.getfield 47, 3) := by decide +kernel
theorem dX9_comesLane_63 : decode cX9_comesLane 63 = .ok (.iload_n 1, 1) := by decide +kernel
theorem dX9_comesLane_64 : decode cX9_comesLane 64 = .ok (.iconst 3, 1) := by decide +kernel
theorem dX9_comesLane_65 : decode cX9_comesLane 65 = .ok (.iadd, 1) := by decide +kernel
theorem dX9_comesLane_66 : decode cX9_comesLane 66 = .ok (.iaload, 1) := by decide +kernel
theorem dX9_comesLane_67 : decode cX9_comesLane 67 = .ok (.iconst 1, 1) := by decide +kernel
theorem dX9_comesLane_68 : decode cX9_comesLane 68 = .ok (.iconst 4, 1) := by decide +kernel
theorem dX9_comesLane_69 : decode cX9_comesLane 69 = .ok (.invokestatic 98, 3) := by decide +kernel
theorem dX9_comesLane_72 : decode cX9_comesLane 72 = .ok (.ifCond .eq 12, 3) := by decide +kernel
theorem dX9_comesLane_75 : decode cX9_comesLane 75 = .ok (.aload_n 0, 1) := by decide +kernel
theorem dX9_comesLane_76 : decode cX9_comesLane 76 = .ok (.getfield 77, 3) := by decide +kernel
theorem dX9_comesLane_79 : decode cX9_comesLane 79 = .ok (.bipush 10, 2) := by decide +kernel
theorem dX9_comesLane_81 : decode cX9_comesLane 81 = .ok (.if_icmp .ne 5, 3) := by decide +kernel
theorem dX9_comesLane_84 : decode cX9_comesLane 84 = .ok (.iconst 0, 1) := by decide +kernel
theorem dX9_comesLane_85 : decode cX9_comesLane 85 = .ok (.ireturn, 1) := by decide +kernel
theorem dX9_comesLane_86 : decode cX9_comesLane 86 = .ok (.aload_n 0, 1) := by decide +kernel
theorem dX9_comesLane_87 : decode cX9_comesLane 87 = .ok (.getfield 13, 3) := by decide +kernel
theorem dX9_comesLane_90 : decode cX9_comesLane 90 = .ok (.aload_n 0, 1) := by decide +kernel
theorem dX9_comesLane_91 : decode cX9_comesLane 91 = .ok (.getfield 77, 3) := by decide +kernel
theorem dX9_comesLane_94 : decode cX9_comesLane 94 = .ok (.aload_n 0, 1) := by decide +kernel
theorem dX9_comesLane_95 : decode cX9_comesLane 95 = .ok (.getfield 47, 3) := by decide +kernel
theorem dX9_comesLane_98 : decode cX9_comesLane 98 = .ok (.iload_n 1, 1) := by decide +kernel
theorem dX9_comesLane_99 : decode cX9_comesLane 99 = .ok (.iaload, 1) := by decide +kernel
theorem dX9_comesLane_100 : decode cX9_comesLane 100 = .ok (.iastore, 1) := by decide +kernel
theorem dX9_comesLane_101 : decode cX9_comesLane 101 = .ok (.aload_n 0, 1) := by decide +kernel
theorem dX9_comesLane_102 : decode cX9_comesLane 102 = .ok (.getfield 16, 3) := by decide +kernel
theorem dX9_comesLane_105 : decode cX9_comesLane 105 = .ok (.aload_n 0, 1) := by decide +kernel
theorem dX9_comesLane_106 : decode cX9_comesLane 106 = .ok (.getfield 77, 3) := by decide +kernel
theorem dX9_comesLane_109 : decode cX9_comesLane 109 = .ok (.aload_n 0, 1) := by decide +kernel
theorem dX9_comesLane_110 : decode cX9_comesLane 110 = .ok (.getfield 47, 3) := by decide +kernel
theorem dX9_comesLane_113 : decode cX9_comesLane 113 = .ok (.iload_n 1, 1) := by decide +kernel
theorem dX9_comesLane_114 : decode cX9_comesLane 114 = .ok (.iconst 1, 1) := by decide +kernel
theorem dX9_comesLane_115 : decode cX9_comesLane 115 = .ok (.iadd, 1) := by decide +kernel
theorem dX9_comesLane_116 : decode cX9_comesLane 116 = .ok (.iaload, 1) := by decide +kernel
theorem dX9_comesLane_117 : decode cX9_comesLane 117 = .ok (.iastore, 1) := by decide +kernel
theorem dX9_comesLane_118 : decode cX9_comesLane 118 = .ok (.aload_n 0, 1) := by decide +kernel
theorem dX9_comesLane_119 : decode cX9_comesLane 119 = .ok (.getfield 19, 3) := by decide +kernel
theorem dX9_comesLane_122 : decode cX9_comesLane 122 = .ok (.aload_n 0, 1) := by decide +kernel
theorem dX9_comesLane_123 : decode cX9_comesLane 123 = .ok (.getfield 77, 3) := by decide +kernel
theorem dX9_comesLane_126 : decode cX9_comesLane 126 = .ok (.aload_n 0, 1) := by decide +kernel
theorem dX9_comesLane_127 : decode cX9_comesLane 127 = .ok (.getfield 47, 3) := by decide +kernel
theorem dX9_comesLane_130 : decode cX9_comesLane 130 = .ok (.iload_n 1, 1) := by decide +kernel
theorem dX9_comesLane_131 : decode cX9_comesLane 131 = .ok (.iconst 2, 1) := by decide +kernel
theorem dX9_comesLane_132 : decode cX9_comesLane 132 = .ok (.iadd, 1) := by decide +kernel
theorem dX9_comesLane_133 : decode cX9_comesLane 133 = .ok (.iaload, 1) := by decide +kernel
theorem dX9_comesLane_134 : decode cX9_comesLane 134 = .ok (.iastore, 1) := by decide +kernel
theorem dX9_comesLane_135 : decode cX9_comesLane 135 = .ok (.aload_n 0, 1) := by decide +kernel
theorem dX9_comesLane_136 : decode cX9_comesLane 136 = .ok (.getfield 22, 3) := by decide +kernel
theorem dX9_comesLane_139 : decode cX9_comesLane 139 = .ok (.aload_n 0, 1) := by decide +kernel
theorem dX9_comesLane_140 : decode cX9_comesLane 140 = .ok (.getfield 77, 3) := by decide +kernel
theorem dX9_comesLane_143 : decode cX9_comesLane 143 = .ok (.aload_n 0, 1) := by decide +kernel
theorem dX9_comesLane_144 : decode cX9_comesLane 144 = .ok (.getfield 47, 3) := by decide +kernel
theorem dX9_comesLane_147 : decode cX9_comesLane 147 = .ok (.iload_n 1, 1) := by decide +kernel
theorem dX9_comesLane_148 : decode cX9_comesLane 148 = .ok (.iconst 3, 1) := by decide +kernel
theorem dX9_comesLane_149 : decode cX9_comesLane 149 = .ok (.iadd, 1) := by decide +kernel
theorem dX9_comesLane_150 : decode cX9_comesLane 150 = .ok (.iaload, 1) := by decide +kernel
theorem dX9_comesLane_151 : decode cX9_comesLane 151 = .ok (.iastore, 1) := by decide +kernel
theorem dX9_comesLane_152 : decode cX9_comesLane 152 = .ok (.aload_n 0, 1) := by decide +kernel
theorem dX9_comesLane_153 : decode cX9_comesLane 153 = .ok (.getfield 25, 3) := by decide +kernel
theorem dX9_comesLane_156 : decode cX9_comesLane 156 = .ok (.aload_n 0, 1) := by decide +kernel
theorem dX9_comesLane_157 : decode cX9_comesLane 157 = .ok (.getfield 77, 3) := by decide +kernel
theorem dX9_comesLane_160 : decode cX9_comesLane 160 = .ok (.aload_n 0, 1) := by decide +kernel
theorem dX9_comesLane_161 : decode cX9_comesLane 161 = .ok (.getfield 47, 3) := by decide +kernel
theorem dX9_comesLane_164 : decode cX9_comesLane 164 = .ok (.iload_n 1, 1) := by decide +kernel
theorem dX9_comesLane_165 : decode cX9_comesLane 165 = .ok (.iconst 4, 1) := by decide +kernel
theorem dX9_comesLane_166 : decode cX9_comesLane 166 = .ok (.iadd, 1) := by decide +kernel
theorem dX9_comesLane_167 : decode cX9_comesLane 167 = .ok (.iaload, 1) := by decide +kernel
theorem dX9_comesLane_168 : decode cX9_comesLane 168 = .ok (.iastore, 1) := by decide +kernel
theorem dX9_comesLane_169 : decode cX9_comesLane 169 = .ok (.aload_n 0, 1) := by decide +kernel
theorem dX9_comesLane_170 : decode cX9_comesLane 170 = .ok (.getfield 28, 3) := by decide +kernel
theorem dX9_comesLane_173 : decode cX9_comesLane 173 = .ok (.aload_n 0, 1) := by decide +kernel
theorem dX9_comesLane_174 : decode cX9_comesLane 174 = .ok (.getfield 77, 3) := by decide +kernel
theorem dX9_comesLane_177 : decode cX9_comesLane 177 = .ok (.aload_n 0, 1) := by decide +kernel
theorem dX9_comesLane_178 : decode cX9_comesLane 178 = .ok (.getfield 47, 3) := by decide +kernel
theorem dX9_comesLane_181 : decode cX9_comesLane 181 = .ok (.iload_n 1, 1) := by decide +kernel
theorem dX9_comesLane_182 : decode cX9_comesLane 182 = .ok (.iconst 5, 1) := by decide +kernel
theorem dX9_comesLane_183 : decode cX9_comesLane 183 = .ok (.iadd, 1) := by decide +kernel
theorem dX9_comesLane_184 : decode cX9_comesLane 184 = .ok (.iaload, 1) := by decide +kernel
theorem dX9_comesLane_185 : decode cX9_comesLane 185 = .ok (.iastore, 1) := by decide +kernel
theorem dX9_comesLane_186 : decode cX9_comesLane 186 = .ok (.aload_n 0, 1) := by decide +kernel
theorem dX9_comesLane_187 : decode cX9_comesLane 187 = .ok (.getfield 31, 3) := by decide +kernel
theorem dX9_comesLane_190 : decode cX9_comesLane 190 = .ok (.aload_n 0, 1) := by decide +kernel
theorem dX9_comesLane_191 : decode cX9_comesLane 191 = .ok (.getfield 77, 3) := by decide +kernel
theorem dX9_comesLane_194 : decode cX9_comesLane 194 = .ok (.iconst 0, 1) := by decide +kernel
theorem dX9_comesLane_195 : decode cX9_comesLane 195 = .ok (.iastore, 1) := by decide +kernel
theorem dX9_comesLane_196 : decode cX9_comesLane 196 = .ok (.aload_n 0, 1) := by decide +kernel
theorem dX9_comesLane_197 : decode cX9_comesLane 197 = .ok (.dup, 1) := by decide +kernel
theorem dX9_comesLane_198 : decode cX9_comesLane 198 = .ok (.getfield 77, 3) := by decide +kernel
theorem dX9_comesLane_201 : decode cX9_comesLane 201 = .ok (.iconst 1, 1) := by decide +kernel
theorem dX9_comesLane_202 : decode cX9_comesLane 202 = .ok (.iadd, 1) := by decide +kernel
theorem dX9_comesLane_203 : decode cX9_comesLane 203 = .ok (.putfield 77, 3) := by decide +kernel
theorem dX9_comesLane_206 : decode cX9_comesLane 206 = .ok (.iconst 1, 1) := by decide +kernel
theorem dX9_comesLane_207 : decode cX9_comesLane 207 = .ok (.ireturn, 1) := by decide +kernel
def gX9_comesLane (m : Mem) (a1 : Int32) : Option (Bool × Mem) := chk (inb a1 216) ((if 5 < (m.1 55 (Int32.toNatClampNeg a1)) then some (false, m) else chk (inb (a1 + 1) 216) ((gX9_isHouse m (m.1 55 (Int32.toNatClampNeg (a1 + 1)))).bind (fun x3 => (if x3 = true then chk (inb (a1 + 2) 216) ((gX9_isHouse m (m.1 55 (Int32.toNatClampNeg (a1 + 2)))).bind (fun x5 => (if x5 = true then chk (inb (a1 + 1) 216) (chk (inb (a1 + 2) 216) ((if (m.1 55 (Int32.toNatClampNeg (a1 + 1))) = (m.1 55 (Int32.toNatClampNeg (a1 + 2))) then some (false, m) else chk (inb (a1 + 3) 216) ((gX9_isIn (m.1 55 (Int32.toNatClampNeg (a1 + 3))) 1 4).bind (fun x9 => (if x9 = true then (if (m.1 43 9) = 10 then some (false, m) else chk (inb a1 216) (chk (inb (m.1 43 9) 11) (lete (mu m 45 (Int32.toNatClampNeg (m.1 43 9)) (m.1 55 (Int32.toNatClampNeg a1))) (fun m12 => chk (inb (a1 + 1) 216) (chk (inb (m12.1 43 9) 11) (lete (mu m12 46 (Int32.toNatClampNeg (m12.1 43 9)) (m12.1 55 (Int32.toNatClampNeg (a1 + 1)))) (fun m15 => chk (inb (a1 + 2) 216) (chk (inb (m15.1 43 9) 11) (lete (mu m15 47 (Int32.toNatClampNeg (m15.1 43 9)) (m15.1 55 (Int32.toNatClampNeg (a1 + 2)))) (fun m18 => chk (inb (a1 + 3) 216) (chk (inb (m18.1 43 9) 11) (lete (mu m18 48 (Int32.toNatClampNeg (m18.1 43 9)) (m18.1 55 (Int32.toNatClampNeg (a1 + 3)))) (fun m21 => chk (inb (a1 + 4) 216) (chk (inb (m21.1 43 9) 11) (lete (mu m21 49 (Int32.toNatClampNeg (m21.1 43 9)) (m21.1 55 (Int32.toNatClampNeg (a1 + 4)))) (fun m24 => chk (inb (a1 + 5) 216) (chk (inb (m24.1 43 9) 11) (lete (mu m24 50 (Int32.toNatClampNeg (m24.1 43 9)) (m24.1 55 (Int32.toNatClampNeg (a1 + 5)))) (fun m27 => chk (inb (m27.1 43 9) 11) (lete (mu m27 51 (Int32.toNatClampNeg (m27.1 43 9)) 0) (fun m29 => lete (mu m29 43 9 ((m29.1 43 9) + 1)) (fun m30 => some (true, m30))))))))))))))))))))))) else some (false, m))))))) else some (false, m)))) else some (false, m))))))
set_option maxHeartbeats 4000000 in
set_option maxRecDepth 20000 in
theorem LX9_comesLane {n : Nat} {m : Mem} {a1 : Int32} {r : Bool × Mem} (hn64 : 64 ≤ n) (hg : gX9_comesLane m a1 = some r) : MX yX9_comesLane cX9_comesLane 2 (some .boolean) { frames := 1, cells := 0, slots := 0, locals := 22 } n [.ref 43, .int a1] m (some (.int (b2i r.1))) r.2 := by
  refine MX_of (by decide) (Nat.le_of_ble_eq_true rfl) (Or.inr (Or.inr (Or.inr ⟨rfl, _, rfl⟩))) (fun K hC hk hL hR => ?_)
  replace hn64 : 64 ≤ kn K := hk.symm ▸ hn64
  show RX K 0 [(0, .ref 43), (1, .int a1)] [] m
  rw [gX9_comesLane] at hg
  refine R_aload_n (pc := 0) hC 0 dX9_comesLane_0 rfl rfl ?_
  refine gf_X9_47 (pc := 1) hC hn64 dX9_comesLane_1 ?_
  refine R_iload_n (pc := 4) hC 1 dX9_comesLane_4 rfl rfl ?_
  obtain ⟨c1, hg⟩ := chk_some hg
  refine R_iaload (pc := 5) hC 55 (jx hn64 rfl) ly55 (inb_vp c1) dX9_comesLane_5 ?_
  refine R_iconst (pc := 6) hC dX9_comesLane_6 ki_5 ?_
  refine R_icmp_gt (tgt := 84) (pc := 7) hC dX9_comesLane_7 (by decide) (fun c => ?_) (fun c => ?_)
  · replace hg := (if_pos c).symm.trans hg
    refine R_iconst (pc := 84) hC dX9_comesLane_84 ki_0 ?_
    have h9 := gxZM hg
    exact R_ireturn (pc := 85) hC dX9_comesLane_85 h9
  · replace hg := (if_neg c).symm.trans hg
    refine R_aload_n (pc := 10) hC 0 dX9_comesLane_10 rfl rfl ?_
    refine R_aload_n (pc := 11) hC 0 dX9_comesLane_11 rfl rfl ?_
    refine gf_X9_47 (pc := 12) hC hn64 dX9_comesLane_12 ?_
    refine R_iload_n (pc := 15) hC 1 dX9_comesLane_15 rfl rfl ?_
    refine R_iconst (pc := 16) hC dX9_comesLane_16 ki_1 ?_
    refine R_iadd (pc := 17) hC dX9_comesLane_17 ?_
    obtain ⟨c2, hg⟩ := chk_some hg
    refine R_iaload (pc := 18) hC 55 (jx hn64 rfl) ly55 (inb_vp c2) dX9_comesLane_18 ?_
    obtain ⟨x3, hx3, hg⟩ := bind_some hg
    refine R_callV (pc := 19) (av := [.int (m.1 55 (Int32.toNatClampNeg (a1 + 1)))]) (rest := []) hC hR 43 (jx hn64 rfl) ly43 rfl mf_X9_isHouse wm_X9_113 (LX9_isHouse hn64 hx3) rfl rfl rfl (Nat.le_of_ble_eq_true rfl) dX9_comesLane_19 rfl ?_
    show RX K 22 [(0, .ref 43), (1, .int a1)] [.int (b2i x3)] m
    refine R_ifB_eq (tgt := 84) (pc := 22) hC dX9_comesLane_22 (by decide) (fun c => ?_) (fun c => ?_)
    · replace hg := (if_neg c).symm.trans hg
      refine R_iconst (pc := 84) hC dX9_comesLane_84 ki_0 ?_
      have h9 := gxZM hg
      exact R_ireturn (pc := 85) hC dX9_comesLane_85 h9
    · replace hg := (if_pos c).symm.trans hg
      refine R_aload_n (pc := 25) hC 0 dX9_comesLane_25 rfl rfl ?_
      refine R_aload_n (pc := 26) hC 0 dX9_comesLane_26 rfl rfl ?_
      refine gf_X9_47 (pc := 27) hC hn64 dX9_comesLane_27 ?_
      refine R_iload_n (pc := 30) hC 1 dX9_comesLane_30 rfl rfl ?_
      refine R_iconst (pc := 31) hC dX9_comesLane_31 ki_2 ?_
      refine R_iadd (pc := 32) hC dX9_comesLane_32 ?_
      obtain ⟨c4, hg⟩ := chk_some hg
      refine R_iaload (pc := 33) hC 55 (jx hn64 rfl) ly55 (inb_vp c4) dX9_comesLane_33 ?_
      obtain ⟨x5, hx5, hg⟩ := bind_some hg
      refine R_callV (pc := 34) (av := [.int (m.1 55 (Int32.toNatClampNeg (a1 + 2)))]) (rest := []) hC hR 43 (jx hn64 rfl) ly43 rfl mf_X9_isHouse wm_X9_113 (LX9_isHouse hn64 hx5) rfl rfl rfl (Nat.le_of_ble_eq_true rfl) dX9_comesLane_34 rfl ?_
      show RX K 37 [(0, .ref 43), (1, .int a1)] [.int (b2i x5)] m
      refine R_ifB_eq (tgt := 84) (pc := 37) hC dX9_comesLane_37 (by decide) (fun c => ?_) (fun c => ?_)
      · replace hg := (if_neg c).symm.trans hg
        refine R_iconst (pc := 84) hC dX9_comesLane_84 ki_0 ?_
        have h9 := gxZM hg
        exact R_ireturn (pc := 85) hC dX9_comesLane_85 h9
      · replace hg := (if_pos c).symm.trans hg
        refine R_aload_n (pc := 40) hC 0 dX9_comesLane_40 rfl rfl ?_
        refine gf_X9_47 (pc := 41) hC hn64 dX9_comesLane_41 ?_
        refine R_iload_n (pc := 44) hC 1 dX9_comesLane_44 rfl rfl ?_
        refine R_iconst (pc := 45) hC dX9_comesLane_45 ki_1 ?_
        refine R_iadd (pc := 46) hC dX9_comesLane_46 ?_
        obtain ⟨c6, hg⟩ := chk_some hg
        refine R_iaload (pc := 47) hC 55 (jx hn64 rfl) ly55 (inb_vp c6) dX9_comesLane_47 ?_
        refine R_aload_n (pc := 48) hC 0 dX9_comesLane_48 rfl rfl ?_
        refine gf_X9_47 (pc := 49) hC hn64 dX9_comesLane_49 ?_
        refine R_iload_n (pc := 52) hC 1 dX9_comesLane_52 rfl rfl ?_
        refine R_iconst (pc := 53) hC dX9_comesLane_53 ki_2 ?_
        refine R_iadd (pc := 54) hC dX9_comesLane_54 ?_
        obtain ⟨c7, hg⟩ := chk_some hg
        refine R_iaload (pc := 55) hC 55 (jx hn64 rfl) ly55 (inb_vp c7) dX9_comesLane_55 ?_
        refine R_icmp_eq (tgt := 84) (pc := 56) hC dX9_comesLane_56 (by decide) (fun c => ?_) (fun c => ?_)
        · replace hg := (if_pos c).symm.trans hg
          refine R_iconst (pc := 84) hC dX9_comesLane_84 ki_0 ?_
          have h9 := gxZM hg
          exact R_ireturn (pc := 85) hC dX9_comesLane_85 h9
        · replace hg := (if_neg c).symm.trans hg
          refine R_aload_n (pc := 59) hC 0 dX9_comesLane_59 rfl rfl ?_
          refine gf_X9_47 (pc := 60) hC hn64 dX9_comesLane_60 ?_
          refine R_iload_n (pc := 63) hC 1 dX9_comesLane_63 rfl rfl ?_
          refine R_iconst (pc := 64) hC dX9_comesLane_64 ki_3 ?_
          refine R_iadd (pc := 65) hC dX9_comesLane_65 ?_
          obtain ⟨c8, hg⟩ := chk_some hg
          refine R_iaload (pc := 66) hC 55 (jx hn64 rfl) ly55 (inb_vp c8) dX9_comesLane_66 ?_
          refine R_iconst (pc := 67) hC dX9_comesLane_67 ki_1 ?_
          refine R_iconst (pc := 68) hC dX9_comesLane_68 ki_4 ?_
          obtain ⟨x9, hx9, hg⟩ := bind_some hg
          refine R_callS (pc := 69) (av := [.int (m.1 55 (Int32.toNatClampNeg (a1 + 3))), .int 1, .int 4]) (rest := []) hC hR mf_X9_isIn wm_X9_98 (LX9_isIn hn64 hx9) rfl rfl rfl (Nat.le_of_ble_eq_true rfl) dX9_comesLane_69 rfl ?_
          show RX K 72 [(0, .ref 43), (1, .int a1)] [.int (b2i x9)] m
          refine R_ifB_eq (tgt := 84) (pc := 72) hC dX9_comesLane_72 (by decide) (fun c => ?_) (fun c => ?_)
          · replace hg := (if_neg c).symm.trans hg
            refine R_iconst (pc := 84) hC dX9_comesLane_84 ki_0 ?_
            have h9 := gxZM hg
            exact R_ireturn (pc := 85) hC dX9_comesLane_85 h9
          · replace hg := (if_pos c).symm.trans hg
            refine R_aload_n (pc := 75) hC 0 dX9_comesLane_75 rfl rfl ?_
            refine gf_X9_77 (pc := 76) hC hn64 dX9_comesLane_76 ?_
            refine R_bipush (pc := 79) hC dX9_comesLane_79 kb_10 ?_
            refine R_icmp_ne (tgt := 86) (pc := 81) hC dX9_comesLane_81 (by decide) (fun c => ?_) (fun c => ?_)
            · replace hg := (if_neg c).symm.trans hg
              refine R_aload_n (pc := 86) hC 0 dX9_comesLane_86 rfl rfl ?_
              refine gf_X9_13 (pc := 87) hC hn64 dX9_comesLane_87 ?_
              refine R_aload_n (pc := 90) hC 0 dX9_comesLane_90 rfl rfl ?_
              refine gf_X9_77 (pc := 91) hC hn64 dX9_comesLane_91 ?_
              refine R_aload_n (pc := 94) hC 0 dX9_comesLane_94 rfl rfl ?_
              refine gf_X9_47 (pc := 95) hC hn64 dX9_comesLane_95 ?_
              refine R_iload_n (pc := 98) hC 1 dX9_comesLane_98 rfl rfl ?_
              obtain ⟨c10, hg⟩ := chk_some hg
              refine R_iaload (pc := 99) hC 55 (jx hn64 rfl) ly55 (inb_vp c10) dX9_comesLane_99 ?_
              obtain ⟨c11, hg⟩ := chk_some hg
              obtain ⟨m12, hm12, hg⟩ := lete_some hg
              refine R_iastore (pc := 100) hC 45 (jx hn64 rfl) ly45 (inb_vp c11) dX9_comesLane_100 ?_
              refine R_mem hm12 ?_
              refine R_aload_n (pc := 101) hC 0 dX9_comesLane_101 rfl rfl ?_
              refine gf_X9_16 (pc := 102) hC hn64 dX9_comesLane_102 ?_
              refine R_aload_n (pc := 105) hC 0 dX9_comesLane_105 rfl rfl ?_
              refine gf_X9_77 (pc := 106) hC hn64 dX9_comesLane_106 ?_
              refine R_aload_n (pc := 109) hC 0 dX9_comesLane_109 rfl rfl ?_
              refine gf_X9_47 (pc := 110) hC hn64 dX9_comesLane_110 ?_
              refine R_iload_n (pc := 113) hC 1 dX9_comesLane_113 rfl rfl ?_
              refine R_iconst (pc := 114) hC dX9_comesLane_114 ki_1 ?_
              refine R_iadd (pc := 115) hC dX9_comesLane_115 ?_
              obtain ⟨c13, hg⟩ := chk_some hg
              refine R_iaload (pc := 116) hC 55 (jx hn64 rfl) ly55 (inb_vp c13) dX9_comesLane_116 ?_
              obtain ⟨c14, hg⟩ := chk_some hg
              obtain ⟨m15, hm15, hg⟩ := lete_some hg
              refine R_iastore (pc := 117) hC 46 (jx hn64 rfl) ly46 (inb_vp c14) dX9_comesLane_117 ?_
              refine R_mem hm15 ?_
              refine R_aload_n (pc := 118) hC 0 dX9_comesLane_118 rfl rfl ?_
              refine gf_X9_19 (pc := 119) hC hn64 dX9_comesLane_119 ?_
              refine R_aload_n (pc := 122) hC 0 dX9_comesLane_122 rfl rfl ?_
              refine gf_X9_77 (pc := 123) hC hn64 dX9_comesLane_123 ?_
              refine R_aload_n (pc := 126) hC 0 dX9_comesLane_126 rfl rfl ?_
              refine gf_X9_47 (pc := 127) hC hn64 dX9_comesLane_127 ?_
              refine R_iload_n (pc := 130) hC 1 dX9_comesLane_130 rfl rfl ?_
              refine R_iconst (pc := 131) hC dX9_comesLane_131 ki_2 ?_
              refine R_iadd (pc := 132) hC dX9_comesLane_132 ?_
              obtain ⟨c16, hg⟩ := chk_some hg
              refine R_iaload (pc := 133) hC 55 (jx hn64 rfl) ly55 (inb_vp c16) dX9_comesLane_133 ?_
              obtain ⟨c17, hg⟩ := chk_some hg
              obtain ⟨m18, hm18, hg⟩ := lete_some hg
              refine R_iastore (pc := 134) hC 47 (jx hn64 rfl) ly47 (inb_vp c17) dX9_comesLane_134 ?_
              refine R_mem hm18 ?_
              refine R_aload_n (pc := 135) hC 0 dX9_comesLane_135 rfl rfl ?_
              refine gf_X9_22 (pc := 136) hC hn64 dX9_comesLane_136 ?_
              refine R_aload_n (pc := 139) hC 0 dX9_comesLane_139 rfl rfl ?_
              refine gf_X9_77 (pc := 140) hC hn64 dX9_comesLane_140 ?_
              refine R_aload_n (pc := 143) hC 0 dX9_comesLane_143 rfl rfl ?_
              refine gf_X9_47 (pc := 144) hC hn64 dX9_comesLane_144 ?_
              refine R_iload_n (pc := 147) hC 1 dX9_comesLane_147 rfl rfl ?_
              refine R_iconst (pc := 148) hC dX9_comesLane_148 ki_3 ?_
              refine R_iadd (pc := 149) hC dX9_comesLane_149 ?_
              obtain ⟨c19, hg⟩ := chk_some hg
              refine R_iaload (pc := 150) hC 55 (jx hn64 rfl) ly55 (inb_vp c19) dX9_comesLane_150 ?_
              obtain ⟨c20, hg⟩ := chk_some hg
              obtain ⟨m21, hm21, hg⟩ := lete_some hg
              refine R_iastore (pc := 151) hC 48 (jx hn64 rfl) ly48 (inb_vp c20) dX9_comesLane_151 ?_
              refine R_mem hm21 ?_
              refine R_aload_n (pc := 152) hC 0 dX9_comesLane_152 rfl rfl ?_
              refine gf_X9_25 (pc := 153) hC hn64 dX9_comesLane_153 ?_
              refine R_aload_n (pc := 156) hC 0 dX9_comesLane_156 rfl rfl ?_
              refine gf_X9_77 (pc := 157) hC hn64 dX9_comesLane_157 ?_
              refine R_aload_n (pc := 160) hC 0 dX9_comesLane_160 rfl rfl ?_
              refine gf_X9_47 (pc := 161) hC hn64 dX9_comesLane_161 ?_
              refine R_iload_n (pc := 164) hC 1 dX9_comesLane_164 rfl rfl ?_
              refine R_iconst (pc := 165) hC dX9_comesLane_165 ki_4 ?_
              refine R_iadd (pc := 166) hC dX9_comesLane_166 ?_
              obtain ⟨c22, hg⟩ := chk_some hg
              refine R_iaload (pc := 167) hC 55 (jx hn64 rfl) ly55 (inb_vp c22) dX9_comesLane_167 ?_
              obtain ⟨c23, hg⟩ := chk_some hg
              obtain ⟨m24, hm24, hg⟩ := lete_some hg
              refine R_iastore (pc := 168) hC 49 (jx hn64 rfl) ly49 (inb_vp c23) dX9_comesLane_168 ?_
              refine R_mem hm24 ?_
              refine R_aload_n (pc := 169) hC 0 dX9_comesLane_169 rfl rfl ?_
              refine gf_X9_28 (pc := 170) hC hn64 dX9_comesLane_170 ?_
              refine R_aload_n (pc := 173) hC 0 dX9_comesLane_173 rfl rfl ?_
              refine gf_X9_77 (pc := 174) hC hn64 dX9_comesLane_174 ?_
              refine R_aload_n (pc := 177) hC 0 dX9_comesLane_177 rfl rfl ?_
              refine gf_X9_47 (pc := 178) hC hn64 dX9_comesLane_178 ?_
              refine R_iload_n (pc := 181) hC 1 dX9_comesLane_181 rfl rfl ?_
              refine R_iconst (pc := 182) hC dX9_comesLane_182 ki_5 ?_
              refine R_iadd (pc := 183) hC dX9_comesLane_183 ?_
              obtain ⟨c25, hg⟩ := chk_some hg
              refine R_iaload (pc := 184) hC 55 (jx hn64 rfl) ly55 (inb_vp c25) dX9_comesLane_184 ?_
              obtain ⟨c26, hg⟩ := chk_some hg
              obtain ⟨m27, hm27, hg⟩ := lete_some hg
              refine R_iastore (pc := 185) hC 50 (jx hn64 rfl) ly50 (inb_vp c26) dX9_comesLane_185 ?_
              refine R_mem hm27 ?_
              refine R_aload_n (pc := 186) hC 0 dX9_comesLane_186 rfl rfl ?_
              refine gf_X9_31 (pc := 187) hC hn64 dX9_comesLane_187 ?_
              refine R_aload_n (pc := 190) hC 0 dX9_comesLane_190 rfl rfl ?_
              refine gf_X9_77 (pc := 191) hC hn64 dX9_comesLane_191 ?_
              refine R_iconst (pc := 194) hC dX9_comesLane_194 ki_0 ?_
              obtain ⟨c28, hg⟩ := chk_some hg
              obtain ⟨m29, hm29, hg⟩ := lete_some hg
              refine R_iastore (pc := 195) hC 51 (jx hn64 rfl) ly51 (inb_vp c28) dX9_comesLane_195 ?_
              refine R_mem hm29 ?_
              refine R_aload_n (pc := 196) hC 0 dX9_comesLane_196 rfl rfl ?_
              refine R_dup (pc := 197) hC dX9_comesLane_197 rfl ?_
              refine gf_X9_77 (pc := 198) hC hn64 dX9_comesLane_198 ?_
              refine R_iconst (pc := 201) hC dX9_comesLane_201 ki_1 ?_
              refine R_iadd (pc := 202) hC dX9_comesLane_202 ?_
              obtain ⟨m30, hm30, hg⟩ := lete_some hg
              refine pf_X9_77 (pc := 203) hC hn64 dX9_comesLane_203 ?_
              refine R_mem hm30 ?_
              refine R_iconst (pc := 206) hC dX9_comesLane_206 ki_1 ?_
              have h9 := gxZM hg
              exact R_ireturn (pc := 207) hC dX9_comesLane_207 h9
            · replace hg := (if_pos c).symm.trans hg
              refine R_iconst (pc := 84) hC dX9_comesLane_84 ki_0 ?_
              have h9 := gxZM hg
              exact R_ireturn (pc := 85) hC dX9_comesLane_85 h9
theorem dX9_comes_0 : decode cX9_comes 0 = .ok (.bipush 6, 2) := by decide +kernel
theorem dX9_comes_2 : decode cX9_comes 2 = .ok (.iload_n 1, 1) := by decide +kernel
theorem dX9_comes_3 : decode cX9_comes 3 = .ok (.imul, 1) := by decide +kernel
theorem dX9_comes_4 : decode cX9_comes 4 = .ok (.istore_n 2, 1) := by decide +kernel
theorem dX9_comes_5 : decode cX9_comes 5 = .ok (.aload_n 0, 1) := by decide +kernel
theorem dX9_comes_6 : decode cX9_comes 6 = .ok (.getfield 41, 3) := by decide +kernel
theorem dX9_comes_9 : decode cX9_comes 9 = .ok (.iload_n 1, 1) := by decide +kernel
theorem dX9_comes_10 : decode cX9_comes 10 = .ok (.iaload, 1) := by decide +kernel
theorem dX9_comes_11 : decode cX9_comes 11 = .ok (.lookupswitch 63 #[(104, 25), (108, 57)], 25) := by decide +kernel
theorem dX9_comes_36 : decode cX9_comes 36 = .ok (.aload_n 0, 1) := by decide +kernel
theorem dX9_comes_37 : decode cX9_comes 37 = .ok (.getfield 47, 3) := by decide +kernel
theorem dX9_comes_40 : decode cX9_comes 40 = .ok (.iload_n 2, 1) := by decide +kernel
theorem dX9_comes_41 : decode cX9_comes 41 = .ok (.iaload, 1) := by decide +kernel
theorem dX9_comes_42 : decode cX9_comes 42 = .ok (.aload_n 0, 1) := by decide +kernel
theorem dX9_comes_43 : decode cX9_comes 43 = .ok (.invokevirtual 116, 3) := by decide +kernel
theorem dX9_comes_46 : decode cX9_comes 46 = .ok (.bipush 7, 2) := by decide +kernel
theorem dX9_comes_48 : decode cX9_comes 48 = .ok (.invokestatic 98, 3) := by decide +kernel
theorem dX9_comes_51 : decode cX9_comes 51 = .ok (.ifCond .ne 5, 3) := by decide +kernel
theorem dX9_comes_54 : decode cX9_comes 54 = .ok (.iconst 0, 1) := by decide +kernel
theorem dX9_comes_55 : decode cX9_comes 55 = .ok (.ireturn, 1) := by decide +kernel
theorem dX9_comes_56 : decode cX9_comes 56 = .ok (.aload_n 0, 1) := by decide +kernel
theorem dX9_comes_57 : decode cX9_comes 57 = .ok (.aload_n 0, 1) := by decide +kernel
theorem dX9_comes_58 : decode cX9_comes 58 = .ok (.getfield 47, 3) := by decide +kernel
theorem dX9_comes_61 : decode cX9_comes 61 = .ok (.iload_n 2, 1) := by decide +kernel
theorem dX9_comes_62 : decode cX9_comes 62 = .ok (.iaload, 1) := by decide +kernel
theorem dX9_comes_63 : decode cX9_comes 63 = .ok (.putfield 34, 3) := by decide +kernel
theorem dX9_comes_66 : decode cX9_comes 66 = .ok (.iconst 1, 1) := by decide +kernel
theorem dX9_comes_67 : decode cX9_comes 67 = .ok (.ireturn, 1) := by decide +kernel
theorem dX9_comes_68 : decode cX9_comes 68 = .ok (.aload_n 0, 1) := by decide +kernel
theorem dX9_comes_69 : decode cX9_comes 69 = .ok (.iload_n 2, 1) := by decide +kernel
theorem dX9_comes_70 : decode cX9_comes 70 = .ok (.invokevirtual 119, 3) := by decide +kernel
theorem dX9_comes_73 : decode cX9_comes 73 = .ok (.ireturn, 1) := by decide +kernel
theorem dX9_comes_74 : decode cX9_comes 74 = .ok (.aload_n 0, 1) := by decide +kernel
theorem dX9_comes_75 : decode cX9_comes 75 = .ok (.aload_n 0, 1) := by decide +kernel
theorem dX9_comes_76 : decode cX9_comes 76 = .ok (.getfield 47, 3) := by decide +kernel
theorem dX9_comes_79 : decode cX9_comes 79 = .ok (.iload_n 2, 1) := by decide +kernel
theorem dX9_comes_80 : decode cX9_comes 80 = .ok (.iaload, 1) := by decide +kernel
theorem dX9_comes_81 : decode cX9_comes 81 = .ok (.invokevirtual 122, 3) := by decide +kernel
theorem dX9_comes_84 : decode cX9_comes 84 = .ok (.ifCond .ne 5, 3) := by decide +kernel
theorem dX9_comes_87 : decode cX9_comes 87 = .ok (.iconst 0, 1) := by decide +kernel
theorem dX9_comes_88 : decode cX9_comes 88 = .ok (.ireturn, 1) := by decide +kernel
theorem dX9_comes_89 : decode cX9_comes 89 = .ok (.aload_n 0, 1) := by decide +kernel
theorem dX9_comes_90 : decode cX9_comes 90 = .ok (.getfield 31, 3) := by decide +kernel
theorem dX9_comes_93 : decode cX9_comes 93 = .ok (.aload_n 0, 1) := by decide +kernel
theorem dX9_comes_94 : decode cX9_comes 94 = .ok (.getfield 47, 3) := by decide +kernel
theorem dX9_comes_97 : decode cX9_comes 97 = .ok (.iload_n 2, 1) := by decide +kernel
theorem dX9_comes_98 : decode cX9_comes 98 = .ok (.iaload, 1) := by decide +kernel
theorem dX9_comes_99 : decode cX9_comes 99 = .ok (.aload_n 0, 1) := by decide +kernel
theorem dX9_comes_100 : decode cX9_comes 100 = .ok (.getfield 41, 3) := by decide +kernel
theorem dX9_comes_103 : decode cX9_comes 103 = .ok (.iload_n 1, 1) := by decide +kernel
theorem dX9_comes_104 : decode cX9_comes 104 = .ok (.iaload, 1) := by decide +kernel
theorem dX9_comes_105 : decode cX9_comes 105 = .ok (.bipush 107, 2) := by decide +kernel
theorem dX9_comes_107 : decode cX9_comes 107 = .ok (.if_icmp .ne 7, 3) := by decide +kernel
theorem dX9_comes_110 : decode cX9_comes 110 = .ok (.iconst 1, 1) := by decide +kernel
theorem dX9_comes_111 : decode cX9_comes 111 = .ok (.goto 19, 3) := by decide +kernel
theorem dX9_comes_114 : decode cX9_comes 114 = .ok (.aload_n 0, 1) := by decide +kernel
theorem dX9_comes_115 : decode cX9_comes 115 = .ok (.getfield 41, 3) := by decide +kernel
theorem dX9_comes_118 : decode cX9_comes 118 = .ok (.iload_n 1, 1) := by decide +kernel
theorem dX9_comes_119 : decode cX9_comes 119 = .ok (.iaload, 1) := by decide +kernel
theorem dX9_comes_120 : decode cX9_comes 120 = .ok (.bipush 120, 2) := by decide +kernel
theorem dX9_comes_122 : decode cX9_comes 122 = .ok (.if_icmp .ne 7, 3) := by decide +kernel
theorem dX9_comes_125 : decode cX9_comes 125 = .ok (.iconst 2, 1) := by decide +kernel
theorem dX9_comes_126 : decode cX9_comes 126 = .ok (.goto 4, 3) := by decide +kernel
theorem dX9_comes_129 : decode cX9_comes 129 = .ok (.iconst 0, 1) := by decide +kernel
theorem dX9_comes_130 : decode cX9_comes 130 = .ok (.iastore, 1) := by decide +kernel
theorem dX9_comes_131 : decode cX9_comes 131 = .ok (.iconst 1, 1) := by decide +kernel
theorem dX9_comes_132 : decode cX9_comes 132 = .ok (.ireturn, 1) := by decide +kernel
def gX9_comes (F : Nat) (m : Mem) (a1 : Int32) : Option (Bool × Mem) := lete (6 * a1) (fun x1 => chk (inb a1 36) ((if (m.1 53 (Int32.toNatClampNeg a1)) = 104 then chk (inb x1 216) ((gX9_toldHouses F m).bind (fun x5 => (gX9_isIn (m.1 55 (Int32.toNatClampNeg x1)) x5 7).bind (fun x6 => (if x6 = true then chk (inb x1 216) (lete (mu m 43 8 (m.1 55 (Int32.toNatClampNeg x1))) (fun m8 => some (true, m8))) else some (false, m))))) else (if (m.1 53 (Int32.toNatClampNeg a1)) = 108 then (gX9_comesLane m x1).bind (fun q10 => some (q10.1, q10.2)) else chk (inb x1 216) ((gX9_isLane m (m.1 55 (Int32.toNatClampNeg x1))).bind (fun x12 => (if x12 = true then chk (inb x1 216) (chk (inb a1 36) ((if (m.1 53 (Int32.toNatClampNeg a1)) = 107 then chk (inb (m.1 55 (Int32.toNatClampNeg x1)) 11) (lete (mu m 51 (Int32.toNatClampNeg (m.1 55 (Int32.toNatClampNeg x1))) 1) (fun m21 => some (true, m21))) else chk (inb a1 36) ((if (m.1 53 (Int32.toNatClampNeg a1)) = 120 then chk (inb (m.1 55 (Int32.toNatClampNeg x1)) 11) (lete (mu m 51 (Int32.toNatClampNeg (m.1 55 (Int32.toNatClampNeg x1))) 2) (fun m19 => some (true, m19))) else chk (inb (m.1 55 (Int32.toNatClampNeg x1)) 11) (lete (mu m 51 (Int32.toNatClampNeg (m.1 55 (Int32.toNatClampNeg x1))) 0) (fun m17 => some (true, m17)))))))) else some (false, m))))))))
set_option maxHeartbeats 4000000 in
set_option maxRecDepth 20000 in
theorem LX9_comes {n : Nat} {F : Nat} {m : Mem} {a1 : Int32} {r : Bool × Mem} (hn64 : 64 ≤ n) (hg : gX9_comes F m a1 = some r) : MX yX9_comes cX9_comes 3 (some .boolean) { frames := 2, cells := 0, slots := 0, locals := 43 } n [.ref 43, .int a1] m (some (.int (b2i r.1))) r.2 := by
  refine MX_of (by decide) (Nat.le_of_ble_eq_true rfl) (Or.inr (Or.inr (Or.inr ⟨rfl, _, rfl⟩))) (fun K hC hk hL hR => ?_)
  replace hn64 : 64 ≤ kn K := hk.symm ▸ hn64
  show RX K 0 [(0, .ref 43), (1, .int a1)] [] m
  rw [gX9_comes] at hg
  refine R_bipush (pc := 0) hC dX9_comes_0 kb_6 ?_
  refine R_iload_n (pc := 2) hC 1 dX9_comes_2 rfl rfl ?_
  refine R_imul (pc := 3) hC dX9_comes_3 ?_
  obtain ⟨x1, hx1, hg⟩ := lete_some hg
  refine R_top hx1 ?_
  refine R_istore_n (pc := 4) hC dX9_comes_4 rfl hL rfl (show _ = [(2, .int x1), (0, .ref 43), (1, .int a1)] from rfl) ?_
  refine R_aload_n (pc := 5) hC 1 dX9_comes_5 rfl rfl ?_
  refine gf_X9_41 (pc := 6) hC hn64 dX9_comes_6 ?_
  refine R_iload_n (pc := 9) hC 2 dX9_comes_9 rfl rfl ?_
  obtain ⟨c2, hg⟩ := chk_some hg
  refine R_iaload (pc := 10) hC 53 (jx hn64 rfl) ly53 (inb_vp c2) dX9_comes_10 ?_
  by_cases c3 : (m.1 53 (Int32.toNatClampNeg a1)) = 104
  · replace hg := (if_pos c3).symm.trans hg
    refine R_top c3 ?_
    refine R_lookup (tgt := 36) (x := 104) (pc := 11) hC dX9_comes_11 (by decide) (by rfl) (by decide) ?_
    refine R_aload_n (pc := 36) hC 1 dX9_comes_36 rfl rfl ?_
    refine gf_X9_47 (pc := 37) hC hn64 dX9_comes_37 ?_
    refine R_iload_n (pc := 40) hC 0 dX9_comes_40 rfl rfl ?_
    obtain ⟨c4, hg⟩ := chk_some hg
    refine R_iaload (pc := 41) hC 55 (jx hn64 rfl) ly55 (inb_vp c4) dX9_comes_41 ?_
    refine R_aload_n (pc := 42) hC 1 dX9_comes_42 rfl rfl ?_
    obtain ⟨x5, hx5, hg⟩ := bind_some hg
    refine R_callV (pc := 43) (av := []) (rest := [.int (m.1 55 (Int32.toNatClampNeg x1))]) hC hR 43 (jx hn64 rfl) ly43 rfl mf_X9_toldHouses wm_X9_116 (LX9_toldHouses hn64 hx5) rfl rfl rfl (Nat.le_of_ble_eq_true rfl) dX9_comes_43 rfl ?_
    show RX K 46 [(2, .int x1), (0, .ref 43), (1, .int a1)] [.int x5, .int (m.1 55 (Int32.toNatClampNeg x1))] m
    refine R_bipush (pc := 46) hC dX9_comes_46 kb_7 ?_
    obtain ⟨x6, hx6, hg⟩ := bind_some hg
    refine R_callS (pc := 48) (av := [.int (m.1 55 (Int32.toNatClampNeg x1)), .int x5, .int 7]) (rest := []) hC hR mf_X9_isIn wm_X9_98 (LX9_isIn hn64 hx6) rfl rfl rfl (Nat.le_of_ble_eq_true rfl) dX9_comes_48 rfl ?_
    show RX K 51 [(2, .int x1), (0, .ref 43), (1, .int a1)] [.int (b2i x6)] m
    refine R_ifB_ne (tgt := 56) (pc := 51) hC dX9_comes_51 (by decide) (fun c => ?_) (fun c => ?_)
    · replace hg := (if_pos c).symm.trans hg
      refine R_aload_n (pc := 56) hC 1 dX9_comes_56 rfl rfl ?_
      refine R_aload_n (pc := 57) hC 1 dX9_comes_57 rfl rfl ?_
      refine gf_X9_47 (pc := 58) hC hn64 dX9_comes_58 ?_
      refine R_iload_n (pc := 61) hC 0 dX9_comes_61 rfl rfl ?_
      obtain ⟨c7, hg⟩ := chk_some hg
      refine R_iaload (pc := 62) hC 55 (jx hn64 rfl) ly55 (inb_vp c7) dX9_comes_62 ?_
      obtain ⟨m8, hm8, hg⟩ := lete_some hg
      refine pf_X9_34 (pc := 63) hC hn64 dX9_comes_63 ?_
      refine R_mem hm8 ?_
      refine R_iconst (pc := 66) hC dX9_comes_66 ki_1 ?_
      have h9 := gxZM hg
      exact R_ireturn (pc := 67) hC dX9_comes_67 h9
    · replace hg := (if_neg c).symm.trans hg
      refine R_iconst (pc := 54) hC dX9_comes_54 ki_0 ?_
      have h9 := gxZM hg
      exact R_ireturn (pc := 55) hC dX9_comes_55 h9
  replace hg := (if_neg c3).symm.trans hg
  by_cases c9 : (m.1 53 (Int32.toNatClampNeg a1)) = 108
  · replace hg := (if_pos c9).symm.trans hg
    refine R_top c9 ?_
    refine R_lookup (tgt := 68) (x := 108) (pc := 11) hC dX9_comes_11 (by decide) (by rfl) (by decide) ?_
    refine R_aload_n (pc := 68) hC 1 dX9_comes_68 rfl rfl ?_
    refine R_iload_n (pc := 69) hC 0 dX9_comes_69 rfl rfl ?_
    obtain ⟨q10, hq10, hg⟩ := bind_some hg
    refine R_callV (pc := 70) (av := [.int x1]) (rest := []) hC hR 43 (jx hn64 rfl) ly43 rfl mf_X9_comesLane wm_X9_119 (LX9_comesLane hn64 hq10) rfl rfl rfl (Nat.le_of_ble_eq_true rfl) dX9_comes_70 rfl ?_
    show RX K 73 [(2, .int x1), (0, .ref 43), (1, .int a1)] [.int (b2i q10.1)] q10.2
    have h9 := gxZM hg
    exact R_ireturn (pc := 73) hC dX9_comes_73 h9
  replace hg := (if_neg c9).symm.trans hg
  refine R_lookup (tgt := 74) (pc := 11) hC dX9_comes_11 (by decide) (lk_out _ (fun p hp => ?_)) (by decide) ?_
  · simp only [List.mem_cons, List.mem_nil_iff, or_false] at hp
    rcases hp with rfl | rfl
    · exact i32_ne c3 (by decide)
    · exact i32_ne c9 (by decide)
  refine R_aload_n (pc := 74) hC 1 dX9_comes_74 rfl rfl ?_
  refine R_aload_n (pc := 75) hC 1 dX9_comes_75 rfl rfl ?_
  refine gf_X9_47 (pc := 76) hC hn64 dX9_comes_76 ?_
  refine R_iload_n (pc := 79) hC 0 dX9_comes_79 rfl rfl ?_
  obtain ⟨c11, hg⟩ := chk_some hg
  refine R_iaload (pc := 80) hC 55 (jx hn64 rfl) ly55 (inb_vp c11) dX9_comes_80 ?_
  obtain ⟨x12, hx12, hg⟩ := bind_some hg
  refine R_callV (pc := 81) (av := [.int (m.1 55 (Int32.toNatClampNeg x1))]) (rest := []) hC hR 43 (jx hn64 rfl) ly43 rfl mf_X9_isLane wm_X9_122 (LX9_isLane hn64 hx12) rfl rfl rfl (Nat.le_of_ble_eq_true rfl) dX9_comes_81 rfl ?_
  show RX K 84 [(2, .int x1), (0, .ref 43), (1, .int a1)] [.int (b2i x12)] m
  refine R_ifB_ne (tgt := 89) (pc := 84) hC dX9_comes_84 (by decide) (fun c => ?_) (fun c => ?_)
  · replace hg := (if_pos c).symm.trans hg
    refine R_aload_n (pc := 89) hC 1 dX9_comes_89 rfl rfl ?_
    refine gf_X9_31 (pc := 90) hC hn64 dX9_comes_90 ?_
    refine R_aload_n (pc := 93) hC 1 dX9_comes_93 rfl rfl ?_
    refine gf_X9_47 (pc := 94) hC hn64 dX9_comes_94 ?_
    refine R_iload_n (pc := 97) hC 0 dX9_comes_97 rfl rfl ?_
    obtain ⟨c13, hg⟩ := chk_some hg
    refine R_iaload (pc := 98) hC 55 (jx hn64 rfl) ly55 (inb_vp c13) dX9_comes_98 ?_
    refine R_aload_n (pc := 99) hC 1 dX9_comes_99 rfl rfl ?_
    refine gf_X9_41 (pc := 100) hC hn64 dX9_comes_100 ?_
    refine R_iload_n (pc := 103) hC 2 dX9_comes_103 rfl rfl ?_
    obtain ⟨c14, hg⟩ := chk_some hg
    refine R_iaload (pc := 104) hC 53 (jx hn64 rfl) ly53 (inb_vp c14) dX9_comes_104 ?_
    refine R_bipush (pc := 105) hC dX9_comes_105 kb_107 ?_
    refine R_icmp_ne (tgt := 114) (pc := 107) hC dX9_comes_107 (by decide) (fun c => ?_) (fun c => ?_)
    · replace hg := (if_neg c).symm.trans hg
      refine R_aload_n (pc := 114) hC 1 dX9_comes_114 rfl rfl ?_
      refine gf_X9_41 (pc := 115) hC hn64 dX9_comes_115 ?_
      refine R_iload_n (pc := 118) hC 2 dX9_comes_118 rfl rfl ?_
      obtain ⟨c15, hg⟩ := chk_some hg
      refine R_iaload (pc := 119) hC 53 (jx hn64 rfl) ly53 (inb_vp c15) dX9_comes_119 ?_
      refine R_bipush (pc := 120) hC dX9_comes_120 kb_120 ?_
      refine R_icmp_ne (tgt := 129) (pc := 122) hC dX9_comes_122 (by decide) (fun c => ?_) (fun c => ?_)
      · replace hg := (if_neg c).symm.trans hg
        refine R_iconst (pc := 129) hC dX9_comes_129 ki_0 ?_
        obtain ⟨c16, hg⟩ := chk_some hg
        obtain ⟨m17, hm17, hg⟩ := lete_some hg
        refine R_iastore (pc := 130) hC 51 (jx hn64 rfl) ly51 (inb_vp c16) dX9_comes_130 ?_
        refine R_mem hm17 ?_
        refine R_iconst (pc := 131) hC dX9_comes_131 ki_1 ?_
        have h9 := gxZM hg
        exact R_ireturn (pc := 132) hC dX9_comes_132 h9
      · replace hg := (if_pos c).symm.trans hg
        refine R_iconst (pc := 125) hC dX9_comes_125 ki_2 ?_
        refine R_goto (tgt := 130) (pc := 126) hC dX9_comes_126 (by decide) ?_
        obtain ⟨c18, hg⟩ := chk_some hg
        obtain ⟨m19, hm19, hg⟩ := lete_some hg
        refine R_iastore (pc := 130) hC 51 (jx hn64 rfl) ly51 (inb_vp c18) dX9_comes_130 ?_
        refine R_mem hm19 ?_
        refine R_iconst (pc := 131) hC dX9_comes_131 ki_1 ?_
        have h9 := gxZM hg
        exact R_ireturn (pc := 132) hC dX9_comes_132 h9
    · replace hg := (if_pos c).symm.trans hg
      refine R_iconst (pc := 110) hC dX9_comes_110 ki_1 ?_
      refine R_goto (tgt := 130) (pc := 111) hC dX9_comes_111 (by decide) ?_
      obtain ⟨c20, hg⟩ := chk_some hg
      obtain ⟨m21, hm21, hg⟩ := lete_some hg
      refine R_iastore (pc := 130) hC 51 (jx hn64 rfl) ly51 (inb_vp c20) dX9_comes_130 ?_
      refine R_mem hm21 ?_
      refine R_iconst (pc := 131) hC dX9_comes_131 ki_1 ?_
      have h9 := gxZM hg
      exact R_ireturn (pc := 132) hC dX9_comes_132 h9
  · replace hg := (if_neg c).symm.trans hg
    refine R_iconst (pc := 87) hC dX9_comes_87 ki_0 ?_
    have h9 := gxZM hg
    exact R_ireturn (pc := 88) hC dX9_comes_88 h9
theorem dX9_passes_0 : decode cX9_passes 0 = .ok (.iconst 0, 1) := by decide +kernel
theorem dX9_passes_1 : decode cX9_passes 1 = .ok (.istore_n 2, 1) := by decide +kernel
theorem dX9_passes_2 : decode cX9_passes 2 = .ok (.iload_n 2, 1) := by decide +kernel
theorem dX9_passes_3 : decode cX9_passes 3 = .ok (.aload_n 1, 1) := by decide +kernel
theorem dX9_passes_4 : decode cX9_passes 4 = .ok (.arraylength, 1) := by decide +kernel
theorem dX9_passes_5 : decode cX9_passes 5 = .ok (.if_icmp .ge 53, 3) := by decide +kernel
theorem dX9_passes_8 : decode cX9_passes 8 = .ok (.aload_n 0, 1) := by decide +kernel
theorem dX9_passes_9 : decode cX9_passes 9 = .ok (.getfield 136, 3) := by decide +kernel
theorem dX9_passes_12 : decode cX9_passes 12 = .ok (.ifCond .eq 18, 3) := by decide +kernel
theorem dX9_passes_15 : decode cX9_passes 15 = .ok (.aload_n 0, 1) := by decide +kernel
theorem dX9_passes_16 : decode cX9_passes 16 = .ok (.getfield 50, 3) := by decide +kernel
theorem dX9_passes_19 : decode cX9_passes 19 = .ok (.aload_n 0, 1) := by decide +kernel
theorem dX9_passes_20 : decode cX9_passes 20 = .ok (.getfield 140, 3) := by decide +kernel
theorem dX9_passes_23 : decode cX9_passes 23 = .ok (.aload_n 1, 1) := by decide +kernel
theorem dX9_passes_24 : decode cX9_passes 24 = .ok (.iload_n 2, 1) := by decide +kernel
theorem dX9_passes_25 : decode cX9_passes 25 = .ok (.iaload, 1) := by decide +kernel
theorem dX9_passes_26 : decode cX9_passes 26 = .ok (.iastore, 1) := by decide +kernel
theorem dX9_passes_27 : decode cX9_passes 27 = .ok (.goto 15, 3) := by decide +kernel
theorem dX9_passes_30 : decode cX9_passes 30 = .ok (.aload_n 1, 1) := by decide +kernel
theorem dX9_passes_31 : decode cX9_passes 31 = .ok (.iload_n 2, 1) := by decide +kernel
theorem dX9_passes_32 : decode cX9_passes 32 = .ok (.aload_n 0, 1) := by decide +kernel
theorem dX9_passes_33 : decode cX9_passes 33 = .ok (.getfield 50, 3) := by decide +kernel
theorem dX9_passes_36 : decode cX9_passes 36 = .ok (.aload_n 0, 1) := by decide +kernel
theorem dX9_passes_37 : decode cX9_passes 37 = .ok (.getfield 140, 3) := by decide +kernel
theorem dX9_passes_40 : decode cX9_passes 40 = .ok (.iaload, 1) := by decide +kernel
theorem dX9_passes_41 : decode cX9_passes 41 = .ok (.iastore, 1) := by decide +kernel
theorem dX9_passes_42 : decode cX9_passes 42 = .ok (.aload_n 0, 1) := by decide +kernel
theorem dX9_passes_43 : decode cX9_passes 43 = .ok (.dup, 1) := by decide +kernel
theorem dX9_passes_44 : decode cX9_passes 44 = .ok (.getfield 140, 3) := by decide +kernel
theorem dX9_passes_47 : decode cX9_passes 47 = .ok (.iconst 1, 1) := by decide +kernel
theorem dX9_passes_48 : decode cX9_passes 48 = .ok (.iadd, 1) := by decide +kernel
theorem dX9_passes_49 : decode cX9_passes 49 = .ok (.putfield 140, 3) := by decide +kernel
theorem dX9_passes_52 : decode cX9_passes 52 = .ok (.iinc 2 1, 3) := by decide +kernel
theorem dX9_passes_55 : decode cX9_passes 55 = .ok (.goto (-53), 3) := by decide +kernel
theorem dX9_passes_58 : decode cX9_passes 58 = .ok (.return_, 1) := by decide +kernel
def bX9_passes_2 (j : Nat) : (Int32 × Mem) → Option ((Int32 × Mem) ⊕ (Int32 × Mem))
  | (y1, m2) => (if 11 ≤ y1 then some (.inr (y1, m2)) else (if (m2.1 43 19) = 0 then chk (inb (m2.1 43 20) 200) (chk (inb y1 11) (lete (mu m2 j (Int32.toNatClampNeg y1) (m2.1 56 (Int32.toNatClampNeg (m2.1 43 20)))) (fun m5 => lete (mu m5 43 20 ((m5.1 43 20) + 1)) (fun m6 => some (.inl (y1 + 1, m6)))))) else chk (inb y1 11) (chk (inb (m2.1 43 20) 200) (lete (mu m2 56 (Int32.toNatClampNeg (m2.1 43 20)) (m2.1 j (Int32.toNatClampNeg y1))) (fun m9 => lete (mu m9 43 20 ((m9.1 43 20) + 1)) (fun m10 => some (.inl (y1 + 1, m10))))))))
def gX9_passes (F : Nat) (m : Mem) (j : Nat) : Option (Mem) := (iter F (bX9_passes_2 j) (0, m)).bind (fun e11 => some e11.2)
set_option maxHeartbeats 4000000 in
set_option maxRecDepth 20000 in
theorem LX9_passes {n : Nat} {F : Nat} {m : Mem} {j : Nat} {r : Mem} (hn64 : 64 ≤ n) (hj : isP j) (hg : gX9_passes F m j = some r) : MX yX9_passes cX9_passes 3 none { frames := 0, cells := 0, slots := 0, locals := 0 } n [.ref 43, .ref j] m (none) r := by
  refine MX_of (by decide) (Nat.le_of_ble_eq_true rfl) (Or.inl ⟨rfl, rfl⟩) (fun K hC hk hL hR => ?_)
  replace hn64 : 64 ≤ kn K := hk.symm ▸ hn64
  show RX K 0 [(0, .ref 43), (1, .ref j)] [] m
  rw [gX9_passes] at hg
  refine R_iconst (pc := 0) hC dX9_passes_0 ki_0 ?_
  refine R_istore_n (pc := 1) hC dX9_passes_1 rfl hL rfl (show _ = [(2, .int 0), (0, .ref 43), (1, .ref j)] from rfl) ?_
  refine R_pick [1, 2, 0] (ls' := [(0, .ref 43), (1, .ref j), (2, .int 0)]) rfl ?_
  obtain ⟨e11, he11, hg⟩ := bind_some hg
  refine iter_walk (P := fun s : (Int32 × Mem) => RX K 2 [(0, .ref 43), (1, .ref j), (2, .int s.1)] [] s.2) (Qe := fun s : (Int32 × Mem) => RX K 58 [(0, .ref 43), (1, .ref j), (2, .int s.1)] [] s.2) (fun s12 o hg kL2 kE2 => ?_) _ _ _ he11 ?_
  · obtain ⟨y1, m2⟩ := s12
    rw [bX9_passes_2] at hg
    show RX K 2 [(0, .ref 43), (1, .ref j), (2, .int y1)] [] m2
    refine R_iload_n (pc := 2) hC 2 dX9_passes_2 rfl rfl ?_
    refine R_aload_n (pc := 3) hC 1 dX9_passes_3 rfl rfl ?_
    refine R_alen (pc := 4) hC j (jp hn64 hj) (lyP hj) dX9_passes_4 ?_
    show RX K 5 [(0, .ref 43), (1, .ref j), (2, .int y1)] [.int 11, .int y1] m2
    refine R_icmp_ge (tgt := 58) (pc := 5) hC dX9_passes_5 (by decide) (fun c => ?_) (fun c => ?_)
    · replace hg := (if_pos c).symm.trans hg
      refine R_pick [0, 1, 2] (ls' := [(0, .ref 43), (1, .ref j), (2, .int y1)]) rfl ?_
      have h9 := kE2 _ (Option.some.inj hg).symm
      exact h9
    · replace hg := (if_neg c).symm.trans hg
      refine R_aload_n (pc := 8) hC 0 dX9_passes_8 rfl rfl ?_
      refine gf_X9_136 (pc := 9) hC hn64 dX9_passes_9 ?_
      refine R_if_eq (tgt := 30) (pc := 12) hC dX9_passes_12 (by decide) (fun c => ?_) (fun c => ?_)
      · replace hg := (if_pos c).symm.trans hg
        refine R_aload_n (pc := 30) hC 1 dX9_passes_30 rfl rfl ?_
        refine R_iload_n (pc := 31) hC 2 dX9_passes_31 rfl rfl ?_
        refine R_aload_n (pc := 32) hC 0 dX9_passes_32 rfl rfl ?_
        refine gf_X9_50 (pc := 33) hC hn64 dX9_passes_33 ?_
        refine R_aload_n (pc := 36) hC 0 dX9_passes_36 rfl rfl ?_
        refine gf_X9_140 (pc := 37) hC hn64 dX9_passes_37 ?_
        obtain ⟨c3, hg⟩ := chk_some hg
        refine R_iaload (pc := 40) hC 56 (jx hn64 rfl) ly56 (inb_vp c3) dX9_passes_40 ?_
        obtain ⟨c4, hg⟩ := chk_some hg
        obtain ⟨m5, hm5, hg⟩ := lete_some hg
        refine R_iastore (pc := 41) hC j (jp hn64 hj) (lyP hj) (inb_vp c4) dX9_passes_41 ?_
        refine R_mem hm5 ?_
        refine R_aload_n (pc := 42) hC 0 dX9_passes_42 rfl rfl ?_
        refine R_dup (pc := 43) hC dX9_passes_43 rfl ?_
        refine gf_X9_140 (pc := 44) hC hn64 dX9_passes_44 ?_
        refine R_iconst (pc := 47) hC dX9_passes_47 ki_1 ?_
        refine R_iadd (pc := 48) hC dX9_passes_48 ?_
        obtain ⟨m6, hm6, hg⟩ := lete_some hg
        refine pf_X9_140 (pc := 49) hC hn64 dX9_passes_49 ?_
        refine R_mem hm6 ?_
        refine R_iinc (pc := 52) hC 2 dX9_passes_52 rfl (iv ki_1) hL rfl (show _ = [(2, .int (y1 + 1)), (0, .ref 43), (1, .ref j)] from rfl) ?_
        refine R_goto (tgt := 2) (pc := 55) hC dX9_passes_55 (by decide) ?_
        refine R_pick [1, 2, 0] (ls' := [(0, .ref 43), (1, .ref j), (2, .int (y1 + 1))]) rfl ?_
        have h9 := kL2 _ (Option.some.inj hg).symm
        exact h9
      · replace hg := (if_neg c).symm.trans hg
        refine R_aload_n (pc := 15) hC 0 dX9_passes_15 rfl rfl ?_
        refine gf_X9_50 (pc := 16) hC hn64 dX9_passes_16 ?_
        refine R_aload_n (pc := 19) hC 0 dX9_passes_19 rfl rfl ?_
        refine gf_X9_140 (pc := 20) hC hn64 dX9_passes_20 ?_
        refine R_aload_n (pc := 23) hC 1 dX9_passes_23 rfl rfl ?_
        refine R_iload_n (pc := 24) hC 2 dX9_passes_24 rfl rfl ?_
        obtain ⟨c7, hg⟩ := chk_some hg
        refine R_iaload (pc := 25) hC j (jp hn64 hj) (lyP hj) (inb_vp c7) dX9_passes_25 ?_
        obtain ⟨c8, hg⟩ := chk_some hg
        obtain ⟨m9, hm9, hg⟩ := lete_some hg
        refine R_iastore (pc := 26) hC 56 (jx hn64 rfl) ly56 (inb_vp c8) dX9_passes_26 ?_
        refine R_mem hm9 ?_
        refine R_goto (tgt := 42) (pc := 27) hC dX9_passes_27 (by decide) ?_
        refine R_aload_n (pc := 42) hC 0 dX9_passes_42 rfl rfl ?_
        refine R_dup (pc := 43) hC dX9_passes_43 rfl ?_
        refine gf_X9_140 (pc := 44) hC hn64 dX9_passes_44 ?_
        refine R_iconst (pc := 47) hC dX9_passes_47 ki_1 ?_
        refine R_iadd (pc := 48) hC dX9_passes_48 ?_
        obtain ⟨m10, hm10, hg⟩ := lete_some hg
        refine pf_X9_140 (pc := 49) hC hn64 dX9_passes_49 ?_
        refine R_mem hm10 ?_
        refine R_iinc (pc := 52) hC 2 dX9_passes_52 rfl (iv ki_1) hL rfl (show _ = [(2, .int (y1 + 1)), (0, .ref 43), (1, .ref j)] from rfl) ?_
        refine R_goto (tgt := 2) (pc := 55) hC dX9_passes_55 (by decide) ?_
        refine R_pick [1, 2, 0] (ls' := [(0, .ref 43), (1, .ref j), (2, .int (y1 + 1))]) rfl ?_
        have h9 := kL2 _ (Option.some.inj hg).symm
        exact h9
  · show RX K 58 [(0, .ref 43), (1, .ref j), (2, .int e11.1)] [] e11.2
    have h9 := gxV hg
    exact R_return (pc := 58) hC dX9_passes_58 h9
theorem dX9_passOne_0 : decode cX9_passOne 0 = .ok (.aload_n 0, 1) := by decide +kernel
theorem dX9_passOne_1 : decode cX9_passOne 1 = .ok (.getfield 136, 3) := by decide +kernel
theorem dX9_passOne_4 : decode cX9_passOne 4 = .ok (.ifCond .eq 7, 3) := by decide +kernel
theorem dX9_passOne_7 : decode cX9_passOne 7 = .ok (.iload_n 1, 1) := by decide +kernel
theorem dX9_passOne_8 : decode cX9_passOne 8 = .ok (.goto 12, 3) := by decide +kernel
theorem dX9_passOne_11 : decode cX9_passOne 11 = .ok (.aload_n 0, 1) := by decide +kernel
theorem dX9_passOne_12 : decode cX9_passOne 12 = .ok (.getfield 50, 3) := by decide +kernel
theorem dX9_passOne_15 : decode cX9_passOne 15 = .ok (.aload_n 0, 1) := by decide +kernel
theorem dX9_passOne_16 : decode cX9_passOne 16 = .ok (.getfield 140, 3) := by decide +kernel
theorem dX9_passOne_19 : decode cX9_passOne 19 = .ok (.iaload, 1) := by decide +kernel
theorem dX9_passOne_20 : decode cX9_passOne 20 = .ok (.istore_n 2, 1) := by decide +kernel
theorem dX9_passOne_21 : decode cX9_passOne 21 = .ok (.aload_n 0, 1) := by decide +kernel
theorem dX9_passOne_22 : decode cX9_passOne 22 = .ok (.getfield 136, 3) := by decide +kernel
theorem dX9_passOne_25 : decode cX9_passOne 25 = .ok (.ifCond .eq 13, 3) := by decide +kernel
theorem dX9_passOne_28 : decode cX9_passOne 28 = .ok (.aload_n 0, 1) := by decide +kernel
theorem dX9_passOne_29 : decode cX9_passOne 29 = .ok (.getfield 50, 3) := by decide +kernel
theorem dX9_passOne_32 : decode cX9_passOne 32 = .ok (.aload_n 0, 1) := by decide +kernel
theorem dX9_passOne_33 : decode cX9_passOne 33 = .ok (.getfield 140, 3) := by decide +kernel
theorem dX9_passOne_36 : decode cX9_passOne 36 = .ok (.iload_n 1, 1) := by decide +kernel
theorem dX9_passOne_37 : decode cX9_passOne 37 = .ok (.iastore, 1) := by decide +kernel
theorem dX9_passOne_38 : decode cX9_passOne 38 = .ok (.aload_n 0, 1) := by decide +kernel
theorem dX9_passOne_39 : decode cX9_passOne 39 = .ok (.dup, 1) := by decide +kernel
theorem dX9_passOne_40 : decode cX9_passOne 40 = .ok (.getfield 140, 3) := by decide +kernel
theorem dX9_passOne_43 : decode cX9_passOne 43 = .ok (.iconst 1, 1) := by decide +kernel
theorem dX9_passOne_44 : decode cX9_passOne 44 = .ok (.iadd, 1) := by decide +kernel
theorem dX9_passOne_45 : decode cX9_passOne 45 = .ok (.putfield 140, 3) := by decide +kernel
theorem dX9_passOne_48 : decode cX9_passOne 48 = .ok (.iload_n 2, 1) := by decide +kernel
theorem dX9_passOne_49 : decode cX9_passOne 49 = .ok (.ireturn, 1) := by decide +kernel
def gX9_passOne (m : Mem) (a1 : Int32) : Option (Int32 × Mem) := (if (m.1 43 19) = 0 then chk (inb (m.1 43 20) 200) (lete (m.1 56 (Int32.toNatClampNeg (m.1 43 20))) (fun x2 => (if (m.1 43 19) = 0 then lete (mu m 43 20 ((m.1 43 20) + 1)) (fun m3 => some (x2, m3)) else chk (inb (m.1 43 20) 200) (lete (mu m 56 (Int32.toNatClampNeg (m.1 43 20)) a1) (fun m5 => lete (mu m5 43 20 ((m5.1 43 20) + 1)) (fun m6 => some (x2, m6))))))) else (if (m.1 43 19) = 0 then lete (mu m 43 20 ((m.1 43 20) + 1)) (fun m7 => some (a1, m7)) else chk (inb (m.1 43 20) 200) (lete (mu m 56 (Int32.toNatClampNeg (m.1 43 20)) a1) (fun m9 => lete (mu m9 43 20 ((m9.1 43 20) + 1)) (fun m10 => some (a1, m10))))))
set_option maxHeartbeats 4000000 in
set_option maxRecDepth 20000 in
theorem LX9_passOne {n : Nat} {m : Mem} {a1 : Int32} {r : Int32 × Mem} (hn64 : 64 ≤ n) (hg : gX9_passOne m a1 = some r) : MX yX9_passOne cX9_passOne 3 (some .int) { frames := 0, cells := 0, slots := 0, locals := 0 } n [.ref 43, .int a1] m (some (.int r.1)) r.2 := by
  refine MX_of (by decide) (Nat.le_of_ble_eq_true rfl) (Or.inr (Or.inl ⟨rfl, _, rfl⟩)) (fun K hC hk hL hR => ?_)
  replace hn64 : 64 ≤ kn K := hk.symm ▸ hn64
  show RX K 0 [(0, .ref 43), (1, .int a1)] [] m
  rw [gX9_passOne] at hg
  refine R_aload_n (pc := 0) hC 0 dX9_passOne_0 rfl rfl ?_
  refine gf_X9_136 (pc := 1) hC hn64 dX9_passOne_1 ?_
  refine R_if_eq (tgt := 11) (pc := 4) hC dX9_passOne_4 (by decide) (fun c => ?_) (fun c => ?_)
  · replace hg := (if_pos c).symm.trans hg
    refine R_aload_n (pc := 11) hC 0 dX9_passOne_11 rfl rfl ?_
    refine gf_X9_50 (pc := 12) hC hn64 dX9_passOne_12 ?_
    refine R_aload_n (pc := 15) hC 0 dX9_passOne_15 rfl rfl ?_
    refine gf_X9_140 (pc := 16) hC hn64 dX9_passOne_16 ?_
    obtain ⟨c1, hg⟩ := chk_some hg
    refine R_iaload (pc := 19) hC 56 (jx hn64 rfl) ly56 (inb_vp c1) dX9_passOne_19 ?_
    obtain ⟨x2, hx2, hg⟩ := lete_some hg
    refine R_top hx2 ?_
    refine R_istore_n (pc := 20) hC dX9_passOne_20 rfl hL rfl (show _ = [(2, .int x2), (0, .ref 43), (1, .int a1)] from rfl) ?_
    refine R_aload_n (pc := 21) hC 1 dX9_passOne_21 rfl rfl ?_
    refine gf_X9_136 (pc := 22) hC hn64 dX9_passOne_22 ?_
    refine R_if_eq (tgt := 38) (pc := 25) hC dX9_passOne_25 (by decide) (fun c => ?_) (fun c => ?_)
    · replace hg := (if_pos c).symm.trans hg
      refine R_aload_n (pc := 38) hC 1 dX9_passOne_38 rfl rfl ?_
      refine R_dup (pc := 39) hC dX9_passOne_39 rfl ?_
      refine gf_X9_140 (pc := 40) hC hn64 dX9_passOne_40 ?_
      refine R_iconst (pc := 43) hC dX9_passOne_43 ki_1 ?_
      refine R_iadd (pc := 44) hC dX9_passOne_44 ?_
      obtain ⟨m3, hm3, hg⟩ := lete_some hg
      refine pf_X9_140 (pc := 45) hC hn64 dX9_passOne_45 ?_
      refine R_mem hm3 ?_
      refine R_iload_n (pc := 48) hC 0 dX9_passOne_48 rfl rfl ?_
      have h9 := gxIM hg
      exact R_ireturn (pc := 49) hC dX9_passOne_49 h9
    · replace hg := (if_neg c).symm.trans hg
      refine R_aload_n (pc := 28) hC 1 dX9_passOne_28 rfl rfl ?_
      refine gf_X9_50 (pc := 29) hC hn64 dX9_passOne_29 ?_
      refine R_aload_n (pc := 32) hC 1 dX9_passOne_32 rfl rfl ?_
      refine gf_X9_140 (pc := 33) hC hn64 dX9_passOne_33 ?_
      refine R_iload_n (pc := 36) hC 2 dX9_passOne_36 rfl rfl ?_
      obtain ⟨c4, hg⟩ := chk_some hg
      obtain ⟨m5, hm5, hg⟩ := lete_some hg
      refine R_iastore (pc := 37) hC 56 (jx hn64 rfl) ly56 (inb_vp c4) dX9_passOne_37 ?_
      refine R_mem hm5 ?_
      refine R_aload_n (pc := 38) hC 1 dX9_passOne_38 rfl rfl ?_
      refine R_dup (pc := 39) hC dX9_passOne_39 rfl ?_
      refine gf_X9_140 (pc := 40) hC hn64 dX9_passOne_40 ?_
      refine R_iconst (pc := 43) hC dX9_passOne_43 ki_1 ?_
      refine R_iadd (pc := 44) hC dX9_passOne_44 ?_
      obtain ⟨m6, hm6, hg⟩ := lete_some hg
      refine pf_X9_140 (pc := 45) hC hn64 dX9_passOne_45 ?_
      refine R_mem hm6 ?_
      refine R_iload_n (pc := 48) hC 0 dX9_passOne_48 rfl rfl ?_
      have h9 := gxIM hg
      exact R_ireturn (pc := 49) hC dX9_passOne_49 h9
  · replace hg := (if_neg c).symm.trans hg
    refine R_iload_n (pc := 7) hC 1 dX9_passOne_7 rfl rfl ?_
    refine R_goto (tgt := 20) (pc := 8) hC dX9_passOne_8 (by decide) ?_
    refine R_istore_n (pc := 20) hC dX9_passOne_20 rfl hL rfl (show _ = [(2, .int a1), (0, .ref 43), (1, .int a1)] from rfl) ?_
    refine R_aload_n (pc := 21) hC 1 dX9_passOne_21 rfl rfl ?_
    refine gf_X9_136 (pc := 22) hC hn64 dX9_passOne_22 ?_
    refine R_if_eq (tgt := 38) (pc := 25) hC dX9_passOne_25 (by decide) (fun c => ?_) (fun c => ?_)
    · replace hg := (if_pos c).symm.trans hg
      refine R_aload_n (pc := 38) hC 1 dX9_passOne_38 rfl rfl ?_
      refine R_dup (pc := 39) hC dX9_passOne_39 rfl ?_
      refine gf_X9_140 (pc := 40) hC hn64 dX9_passOne_40 ?_
      refine R_iconst (pc := 43) hC dX9_passOne_43 ki_1 ?_
      refine R_iadd (pc := 44) hC dX9_passOne_44 ?_
      obtain ⟨m7, hm7, hg⟩ := lete_some hg
      refine pf_X9_140 (pc := 45) hC hn64 dX9_passOne_45 ?_
      refine R_mem hm7 ?_
      refine R_iload_n (pc := 48) hC 0 dX9_passOne_48 rfl rfl ?_
      have h9 := gxIM hg
      exact R_ireturn (pc := 49) hC dX9_passOne_49 h9
    · replace hg := (if_neg c).symm.trans hg
      refine R_aload_n (pc := 28) hC 1 dX9_passOne_28 rfl rfl ?_
      refine gf_X9_50 (pc := 29) hC hn64 dX9_passOne_29 ?_
      refine R_aload_n (pc := 32) hC 1 dX9_passOne_32 rfl rfl ?_
      refine gf_X9_140 (pc := 33) hC hn64 dX9_passOne_33 ?_
      refine R_iload_n (pc := 36) hC 2 dX9_passOne_36 rfl rfl ?_
      obtain ⟨c8, hg⟩ := chk_some hg
      obtain ⟨m9, hm9, hg⟩ := lete_some hg
      refine R_iastore (pc := 37) hC 56 (jx hn64 rfl) ly56 (inb_vp c8) dX9_passOne_37 ?_
      refine R_mem hm9 ?_
      refine R_aload_n (pc := 38) hC 1 dX9_passOne_38 rfl rfl ?_
      refine R_dup (pc := 39) hC dX9_passOne_39 rfl ?_
      refine gf_X9_140 (pc := 40) hC hn64 dX9_passOne_40 ?_
      refine R_iconst (pc := 43) hC dX9_passOne_43 ki_1 ?_
      refine R_iadd (pc := 44) hC dX9_passOne_44 ?_
      obtain ⟨m10, hm10, hg⟩ := lete_some hg
      refine pf_X9_140 (pc := 45) hC hn64 dX9_passOne_45 ?_
      refine R_mem hm10 ?_
      refine R_iload_n (pc := 48) hC 0 dX9_passOne_48 rfl rfl ?_
      have h9 := gxIM hg
      exact R_ireturn (pc := 49) hC dX9_passOne_49 h9
theorem dX9_passesAll_0 : decode cX9_passesAll 0 = .ok (.aload_n 0, 1) := by decide +kernel
theorem dX9_passesAll_1 : decode cX9_passesAll 1 = .ok (.bipush 100, 2) := by decide +kernel
theorem dX9_passesAll_3 : decode cX9_passesAll 3 = .ok (.iload_n 1, 1) := by decide +kernel
theorem dX9_passesAll_4 : decode cX9_passesAll 4 = .ok (.imul, 1) := by decide +kernel
theorem dX9_passesAll_5 : decode cX9_passesAll 5 = .ok (.putfield 140, 3) := by decide +kernel
theorem dX9_passesAll_8 : decode cX9_passesAll 8 = .ok (.aload_n 0, 1) := by decide +kernel
theorem dX9_passesAll_9 : decode cX9_passesAll 9 = .ok (.iload_n 2, 1) := by decide +kernel
theorem dX9_passesAll_10 : decode cX9_passesAll 10 = .ok (.putfield 136, 3) := by decide +kernel
theorem dX9_passesAll_13 : decode cX9_passesAll 13 = .ok (.aload_n 0, 1) := by decide +kernel
theorem dX9_passesAll_14 : decode cX9_passesAll 14 = .ok (.aload_n 0, 1) := by decide +kernel
theorem dX9_passesAll_15 : decode cX9_passesAll 15 = .ok (.getfield 13, 3) := by decide +kernel
theorem dX9_passesAll_18 : decode cX9_passesAll 18 = .ok (.invokevirtual 143, 3) := by decide +kernel
theorem dX9_passesAll_21 : decode cX9_passesAll 21 = .ok (.aload_n 0, 1) := by decide +kernel
theorem dX9_passesAll_22 : decode cX9_passesAll 22 = .ok (.aload_n 0, 1) := by decide +kernel
theorem dX9_passesAll_23 : decode cX9_passesAll 23 = .ok (.getfield 16, 3) := by decide +kernel
theorem dX9_passesAll_26 : decode cX9_passesAll 26 = .ok (.invokevirtual 143, 3) := by decide +kernel
theorem dX9_passesAll_29 : decode cX9_passesAll 29 = .ok (.aload_n 0, 1) := by decide +kernel
theorem dX9_passesAll_30 : decode cX9_passesAll 30 = .ok (.aload_n 0, 1) := by decide +kernel
theorem dX9_passesAll_31 : decode cX9_passesAll 31 = .ok (.getfield 19, 3) := by decide +kernel
theorem dX9_passesAll_34 : decode cX9_passesAll 34 = .ok (.invokevirtual 143, 3) := by decide +kernel
theorem dX9_passesAll_37 : decode cX9_passesAll 37 = .ok (.aload_n 0, 1) := by decide +kernel
theorem dX9_passesAll_38 : decode cX9_passesAll 38 = .ok (.aload_n 0, 1) := by decide +kernel
theorem dX9_passesAll_39 : decode cX9_passesAll 39 = .ok (.getfield 22, 3) := by decide +kernel
theorem dX9_passesAll_42 : decode cX9_passesAll 42 = .ok (.invokevirtual 143, 3) := by decide +kernel
theorem dX9_passesAll_45 : decode cX9_passesAll 45 = .ok (.aload_n 0, 1) := by decide +kernel
theorem dX9_passesAll_46 : decode cX9_passesAll 46 = .ok (.aload_n 0, 1) := by decide +kernel
theorem dX9_passesAll_47 : decode cX9_passesAll 47 = .ok (.getfield 25, 3) := by decide +kernel
theorem dX9_passesAll_50 : decode cX9_passesAll 50 = .ok (.invokevirtual 143, 3) := by decide +kernel
theorem dX9_passesAll_53 : decode cX9_passesAll 53 = .ok (.aload_n 0, 1) := by decide +kernel
theorem dX9_passesAll_54 : decode cX9_passesAll 54 = .ok (.aload_n 0, 1) := by decide +kernel
theorem dX9_passesAll_55 : decode cX9_passesAll 55 = .ok (.getfield 28, 3) := by decide +kernel
theorem dX9_passesAll_58 : decode cX9_passesAll 58 = .ok (.invokevirtual 143, 3) := by decide +kernel
theorem dX9_passesAll_61 : decode cX9_passesAll 61 = .ok (.aload_n 0, 1) := by decide +kernel
theorem dX9_passesAll_62 : decode cX9_passesAll 62 = .ok (.aload_n 0, 1) := by decide +kernel
theorem dX9_passesAll_63 : decode cX9_passesAll 63 = .ok (.getfield 31, 3) := by decide +kernel
theorem dX9_passesAll_66 : decode cX9_passesAll 66 = .ok (.invokevirtual 143, 3) := by decide +kernel
theorem dX9_passesAll_69 : decode cX9_passesAll 69 = .ok (.aload_n 0, 1) := by decide +kernel
theorem dX9_passesAll_70 : decode cX9_passesAll 70 = .ok (.aload_n 0, 1) := by decide +kernel
theorem dX9_passesAll_71 : decode cX9_passesAll 71 = .ok (.aload_n 0, 1) := by decide +kernel
theorem dX9_passesAll_72 : decode cX9_passesAll 72 = .ok (.getfield 34, 3) := by decide +kernel
theorem dX9_passesAll_75 : decode cX9_passesAll 75 = .ok (.invokevirtual 147, 3) := by decide +kernel
theorem dX9_passesAll_78 : decode cX9_passesAll 78 = .ok (.putfield 34, 3) := by decide +kernel
theorem dX9_passesAll_81 : decode cX9_passesAll 81 = .ok (.aload_n 0, 1) := by decide +kernel
theorem dX9_passesAll_82 : decode cX9_passesAll 82 = .ok (.aload_n 0, 1) := by decide +kernel
theorem dX9_passesAll_83 : decode cX9_passesAll 83 = .ok (.aload_n 0, 1) := by decide +kernel
theorem dX9_passesAll_84 : decode cX9_passesAll 84 = .ok (.getfield 77, 3) := by decide +kernel
theorem dX9_passesAll_87 : decode cX9_passesAll 87 = .ok (.invokevirtual 147, 3) := by decide +kernel
theorem dX9_passesAll_90 : decode cX9_passesAll 90 = .ok (.putfield 77, 3) := by decide +kernel
theorem dX9_passesAll_93 : decode cX9_passesAll 93 = .ok (.return_, 1) := by decide +kernel
def gX9_passesAll (F : Nat) (m : Mem) (a1 : Int32) (a2 : Bool) : Option (Mem) := lete (mu m 43 20 (100 * a1)) (fun m1 => lete (mu m1 43 19 (b2i a2)) (fun m2 => (gX9_passes F m2 45).bind (fun q3 => (gX9_passes F q3 46).bind (fun q4 => (gX9_passes F q4 47).bind (fun q5 => (gX9_passes F q5 48).bind (fun q6 => (gX9_passes F q6 49).bind (fun q7 => (gX9_passes F q7 50).bind (fun q8 => (gX9_passes F q8 51).bind (fun q9 => (gX9_passOne q9 (q9.1 43 8)).bind (fun q10 => lete (mu q10.2 43 8 q10.1) (fun m11 => (gX9_passOne m11 (m11.1 43 9)).bind (fun q12 => lete (mu q12.2 43 9 q12.1) (fun m13 => some m13)))))))))))))
set_option maxHeartbeats 4000000 in
set_option maxRecDepth 20000 in
theorem LX9_passesAll {n : Nat} {F : Nat} {m : Mem} {a1 : Int32} {a2 : Bool} {r : Mem} (hn64 : 64 ≤ n) (hg : gX9_passesAll F m a1 a2 = some r) : MX yX9_passesAll cX9_passesAll 3 none { frames := 1, cells := 0, slots := 0, locals := 22 } n [.ref 43, .int a1, .int (b2i a2)] m (none) r := by
  refine MX_of (by decide) (Nat.le_of_ble_eq_true rfl) (Or.inl ⟨rfl, rfl⟩) (fun K hC hk hL hR => ?_)
  replace hn64 : 64 ≤ kn K := hk.symm ▸ hn64
  show RX K 0 [(0, .ref 43), (1, .int a1), (2, .int (b2i a2))] [] m
  rw [gX9_passesAll] at hg
  refine R_aload_n (pc := 0) hC 0 dX9_passesAll_0 rfl rfl ?_
  refine R_bipush (pc := 1) hC dX9_passesAll_1 kb_100 ?_
  refine R_iload_n (pc := 3) hC 1 dX9_passesAll_3 rfl rfl ?_
  refine R_imul (pc := 4) hC dX9_passesAll_4 ?_
  obtain ⟨m1, hm1, hg⟩ := lete_some hg
  refine pf_X9_140 (pc := 5) hC hn64 dX9_passesAll_5 ?_
  refine R_mem hm1 ?_
  refine R_aload_n (pc := 8) hC 0 dX9_passesAll_8 rfl rfl ?_
  refine R_iload_n (pc := 9) hC 2 dX9_passesAll_9 rfl rfl ?_
  obtain ⟨m2, hm2, hg⟩ := lete_some hg
  refine pf_X9_136 (pc := 10) hC hn64 (nb1 a2) (nb2 a2) dX9_passesAll_10 ?_
  refine R_mem hm2 ?_
  refine R_aload_n (pc := 13) hC 0 dX9_passesAll_13 rfl rfl ?_
  refine R_aload_n (pc := 14) hC 0 dX9_passesAll_14 rfl rfl ?_
  refine gf_X9_13 (pc := 15) hC hn64 dX9_passesAll_15 ?_
  obtain ⟨q3, hq3, hg⟩ := bind_some hg
  refine R_callV (pc := 18) (av := [.ref 45]) (rest := []) hC hR 43 (jx hn64 rfl) ly43 rfl mf_X9_passes wm_X9_143 (LX9_passes hn64 ⟨Nat.le_of_ble_eq_true rfl, Nat.le_of_ble_eq_true rfl⟩ hq3) rfl rfl rfl (Nat.le_of_ble_eq_true rfl) dX9_passesAll_18 rfl ?_
  show RX K 21 [(0, .ref 43), (1, .int a1), (2, .int (b2i a2))] [] q3
  refine R_aload_n (pc := 21) hC 0 dX9_passesAll_21 rfl rfl ?_
  refine R_aload_n (pc := 22) hC 0 dX9_passesAll_22 rfl rfl ?_
  refine gf_X9_16 (pc := 23) hC hn64 dX9_passesAll_23 ?_
  obtain ⟨q4, hq4, hg⟩ := bind_some hg
  refine R_callV (pc := 26) (av := [.ref 46]) (rest := []) hC hR 43 (jx hn64 rfl) ly43 rfl mf_X9_passes wm_X9_143 (LX9_passes hn64 ⟨Nat.le_of_ble_eq_true rfl, Nat.le_of_ble_eq_true rfl⟩ hq4) rfl rfl rfl (Nat.le_of_ble_eq_true rfl) dX9_passesAll_26 rfl ?_
  show RX K 29 [(0, .ref 43), (1, .int a1), (2, .int (b2i a2))] [] q4
  refine R_aload_n (pc := 29) hC 0 dX9_passesAll_29 rfl rfl ?_
  refine R_aload_n (pc := 30) hC 0 dX9_passesAll_30 rfl rfl ?_
  refine gf_X9_19 (pc := 31) hC hn64 dX9_passesAll_31 ?_
  obtain ⟨q5, hq5, hg⟩ := bind_some hg
  refine R_callV (pc := 34) (av := [.ref 47]) (rest := []) hC hR 43 (jx hn64 rfl) ly43 rfl mf_X9_passes wm_X9_143 (LX9_passes hn64 ⟨Nat.le_of_ble_eq_true rfl, Nat.le_of_ble_eq_true rfl⟩ hq5) rfl rfl rfl (Nat.le_of_ble_eq_true rfl) dX9_passesAll_34 rfl ?_
  show RX K 37 [(0, .ref 43), (1, .int a1), (2, .int (b2i a2))] [] q5
  refine R_aload_n (pc := 37) hC 0 dX9_passesAll_37 rfl rfl ?_
  refine R_aload_n (pc := 38) hC 0 dX9_passesAll_38 rfl rfl ?_
  refine gf_X9_22 (pc := 39) hC hn64 dX9_passesAll_39 ?_
  obtain ⟨q6, hq6, hg⟩ := bind_some hg
  refine R_callV (pc := 42) (av := [.ref 48]) (rest := []) hC hR 43 (jx hn64 rfl) ly43 rfl mf_X9_passes wm_X9_143 (LX9_passes hn64 ⟨Nat.le_of_ble_eq_true rfl, Nat.le_of_ble_eq_true rfl⟩ hq6) rfl rfl rfl (Nat.le_of_ble_eq_true rfl) dX9_passesAll_42 rfl ?_
  show RX K 45 [(0, .ref 43), (1, .int a1), (2, .int (b2i a2))] [] q6
  refine R_aload_n (pc := 45) hC 0 dX9_passesAll_45 rfl rfl ?_
  refine R_aload_n (pc := 46) hC 0 dX9_passesAll_46 rfl rfl ?_
  refine gf_X9_25 (pc := 47) hC hn64 dX9_passesAll_47 ?_
  obtain ⟨q7, hq7, hg⟩ := bind_some hg
  refine R_callV (pc := 50) (av := [.ref 49]) (rest := []) hC hR 43 (jx hn64 rfl) ly43 rfl mf_X9_passes wm_X9_143 (LX9_passes hn64 ⟨Nat.le_of_ble_eq_true rfl, Nat.le_of_ble_eq_true rfl⟩ hq7) rfl rfl rfl (Nat.le_of_ble_eq_true rfl) dX9_passesAll_50 rfl ?_
  show RX K 53 [(0, .ref 43), (1, .int a1), (2, .int (b2i a2))] [] q7
  refine R_aload_n (pc := 53) hC 0 dX9_passesAll_53 rfl rfl ?_
  refine R_aload_n (pc := 54) hC 0 dX9_passesAll_54 rfl rfl ?_
  refine gf_X9_28 (pc := 55) hC hn64 dX9_passesAll_55 ?_
  obtain ⟨q8, hq8, hg⟩ := bind_some hg
  refine R_callV (pc := 58) (av := [.ref 50]) (rest := []) hC hR 43 (jx hn64 rfl) ly43 rfl mf_X9_passes wm_X9_143 (LX9_passes hn64 ⟨Nat.le_of_ble_eq_true rfl, Nat.le_of_ble_eq_true rfl⟩ hq8) rfl rfl rfl (Nat.le_of_ble_eq_true rfl) dX9_passesAll_58 rfl ?_
  show RX K 61 [(0, .ref 43), (1, .int a1), (2, .int (b2i a2))] [] q8
  refine R_aload_n (pc := 61) hC 0 dX9_passesAll_61 rfl rfl ?_
  refine R_aload_n (pc := 62) hC 0 dX9_passesAll_62 rfl rfl ?_
  refine gf_X9_31 (pc := 63) hC hn64 dX9_passesAll_63 ?_
  obtain ⟨q9, hq9, hg⟩ := bind_some hg
  refine R_callV (pc := 66) (av := [.ref 51]) (rest := []) hC hR 43 (jx hn64 rfl) ly43 rfl mf_X9_passes wm_X9_143 (LX9_passes hn64 ⟨Nat.le_of_ble_eq_true rfl, Nat.le_of_ble_eq_true rfl⟩ hq9) rfl rfl rfl (Nat.le_of_ble_eq_true rfl) dX9_passesAll_66 rfl ?_
  show RX K 69 [(0, .ref 43), (1, .int a1), (2, .int (b2i a2))] [] q9
  refine R_aload_n (pc := 69) hC 0 dX9_passesAll_69 rfl rfl ?_
  refine R_aload_n (pc := 70) hC 0 dX9_passesAll_70 rfl rfl ?_
  refine R_aload_n (pc := 71) hC 0 dX9_passesAll_71 rfl rfl ?_
  refine gf_X9_34 (pc := 72) hC hn64 dX9_passesAll_72 ?_
  obtain ⟨q10, hq10, hg⟩ := bind_some hg
  refine R_callV (pc := 75) (av := [.int (q9.1 43 8)]) (rest := [.ref 43]) hC hR 43 (jx hn64 rfl) ly43 rfl mf_X9_passOne wm_X9_147 (LX9_passOne hn64 hq10) rfl rfl rfl (Nat.le_of_ble_eq_true rfl) dX9_passesAll_75 rfl ?_
  show RX K 78 [(0, .ref 43), (1, .int a1), (2, .int (b2i a2))] [.int q10.1, .ref 43] q10.2
  obtain ⟨m11, hm11, hg⟩ := lete_some hg
  refine pf_X9_34 (pc := 78) hC hn64 dX9_passesAll_78 ?_
  refine R_mem hm11 ?_
  refine R_aload_n (pc := 81) hC 0 dX9_passesAll_81 rfl rfl ?_
  refine R_aload_n (pc := 82) hC 0 dX9_passesAll_82 rfl rfl ?_
  refine R_aload_n (pc := 83) hC 0 dX9_passesAll_83 rfl rfl ?_
  refine gf_X9_77 (pc := 84) hC hn64 dX9_passesAll_84 ?_
  obtain ⟨q12, hq12, hg⟩ := bind_some hg
  refine R_callV (pc := 87) (av := [.int (m11.1 43 9)]) (rest := [.ref 43]) hC hR 43 (jx hn64 rfl) ly43 rfl mf_X9_passOne wm_X9_147 (LX9_passOne hn64 hq12) rfl rfl rfl (Nat.le_of_ble_eq_true rfl) dX9_passesAll_87 rfl ?_
  show RX K 90 [(0, .ref 43), (1, .int a1), (2, .int (b2i a2))] [.int q12.1, .ref 43] q12.2
  obtain ⟨m13, hm13, hg⟩ := lete_some hg
  refine pf_X9_77 (pc := 90) hC hn64 dX9_passesAll_90 ?_
  refine R_mem hm13 ?_
  have h9 := gxV hg
  exact R_return (pc := 93) hC dX9_passesAll_93 h9
theorem dX9_village_0 : decode cX9_village 0 = .ok (.aload_n 0, 1) := by decide +kernel
theorem dX9_village_1 : decode cX9_village 1 = .ok (.iconst 0, 1) := by decide +kernel
theorem dX9_village_2 : decode cX9_village 2 = .ok (.putfield 91, 3) := by decide +kernel
theorem dX9_village_5 : decode cX9_village 5 = .ok (.aload_n 0, 1) := by decide +kernel
theorem dX9_village_6 : decode cX9_village 6 = .ok (.iconst 0, 1) := by decide +kernel
theorem dX9_village_7 : decode cX9_village 7 = .ok (.putfield 102, 3) := by decide +kernel
theorem dX9_village_10 : decode cX9_village 10 = .ok (.iconst 1, 1) := by decide +kernel
theorem dX9_village_11 : decode cX9_village 11 = .ok (.istore_n 1, 1) := by decide +kernel
theorem dX9_village_12 : decode cX9_village 12 = .ok (.iload_n 1, 1) := by decide +kernel
theorem dX9_village_13 : decode cX9_village 13 = .ok (.ifCond .eq 47, 3) := by decide +kernel
theorem dX9_village_16 : decode cX9_village 16 = .ok (.aload_n 0, 1) := by decide +kernel
theorem dX9_village_17 : decode cX9_village 17 = .ok (.getfield 91, 3) := by decide +kernel
theorem dX9_village_20 : decode cX9_village 20 = .ok (.aload_n 0, 1) := by decide +kernel
theorem dX9_village_21 : decode cX9_village 21 = .ok (.getfield 84, 3) := by decide +kernel
theorem dX9_village_24 : decode cX9_village 24 = .ok (.if_icmp .lt 10, 3) := by decide +kernel
theorem dX9_village_27 : decode cX9_village 27 = .ok (.aload_n 0, 1) := by decide +kernel
theorem dX9_village_28 : decode cX9_village 28 = .ok (.getfield 102, 3) := by decide +kernel
theorem dX9_village_31 : decode cX9_village 31 = .ok (.ifCond .ne 29, 3) := by decide +kernel
theorem dX9_village_34 : decode cX9_village 34 = .ok (.aload_n 0, 1) := by decide +kernel
theorem dX9_village_35 : decode cX9_village 35 = .ok (.invokevirtual 125, 3) := by decide +kernel
theorem dX9_village_38 : decode cX9_village 38 = .ok (.istore_n 1, 1) := by decide +kernel
theorem dX9_village_39 : decode cX9_village 39 = .ok (.aload_n 0, 1) := by decide +kernel
theorem dX9_village_40 : decode cX9_village 40 = .ok (.dup, 1) := by decide +kernel
theorem dX9_village_41 : decode cX9_village 41 = .ok (.getfield 102, 3) := by decide +kernel
theorem dX9_village_44 : decode cX9_village 44 = .ok (.iload_n 1, 1) := by decide +kernel
theorem dX9_village_45 : decode cX9_village 45 = .ok (.ifCond .eq 7, 3) := by decide +kernel
theorem dX9_village_48 : decode cX9_village 48 = .ok (.iconst 1, 1) := by decide +kernel
theorem dX9_village_49 : decode cX9_village 49 = .ok (.goto 4, 3) := by decide +kernel
theorem dX9_village_52 : decode cX9_village 52 = .ok (.iconst 0, 1) := by decide +kernel
theorem dX9_village_53 : decode cX9_village 53 = .ok (.iadd, 1) := by decide +kernel
theorem dX9_village_54 : decode cX9_village 54 = .ok (.putfield 102, 3) := by decide +kernel
theorem dX9_village_57 : decode cX9_village 57 = .ok (.goto (-45), 3) := by decide +kernel
theorem dX9_village_60 : decode cX9_village 60 = .ok (.aload_n 0, 1) := by decide +kernel
theorem dX9_village_61 : decode cX9_village 61 = .ok (.iconst 0, 1) := by decide +kernel
theorem dX9_village_62 : decode cX9_village 62 = .ok (.putfield 84, 3) := by decide +kernel
theorem dX9_village_65 : decode cX9_village 65 = .ok (.iload_n 1, 1) := by decide +kernel
theorem dX9_village_66 : decode cX9_village 66 = .ok (.ifCond .ne 12, 3) := by decide +kernel
theorem dX9_village_69 : decode cX9_village 69 = .ok (.sipush (-1000), 3) := by decide +kernel
theorem dX9_village_72 : decode cX9_village 72 = .ok (.aload_n 0, 1) := by decide +kernel
theorem dX9_village_73 : decode cX9_village 73 = .ok (.getfield 91, 3) := by decide +kernel
theorem dX9_village_76 : decode cX9_village 76 = .ok (.isub, 1) := by decide +kernel
theorem dX9_village_77 : decode cX9_village 77 = .ok (.ireturn, 1) := by decide +kernel
theorem dX9_village_78 : decode cX9_village 78 = .ok (.aload_n 0, 1) := by decide +kernel
theorem dX9_village_79 : decode cX9_village 79 = .ok (.iconst 1, 1) := by decide +kernel
theorem dX9_village_80 : decode cX9_village 80 = .ok (.iconst 1, 1) := by decide +kernel
theorem dX9_village_81 : decode cX9_village 81 = .ok (.invokevirtual 129, 3) := by decide +kernel
theorem dX9_village_84 : decode cX9_village 84 = .ok (.iconst 0, 1) := by decide +kernel
theorem dX9_village_85 : decode cX9_village 85 = .ok (.istore_n 2, 1) := by decide +kernel
theorem dX9_village_86 : decode cX9_village 86 = .ok (.iload_n 2, 1) := by decide +kernel
theorem dX9_village_87 : decode cX9_village 87 = .ok (.aload_n 0, 1) := by decide +kernel
theorem dX9_village_88 : decode cX9_village 88 = .ok (.getfield 102, 3) := by decide +kernel
theorem dX9_village_91 : decode cX9_village 91 = .ok (.if_icmp .ge 37, 3) := by decide +kernel
theorem dX9_village_94 : decode cX9_village 94 = .ok (.aload_n 0, 1) := by decide +kernel
theorem dX9_village_95 : decode cX9_village 95 = .ok (.iload_n 2, 1) := by decide +kernel
theorem dX9_village_96 : decode cX9_village 96 = .ok (.invokevirtual 133, 3) := by decide +kernel
theorem dX9_village_99 : decode cX9_village 99 = .ok (.ifCond .eq 6, 3) := by decide +kernel
theorem dX9_village_102 : decode cX9_village 102 = .ok (.goto 20, 3) := by decide +kernel
theorem dX9_village_105 : decode cX9_village 105 = .ok (.aload_n 0, 1) := by decide +kernel
theorem dX9_village_106 : decode cX9_village 106 = .ok (.iconst 1, 1) := by decide +kernel
theorem dX9_village_107 : decode cX9_village 107 = .ok (.iconst 0, 1) := by decide +kernel
theorem dX9_village_108 : decode cX9_village 108 = .ok (.invokevirtual 129, 3) := by decide +kernel
theorem dX9_village_111 : decode cX9_village 111 = .ok (.sipush (-2000), 3) := by decide +kernel
theorem dX9_village_114 : decode cX9_village 114 = .ok (.aload_n 0, 1) := by decide +kernel
theorem dX9_village_115 : decode cX9_village 115 = .ok (.getfield 44, 3) := by decide +kernel
theorem dX9_village_118 : decode cX9_village 118 = .ok (.iload_n 2, 1) := by decide +kernel
theorem dX9_village_119 : decode cX9_village 119 = .ok (.iaload, 1) := by decide +kernel
theorem dX9_village_120 : decode cX9_village 120 = .ok (.isub, 1) := by decide +kernel
theorem dX9_village_121 : decode cX9_village 121 = .ok (.ireturn, 1) := by decide +kernel
theorem dX9_village_122 : decode cX9_village 122 = .ok (.iinc 2 1, 3) := by decide +kernel
theorem dX9_village_125 : decode cX9_village 125 = .ok (.goto (-39), 3) := by decide +kernel
theorem dX9_village_128 : decode cX9_village 128 = .ok (.aload_n 0, 1) := by decide +kernel
theorem dX9_village_129 : decode cX9_village 129 = .ok (.getfield 102, 3) := by decide +kernel
theorem dX9_village_132 : decode cX9_village 132 = .ok (.ireturn, 1) := by decide +kernel
def bX9_village_12 (F : Nat) : (Int32 × Mem) → Option ((Int32 × Mem) ⊕ (Int32 × Mem))
  | (y3, m4) => (if y3 = 0 then some (.inr (y3, m4)) else (if (m4.1 43 15) < (m4.1 43 14) then (gX9_statement F m4).bind (fun q5 => (if q5.1 = true then lete (mu q5.2 43 16 ((q5.2.1 43 16) + 1)) (fun m7 => some (.inl (b2i q5.1, m7))) else lete (mu q5.2 43 16 ((q5.2.1 43 16) + 0)) (fun m6 => some (.inl (b2i q5.1, m6))))) else (if (m4.1 43 16) = 0 then (gX9_statement F m4).bind (fun q8 => (if q8.1 = true then lete (mu q8.2 43 16 ((q8.2.1 43 16) + 1)) (fun m10 => some (.inl (b2i q8.1, m10))) else lete (mu q8.2 43 16 ((q8.2.1 43 16) + 0)) (fun m9 => some (.inl (b2i q8.1, m9))))) else some (.inr (y3, m4)))))
def bX9_village_86 (F : Nat) : (Int32 × Mem) → Option ((Int32 × Mem) ⊕ ((Int32 × Mem) ⊕ (Int32 × Mem)))
  | (y15, m16) => (if (m16.1 43 16) ≤ y15 then some (.inr (.inl (y15, m16))) else (gX9_comes F m16 y15).bind (fun q17 => (if q17.1 = true then some (.inl (y15 + 1, q17.2)) else (gX9_passesAll F q17.2 1 false).bind (fun q18 => chk (inb y15 36) (some (.inr (.inr ((-2000) - (q18.1 54 (Int32.toNatClampNeg y15)), q18))))))))
def gX9_village (F : Nat) (m : Mem) : Option (Int32 × Mem) := lete (mu m 43 15 0) (fun m1 => lete (mu m1 43 16 0) (fun m2 => (iter F (bX9_village_12 F) (1, m2)).bind (fun e11 => lete (mu e11.2 43 14 0) (fun m13 => (if e11.1 = 0 then some ((-1000) - (m13.1 43 15), m13) else (gX9_passesAll F m13 1 true).bind (fun q14 => (iter F (bX9_village_86 F) (0, q14)).bind (fun e20 => Sum.elim (fun s22 => some (s22.2.1 43 16, s22.2)) (fun q => some q) e20)))))))
set_option maxHeartbeats 4000000 in
set_option maxRecDepth 20000 in
theorem LX9_village {n : Nat} {F : Nat} {m : Mem} {r : Int32 × Mem} (hn64 : 64 ≤ n) (hg : gX9_village F m  = some r) : MX yX9_village cX9_village 3 (some .int) { frames := 3, cells := 0, slots := 0, locals := 69 } n [.ref 43] m (some (.int r.1)) r.2 := by
  refine MX_of (by decide) (Nat.le_of_ble_eq_true rfl) (Or.inr (Or.inl ⟨rfl, _, rfl⟩)) (fun K hC hk hL hR => ?_)
  replace hn64 : 64 ≤ kn K := hk.symm ▸ hn64
  show RX K 0 [(0, .ref 43)] [] m
  rw [gX9_village] at hg
  refine R_aload_n (pc := 0) hC 0 dX9_village_0 rfl rfl ?_
  refine R_iconst (pc := 1) hC dX9_village_1 ki_0 ?_
  obtain ⟨m1, hm1, hg⟩ := lete_some hg
  refine pf_X9_91 (pc := 2) hC hn64 dX9_village_2 ?_
  refine R_mem hm1 ?_
  refine R_aload_n (pc := 5) hC 0 dX9_village_5 rfl rfl ?_
  refine R_iconst (pc := 6) hC dX9_village_6 ki_0 ?_
  obtain ⟨m2, hm2, hg⟩ := lete_some hg
  refine pf_X9_102 (pc := 7) hC hn64 dX9_village_7 ?_
  refine R_mem hm2 ?_
  refine R_iconst (pc := 10) hC dX9_village_10 ki_1 ?_
  refine R_istore_n (pc := 11) hC dX9_village_11 rfl hL rfl (show _ = [(1, .int 1), (0, .ref 43)] from rfl) ?_
  refine R_pick [1, 0] (ls' := [(0, .ref 43), (1, .int 1)]) rfl ?_
  obtain ⟨e11, he11, hg⟩ := bind_some hg
  refine iter_walk (P := fun s : (Int32 × Mem) => RX K 12 [(0, .ref 43), (1, .int s.1)] [] s.2) (Qe := fun s : (Int32 × Mem) => RX K 60 [(0, .ref 43), (1, .int s.1)] [] s.2) (fun s12 o hg kL12 kE12 => ?_) _ _ _ he11 ?_
  · obtain ⟨y3, m4⟩ := s12
    rw [bX9_village_12] at hg
    show RX K 12 [(0, .ref 43), (1, .int y3)] [] m4
    refine R_iload_n (pc := 12) hC 1 dX9_village_12 rfl rfl ?_
    refine R_if_eq (tgt := 60) (pc := 13) hC dX9_village_13 (by decide) (fun c => ?_) (fun c => ?_)
    · replace hg := (if_pos c).symm.trans hg
      refine R_pick [0, 1] (ls' := [(0, .ref 43), (1, .int y3)]) rfl ?_
      have h9 := kE12 _ (Option.some.inj hg).symm
      exact h9
    · replace hg := (if_neg c).symm.trans hg
      refine R_aload_n (pc := 16) hC 0 dX9_village_16 rfl rfl ?_
      refine gf_X9_91 (pc := 17) hC hn64 dX9_village_17 ?_
      refine R_aload_n (pc := 20) hC 0 dX9_village_20 rfl rfl ?_
      refine gf_X9_84 (pc := 21) hC hn64 dX9_village_21 ?_
      refine R_icmp_lt (tgt := 34) (pc := 24) hC dX9_village_24 (by decide) (fun c => ?_) (fun c => ?_)
      · replace hg := (if_pos c).symm.trans hg
        refine R_aload_n (pc := 34) hC 0 dX9_village_34 rfl rfl ?_
        obtain ⟨q5, hq5, hg⟩ := bind_some hg
        refine R_callV (pc := 35) (av := []) (rest := []) hC hR 43 (jx hn64 rfl) ly43 rfl mf_X9_statement wm_X9_125 (LX9_statement hn64 hq5) rfl rfl rfl (Nat.le_of_ble_eq_true rfl) dX9_village_35 rfl ?_
        show RX K 38 [(0, .ref 43), (1, .int y3)] [.int (b2i q5.1)] q5.2
        refine R_istore_n (pc := 38) hC dX9_village_38 rfl hL rfl (show _ = [(1, .int (b2i q5.1)), (0, .ref 43)] from rfl) ?_
        refine R_aload_n (pc := 39) hC 1 dX9_village_39 rfl rfl ?_
        refine R_dup (pc := 40) hC dX9_village_40 rfl ?_
        refine gf_X9_102 (pc := 41) hC hn64 dX9_village_41 ?_
        refine R_iload_n (pc := 44) hC 0 dX9_village_44 rfl rfl ?_
        refine R_ifB_eq (tgt := 52) (pc := 45) hC dX9_village_45 (by decide) (fun c => ?_) (fun c => ?_)
        · replace hg := (if_neg c).symm.trans hg
          refine R_iconst (pc := 52) hC dX9_village_52 ki_0 ?_
          refine R_iadd (pc := 53) hC dX9_village_53 ?_
          obtain ⟨m6, hm6, hg⟩ := lete_some hg
          refine pf_X9_102 (pc := 54) hC hn64 dX9_village_54 ?_
          refine R_mem hm6 ?_
          refine R_goto (tgt := 12) (pc := 57) hC dX9_village_57 (by decide) ?_
          refine R_pick [1, 0] (ls' := [(0, .ref 43), (1, .int (b2i q5.1))]) rfl ?_
          have h9 := kL12 _ (Option.some.inj hg).symm
          exact h9
        · replace hg := (if_pos c).symm.trans hg
          refine R_iconst (pc := 48) hC dX9_village_48 ki_1 ?_
          refine R_goto (tgt := 53) (pc := 49) hC dX9_village_49 (by decide) ?_
          refine R_iadd (pc := 53) hC dX9_village_53 ?_
          obtain ⟨m7, hm7, hg⟩ := lete_some hg
          refine pf_X9_102 (pc := 54) hC hn64 dX9_village_54 ?_
          refine R_mem hm7 ?_
          refine R_goto (tgt := 12) (pc := 57) hC dX9_village_57 (by decide) ?_
          refine R_pick [1, 0] (ls' := [(0, .ref 43), (1, .int (b2i q5.1))]) rfl ?_
          have h9 := kL12 _ (Option.some.inj hg).symm
          exact h9
      · replace hg := (if_neg c).symm.trans hg
        refine R_aload_n (pc := 27) hC 0 dX9_village_27 rfl rfl ?_
        refine gf_X9_102 (pc := 28) hC hn64 dX9_village_28 ?_
        refine R_if_ne (tgt := 60) (pc := 31) hC dX9_village_31 (by decide) (fun c => ?_) (fun c => ?_)
        · replace hg := (if_neg c).symm.trans hg
          refine R_pick [0, 1] (ls' := [(0, .ref 43), (1, .int y3)]) rfl ?_
          have h9 := kE12 _ (Option.some.inj hg).symm
          exact h9
        · replace hg := (if_pos c).symm.trans hg
          refine R_aload_n (pc := 34) hC 0 dX9_village_34 rfl rfl ?_
          obtain ⟨q8, hq8, hg⟩ := bind_some hg
          refine R_callV (pc := 35) (av := []) (rest := []) hC hR 43 (jx hn64 rfl) ly43 rfl mf_X9_statement wm_X9_125 (LX9_statement hn64 hq8) rfl rfl rfl (Nat.le_of_ble_eq_true rfl) dX9_village_35 rfl ?_
          show RX K 38 [(0, .ref 43), (1, .int y3)] [.int (b2i q8.1)] q8.2
          refine R_istore_n (pc := 38) hC dX9_village_38 rfl hL rfl (show _ = [(1, .int (b2i q8.1)), (0, .ref 43)] from rfl) ?_
          refine R_aload_n (pc := 39) hC 1 dX9_village_39 rfl rfl ?_
          refine R_dup (pc := 40) hC dX9_village_40 rfl ?_
          refine gf_X9_102 (pc := 41) hC hn64 dX9_village_41 ?_
          refine R_iload_n (pc := 44) hC 0 dX9_village_44 rfl rfl ?_
          refine R_ifB_eq (tgt := 52) (pc := 45) hC dX9_village_45 (by decide) (fun c => ?_) (fun c => ?_)
          · replace hg := (if_neg c).symm.trans hg
            refine R_iconst (pc := 52) hC dX9_village_52 ki_0 ?_
            refine R_iadd (pc := 53) hC dX9_village_53 ?_
            obtain ⟨m9, hm9, hg⟩ := lete_some hg
            refine pf_X9_102 (pc := 54) hC hn64 dX9_village_54 ?_
            refine R_mem hm9 ?_
            refine R_goto (tgt := 12) (pc := 57) hC dX9_village_57 (by decide) ?_
            refine R_pick [1, 0] (ls' := [(0, .ref 43), (1, .int (b2i q8.1))]) rfl ?_
            have h9 := kL12 _ (Option.some.inj hg).symm
            exact h9
          · replace hg := (if_pos c).symm.trans hg
            refine R_iconst (pc := 48) hC dX9_village_48 ki_1 ?_
            refine R_goto (tgt := 53) (pc := 49) hC dX9_village_49 (by decide) ?_
            refine R_iadd (pc := 53) hC dX9_village_53 ?_
            obtain ⟨m10, hm10, hg⟩ := lete_some hg
            refine pf_X9_102 (pc := 54) hC hn64 dX9_village_54 ?_
            refine R_mem hm10 ?_
            refine R_goto (tgt := 12) (pc := 57) hC dX9_village_57 (by decide) ?_
            refine R_pick [1, 0] (ls' := [(0, .ref 43), (1, .int (b2i q8.1))]) rfl ?_
            have h9 := kL12 _ (Option.some.inj hg).symm
            exact h9
  · show RX K 60 [(0, .ref 43), (1, .int e11.1)] [] e11.2
    refine R_aload_n (pc := 60) hC 0 dX9_village_60 rfl rfl ?_
    refine R_iconst (pc := 61) hC dX9_village_61 ki_0 ?_
    obtain ⟨m13, hm13, hg⟩ := lete_some hg
    refine pf_X9_84 (pc := 62) hC hn64 dX9_village_62 ?_
    refine R_mem hm13 ?_
    refine R_iload_n (pc := 65) hC 1 dX9_village_65 rfl rfl ?_
    refine R_if_ne (tgt := 78) (pc := 66) hC dX9_village_66 (by decide) (fun c => ?_) (fun c => ?_)
    · replace hg := (if_neg c).symm.trans hg
      refine R_aload_n (pc := 78) hC 0 dX9_village_78 rfl rfl ?_
      refine R_iconst (pc := 79) hC dX9_village_79 ki_1 ?_
      refine R_iconst (pc := 80) hC dX9_village_80 ki_1 ?_
      obtain ⟨q14, hq14, hg⟩ := bind_some hg
      refine R_callV (pc := 81) (av := [.int 1, .int (b2i true)]) (rest := []) hC hR 43 (jx hn64 rfl) ly43 rfl mf_X9_passesAll wm_X9_129 (LX9_passesAll hn64 hq14) rfl rfl rfl (Nat.le_of_ble_eq_true rfl) dX9_village_81 rfl ?_
      show RX K 84 [(0, .ref 43), (1, .int e11.1)] [] q14
      refine R_iconst (pc := 84) hC dX9_village_84 ki_0 ?_
      refine R_istore_n (pc := 85) hC dX9_village_85 rfl hL rfl (show _ = [(2, .int 0), (0, .ref 43), (1, .int e11.1)] from rfl) ?_
      refine R_pick [1, 2, 0] (ls' := [(0, .ref 43), (1, .int e11.1), (2, .int 0)]) rfl ?_
      obtain ⟨e20, he20, hg⟩ := bind_some hg
      refine iter_walk (P := fun s : (Int32 × Mem) => RX K 86 [(0, .ref 43), (1, .int e11.1), (2, .int s.1)] [] s.2) (Qe := Sum.elim (fun s : (Int32 × Mem) => RX K 128 [(0, .ref 43), (1, .int e11.1), (2, .int s.1)] [] s.2) (fun q : Int32 × Mem => GX (some (.int r.1)) r.2 (some (.int q.1)) q.2)) (fun s21 o hg kL86 kE86 => ?_) _ _ _ he20 ?_
      · obtain ⟨y15, m16⟩ := s21
        rw [bX9_village_86] at hg
        show RX K 86 [(0, .ref 43), (1, .int e11.1), (2, .int y15)] [] m16
        refine R_iload_n (pc := 86) hC 2 dX9_village_86 rfl rfl ?_
        refine R_aload_n (pc := 87) hC 0 dX9_village_87 rfl rfl ?_
        refine gf_X9_102 (pc := 88) hC hn64 dX9_village_88 ?_
        refine R_icmp_ge (tgt := 128) (pc := 91) hC dX9_village_91 (by decide) (fun c => ?_) (fun c => ?_)
        · replace hg := (if_pos c).symm.trans hg
          refine R_pick [0, 1, 2] (ls' := [(0, .ref 43), (1, .int e11.1), (2, .int y15)]) rfl ?_
          have h9 := kE86 _ (Option.some.inj hg).symm
          exact h9
        · replace hg := (if_neg c).symm.trans hg
          refine R_aload_n (pc := 94) hC 0 dX9_village_94 rfl rfl ?_
          refine R_iload_n (pc := 95) hC 2 dX9_village_95 rfl rfl ?_
          obtain ⟨q17, hq17, hg⟩ := bind_some hg
          refine R_callV (pc := 96) (av := [.int y15]) (rest := []) hC hR 43 (jx hn64 rfl) ly43 rfl mf_X9_comes wm_X9_133 (LX9_comes hn64 hq17) rfl rfl rfl (Nat.le_of_ble_eq_true rfl) dX9_village_96 rfl ?_
          show RX K 99 [(0, .ref 43), (1, .int e11.1), (2, .int y15)] [.int (b2i q17.1)] q17.2
          refine R_ifB_eq (tgt := 105) (pc := 99) hC dX9_village_99 (by decide) (fun c => ?_) (fun c => ?_)
          · replace hg := (if_neg c).symm.trans hg
            refine R_aload_n (pc := 105) hC 0 dX9_village_105 rfl rfl ?_
            refine R_iconst (pc := 106) hC dX9_village_106 ki_1 ?_
            refine R_iconst (pc := 107) hC dX9_village_107 ki_0 ?_
            obtain ⟨q18, hq18, hg⟩ := bind_some hg
            refine R_callV (pc := 108) (av := [.int 1, .int (b2i false)]) (rest := []) hC hR 43 (jx hn64 rfl) ly43 rfl mf_X9_passesAll wm_X9_129 (LX9_passesAll hn64 hq18) rfl rfl rfl (Nat.le_of_ble_eq_true rfl) dX9_village_108 rfl ?_
            show RX K 111 [(0, .ref 43), (1, .int e11.1), (2, .int y15)] [] q18
            refine R_sipush (pc := 111) hC dX9_village_111 ks_m2000 ?_
            refine R_aload_n (pc := 114) hC 0 dX9_village_114 rfl rfl ?_
            refine gf_X9_44 (pc := 115) hC hn64 dX9_village_115 ?_
            refine R_iload_n (pc := 118) hC 2 dX9_village_118 rfl rfl ?_
            obtain ⟨c19, hg⟩ := chk_some hg
            refine R_iaload (pc := 119) hC 54 (jx hn64 rfl) ly54 (inb_vp c19) dX9_village_119 ?_
            refine R_isub (pc := 120) hC dX9_village_120 ?_
            have h9 := kE86 _ (Option.some.inj hg).symm
            exact R_ireturn (pc := 121) hC dX9_village_121 h9
          · replace hg := (if_pos c).symm.trans hg
            refine R_goto (tgt := 122) (pc := 102) hC dX9_village_102 (by decide) ?_
            refine R_iinc (pc := 122) hC 2 dX9_village_122 rfl (iv ki_1) hL rfl (show _ = [(2, .int (y15 + 1)), (0, .ref 43), (1, .int e11.1)] from rfl) ?_
            refine R_goto (tgt := 86) (pc := 125) hC dX9_village_125 (by decide) ?_
            refine R_pick [1, 2, 0] (ls' := [(0, .ref 43), (1, .int e11.1), (2, .int (y15 + 1))]) rfl ?_
            have h9 := kL86 _ (Option.some.inj hg).symm
            exact h9
      · rcases e20 with s22 | q
        · replace hg := (Sum.elim_inl _ _ _).symm.trans hg
          show RX K 128 [(0, .ref 43), (1, .int e11.1), (2, .int s22.1)] [] s22.2
          refine R_aload_n (pc := 128) hC 0 dX9_village_128 rfl rfl ?_
          refine gf_X9_102 (pc := 129) hC hn64 dX9_village_129 ?_
          have h9 := gxIM hg
          exact R_ireturn (pc := 132) hC dX9_village_132 h9
        · replace hg := (Sum.elim_inr _ _ _).symm.trans hg
          exact gxIM hg
    · replace hg := (if_pos c).symm.trans hg
      refine R_sipush (pc := 69) hC dX9_village_69 ks_m1000 ?_
      refine R_aload_n (pc := 72) hC 0 dX9_village_72 rfl rfl ?_
      refine gf_X9_91 (pc := 73) hC hn64 dX9_village_73 ?_
      refine R_isub (pc := 76) hC dX9_village_76 ?_
      have h9 := gxIM hg
      exact R_ireturn (pc := 77) hC dX9_village_77 h9
theorem dX9_image_0 : decode cX9_image 0 = .ok (.aload_n 0, 1) := by decide +kernel
theorem dX9_image_1 : decode cX9_image 1 = .ok (.iconst 1, 1) := by decide +kernel
theorem dX9_image_2 : decode cX9_image 2 = .ok (.putfield 150, 3) := by decide +kernel
theorem dX9_image_5 : decode cX9_image 5 = .ok (.aload_n 0, 1) := by decide +kernel
theorem dX9_image_6 : decode cX9_image 6 = .ok (.iconst 0, 1) := by decide +kernel
theorem dX9_image_7 : decode cX9_image 7 = .ok (.iconst 1, 1) := by decide +kernel
theorem dX9_image_8 : decode cX9_image 8 = .ok (.invokevirtual 129, 3) := by decide +kernel
theorem dX9_image_11 : decode cX9_image 11 = .ok (.aload_n 0, 1) := by decide +kernel
theorem dX9_image_12 : decode cX9_image 12 = .ok (.getfield 77, 3) := by decide +kernel
theorem dX9_image_15 : decode cX9_image 15 = .ok (.ireturn, 1) := by decide +kernel
def gX9_image (F : Nat) (m : Mem) : Option (Int32 × Mem) := lete (mu m 43 18 1) (fun m1 => (gX9_passesAll F m1 0 true).bind (fun q2 => some (q2.1 43 9, q2)))
set_option maxHeartbeats 4000000 in
set_option maxRecDepth 20000 in
theorem LX9_image {n : Nat} {F : Nat} {m : Mem} {r : Int32 × Mem} (hn64 : 64 ≤ n) (hg : gX9_image F m  = some r) : MX yX9_image cX9_image 1 (some .int) { frames := 2, cells := 0, slots := 0, locals := 44 } n [.ref 43] m (some (.int r.1)) r.2 := by
  refine MX_of (by decide) (Nat.le_of_ble_eq_true rfl) (Or.inr (Or.inl ⟨rfl, _, rfl⟩)) (fun K hC hk hL hR => ?_)
  replace hn64 : 64 ≤ kn K := hk.symm ▸ hn64
  show RX K 0 [(0, .ref 43)] [] m
  rw [gX9_image] at hg
  refine R_aload_n (pc := 0) hC 0 dX9_image_0 rfl rfl ?_
  refine R_iconst (pc := 1) hC dX9_image_1 ki_1 ?_
  obtain ⟨m1, hm1, hg⟩ := lete_some hg
  refine pf_X9_150 (pc := 2) hC hn64 rfl rfl dX9_image_2 ?_
  refine R_mem hm1 ?_
  refine R_aload_n (pc := 5) hC 0 dX9_image_5 rfl rfl ?_
  refine R_iconst (pc := 6) hC dX9_image_6 ki_0 ?_
  refine R_iconst (pc := 7) hC dX9_image_7 ki_1 ?_
  obtain ⟨q2, hq2, hg⟩ := bind_some hg
  refine R_callV (pc := 8) (av := [.int 0, .int (b2i true)]) (rest := []) hC hR 43 (jx hn64 rfl) ly43 rfl mf_X9_passesAll wm_X9_129 (LX9_passesAll hn64 hq2) rfl rfl rfl (Nat.le_of_ble_eq_true rfl) dX9_image_8 rfl ?_
  show RX K 11 [(0, .ref 43)] [] q2
  refine R_aload_n (pc := 11) hC 0 dX9_image_11 rfl rfl ?_
  refine gf_X9_77 (pc := 12) hC hn64 dX9_image_12 ?_
  have h9 := gxIM hg
  exact R_ireturn (pc := 15) hC dX9_image_15 h9
theorem dX9_restore_0 : decode cX9_restore 0 = .ok (.aload_n 0, 1) := by decide +kernel
theorem dX9_restore_1 : decode cX9_restore 1 = .ok (.getfield 150, 3) := by decide +kernel
theorem dX9_restore_4 : decode cX9_restore 4 = .ok (.ifCond .ne 10, 3) := by decide +kernel
theorem dX9_restore_7 : decode cX9_restore 7 = .ok (.aload_n 0, 1) := by decide +kernel
theorem dX9_restore_8 : decode cX9_restore 8 = .ok (.bipush (-3), 2) := by decide +kernel
theorem dX9_restore_10 : decode cX9_restore 10 = .ok (.invokevirtual 87, 3) := by decide +kernel
theorem dX9_restore_13 : decode cX9_restore 13 = .ok (.ireturn, 1) := by decide +kernel
theorem dX9_restore_14 : decode cX9_restore 14 = .ok (.aload_n 0, 1) := by decide +kernel
theorem dX9_restore_15 : decode cX9_restore 15 = .ok (.iconst 0, 1) := by decide +kernel
theorem dX9_restore_16 : decode cX9_restore 16 = .ok (.iconst 0, 1) := by decide +kernel
theorem dX9_restore_17 : decode cX9_restore 17 = .ok (.invokevirtual 129, 3) := by decide +kernel
theorem dX9_restore_20 : decode cX9_restore 20 = .ok (.aload_n 0, 1) := by decide +kernel
theorem dX9_restore_21 : decode cX9_restore 21 = .ok (.getfield 77, 3) := by decide +kernel
theorem dX9_restore_24 : decode cX9_restore 24 = .ok (.ireturn, 1) := by decide +kernel
def gX9_restore (F : Nat) (m : Mem) : Option (Int32 × Mem) := (if (m.1 43 18) = 0 then (gX9_no m (-3)).bind (fun q2 => some (q2.1, q2.2)) else (gX9_passesAll F m 0 false).bind (fun q1 => some (q1.1 43 9, q1)))
set_option maxHeartbeats 4000000 in
set_option maxRecDepth 20000 in
theorem LX9_restore {n : Nat} {F : Nat} {m : Mem} {r : Int32 × Mem} (hn64 : 64 ≤ n) (hg : gX9_restore F m  = some r) : MX yX9_restore cX9_restore 1 (some .int) { frames := 2, cells := 0, slots := 0, locals := 44 } n [.ref 43] m (some (.int r.1)) r.2 := by
  refine MX_of (by decide) (Nat.le_of_ble_eq_true rfl) (Or.inr (Or.inl ⟨rfl, _, rfl⟩)) (fun K hC hk hL hR => ?_)
  replace hn64 : 64 ≤ kn K := hk.symm ▸ hn64
  show RX K 0 [(0, .ref 43)] [] m
  rw [gX9_restore] at hg
  refine R_aload_n (pc := 0) hC 0 dX9_restore_0 rfl rfl ?_
  refine gf_X9_150 (pc := 1) hC hn64 dX9_restore_1 ?_
  refine R_if_ne (tgt := 14) (pc := 4) hC dX9_restore_4 (by decide) (fun c => ?_) (fun c => ?_)
  · replace hg := (if_neg c).symm.trans hg
    refine R_aload_n (pc := 14) hC 0 dX9_restore_14 rfl rfl ?_
    refine R_iconst (pc := 15) hC dX9_restore_15 ki_0 ?_
    refine R_iconst (pc := 16) hC dX9_restore_16 ki_0 ?_
    obtain ⟨q1, hq1, hg⟩ := bind_some hg
    refine R_callV (pc := 17) (av := [.int 0, .int (b2i false)]) (rest := []) hC hR 43 (jx hn64 rfl) ly43 rfl mf_X9_passesAll wm_X9_129 (LX9_passesAll hn64 hq1) rfl rfl rfl (Nat.le_of_ble_eq_true rfl) dX9_restore_17 rfl ?_
    show RX K 20 [(0, .ref 43)] [] q1
    refine R_aload_n (pc := 20) hC 0 dX9_restore_20 rfl rfl ?_
    refine gf_X9_77 (pc := 21) hC hn64 dX9_restore_21 ?_
    have h9 := gxIM hg
    exact R_ireturn (pc := 24) hC dX9_restore_24 h9
  · replace hg := (if_pos c).symm.trans hg
    refine R_aload_n (pc := 7) hC 0 dX9_restore_7 rfl rfl ?_
    refine R_bipush (pc := 8) hC dX9_restore_8 kb_m3 ?_
    obtain ⟨q2, hq2, hg⟩ := bind_some hg
    refine R_callV (pc := 10) (av := [.int (-3)]) (rest := []) hC hR 43 (jx hn64 rfl) ly43 rfl mf_X9_no wm_X9_87 (LX9_no hn64 hq2) rfl rfl rfl (Nat.le_of_ble_eq_true rfl) dX9_restore_10 rfl ?_
    show RX K 13 [(0, .ref 43)] [.int q2.1] q2.2
    have h9 := gxIM hg
    exact R_ireturn (pc := 13) hC dX9_restore_13 h9
theorem dX9_weightOf_0 : decode cX9_weightOf 0 = .ok (.aload_n 0, 1) := by decide +kernel
theorem dX9_weightOf_1 : decode cX9_weightOf 1 = .ok (.getfield 13, 3) := by decide +kernel
theorem dX9_weightOf_4 : decode cX9_weightOf 4 = .ok (.iload_n 1, 1) := by decide +kernel
theorem dX9_weightOf_5 : decode cX9_weightOf 5 = .ok (.iaload, 1) := by decide +kernel
theorem dX9_weightOf_6 : decode cX9_weightOf 6 = .ok (.iconst 1, 1) := by decide +kernel
theorem dX9_weightOf_7 : decode cX9_weightOf 7 = .ok (.if_icmp .ne 14, 3) := by decide +kernel
theorem dX9_weightOf_10 : decode cX9_weightOf 10 = .ok (.iconst 2, 1) := by decide +kernel
theorem dX9_weightOf_11 : decode cX9_weightOf 11 = .ok (.aload_n 0, 1) := by decide +kernel
theorem dX9_weightOf_12 : decode cX9_weightOf 12 = .ok (.getfield 22, 3) := by decide +kernel
theorem dX9_weightOf_15 : decode cX9_weightOf 15 = .ok (.iload_n 1, 1) := by decide +kernel
theorem dX9_weightOf_16 : decode cX9_weightOf 16 = .ok (.iaload, 1) := by decide +kernel
theorem dX9_weightOf_17 : decode cX9_weightOf 17 = .ok (.imul, 1) := by decide +kernel
theorem dX9_weightOf_18 : decode cX9_weightOf 18 = .ok (.goto 32, 3) := by decide +kernel
theorem dX9_weightOf_21 : decode cX9_weightOf 21 = .ok (.aload_n 0, 1) := by decide +kernel
theorem dX9_weightOf_22 : decode cX9_weightOf 22 = .ok (.getfield 13, 3) := by decide +kernel
theorem dX9_weightOf_25 : decode cX9_weightOf 25 = .ok (.iload_n 1, 1) := by decide +kernel
theorem dX9_weightOf_26 : decode cX9_weightOf 26 = .ok (.iaload, 1) := by decide +kernel
theorem dX9_weightOf_27 : decode cX9_weightOf 27 = .ok (.iconst 5, 1) := by decide +kernel
theorem dX9_weightOf_28 : decode cX9_weightOf 28 = .ok (.if_icmp .ne 16, 3) := by decide +kernel
theorem dX9_weightOf_31 : decode cX9_weightOf 31 = .ok (.iconst 2, 1) := by decide +kernel
theorem dX9_weightOf_32 : decode cX9_weightOf 32 = .ok (.aload_n 0, 1) := by decide +kernel
theorem dX9_weightOf_33 : decode cX9_weightOf 33 = .ok (.getfield 22, 3) := by decide +kernel
theorem dX9_weightOf_36 : decode cX9_weightOf 36 = .ok (.iload_n 1, 1) := by decide +kernel
theorem dX9_weightOf_37 : decode cX9_weightOf 37 = .ok (.iaload, 1) := by decide +kernel
theorem dX9_weightOf_38 : decode cX9_weightOf 38 = .ok (.imul, 1) := by decide +kernel
theorem dX9_weightOf_39 : decode cX9_weightOf 39 = .ok (.iconst 1, 1) := by decide +kernel
theorem dX9_weightOf_40 : decode cX9_weightOf 40 = .ok (.iadd, 1) := by decide +kernel
theorem dX9_weightOf_41 : decode cX9_weightOf 41 = .ok (.goto 9, 3) := by decide +kernel
theorem dX9_weightOf_44 : decode cX9_weightOf 44 = .ok (.aload_n 0, 1) := by decide +kernel
theorem dX9_weightOf_45 : decode cX9_weightOf 45 = .ok (.getfield 22, 3) := by decide +kernel
theorem dX9_weightOf_48 : decode cX9_weightOf 48 = .ok (.iload_n 1, 1) := by decide +kernel
theorem dX9_weightOf_49 : decode cX9_weightOf 49 = .ok (.iaload, 1) := by decide +kernel
theorem dX9_weightOf_50 : decode cX9_weightOf 50 = .ok (.ireturn, 1) := by decide +kernel
def gX9_weightOf (m : Mem) (a1 : Int32) : Option (Int32) := chk (inb a1 11) ((if (m.1 45 (Int32.toNatClampNeg a1)) = 1 then chk (inb a1 11) (some (2 * (m.1 48 (Int32.toNatClampNeg a1)))) else chk (inb a1 11) ((if (m.1 45 (Int32.toNatClampNeg a1)) = 5 then chk (inb a1 11) (some ((2 * (m.1 48 (Int32.toNatClampNeg a1))) + 1)) else chk (inb a1 11) (some (m.1 48 (Int32.toNatClampNeg a1)))))))
set_option maxHeartbeats 4000000 in
set_option maxRecDepth 20000 in
theorem LX9_weightOf {n : Nat} {m : Mem} {a1 : Int32} {r : Int32} (hn64 : 64 ≤ n) (hg : gX9_weightOf m a1 = some r) : MX yX9_weightOf cX9_weightOf 2 (some .int) { frames := 0, cells := 0, slots := 0, locals := 0 } n [.ref 43, .int a1] m (some (.int r)) m := by
  refine MX_of (by decide) (Nat.le_of_ble_eq_true rfl) (Or.inr (Or.inl ⟨rfl, _, rfl⟩)) (fun K hC hk hL hR => ?_)
  replace hn64 : 64 ≤ kn K := hk.symm ▸ hn64
  show RX K 0 [(0, .ref 43), (1, .int a1)] [] m
  rw [gX9_weightOf] at hg
  refine R_aload_n (pc := 0) hC 0 dX9_weightOf_0 rfl rfl ?_
  refine gf_X9_13 (pc := 1) hC hn64 dX9_weightOf_1 ?_
  refine R_iload_n (pc := 4) hC 1 dX9_weightOf_4 rfl rfl ?_
  obtain ⟨c1, hg⟩ := chk_some hg
  refine R_iaload (pc := 5) hC 45 (jx hn64 rfl) ly45 (inb_vp c1) dX9_weightOf_5 ?_
  refine R_iconst (pc := 6) hC dX9_weightOf_6 ki_1 ?_
  refine R_icmp_ne (tgt := 21) (pc := 7) hC dX9_weightOf_7 (by decide) (fun c => ?_) (fun c => ?_)
  · replace hg := (if_neg c).symm.trans hg
    refine R_aload_n (pc := 21) hC 0 dX9_weightOf_21 rfl rfl ?_
    refine gf_X9_13 (pc := 22) hC hn64 dX9_weightOf_22 ?_
    refine R_iload_n (pc := 25) hC 1 dX9_weightOf_25 rfl rfl ?_
    obtain ⟨c2, hg⟩ := chk_some hg
    refine R_iaload (pc := 26) hC 45 (jx hn64 rfl) ly45 (inb_vp c2) dX9_weightOf_26 ?_
    refine R_iconst (pc := 27) hC dX9_weightOf_27 ki_5 ?_
    refine R_icmp_ne (tgt := 44) (pc := 28) hC dX9_weightOf_28 (by decide) (fun c => ?_) (fun c => ?_)
    · replace hg := (if_neg c).symm.trans hg
      refine R_aload_n (pc := 44) hC 0 dX9_weightOf_44 rfl rfl ?_
      refine gf_X9_22 (pc := 45) hC hn64 dX9_weightOf_45 ?_
      refine R_iload_n (pc := 48) hC 1 dX9_weightOf_48 rfl rfl ?_
      obtain ⟨c3, hg⟩ := chk_some hg
      refine R_iaload (pc := 49) hC 48 (jx hn64 rfl) ly48 (inb_vp c3) dX9_weightOf_49 ?_
      have h9 := gxI (m := m) hg
      exact R_ireturn (pc := 50) hC dX9_weightOf_50 h9
    · replace hg := (if_pos c).symm.trans hg
      refine R_iconst (pc := 31) hC dX9_weightOf_31 ki_2 ?_
      refine R_aload_n (pc := 32) hC 0 dX9_weightOf_32 rfl rfl ?_
      refine gf_X9_22 (pc := 33) hC hn64 dX9_weightOf_33 ?_
      refine R_iload_n (pc := 36) hC 1 dX9_weightOf_36 rfl rfl ?_
      obtain ⟨c4, hg⟩ := chk_some hg
      refine R_iaload (pc := 37) hC 48 (jx hn64 rfl) ly48 (inb_vp c4) dX9_weightOf_37 ?_
      refine R_imul (pc := 38) hC dX9_weightOf_38 ?_
      refine R_iconst (pc := 39) hC dX9_weightOf_39 ki_1 ?_
      refine R_iadd (pc := 40) hC dX9_weightOf_40 ?_
      refine R_goto (tgt := 50) (pc := 41) hC dX9_weightOf_41 (by decide) ?_
      have h9 := gxI (m := m) hg
      exact R_ireturn (pc := 50) hC dX9_weightOf_50 h9
  · replace hg := (if_pos c).symm.trans hg
    refine R_iconst (pc := 10) hC dX9_weightOf_10 ki_2 ?_
    refine R_aload_n (pc := 11) hC 0 dX9_weightOf_11 rfl rfl ?_
    refine gf_X9_22 (pc := 12) hC hn64 dX9_weightOf_12 ?_
    refine R_iload_n (pc := 15) hC 1 dX9_weightOf_15 rfl rfl ?_
    obtain ⟨c5, hg⟩ := chk_some hg
    refine R_iaload (pc := 16) hC 48 (jx hn64 rfl) ly48 (inb_vp c5) dX9_weightOf_16 ?_
    refine R_imul (pc := 17) hC dX9_weightOf_17 ?_
    refine R_goto (tgt := 50) (pc := 18) hC dX9_weightOf_18 (by decide) ?_
    have h9 := gxI (m := m) hg
    exact R_ireturn (pc := 50) hC dX9_weightOf_50 h9
theorem dX9_costOf_0 : decode cX9_costOf 0 = .ok (.aload_n 0, 1) := by decide +kernel
theorem dX9_costOf_1 : decode cX9_costOf 1 = .ok (.getfield 13, 3) := by decide +kernel
theorem dX9_costOf_4 : decode cX9_costOf 4 = .ok (.iload_n 1, 1) := by decide +kernel
theorem dX9_costOf_5 : decode cX9_costOf 5 = .ok (.iaload, 1) := by decide +kernel
theorem dX9_costOf_6 : decode cX9_costOf 6 = .ok (.iconst 2, 1) := by decide +kernel
theorem dX9_costOf_7 : decode cX9_costOf 7 = .ok (.if_icmp .ne 15, 3) := by decide +kernel
theorem dX9_costOf_10 : decode cX9_costOf 10 = .ok (.aload_n 0, 1) := by decide +kernel
theorem dX9_costOf_11 : decode cX9_costOf 11 = .ok (.getfield 25, 3) := by decide +kernel
theorem dX9_costOf_14 : decode cX9_costOf 14 = .ok (.iload_n 1, 1) := by decide +kernel
theorem dX9_costOf_15 : decode cX9_costOf 15 = .ok (.iaload, 1) := by decide +kernel
theorem dX9_costOf_16 : decode cX9_costOf 16 = .ok (.bipush 10, 2) := by decide +kernel
theorem dX9_costOf_18 : decode cX9_costOf 18 = .ok (.iadd, 1) := by decide +kernel
theorem dX9_costOf_19 : decode cX9_costOf 19 = .ok (.goto 54, 3) := by decide +kernel
theorem dX9_costOf_22 : decode cX9_costOf 22 = .ok (.aload_n 0, 1) := by decide +kernel
theorem dX9_costOf_23 : decode cX9_costOf 23 = .ok (.getfield 13, 3) := by decide +kernel
theorem dX9_costOf_26 : decode cX9_costOf 26 = .ok (.iload_n 1, 1) := by decide +kernel
theorem dX9_costOf_27 : decode cX9_costOf 27 = .ok (.iaload, 1) := by decide +kernel
theorem dX9_costOf_28 : decode cX9_costOf 28 = .ok (.iconst 4, 1) := by decide +kernel
theorem dX9_costOf_29 : decode cX9_costOf 29 = .ok (.if_icmp .ne 17, 3) := by decide +kernel
theorem dX9_costOf_32 : decode cX9_costOf 32 = .ok (.iconst 2, 1) := by decide +kernel
theorem dX9_costOf_33 : decode cX9_costOf 33 = .ok (.aload_n 0, 1) := by decide +kernel
theorem dX9_costOf_34 : decode cX9_costOf 34 = .ok (.getfield 25, 3) := by decide +kernel
theorem dX9_costOf_37 : decode cX9_costOf 37 = .ok (.iload_n 1, 1) := by decide +kernel
theorem dX9_costOf_38 : decode cX9_costOf 38 = .ok (.iaload, 1) := by decide +kernel
theorem dX9_costOf_39 : decode cX9_costOf 39 = .ok (.bipush 10, 2) := by decide +kernel
theorem dX9_costOf_41 : decode cX9_costOf 41 = .ok (.iadd, 1) := by decide +kernel
theorem dX9_costOf_42 : decode cX9_costOf 42 = .ok (.imul, 1) := by decide +kernel
theorem dX9_costOf_43 : decode cX9_costOf 43 = .ok (.goto 30, 3) := by decide +kernel
theorem dX9_costOf_46 : decode cX9_costOf 46 = .ok (.aload_n 0, 1) := by decide +kernel
theorem dX9_costOf_47 : decode cX9_costOf 47 = .ok (.getfield 13, 3) := by decide +kernel
theorem dX9_costOf_50 : decode cX9_costOf 50 = .ok (.iload_n 1, 1) := by decide +kernel
theorem dX9_costOf_51 : decode cX9_costOf 51 = .ok (.iaload, 1) := by decide +kernel
theorem dX9_costOf_52 : decode cX9_costOf 52 = .ok (.iconst 5, 1) := by decide +kernel
theorem dX9_costOf_53 : decode cX9_costOf 53 = .ok (.if_icmp .ne 14, 3) := by decide +kernel
theorem dX9_costOf_56 : decode cX9_costOf 56 = .ok (.aload_n 0, 1) := by decide +kernel
theorem dX9_costOf_57 : decode cX9_costOf 57 = .ok (.getfield 25, 3) := by decide +kernel
theorem dX9_costOf_60 : decode cX9_costOf 60 = .ok (.iload_n 1, 1) := by decide +kernel
theorem dX9_costOf_61 : decode cX9_costOf 61 = .ok (.iaload, 1) := by decide +kernel
theorem dX9_costOf_62 : decode cX9_costOf 62 = .ok (.iconst 2, 1) := by decide +kernel
theorem dX9_costOf_63 : decode cX9_costOf 63 = .ok (.idiv, 1) := by decide +kernel
theorem dX9_costOf_64 : decode cX9_costOf 64 = .ok (.goto 9, 3) := by decide +kernel
theorem dX9_costOf_67 : decode cX9_costOf 67 = .ok (.aload_n 0, 1) := by decide +kernel
theorem dX9_costOf_68 : decode cX9_costOf 68 = .ok (.getfield 25, 3) := by decide +kernel
theorem dX9_costOf_71 : decode cX9_costOf 71 = .ok (.iload_n 1, 1) := by decide +kernel
theorem dX9_costOf_72 : decode cX9_costOf 72 = .ok (.iaload, 1) := by decide +kernel
theorem dX9_costOf_73 : decode cX9_costOf 73 = .ok (.ireturn, 1) := by decide +kernel
def gX9_costOf (m : Mem) (a1 : Int32) : Option (Int32) := chk (inb a1 11) ((if (m.1 45 (Int32.toNatClampNeg a1)) = 2 then chk (inb a1 11) (some ((m.1 49 (Int32.toNatClampNeg a1)) + 10)) else chk (inb a1 11) ((if (m.1 45 (Int32.toNatClampNeg a1)) = 4 then chk (inb a1 11) (some (2 * ((m.1 49 (Int32.toNatClampNeg a1)) + 10))) else chk (inb a1 11) ((if (m.1 45 (Int32.toNatClampNeg a1)) = 5 then chk (inb a1 11) (some ((m.1 49 (Int32.toNatClampNeg a1)) / 2)) else chk (inb a1 11) (some (m.1 49 (Int32.toNatClampNeg a1)))))))))
set_option maxHeartbeats 4000000 in
set_option maxRecDepth 20000 in
theorem LX9_costOf {n : Nat} {m : Mem} {a1 : Int32} {r : Int32} (hn64 : 64 ≤ n) (hg : gX9_costOf m a1 = some r) : MX yX9_costOf cX9_costOf 2 (some .int) { frames := 0, cells := 0, slots := 0, locals := 0 } n [.ref 43, .int a1] m (some (.int r)) m := by
  refine MX_of (by decide) (Nat.le_of_ble_eq_true rfl) (Or.inr (Or.inl ⟨rfl, _, rfl⟩)) (fun K hC hk hL hR => ?_)
  replace hn64 : 64 ≤ kn K := hk.symm ▸ hn64
  show RX K 0 [(0, .ref 43), (1, .int a1)] [] m
  rw [gX9_costOf] at hg
  refine R_aload_n (pc := 0) hC 0 dX9_costOf_0 rfl rfl ?_
  refine gf_X9_13 (pc := 1) hC hn64 dX9_costOf_1 ?_
  refine R_iload_n (pc := 4) hC 1 dX9_costOf_4 rfl rfl ?_
  obtain ⟨c1, hg⟩ := chk_some hg
  refine R_iaload (pc := 5) hC 45 (jx hn64 rfl) ly45 (inb_vp c1) dX9_costOf_5 ?_
  refine R_iconst (pc := 6) hC dX9_costOf_6 ki_2 ?_
  refine R_icmp_ne (tgt := 22) (pc := 7) hC dX9_costOf_7 (by decide) (fun c => ?_) (fun c => ?_)
  · replace hg := (if_neg c).symm.trans hg
    refine R_aload_n (pc := 22) hC 0 dX9_costOf_22 rfl rfl ?_
    refine gf_X9_13 (pc := 23) hC hn64 dX9_costOf_23 ?_
    refine R_iload_n (pc := 26) hC 1 dX9_costOf_26 rfl rfl ?_
    obtain ⟨c2, hg⟩ := chk_some hg
    refine R_iaload (pc := 27) hC 45 (jx hn64 rfl) ly45 (inb_vp c2) dX9_costOf_27 ?_
    refine R_iconst (pc := 28) hC dX9_costOf_28 ki_4 ?_
    refine R_icmp_ne (tgt := 46) (pc := 29) hC dX9_costOf_29 (by decide) (fun c => ?_) (fun c => ?_)
    · replace hg := (if_neg c).symm.trans hg
      refine R_aload_n (pc := 46) hC 0 dX9_costOf_46 rfl rfl ?_
      refine gf_X9_13 (pc := 47) hC hn64 dX9_costOf_47 ?_
      refine R_iload_n (pc := 50) hC 1 dX9_costOf_50 rfl rfl ?_
      obtain ⟨c3, hg⟩ := chk_some hg
      refine R_iaload (pc := 51) hC 45 (jx hn64 rfl) ly45 (inb_vp c3) dX9_costOf_51 ?_
      refine R_iconst (pc := 52) hC dX9_costOf_52 ki_5 ?_
      refine R_icmp_ne (tgt := 67) (pc := 53) hC dX9_costOf_53 (by decide) (fun c => ?_) (fun c => ?_)
      · replace hg := (if_neg c).symm.trans hg
        refine R_aload_n (pc := 67) hC 0 dX9_costOf_67 rfl rfl ?_
        refine gf_X9_25 (pc := 68) hC hn64 dX9_costOf_68 ?_
        refine R_iload_n (pc := 71) hC 1 dX9_costOf_71 rfl rfl ?_
        obtain ⟨c4, hg⟩ := chk_some hg
        refine R_iaload (pc := 72) hC 49 (jx hn64 rfl) ly49 (inb_vp c4) dX9_costOf_72 ?_
        have h9 := gxI (m := m) hg
        exact R_ireturn (pc := 73) hC dX9_costOf_73 h9
      · replace hg := (if_pos c).symm.trans hg
        refine R_aload_n (pc := 56) hC 0 dX9_costOf_56 rfl rfl ?_
        refine gf_X9_25 (pc := 57) hC hn64 dX9_costOf_57 ?_
        refine R_iload_n (pc := 60) hC 1 dX9_costOf_60 rfl rfl ?_
        obtain ⟨c5, hg⟩ := chk_some hg
        refine R_iaload (pc := 61) hC 49 (jx hn64 rfl) ly49 (inb_vp c5) dX9_costOf_61 ?_
        refine R_iconst (pc := 62) hC dX9_costOf_62 ki_2 ?_
        refine R_idiv (pc := 63) hC dX9_costOf_63 (by decide) ?_
        refine R_goto (tgt := 73) (pc := 64) hC dX9_costOf_64 (by decide) ?_
        have h9 := gxI (m := m) hg
        exact R_ireturn (pc := 73) hC dX9_costOf_73 h9
    · replace hg := (if_pos c).symm.trans hg
      refine R_iconst (pc := 32) hC dX9_costOf_32 ki_2 ?_
      refine R_aload_n (pc := 33) hC 0 dX9_costOf_33 rfl rfl ?_
      refine gf_X9_25 (pc := 34) hC hn64 dX9_costOf_34 ?_
      refine R_iload_n (pc := 37) hC 1 dX9_costOf_37 rfl rfl ?_
      obtain ⟨c6, hg⟩ := chk_some hg
      refine R_iaload (pc := 38) hC 49 (jx hn64 rfl) ly49 (inb_vp c6) dX9_costOf_38 ?_
      refine R_bipush (pc := 39) hC dX9_costOf_39 kb_10 ?_
      refine R_iadd (pc := 41) hC dX9_costOf_41 ?_
      refine R_imul (pc := 42) hC dX9_costOf_42 ?_
      refine R_goto (tgt := 73) (pc := 43) hC dX9_costOf_43 (by decide) ?_
      have h9 := gxI (m := m) hg
      exact R_ireturn (pc := 73) hC dX9_costOf_73 h9
  · replace hg := (if_pos c).symm.trans hg
    refine R_aload_n (pc := 10) hC 0 dX9_costOf_10 rfl rfl ?_
    refine gf_X9_25 (pc := 11) hC hn64 dX9_costOf_11 ?_
    refine R_iload_n (pc := 14) hC 1 dX9_costOf_14 rfl rfl ?_
    obtain ⟨c7, hg⟩ := chk_some hg
    refine R_iaload (pc := 15) hC 49 (jx hn64 rfl) ly49 (inb_vp c7) dX9_costOf_15 ?_
    refine R_bipush (pc := 16) hC dX9_costOf_16 kb_10 ?_
    refine R_iadd (pc := 18) hC dX9_costOf_18 ?_
    refine R_goto (tgt := 73) (pc := 19) hC dX9_costOf_19 (by decide) ?_
    have h9 := gxI (m := m) hg
    exact R_ireturn (pc := 73) hC dX9_costOf_73 h9
theorem dX9_driftOf_0 : decode cX9_driftOf 0 = .ok (.aload_n 0, 1) := by decide +kernel
theorem dX9_driftOf_1 : decode cX9_driftOf 1 = .ok (.getfield 13, 3) := by decide +kernel
theorem dX9_driftOf_4 : decode cX9_driftOf 4 = .ok (.iload_n 1, 1) := by decide +kernel
theorem dX9_driftOf_5 : decode cX9_driftOf 5 = .ok (.iaload, 1) := by decide +kernel
theorem dX9_driftOf_6 : decode cX9_driftOf 6 = .ok (.iconst 4, 1) := by decide +kernel
theorem dX9_driftOf_7 : decode cX9_driftOf 7 = .ok (.if_icmp .ne 15, 3) := by decide +kernel
theorem dX9_driftOf_10 : decode cX9_driftOf 10 = .ok (.aload_n 0, 1) := by decide +kernel
theorem dX9_driftOf_11 : decode cX9_driftOf 11 = .ok (.getfield 28, 3) := by decide +kernel
theorem dX9_driftOf_14 : decode cX9_driftOf 14 = .ok (.iload_n 1, 1) := by decide +kernel
theorem dX9_driftOf_15 : decode cX9_driftOf 15 = .ok (.iaload, 1) := by decide +kernel
theorem dX9_driftOf_16 : decode cX9_driftOf 16 = .ok (.bipush 20, 2) := by decide +kernel
theorem dX9_driftOf_18 : decode cX9_driftOf 18 = .ok (.iadd, 1) := by decide +kernel
theorem dX9_driftOf_19 : decode cX9_driftOf 19 = .ok (.goto 9, 3) := by decide +kernel
theorem dX9_driftOf_22 : decode cX9_driftOf 22 = .ok (.aload_n 0, 1) := by decide +kernel
theorem dX9_driftOf_23 : decode cX9_driftOf 23 = .ok (.getfield 28, 3) := by decide +kernel
theorem dX9_driftOf_26 : decode cX9_driftOf 26 = .ok (.iload_n 1, 1) := by decide +kernel
theorem dX9_driftOf_27 : decode cX9_driftOf 27 = .ok (.iaload, 1) := by decide +kernel
theorem dX9_driftOf_28 : decode cX9_driftOf 28 = .ok (.istore_n 2, 1) := by decide +kernel
theorem dX9_driftOf_29 : decode cX9_driftOf 29 = .ok (.iload_n 2, 1) := by decide +kernel
theorem dX9_driftOf_30 : decode cX9_driftOf 30 = .ok (.bipush 99, 2) := by decide +kernel
theorem dX9_driftOf_32 : decode cX9_driftOf 32 = .ok (.if_icmp .le 8, 3) := by decide +kernel
theorem dX9_driftOf_35 : decode cX9_driftOf 35 = .ok (.bipush 99, 2) := by decide +kernel
theorem dX9_driftOf_37 : decode cX9_driftOf 37 = .ok (.goto 4, 3) := by decide +kernel
theorem dX9_driftOf_40 : decode cX9_driftOf 40 = .ok (.iload_n 2, 1) := by decide +kernel
theorem dX9_driftOf_41 : decode cX9_driftOf 41 = .ok (.ireturn, 1) := by decide +kernel
def gX9_driftOf (m : Mem) (a1 : Int32) : Option (Int32) := chk (inb a1 11) ((if (m.1 45 (Int32.toNatClampNeg a1)) = 4 then chk (inb a1 11) (lete ((m.1 50 (Int32.toNatClampNeg a1)) + 20) (fun x5 => (if x5 ≤ 99 then some x5 else some 99))) else chk (inb a1 11) (lete (m.1 50 (Int32.toNatClampNeg a1)) (fun x3 => (if x3 ≤ 99 then some x3 else some 99)))))
set_option maxHeartbeats 4000000 in
set_option maxRecDepth 20000 in
theorem LX9_driftOf {n : Nat} {m : Mem} {a1 : Int32} {r : Int32} (hn64 : 64 ≤ n) (hg : gX9_driftOf m a1 = some r) : MX yX9_driftOf cX9_driftOf 3 (some .int) { frames := 0, cells := 0, slots := 0, locals := 0 } n [.ref 43, .int a1] m (some (.int r)) m := by
  refine MX_of (by decide) (Nat.le_of_ble_eq_true rfl) (Or.inr (Or.inl ⟨rfl, _, rfl⟩)) (fun K hC hk hL hR => ?_)
  replace hn64 : 64 ≤ kn K := hk.symm ▸ hn64
  show RX K 0 [(0, .ref 43), (1, .int a1)] [] m
  rw [gX9_driftOf] at hg
  refine R_aload_n (pc := 0) hC 0 dX9_driftOf_0 rfl rfl ?_
  refine gf_X9_13 (pc := 1) hC hn64 dX9_driftOf_1 ?_
  refine R_iload_n (pc := 4) hC 1 dX9_driftOf_4 rfl rfl ?_
  obtain ⟨c1, hg⟩ := chk_some hg
  refine R_iaload (pc := 5) hC 45 (jx hn64 rfl) ly45 (inb_vp c1) dX9_driftOf_5 ?_
  refine R_iconst (pc := 6) hC dX9_driftOf_6 ki_4 ?_
  refine R_icmp_ne (tgt := 22) (pc := 7) hC dX9_driftOf_7 (by decide) (fun c => ?_) (fun c => ?_)
  · replace hg := (if_neg c).symm.trans hg
    refine R_aload_n (pc := 22) hC 0 dX9_driftOf_22 rfl rfl ?_
    refine gf_X9_28 (pc := 23) hC hn64 dX9_driftOf_23 ?_
    refine R_iload_n (pc := 26) hC 1 dX9_driftOf_26 rfl rfl ?_
    obtain ⟨c2, hg⟩ := chk_some hg
    refine R_iaload (pc := 27) hC 50 (jx hn64 rfl) ly50 (inb_vp c2) dX9_driftOf_27 ?_
    obtain ⟨x3, hx3, hg⟩ := lete_some hg
    refine R_top hx3 ?_
    refine R_istore_n (pc := 28) hC dX9_driftOf_28 rfl hL rfl (show _ = [(2, .int x3), (0, .ref 43), (1, .int a1)] from rfl) ?_
    refine R_iload_n (pc := 29) hC 0 dX9_driftOf_29 rfl rfl ?_
    refine R_bipush (pc := 30) hC dX9_driftOf_30 kb_99 ?_
    refine R_icmp_le (tgt := 40) (pc := 32) hC dX9_driftOf_32 (by decide) (fun c => ?_) (fun c => ?_)
    · replace hg := (if_pos c).symm.trans hg
      refine R_iload_n (pc := 40) hC 0 dX9_driftOf_40 rfl rfl ?_
      have h9 := gxI (m := m) hg
      exact R_ireturn (pc := 41) hC dX9_driftOf_41 h9
    · replace hg := (if_neg c).symm.trans hg
      refine R_bipush (pc := 35) hC dX9_driftOf_35 kb_99 ?_
      refine R_goto (tgt := 41) (pc := 37) hC dX9_driftOf_37 (by decide) ?_
      have h9 := gxI (m := m) hg
      exact R_ireturn (pc := 41) hC dX9_driftOf_41 h9
  · replace hg := (if_pos c).symm.trans hg
    refine R_aload_n (pc := 10) hC 0 dX9_driftOf_10 rfl rfl ?_
    refine gf_X9_28 (pc := 11) hC hn64 dX9_driftOf_11 ?_
    refine R_iload_n (pc := 14) hC 1 dX9_driftOf_14 rfl rfl ?_
    obtain ⟨c4, hg⟩ := chk_some hg
    refine R_iaload (pc := 15) hC 50 (jx hn64 rfl) ly50 (inb_vp c4) dX9_driftOf_15 ?_
    refine R_bipush (pc := 16) hC dX9_driftOf_16 kb_20 ?_
    refine R_iadd (pc := 18) hC dX9_driftOf_18 ?_
    refine R_goto (tgt := 28) (pc := 19) hC dX9_driftOf_19 (by decide) ?_
    obtain ⟨x5, hx5, hg⟩ := lete_some hg
    refine R_top hx5 ?_
    refine R_istore_n (pc := 28) hC dX9_driftOf_28 rfl hL rfl (show _ = [(2, .int x5), (0, .ref 43), (1, .int a1)] from rfl) ?_
    refine R_iload_n (pc := 29) hC 0 dX9_driftOf_29 rfl rfl ?_
    refine R_bipush (pc := 30) hC dX9_driftOf_30 kb_99 ?_
    refine R_icmp_le (tgt := 40) (pc := 32) hC dX9_driftOf_32 (by decide) (fun c => ?_) (fun c => ?_)
    · replace hg := (if_pos c).symm.trans hg
      refine R_iload_n (pc := 40) hC 0 dX9_driftOf_40 rfl rfl ?_
      have h9 := gxI (m := m) hg
      exact R_ireturn (pc := 41) hC dX9_driftOf_41 h9
    · replace hg := (if_neg c).symm.trans hg
      refine R_bipush (pc := 35) hC dX9_driftOf_35 kb_99 ?_
      refine R_goto (tgt := 41) (pc := 37) hC dX9_driftOf_37 (by decide) ?_
      have h9 := gxI (m := m) hg
      exact R_ireturn (pc := 41) hC dX9_driftOf_41 h9
theorem dX9_lane_0 : decode cX9_lane 0 = .ok (.aload_n 0, 1) := by decide +kernel
theorem dX9_lane_1 : decode cX9_lane 1 = .ok (.iload_n 1, 1) := by decide +kernel
theorem dX9_lane_2 : decode cX9_lane 2 = .ok (.invokevirtual 122, 3) := by decide +kernel
theorem dX9_lane_5 : decode cX9_lane 5 = .ok (.ifCond .ne 9, 3) := by decide +kernel
theorem dX9_lane_8 : decode cX9_lane 8 = .ok (.aload_n 0, 1) := by decide +kernel
theorem dX9_lane_9 : decode cX9_lane 9 = .ok (.iconst (-1), 1) := by decide +kernel
theorem dX9_lane_10 : decode cX9_lane 10 = .ok (.invokevirtual 87, 3) := by decide +kernel
theorem dX9_lane_13 : decode cX9_lane 13 = .ok (.ireturn, 1) := by decide +kernel
theorem dX9_lane_14 : decode cX9_lane 14 = .ok (.iload_n 2, 1) := by decide +kernel
theorem dX9_lane_15 : decode cX9_lane 15 = .ok (.tableswitch 87 0 6 #[41, 48, 55, 62, 68, 74, 80], 41) := by decide +kernel
theorem dX9_lane_56 : decode cX9_lane 56 = .ok (.aload_n 0, 1) := by decide +kernel
theorem dX9_lane_57 : decode cX9_lane 57 = .ok (.getfield 13, 3) := by decide +kernel
theorem dX9_lane_60 : decode cX9_lane 60 = .ok (.iload_n 1, 1) := by decide +kernel
theorem dX9_lane_61 : decode cX9_lane 61 = .ok (.iaload, 1) := by decide +kernel
theorem dX9_lane_62 : decode cX9_lane 62 = .ok (.ireturn, 1) := by decide +kernel
theorem dX9_lane_63 : decode cX9_lane 63 = .ok (.aload_n 0, 1) := by decide +kernel
theorem dX9_lane_64 : decode cX9_lane 64 = .ok (.getfield 16, 3) := by decide +kernel
theorem dX9_lane_67 : decode cX9_lane 67 = .ok (.iload_n 1, 1) := by decide +kernel
theorem dX9_lane_68 : decode cX9_lane 68 = .ok (.iaload, 1) := by decide +kernel
theorem dX9_lane_69 : decode cX9_lane 69 = .ok (.ireturn, 1) := by decide +kernel
theorem dX9_lane_70 : decode cX9_lane 70 = .ok (.aload_n 0, 1) := by decide +kernel
theorem dX9_lane_71 : decode cX9_lane 71 = .ok (.getfield 19, 3) := by decide +kernel
theorem dX9_lane_74 : decode cX9_lane 74 = .ok (.iload_n 1, 1) := by decide +kernel
theorem dX9_lane_75 : decode cX9_lane 75 = .ok (.iaload, 1) := by decide +kernel
theorem dX9_lane_76 : decode cX9_lane 76 = .ok (.ireturn, 1) := by decide +kernel
theorem dX9_lane_77 : decode cX9_lane 77 = .ok (.aload_n 0, 1) := by decide +kernel
theorem dX9_lane_78 : decode cX9_lane 78 = .ok (.iload_n 1, 1) := by decide +kernel
theorem dX9_lane_79 : decode cX9_lane 79 = .ok (.invokevirtual 153, 3) := by decide +kernel
theorem dX9_lane_82 : decode cX9_lane 82 = .ok (.ireturn, 1) := by decide +kernel
theorem dX9_lane_83 : decode cX9_lane 83 = .ok (.aload_n 0, 1) := by decide +kernel
theorem dX9_lane_84 : decode cX9_lane 84 = .ok (.iload_n 1, 1) := by decide +kernel
theorem dX9_lane_85 : decode cX9_lane 85 = .ok (.invokevirtual 156, 3) := by decide +kernel
theorem dX9_lane_88 : decode cX9_lane 88 = .ok (.ireturn, 1) := by decide +kernel
theorem dX9_lane_89 : decode cX9_lane 89 = .ok (.aload_n 0, 1) := by decide +kernel
theorem dX9_lane_90 : decode cX9_lane 90 = .ok (.iload_n 1, 1) := by decide +kernel
theorem dX9_lane_91 : decode cX9_lane 91 = .ok (.invokevirtual 159, 3) := by decide +kernel
theorem dX9_lane_94 : decode cX9_lane 94 = .ok (.ireturn, 1) := by decide +kernel
theorem dX9_lane_95 : decode cX9_lane 95 = .ok (.aload_n 0, 1) := by decide +kernel
theorem dX9_lane_96 : decode cX9_lane 96 = .ok (.getfield 31, 3) := by decide +kernel
theorem dX9_lane_99 : decode cX9_lane 99 = .ok (.iload_n 1, 1) := by decide +kernel
theorem dX9_lane_100 : decode cX9_lane 100 = .ok (.iaload, 1) := by decide +kernel
theorem dX9_lane_101 : decode cX9_lane 101 = .ok (.ireturn, 1) := by decide +kernel
theorem dX9_lane_102 : decode cX9_lane 102 = .ok (.aload_n 0, 1) := by decide +kernel
theorem dX9_lane_103 : decode cX9_lane 103 = .ok (.bipush (-2), 2) := by decide +kernel
theorem dX9_lane_105 : decode cX9_lane 105 = .ok (.invokevirtual 87, 3) := by decide +kernel
theorem dX9_lane_108 : decode cX9_lane 108 = .ok (.ireturn, 1) := by decide +kernel
def gX9_lane (m : Mem) (a1 : Int32) (a2 : Int32) : Option (Int32 × Mem) := (gX9_isLane m a1).bind (fun x1 => (if x1 = true then (if a2 = 0 then chk (inb a1 11) (some (m.1 45 (Int32.toNatClampNeg a1), m)) else (if a2 = 1 then chk (inb a1 11) (some (m.1 46 (Int32.toNatClampNeg a1), m)) else (if a2 = 2 then chk (inb a1 11) (some (m.1 47 (Int32.toNatClampNeg a1), m)) else (if a2 = 3 then (gX9_weightOf m a1).bind (fun x9 => some (x9, m)) else (if a2 = 4 then (gX9_costOf m a1).bind (fun x11 => some (x11, m)) else (if a2 = 5 then (gX9_driftOf m a1).bind (fun x13 => some (x13, m)) else (if a2 = 6 then chk (inb a1 11) (some (m.1 51 (Int32.toNatClampNeg a1), m)) else (gX9_no m (-2)).bind (fun q16 => some (q16.1, q16.2))))))))) else (gX9_no m (-1)).bind (fun q17 => some (q17.1, q17.2))))
set_option maxHeartbeats 4000000 in
set_option maxRecDepth 20000 in
theorem LX9_lane {n : Nat} {m : Mem} {a1 : Int32} {a2 : Int32} {r : Int32 × Mem} (hn64 : 64 ≤ n) (hg : gX9_lane m a1 a2 = some r) : MX yX9_lane cX9_lane 3 (some .int) { frames := 1, cells := 0, slots := 0, locals := 22 } n [.ref 43, .int a1, .int a2] m (some (.int r.1)) r.2 := by
  refine MX_of (by decide) (Nat.le_of_ble_eq_true rfl) (Or.inr (Or.inl ⟨rfl, _, rfl⟩)) (fun K hC hk hL hR => ?_)
  replace hn64 : 64 ≤ kn K := hk.symm ▸ hn64
  show RX K 0 [(0, .ref 43), (1, .int a1), (2, .int a2)] [] m
  rw [gX9_lane] at hg
  refine R_aload_n (pc := 0) hC 0 dX9_lane_0 rfl rfl ?_
  refine R_iload_n (pc := 1) hC 1 dX9_lane_1 rfl rfl ?_
  obtain ⟨x1, hx1, hg⟩ := bind_some hg
  refine R_callV (pc := 2) (av := [.int a1]) (rest := []) hC hR 43 (jx hn64 rfl) ly43 rfl mf_X9_isLane wm_X9_122 (LX9_isLane hn64 hx1) rfl rfl rfl (Nat.le_of_ble_eq_true rfl) dX9_lane_2 rfl ?_
  show RX K 5 [(0, .ref 43), (1, .int a1), (2, .int a2)] [.int (b2i x1)] m
  refine R_ifB_ne (tgt := 14) (pc := 5) hC dX9_lane_5 (by decide) (fun c => ?_) (fun c => ?_)
  · replace hg := (if_pos c).symm.trans hg
    refine R_iload_n (pc := 14) hC 2 dX9_lane_14 rfl rfl ?_
    by_cases c2 : a2 = 0
    · replace hg := (if_pos c2).symm.trans hg
      refine R_top c2 ?_
      refine R_tableIn (tgt := 56) (x := 0) (pc := 15) hC dX9_lane_15 (by decide) (by decide) (by rfl) (by decide) ?_
      refine R_aload_n (pc := 56) hC 0 dX9_lane_56 rfl rfl ?_
      refine gf_X9_13 (pc := 57) hC hn64 dX9_lane_57 ?_
      refine R_iload_n (pc := 60) hC 1 dX9_lane_60 rfl rfl ?_
      obtain ⟨c3, hg⟩ := chk_some hg
      refine R_iaload (pc := 61) hC 45 (jx hn64 rfl) ly45 (inb_vp c3) dX9_lane_61 ?_
      have h9 := gxIM hg
      exact R_ireturn (pc := 62) hC dX9_lane_62 h9
    replace hg := (if_neg c2).symm.trans hg
    by_cases c4 : a2 = 1
    · replace hg := (if_pos c4).symm.trans hg
      refine R_top c4 ?_
      refine R_tableIn (tgt := 63) (x := 1) (pc := 15) hC dX9_lane_15 (by decide) (by decide) (by rfl) (by decide) ?_
      refine R_aload_n (pc := 63) hC 0 dX9_lane_63 rfl rfl ?_
      refine gf_X9_16 (pc := 64) hC hn64 dX9_lane_64 ?_
      refine R_iload_n (pc := 67) hC 1 dX9_lane_67 rfl rfl ?_
      obtain ⟨c5, hg⟩ := chk_some hg
      refine R_iaload (pc := 68) hC 46 (jx hn64 rfl) ly46 (inb_vp c5) dX9_lane_68 ?_
      have h9 := gxIM hg
      exact R_ireturn (pc := 69) hC dX9_lane_69 h9
    replace hg := (if_neg c4).symm.trans hg
    by_cases c6 : a2 = 2
    · replace hg := (if_pos c6).symm.trans hg
      refine R_top c6 ?_
      refine R_tableIn (tgt := 70) (x := 2) (pc := 15) hC dX9_lane_15 (by decide) (by decide) (by rfl) (by decide) ?_
      refine R_aload_n (pc := 70) hC 0 dX9_lane_70 rfl rfl ?_
      refine gf_X9_19 (pc := 71) hC hn64 dX9_lane_71 ?_
      refine R_iload_n (pc := 74) hC 1 dX9_lane_74 rfl rfl ?_
      obtain ⟨c7, hg⟩ := chk_some hg
      refine R_iaload (pc := 75) hC 47 (jx hn64 rfl) ly47 (inb_vp c7) dX9_lane_75 ?_
      have h9 := gxIM hg
      exact R_ireturn (pc := 76) hC dX9_lane_76 h9
    replace hg := (if_neg c6).symm.trans hg
    by_cases c8 : a2 = 3
    · replace hg := (if_pos c8).symm.trans hg
      refine R_top c8 ?_
      refine R_tableIn (tgt := 77) (x := 3) (pc := 15) hC dX9_lane_15 (by decide) (by decide) (by rfl) (by decide) ?_
      refine R_aload_n (pc := 77) hC 0 dX9_lane_77 rfl rfl ?_
      refine R_iload_n (pc := 78) hC 1 dX9_lane_78 rfl rfl ?_
      obtain ⟨x9, hx9, hg⟩ := bind_some hg
      refine R_callV (pc := 79) (av := [.int a1]) (rest := []) hC hR 43 (jx hn64 rfl) ly43 rfl mf_X9_weightOf wm_X9_153 (LX9_weightOf hn64 hx9) rfl rfl rfl (Nat.le_of_ble_eq_true rfl) dX9_lane_79 rfl ?_
      show RX K 82 [(0, .ref 43), (1, .int a1), (2, .int a2)] [.int x9] m
      have h9 := gxIM hg
      exact R_ireturn (pc := 82) hC dX9_lane_82 h9
    replace hg := (if_neg c8).symm.trans hg
    by_cases c10 : a2 = 4
    · replace hg := (if_pos c10).symm.trans hg
      refine R_top c10 ?_
      refine R_tableIn (tgt := 83) (x := 4) (pc := 15) hC dX9_lane_15 (by decide) (by decide) (by rfl) (by decide) ?_
      refine R_aload_n (pc := 83) hC 0 dX9_lane_83 rfl rfl ?_
      refine R_iload_n (pc := 84) hC 1 dX9_lane_84 rfl rfl ?_
      obtain ⟨x11, hx11, hg⟩ := bind_some hg
      refine R_callV (pc := 85) (av := [.int a1]) (rest := []) hC hR 43 (jx hn64 rfl) ly43 rfl mf_X9_costOf wm_X9_156 (LX9_costOf hn64 hx11) rfl rfl rfl (Nat.le_of_ble_eq_true rfl) dX9_lane_85 rfl ?_
      show RX K 88 [(0, .ref 43), (1, .int a1), (2, .int a2)] [.int x11] m
      have h9 := gxIM hg
      exact R_ireturn (pc := 88) hC dX9_lane_88 h9
    replace hg := (if_neg c10).symm.trans hg
    by_cases c12 : a2 = 5
    · replace hg := (if_pos c12).symm.trans hg
      refine R_top c12 ?_
      refine R_tableIn (tgt := 89) (x := 5) (pc := 15) hC dX9_lane_15 (by decide) (by decide) (by rfl) (by decide) ?_
      refine R_aload_n (pc := 89) hC 0 dX9_lane_89 rfl rfl ?_
      refine R_iload_n (pc := 90) hC 1 dX9_lane_90 rfl rfl ?_
      obtain ⟨x13, hx13, hg⟩ := bind_some hg
      refine R_callV (pc := 91) (av := [.int a1]) (rest := []) hC hR 43 (jx hn64 rfl) ly43 rfl mf_X9_driftOf wm_X9_159 (LX9_driftOf hn64 hx13) rfl rfl rfl (Nat.le_of_ble_eq_true rfl) dX9_lane_91 rfl ?_
      show RX K 94 [(0, .ref 43), (1, .int a1), (2, .int a2)] [.int x13] m
      have h9 := gxIM hg
      exact R_ireturn (pc := 94) hC dX9_lane_94 h9
    replace hg := (if_neg c12).symm.trans hg
    by_cases c14 : a2 = 6
    · replace hg := (if_pos c14).symm.trans hg
      refine R_top c14 ?_
      refine R_tableIn (tgt := 95) (x := 6) (pc := 15) hC dX9_lane_15 (by decide) (by decide) (by rfl) (by decide) ?_
      refine R_aload_n (pc := 95) hC 0 dX9_lane_95 rfl rfl ?_
      refine gf_X9_31 (pc := 96) hC hn64 dX9_lane_96 ?_
      refine R_iload_n (pc := 99) hC 1 dX9_lane_99 rfl rfl ?_
      obtain ⟨c15, hg⟩ := chk_some hg
      refine R_iaload (pc := 100) hC 51 (jx hn64 rfl) ly51 (inb_vp c15) dX9_lane_100 ?_
      have h9 := gxIM hg
      exact R_ireturn (pc := 101) hC dX9_lane_101 h9
    replace hg := (if_neg c14).symm.trans hg
    refine R_tableOut (tgt := 102) (pc := 15) hC dX9_lane_15 (tab_out (fun k hk => ?_)) (by decide) ?_
    · have h9 : k = 0 ∨ k = 1 ∨ k = 2 ∨ k = 3 ∨ k = 4 ∨ k = 5 ∨ k = 6 := by omega
      rcases h9 with rfl | rfl | rfl | rfl | rfl | rfl | rfl
      · exact i32_ne c2 (by decide)
      · exact i32_ne c4 (by decide)
      · exact i32_ne c6 (by decide)
      · exact i32_ne c8 (by decide)
      · exact i32_ne c10 (by decide)
      · exact i32_ne c12 (by decide)
      · exact i32_ne c14 (by decide)
    refine R_aload_n (pc := 102) hC 0 dX9_lane_102 rfl rfl ?_
    refine R_bipush (pc := 103) hC dX9_lane_103 kb_m2 ?_
    obtain ⟨q16, hq16, hg⟩ := bind_some hg
    refine R_callV (pc := 105) (av := [.int (-2)]) (rest := []) hC hR 43 (jx hn64 rfl) ly43 rfl mf_X9_no wm_X9_87 (LX9_no hn64 hq16) rfl rfl rfl (Nat.le_of_ble_eq_true rfl) dX9_lane_105 rfl ?_
    show RX K 108 [(0, .ref 43), (1, .int a1), (2, .int a2)] [.int q16.1] q16.2
    have h9 := gxIM hg
    exact R_ireturn (pc := 108) hC dX9_lane_108 h9
  · replace hg := (if_neg c).symm.trans hg
    refine R_aload_n (pc := 8) hC 0 dX9_lane_8 rfl rfl ?_
    refine R_iconst (pc := 9) hC dX9_lane_9 ki_m1 ?_
    obtain ⟨q17, hq17, hg⟩ := bind_some hg
    refine R_callV (pc := 10) (av := [.int (-1)]) (rest := []) hC hR 43 (jx hn64 rfl) ly43 rfl mf_X9_no wm_X9_87 (LX9_no hn64 hq17) rfl rfl rfl (Nat.le_of_ble_eq_true rfl) dX9_lane_10 rfl ?_
    show RX K 13 [(0, .ref 43), (1, .int a1), (2, .int a2)] [.int q17.1] q17.2
    have h9 := gxIM hg
    exact R_ireturn (pc := 13) hC dX9_lane_13 h9
theorem dX9_rule_0 : decode cX9_rule 0 = .ok (.aload_n 0, 1) := by decide +kernel
theorem dX9_rule_1 : decode cX9_rule 1 = .ok (.iload_n 1, 1) := by decide +kernel
theorem dX9_rule_2 : decode cX9_rule 2 = .ok (.invokevirtual 122, 3) := by decide +kernel
theorem dX9_rule_5 : decode cX9_rule 5 = .ok (.ifCond .ne 9, 3) := by decide +kernel
theorem dX9_rule_8 : decode cX9_rule 8 = .ok (.aload_n 0, 1) := by decide +kernel
theorem dX9_rule_9 : decode cX9_rule 9 = .ok (.iconst (-1), 1) := by decide +kernel
theorem dX9_rule_10 : decode cX9_rule 10 = .ok (.invokevirtual 87, 3) := by decide +kernel
theorem dX9_rule_13 : decode cX9_rule 13 = .ok (.ireturn, 1) := by decide +kernel
theorem dX9_rule_14 : decode cX9_rule 14 = .ok (.iload_n 2, 1) := by decide +kernel
theorem dX9_rule_15 : decode cX9_rule 15 = .ok (.iconst 0, 1) := by decide +kernel
theorem dX9_rule_16 : decode cX9_rule 16 = .ok (.iconst 2, 1) := by decide +kernel
theorem dX9_rule_17 : decode cX9_rule 17 = .ok (.invokestatic 98, 3) := by decide +kernel
theorem dX9_rule_20 : decode cX9_rule 20 = .ok (.ifCond .ne 10, 3) := by decide +kernel
theorem dX9_rule_23 : decode cX9_rule 23 = .ok (.aload_n 0, 1) := by decide +kernel
theorem dX9_rule_24 : decode cX9_rule 24 = .ok (.bipush (-2), 2) := by decide +kernel
theorem dX9_rule_26 : decode cX9_rule 26 = .ok (.invokevirtual 87, 3) := by decide +kernel
theorem dX9_rule_29 : decode cX9_rule 29 = .ok (.ireturn, 1) := by decide +kernel
theorem dX9_rule_30 : decode cX9_rule 30 = .ok (.aload_n 0, 1) := by decide +kernel
theorem dX9_rule_31 : decode cX9_rule 31 = .ok (.getfield 31, 3) := by decide +kernel
theorem dX9_rule_34 : decode cX9_rule 34 = .ok (.iload_n 1, 1) := by decide +kernel
theorem dX9_rule_35 : decode cX9_rule 35 = .ok (.iaload, 1) := by decide +kernel
theorem dX9_rule_36 : decode cX9_rule 36 = .ok (.istore_n 3, 1) := by decide +kernel
theorem dX9_rule_37 : decode cX9_rule 37 = .ok (.aload_n 0, 1) := by decide +kernel
theorem dX9_rule_38 : decode cX9_rule 38 = .ok (.getfield 31, 3) := by decide +kernel
theorem dX9_rule_41 : decode cX9_rule 41 = .ok (.iload_n 1, 1) := by decide +kernel
theorem dX9_rule_42 : decode cX9_rule 42 = .ok (.iload_n 2, 1) := by decide +kernel
theorem dX9_rule_43 : decode cX9_rule 43 = .ok (.iastore, 1) := by decide +kernel
theorem dX9_rule_44 : decode cX9_rule 44 = .ok (.iload_n 3, 1) := by decide +kernel
theorem dX9_rule_45 : decode cX9_rule 45 = .ok (.ireturn, 1) := by decide +kernel
def gX9_rule (m : Mem) (a1 : Int32) (a2 : Int32) : Option (Int32 × Mem) := (gX9_isLane m a1).bind (fun x1 => (if x1 = true then (gX9_isIn a2 0 2).bind (fun x2 => (if x2 = true then chk (inb a1 11) (lete (m.1 51 (Int32.toNatClampNeg a1)) (fun x4 => chk (inb a1 11) (lete (mu m 51 (Int32.toNatClampNeg a1) a2) (fun m6 => some (x4, m6))))) else (gX9_no m (-2)).bind (fun q7 => some (q7.1, q7.2)))) else (gX9_no m (-1)).bind (fun q8 => some (q8.1, q8.2))))
set_option maxHeartbeats 4000000 in
set_option maxRecDepth 20000 in
theorem LX9_rule {n : Nat} {m : Mem} {a1 : Int32} {a2 : Int32} {r : Int32 × Mem} (hn64 : 64 ≤ n) (hg : gX9_rule m a1 a2 = some r) : MX yX9_rule cX9_rule 4 (some .int) { frames := 1, cells := 0, slots := 0, locals := 22 } n [.ref 43, .int a1, .int a2] m (some (.int r.1)) r.2 := by
  refine MX_of (by decide) (Nat.le_of_ble_eq_true rfl) (Or.inr (Or.inl ⟨rfl, _, rfl⟩)) (fun K hC hk hL hR => ?_)
  replace hn64 : 64 ≤ kn K := hk.symm ▸ hn64
  show RX K 0 [(0, .ref 43), (1, .int a1), (2, .int a2)] [] m
  rw [gX9_rule] at hg
  refine R_aload_n (pc := 0) hC 0 dX9_rule_0 rfl rfl ?_
  refine R_iload_n (pc := 1) hC 1 dX9_rule_1 rfl rfl ?_
  obtain ⟨x1, hx1, hg⟩ := bind_some hg
  refine R_callV (pc := 2) (av := [.int a1]) (rest := []) hC hR 43 (jx hn64 rfl) ly43 rfl mf_X9_isLane wm_X9_122 (LX9_isLane hn64 hx1) rfl rfl rfl (Nat.le_of_ble_eq_true rfl) dX9_rule_2 rfl ?_
  show RX K 5 [(0, .ref 43), (1, .int a1), (2, .int a2)] [.int (b2i x1)] m
  refine R_ifB_ne (tgt := 14) (pc := 5) hC dX9_rule_5 (by decide) (fun c => ?_) (fun c => ?_)
  · replace hg := (if_pos c).symm.trans hg
    refine R_iload_n (pc := 14) hC 2 dX9_rule_14 rfl rfl ?_
    refine R_iconst (pc := 15) hC dX9_rule_15 ki_0 ?_
    refine R_iconst (pc := 16) hC dX9_rule_16 ki_2 ?_
    obtain ⟨x2, hx2, hg⟩ := bind_some hg
    refine R_callS (pc := 17) (av := [.int a2, .int 0, .int 2]) (rest := []) hC hR mf_X9_isIn wm_X9_98 (LX9_isIn hn64 hx2) rfl rfl rfl (Nat.le_of_ble_eq_true rfl) dX9_rule_17 rfl ?_
    show RX K 20 [(0, .ref 43), (1, .int a1), (2, .int a2)] [.int (b2i x2)] m
    refine R_ifB_ne (tgt := 30) (pc := 20) hC dX9_rule_20 (by decide) (fun c => ?_) (fun c => ?_)
    · replace hg := (if_pos c).symm.trans hg
      refine R_aload_n (pc := 30) hC 0 dX9_rule_30 rfl rfl ?_
      refine gf_X9_31 (pc := 31) hC hn64 dX9_rule_31 ?_
      refine R_iload_n (pc := 34) hC 1 dX9_rule_34 rfl rfl ?_
      obtain ⟨c3, hg⟩ := chk_some hg
      refine R_iaload (pc := 35) hC 51 (jx hn64 rfl) ly51 (inb_vp c3) dX9_rule_35 ?_
      obtain ⟨x4, hx4, hg⟩ := lete_some hg
      refine R_top hx4 ?_
      refine R_istore_n (pc := 36) hC dX9_rule_36 rfl hL rfl (show _ = [(3, .int x4), (0, .ref 43), (1, .int a1), (2, .int a2)] from rfl) ?_
      refine R_aload_n (pc := 37) hC 1 dX9_rule_37 rfl rfl ?_
      refine gf_X9_31 (pc := 38) hC hn64 dX9_rule_38 ?_
      refine R_iload_n (pc := 41) hC 2 dX9_rule_41 rfl rfl ?_
      refine R_iload_n (pc := 42) hC 3 dX9_rule_42 rfl rfl ?_
      obtain ⟨c5, hg⟩ := chk_some hg
      obtain ⟨m6, hm6, hg⟩ := lete_some hg
      refine R_iastore (pc := 43) hC 51 (jx hn64 rfl) ly51 (inb_vp c5) dX9_rule_43 ?_
      refine R_mem hm6 ?_
      refine R_iload_n (pc := 44) hC 0 dX9_rule_44 rfl rfl ?_
      have h9 := gxIM hg
      exact R_ireturn (pc := 45) hC dX9_rule_45 h9
    · replace hg := (if_neg c).symm.trans hg
      refine R_aload_n (pc := 23) hC 0 dX9_rule_23 rfl rfl ?_
      refine R_bipush (pc := 24) hC dX9_rule_24 kb_m2 ?_
      obtain ⟨q7, hq7, hg⟩ := bind_some hg
      refine R_callV (pc := 26) (av := [.int (-2)]) (rest := []) hC hR 43 (jx hn64 rfl) ly43 rfl mf_X9_no wm_X9_87 (LX9_no hn64 hq7) rfl rfl rfl (Nat.le_of_ble_eq_true rfl) dX9_rule_26 rfl ?_
      show RX K 29 [(0, .ref 43), (1, .int a1), (2, .int a2)] [.int q7.1] q7.2
      have h9 := gxIM hg
      exact R_ireturn (pc := 29) hC dX9_rule_29 h9
  · replace hg := (if_neg c).symm.trans hg
    refine R_aload_n (pc := 8) hC 0 dX9_rule_8 rfl rfl ?_
    refine R_iconst (pc := 9) hC dX9_rule_9 ki_m1 ?_
    obtain ⟨q8, hq8, hg⟩ := bind_some hg
    refine R_callV (pc := 10) (av := [.int (-1)]) (rest := []) hC hR 43 (jx hn64 rfl) ly43 rfl mf_X9_no wm_X9_87 (LX9_no hn64 hq8) rfl rfl rfl (Nat.le_of_ble_eq_true rfl) dX9_rule_10 rfl ?_
    show RX K 13 [(0, .ref 43), (1, .int a1), (2, .int a2)] [.int q8.1] q8.2
    have h9 := gxIM hg
    exact R_ireturn (pc := 13) hC dX9_rule_13 h9
theorem dX9_takeUp_0 : decode cX9_takeUp 0 = .ok (.aload_n 0, 1) := by decide +kernel
theorem dX9_takeUp_1 : decode cX9_takeUp 1 = .ok (.getfield 77, 3) := by decide +kernel
theorem dX9_takeUp_4 : decode cX9_takeUp 4 = .ok (.ifCond .ne 10, 3) := by decide +kernel
theorem dX9_takeUp_7 : decode cX9_takeUp 7 = .ok (.aload_n 0, 1) := by decide +kernel
theorem dX9_takeUp_8 : decode cX9_takeUp 8 = .ok (.bipush (-3), 2) := by decide +kernel
theorem dX9_takeUp_10 : decode cX9_takeUp 10 = .ok (.invokevirtual 87, 3) := by decide +kernel
theorem dX9_takeUp_13 : decode cX9_takeUp 13 = .ok (.ireturn, 1) := by decide +kernel
theorem dX9_takeUp_14 : decode cX9_takeUp 14 = .ok (.aload_n 0, 1) := by decide +kernel
theorem dX9_takeUp_15 : decode cX9_takeUp 15 = .ok (.dup, 1) := by decide +kernel
theorem dX9_takeUp_16 : decode cX9_takeUp 16 = .ok (.getfield 77, 3) := by decide +kernel
theorem dX9_takeUp_19 : decode cX9_takeUp 19 = .ok (.iconst 1, 1) := by decide +kernel
theorem dX9_takeUp_20 : decode cX9_takeUp 20 = .ok (.isub, 1) := by decide +kernel
theorem dX9_takeUp_21 : decode cX9_takeUp 21 = .ok (.putfield 77, 3) := by decide +kernel
theorem dX9_takeUp_24 : decode cX9_takeUp 24 = .ok (.aload_n 0, 1) := by decide +kernel
theorem dX9_takeUp_25 : decode cX9_takeUp 25 = .ok (.getfield 77, 3) := by decide +kernel
theorem dX9_takeUp_28 : decode cX9_takeUp 28 = .ok (.ireturn, 1) := by decide +kernel
def gX9_takeUp (m : Mem) : Option (Int32 × Mem) := (if (m.1 43 9) = 0 then (gX9_no m (-3)).bind (fun q2 => some (q2.1, q2.2)) else lete (mu m 43 9 ((m.1 43 9) - 1)) (fun m1 => some (m1.1 43 9, m1)))
set_option maxHeartbeats 4000000 in
set_option maxRecDepth 20000 in
theorem LX9_takeUp {n : Nat} {m : Mem} {r : Int32 × Mem} (hn64 : 64 ≤ n) (hg : gX9_takeUp m  = some r) : MX yX9_takeUp cX9_takeUp 1 (some .int) { frames := 1, cells := 0, slots := 0, locals := 21 } n [.ref 43] m (some (.int r.1)) r.2 := by
  refine MX_of (by decide) (Nat.le_of_ble_eq_true rfl) (Or.inr (Or.inl ⟨rfl, _, rfl⟩)) (fun K hC hk hL hR => ?_)
  replace hn64 : 64 ≤ kn K := hk.symm ▸ hn64
  show RX K 0 [(0, .ref 43)] [] m
  rw [gX9_takeUp] at hg
  refine R_aload_n (pc := 0) hC 0 dX9_takeUp_0 rfl rfl ?_
  refine gf_X9_77 (pc := 1) hC hn64 dX9_takeUp_1 ?_
  refine R_if_ne (tgt := 14) (pc := 4) hC dX9_takeUp_4 (by decide) (fun c => ?_) (fun c => ?_)
  · replace hg := (if_neg c).symm.trans hg
    refine R_aload_n (pc := 14) hC 0 dX9_takeUp_14 rfl rfl ?_
    refine R_dup (pc := 15) hC dX9_takeUp_15 rfl ?_
    refine gf_X9_77 (pc := 16) hC hn64 dX9_takeUp_16 ?_
    refine R_iconst (pc := 19) hC dX9_takeUp_19 ki_1 ?_
    refine R_isub (pc := 20) hC dX9_takeUp_20 ?_
    obtain ⟨m1, hm1, hg⟩ := lete_some hg
    refine pf_X9_77 (pc := 21) hC hn64 dX9_takeUp_21 ?_
    refine R_mem hm1 ?_
    refine R_aload_n (pc := 24) hC 0 dX9_takeUp_24 rfl rfl ?_
    refine gf_X9_77 (pc := 25) hC hn64 dX9_takeUp_25 ?_
    have h9 := gxIM hg
    exact R_ireturn (pc := 28) hC dX9_takeUp_28 h9
  · replace hg := (if_pos c).symm.trans hg
    refine R_aload_n (pc := 7) hC 0 dX9_takeUp_7 rfl rfl ?_
    refine R_bipush (pc := 8) hC dX9_takeUp_8 kb_m3 ?_
    obtain ⟨q2, hq2, hg⟩ := bind_some hg
    refine R_callV (pc := 10) (av := [.int (-3)]) (rest := []) hC hR 43 (jx hn64 rfl) ly43 rfl mf_X9_no wm_X9_87 (LX9_no hn64 hq2) rfl rfl rfl (Nat.le_of_ble_eq_true rfl) dX9_takeUp_10 rfl ?_
    show RX K 13 [(0, .ref 43)] [.int q2.1] q2.2
    have h9 := gxIM hg
    exact R_ireturn (pc := 13) hC dX9_takeUp_13 h9
theorem dX9_allLanes_0 : decode cX9_allLanes 0 = .ok (.iconst 1, 1) := by decide +kernel
theorem dX9_allLanes_1 : decode cX9_allLanes 1 = .ok (.aload_n 0, 1) := by decide +kernel
theorem dX9_allLanes_2 : decode cX9_allLanes 2 = .ok (.getfield 77, 3) := by decide +kernel
theorem dX9_allLanes_5 : decode cX9_allLanes 5 = .ok (.ishl, 1) := by decide +kernel
theorem dX9_allLanes_6 : decode cX9_allLanes 6 = .ok (.iconst 1, 1) := by decide +kernel
theorem dX9_allLanes_7 : decode cX9_allLanes 7 = .ok (.isub, 1) := by decide +kernel
theorem dX9_allLanes_8 : decode cX9_allLanes 8 = .ok (.ireturn, 1) := by decide +kernel
def gX9_allLanes (m : Mem) : Option (Int32) := some (((1 : Int32) <<< ((m.1 43 9) &&& 31)) - 1)
set_option maxHeartbeats 4000000 in
set_option maxRecDepth 20000 in
theorem LX9_allLanes {n : Nat} {m : Mem} {r : Int32} (hn64 : 64 ≤ n) (hg : gX9_allLanes m  = some r) : MX yX9_allLanes cX9_allLanes 1 (some .int) { frames := 0, cells := 0, slots := 0, locals := 0 } n [.ref 43] m (some (.int r)) m := by
  refine MX_of (by decide) (Nat.le_of_ble_eq_true rfl) (Or.inr (Or.inl ⟨rfl, _, rfl⟩)) (fun K hC hk hL hR => ?_)
  replace hn64 : 64 ≤ kn K := hk.symm ▸ hn64
  show RX K 0 [(0, .ref 43)] [] m
  rw [gX9_allLanes] at hg
  refine R_iconst (pc := 0) hC dX9_allLanes_0 ki_1 ?_
  refine R_aload_n (pc := 1) hC 0 dX9_allLanes_1 rfl rfl ?_
  refine gf_X9_77 (pc := 2) hC hn64 dX9_allLanes_2 ?_
  refine R_ishl (pc := 5) hC dX9_allLanes_5 ?_
  refine R_iconst (pc := 6) hC dX9_allLanes_6 ki_1 ?_
  refine R_isub (pc := 7) hC dX9_allLanes_7 ?_
  have h9 := gxI (m := m) hg
  exact R_ireturn (pc := 8) hC dX9_allLanes_8 h9
theorem dX9_ruledAs_0 : decode cX9_ruledAs 0 = .ok (.iconst 0, 1) := by decide +kernel
theorem dX9_ruledAs_1 : decode cX9_ruledAs 1 = .ok (.istore_n 2, 1) := by decide +kernel
theorem dX9_ruledAs_2 : decode cX9_ruledAs 2 = .ok (.iconst 0, 1) := by decide +kernel
theorem dX9_ruledAs_3 : decode cX9_ruledAs 3 = .ok (.istore_n 3, 1) := by decide +kernel
theorem dX9_ruledAs_4 : decode cX9_ruledAs 4 = .ok (.iload_n 3, 1) := by decide +kernel
theorem dX9_ruledAs_5 : decode cX9_ruledAs 5 = .ok (.aload_n 0, 1) := by decide +kernel
theorem dX9_ruledAs_6 : decode cX9_ruledAs 6 = .ok (.getfield 77, 3) := by decide +kernel
theorem dX9_ruledAs_9 : decode cX9_ruledAs 9 = .ok (.if_icmp .ge 29, 3) := by decide +kernel
theorem dX9_ruledAs_12 : decode cX9_ruledAs 12 = .ok (.iload_n 2, 1) := by decide +kernel
theorem dX9_ruledAs_13 : decode cX9_ruledAs 13 = .ok (.aload_n 0, 1) := by decide +kernel
theorem dX9_ruledAs_14 : decode cX9_ruledAs 14 = .ok (.getfield 31, 3) := by decide +kernel
theorem dX9_ruledAs_17 : decode cX9_ruledAs 17 = .ok (.iload_n 3, 1) := by decide +kernel
theorem dX9_ruledAs_18 : decode cX9_ruledAs 18 = .ok (.iaload, 1) := by decide +kernel
theorem dX9_ruledAs_19 : decode cX9_ruledAs 19 = .ok (.iload_n 1, 1) := by decide +kernel
theorem dX9_ruledAs_20 : decode cX9_ruledAs 20 = .ok (.if_icmp .ne 9, 3) := by decide +kernel
theorem dX9_ruledAs_23 : decode cX9_ruledAs 23 = .ok (.iconst 1, 1) := by decide +kernel
theorem dX9_ruledAs_24 : decode cX9_ruledAs 24 = .ok (.iload_n 3, 1) := by decide +kernel
theorem dX9_ruledAs_25 : decode cX9_ruledAs 25 = .ok (.ishl, 1) := by decide +kernel
theorem dX9_ruledAs_26 : decode cX9_ruledAs 26 = .ok (.goto 4, 3) := by decide +kernel
theorem dX9_ruledAs_29 : decode cX9_ruledAs 29 = .ok (.iconst 0, 1) := by decide +kernel
theorem dX9_ruledAs_30 : decode cX9_ruledAs 30 = .ok (.ior, 1) := by decide +kernel
theorem dX9_ruledAs_31 : decode cX9_ruledAs 31 = .ok (.istore_n 2, 1) := by decide +kernel
theorem dX9_ruledAs_32 : decode cX9_ruledAs 32 = .ok (.iinc 3 1, 3) := by decide +kernel
theorem dX9_ruledAs_35 : decode cX9_ruledAs 35 = .ok (.goto (-31), 3) := by decide +kernel
theorem dX9_ruledAs_38 : decode cX9_ruledAs 38 = .ok (.iload_n 2, 1) := by decide +kernel
theorem dX9_ruledAs_39 : decode cX9_ruledAs 39 = .ok (.ireturn, 1) := by decide +kernel
def bX9_ruledAs_4 (m : Mem) (a1 : Int32) : (Int32 × Int32) → Option ((Int32 × Int32) ⊕ (Int32 × Int32))
  | (y1, y2) => (if (m.1 43 9) ≤ y2 then some (.inr (y1, y2)) else chk (inb y2 11) ((if (m.1 51 (Int32.toNatClampNeg y2)) = a1 then lete (y1 ||| ((1 : Int32) <<< (y2 &&& 31))) (fun x5 => some (.inl (x5, y2 + 1))) else lete (y1 ||| 0) (fun x4 => some (.inl (x4, y2 + 1))))))
def gX9_ruledAs (F : Nat) (m : Mem) (a1 : Int32) : Option (Int32) := (iter F (bX9_ruledAs_4 m a1) (0, 0)).bind (fun e6 => some e6.1)
set_option maxHeartbeats 4000000 in
set_option maxRecDepth 20000 in
theorem LX9_ruledAs {n : Nat} {F : Nat} {m : Mem} {a1 : Int32} {r : Int32} (hn64 : 64 ≤ n) (hg : gX9_ruledAs F m a1 = some r) : MX yX9_ruledAs cX9_ruledAs 4 (some .int) { frames := 0, cells := 0, slots := 0, locals := 0 } n [.ref 43, .int a1] m (some (.int r)) m := by
  refine MX_of (by decide) (Nat.le_of_ble_eq_true rfl) (Or.inr (Or.inl ⟨rfl, _, rfl⟩)) (fun K hC hk hL hR => ?_)
  replace hn64 : 64 ≤ kn K := hk.symm ▸ hn64
  show RX K 0 [(0, .ref 43), (1, .int a1)] [] m
  rw [gX9_ruledAs] at hg
  refine R_iconst (pc := 0) hC dX9_ruledAs_0 ki_0 ?_
  refine R_istore_n (pc := 1) hC dX9_ruledAs_1 rfl hL rfl (show _ = [(2, .int 0), (0, .ref 43), (1, .int a1)] from rfl) ?_
  refine R_iconst (pc := 2) hC dX9_ruledAs_2 ki_0 ?_
  refine R_istore_n (pc := 3) hC dX9_ruledAs_3 rfl hL rfl (show _ = [(3, .int 0), (2, .int 0), (0, .ref 43), (1, .int a1)] from rfl) ?_
  refine R_pick [2, 3, 1, 0] (ls' := [(0, .ref 43), (1, .int a1), (2, .int 0), (3, .int 0)]) rfl ?_
  obtain ⟨e6, he6, hg⟩ := bind_some hg
  refine iter_walk (P := fun s : (Int32 × Int32) => RX K 4 [(0, .ref 43), (1, .int a1), (2, .int s.1), (3, .int s.2)] [] m) (Qe := fun s : (Int32 × Int32) => RX K 38 [(0, .ref 43), (1, .int a1), (2, .int s.1), (3, .int s.2)] [] m) (fun s7 o hg kL4 kE4 => ?_) _ _ _ he6 ?_
  · obtain ⟨y1, y2⟩ := s7
    rw [bX9_ruledAs_4] at hg
    show RX K 4 [(0, .ref 43), (1, .int a1), (2, .int y1), (3, .int y2)] [] m
    refine R_iload_n (pc := 4) hC 3 dX9_ruledAs_4 rfl rfl ?_
    refine R_aload_n (pc := 5) hC 0 dX9_ruledAs_5 rfl rfl ?_
    refine gf_X9_77 (pc := 6) hC hn64 dX9_ruledAs_6 ?_
    refine R_icmp_ge (tgt := 38) (pc := 9) hC dX9_ruledAs_9 (by decide) (fun c => ?_) (fun c => ?_)
    · replace hg := (if_pos c).symm.trans hg
      refine R_pick [0, 1, 2, 3] (ls' := [(0, .ref 43), (1, .int a1), (2, .int y1), (3, .int y2)]) rfl ?_
      have h9 := kE4 _ (Option.some.inj hg).symm
      exact h9
    · replace hg := (if_neg c).symm.trans hg
      refine R_iload_n (pc := 12) hC 2 dX9_ruledAs_12 rfl rfl ?_
      refine R_aload_n (pc := 13) hC 0 dX9_ruledAs_13 rfl rfl ?_
      refine gf_X9_31 (pc := 14) hC hn64 dX9_ruledAs_14 ?_
      refine R_iload_n (pc := 17) hC 3 dX9_ruledAs_17 rfl rfl ?_
      obtain ⟨c3, hg⟩ := chk_some hg
      refine R_iaload (pc := 18) hC 51 (jx hn64 rfl) ly51 (inb_vp c3) dX9_ruledAs_18 ?_
      refine R_iload_n (pc := 19) hC 1 dX9_ruledAs_19 rfl rfl ?_
      refine R_icmp_ne (tgt := 29) (pc := 20) hC dX9_ruledAs_20 (by decide) (fun c => ?_) (fun c => ?_)
      · replace hg := (if_neg c).symm.trans hg
        refine R_iconst (pc := 29) hC dX9_ruledAs_29 ki_0 ?_
        refine R_ior (pc := 30) hC dX9_ruledAs_30 ?_
        obtain ⟨x4, hx4, hg⟩ := lete_some hg
        refine R_top hx4 ?_
        refine R_istore_n (pc := 31) hC dX9_ruledAs_31 rfl hL rfl (show _ = [(2, .int x4), (0, .ref 43), (1, .int a1), (3, .int y2)] from rfl) ?_
        refine R_iinc (pc := 32) hC 3 dX9_ruledAs_32 rfl (iv ki_1) hL rfl (show _ = [(3, .int (y2 + 1)), (2, .int x4), (0, .ref 43), (1, .int a1)] from rfl) ?_
        refine R_goto (tgt := 4) (pc := 35) hC dX9_ruledAs_35 (by decide) ?_
        refine R_pick [2, 3, 1, 0] (ls' := [(0, .ref 43), (1, .int a1), (2, .int x4), (3, .int (y2 + 1))]) rfl ?_
        have h9 := kL4 _ (Option.some.inj hg).symm
        exact h9
      · replace hg := (if_pos c).symm.trans hg
        refine R_iconst (pc := 23) hC dX9_ruledAs_23 ki_1 ?_
        refine R_iload_n (pc := 24) hC 3 dX9_ruledAs_24 rfl rfl ?_
        refine R_ishl (pc := 25) hC dX9_ruledAs_25 ?_
        refine R_goto (tgt := 30) (pc := 26) hC dX9_ruledAs_26 (by decide) ?_
        refine R_ior (pc := 30) hC dX9_ruledAs_30 ?_
        obtain ⟨x5, hx5, hg⟩ := lete_some hg
        refine R_top hx5 ?_
        refine R_istore_n (pc := 31) hC dX9_ruledAs_31 rfl hL rfl (show _ = [(2, .int x5), (0, .ref 43), (1, .int a1), (3, .int y2)] from rfl) ?_
        refine R_iinc (pc := 32) hC 3 dX9_ruledAs_32 rfl (iv ki_1) hL rfl (show _ = [(3, .int (y2 + 1)), (2, .int x5), (0, .ref 43), (1, .int a1)] from rfl) ?_
        refine R_goto (tgt := 4) (pc := 35) hC dX9_ruledAs_35 (by decide) ?_
        refine R_pick [2, 3, 1, 0] (ls' := [(0, .ref 43), (1, .int a1), (2, .int x5), (3, .int (y2 + 1))]) rfl ?_
        have h9 := kL4 _ (Option.some.inj hg).symm
        exact h9
  · show RX K 38 [(0, .ref 43), (1, .int a1), (2, .int e6.1), (3, .int e6.2)] [] m
    refine R_iload_n (pc := 38) hC 2 dX9_ruledAs_38 rfl rfl ?_
    have h9 := gxI (m := m) hg
    exact R_ireturn (pc := 39) hC dX9_ruledAs_39 h9
theorem dX9_areLanes_0 : decode cX9_areLanes 0 = .ok (.iload_n 1, 1) := by decide +kernel
theorem dX9_areLanes_1 : decode cX9_areLanes 1 = .ok (.ifCond .lt 18, 3) := by decide +kernel
theorem dX9_areLanes_4 : decode cX9_areLanes 4 = .ok (.iload_n 1, 1) := by decide +kernel
theorem dX9_areLanes_5 : decode cX9_areLanes 5 = .ok (.aload_n 0, 1) := by decide +kernel
theorem dX9_areLanes_6 : decode cX9_areLanes 6 = .ok (.invokevirtual 162, 3) := by decide +kernel
theorem dX9_areLanes_9 : decode cX9_areLanes 9 = .ok (.iconst (-1), 1) := by decide +kernel
theorem dX9_areLanes_10 : decode cX9_areLanes 10 = .ok (.ixor, 1) := by decide +kernel
theorem dX9_areLanes_11 : decode cX9_areLanes 11 = .ok (.iand, 1) := by decide +kernel
theorem dX9_areLanes_12 : decode cX9_areLanes 12 = .ok (.ifCond .ne 7, 3) := by decide +kernel
theorem dX9_areLanes_15 : decode cX9_areLanes 15 = .ok (.iconst 1, 1) := by decide +kernel
theorem dX9_areLanes_16 : decode cX9_areLanes 16 = .ok (.goto 4, 3) := by decide +kernel
theorem dX9_areLanes_19 : decode cX9_areLanes 19 = .ok (.iconst 0, 1) := by decide +kernel
theorem dX9_areLanes_20 : decode cX9_areLanes 20 = .ok (.ireturn, 1) := by decide +kernel
def gX9_areLanes (m : Mem) (a1 : Int32) : Option (Bool) := (if a1 < 0 then some false else (gX9_allLanes m).bind (fun x1 => (if (a1 &&& (x1 ^^^ (-1))) = 0 then some true else some false)))
set_option maxHeartbeats 4000000 in
set_option maxRecDepth 20000 in
theorem LX9_areLanes {n : Nat} {m : Mem} {a1 : Int32} {r : Bool} (hn64 : 64 ≤ n) (hg : gX9_areLanes m a1 = some r) : MX yX9_areLanes cX9_areLanes 2 (some .boolean) { frames := 1, cells := 0, slots := 0, locals := 20 } n [.ref 43, .int a1] m (some (.int (b2i r))) m := by
  refine MX_of (by decide) (Nat.le_of_ble_eq_true rfl) (Or.inr (Or.inr (Or.inr ⟨rfl, _, rfl⟩))) (fun K hC hk hL hR => ?_)
  replace hn64 : 64 ≤ kn K := hk.symm ▸ hn64
  show RX K 0 [(0, .ref 43), (1, .int a1)] [] m
  rw [gX9_areLanes] at hg
  refine R_iload_n (pc := 0) hC 1 dX9_areLanes_0 rfl rfl ?_
  refine R_if_lt (tgt := 19) (pc := 1) hC dX9_areLanes_1 (by decide) (fun c => ?_) (fun c => ?_)
  · replace hg := (if_pos c).symm.trans hg
    refine R_iconst (pc := 19) hC dX9_areLanes_19 ki_0 ?_
    have h9 := gxZ (m := m) hg
    exact R_ireturn (pc := 20) hC dX9_areLanes_20 h9
  · replace hg := (if_neg c).symm.trans hg
    refine R_iload_n (pc := 4) hC 1 dX9_areLanes_4 rfl rfl ?_
    refine R_aload_n (pc := 5) hC 0 dX9_areLanes_5 rfl rfl ?_
    obtain ⟨x1, hx1, hg⟩ := bind_some hg
    refine R_callV (pc := 6) (av := []) (rest := [.int a1]) hC hR 43 (jx hn64 rfl) ly43 rfl mf_X9_allLanes wm_X9_162 (LX9_allLanes hn64 hx1) rfl rfl rfl (Nat.le_of_ble_eq_true rfl) dX9_areLanes_6 rfl ?_
    show RX K 9 [(0, .ref 43), (1, .int a1)] [.int x1, .int a1] m
    refine R_iconst (pc := 9) hC dX9_areLanes_9 ki_m1 ?_
    refine R_ixor (pc := 10) hC dX9_areLanes_10 ?_
    refine R_iand (pc := 11) hC dX9_areLanes_11 ?_
    refine R_if_ne (tgt := 19) (pc := 12) hC dX9_areLanes_12 (by decide) (fun c => ?_) (fun c => ?_)
    · replace hg := (if_neg c).symm.trans hg
      refine R_iconst (pc := 19) hC dX9_areLanes_19 ki_0 ?_
      have h9 := gxZ (m := m) hg
      exact R_ireturn (pc := 20) hC dX9_areLanes_20 h9
    · replace hg := (if_pos c).symm.trans hg
      refine R_iconst (pc := 15) hC dX9_areLanes_15 ki_1 ?_
      refine R_goto (tgt := 20) (pc := 16) hC dX9_areLanes_16 (by decide) ?_
      have h9 := gxZ (m := m) hg
      exact R_ireturn (pc := 20) hC dX9_areLanes_20 h9
