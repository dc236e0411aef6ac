theorem dX9_bits_0 : decode cX9_bits 0 = .ok (.iconst 0, 1) := by decide +kernel
theorem dX9_bits_1 : decode cX9_bits 1 = .ok (.istore_n 1, 1) := by decide +kernel
theorem dX9_bits_2 : decode cX9_bits 2 = .ok (.iconst 0, 1) := by decide +kernel
theorem dX9_bits_3 : decode cX9_bits 3 = .ok (.istore_n 2, 1) := by decide +kernel
theorem dX9_bits_4 : decode cX9_bits 4 = .ok (.iload_n 2, 1) := by decide +kernel
theorem dX9_bits_5 : decode cX9_bits 5 = .ok (.bipush 31, 2) := by decide +kernel
theorem dX9_bits_7 : decode cX9_bits 7 = .ok (.if_icmp .ge 17, 3) := by decide +kernel
theorem dX9_bits_10 : decode cX9_bits 10 = .ok (.iload_n 1, 1) := by decide +kernel
theorem dX9_bits_11 : decode cX9_bits 11 = .ok (.iload_n 0, 1) := by decide +kernel
theorem dX9_bits_12 : decode cX9_bits 12 = .ok (.iload_n 2, 1) := by decide +kernel
theorem dX9_bits_13 : decode cX9_bits 13 = .ok (.ishr, 1) := by decide +kernel
theorem dX9_bits_14 : decode cX9_bits 14 = .ok (.iconst 1, 1) := by decide +kernel
theorem dX9_bits_15 : decode cX9_bits 15 = .ok (.iand, 1) := by decide +kernel
theorem dX9_bits_16 : decode cX9_bits 16 = .ok (.iadd, 1) := by decide +kernel
theorem dX9_bits_17 : decode cX9_bits 17 = .ok (.istore_n 1, 1) := by decide +kernel
theorem dX9_bits_18 : decode cX9_bits 18 = .ok (.iinc 2 1, 3) := by decide +kernel
theorem dX9_bits_21 : decode cX9_bits 21 = .ok (.goto (-17), 3) := by decide +kernel
theorem dX9_bits_24 : decode cX9_bits 24 = .ok (.iload_n 1, 1) := by decide +kernel
theorem dX9_bits_25 : decode cX9_bits 25 = .ok (.ireturn, 1) := by decide +kernel
def bX9_bits_4 (a1 : Int32) : (Int32 × Int32) → Option ((Int32 × Int32) ⊕ (Int32 × Int32))
  | (y1, y2) => (if 31 ≤ y2 then some (.inr (y1, y2)) else lete (y1 + ((a1 >>> (y2 &&& 31)) &&& 1)) (fun x3 => some (.inl (x3, y2 + 1))))
def gX9_bits (F : Nat) (a1 : Int32) : Option (Int32) := (iter F (bX9_bits_4 a1) (0, 0)).bind (fun e4 => some e4.1)
set_option maxHeartbeats 4000000 in
set_option maxRecDepth 20000 in
theorem LX9_bits {n : Nat} {F : Nat} {m : Mem} {a1 : Int32} {r : Int32} (hn64 : 64 ≤ n) (hg : gX9_bits F a1 = some r) : MX yX9_bits cX9_bits 3 (some .int) { frames := 0, cells := 0, slots := 0, locals := 0 } n [.int a1] m (some (.int r)) m := by
  refine MX_of (by decide) (Nat.le_of_ble_eq_true rfl) (Or.inr (Or.inl ⟨rfl, _, rfl⟩)) (fun K hC hk hL hR => ?_)
  replace hn64 : 64 ≤ kn K := hk.symm ▸ hn64
  show RX K 0 [(0, .int a1)] [] m
  rw [gX9_bits] at hg
  refine R_iconst (pc := 0) hC dX9_bits_0 ki_0 ?_
  refine R_istore_n (pc := 1) hC dX9_bits_1 rfl hL rfl (show _ = [(1, .int 0), (0, .int a1)] from rfl) ?_
  refine R_iconst (pc := 2) hC dX9_bits_2 ki_0 ?_
  refine R_istore_n (pc := 3) hC dX9_bits_3 rfl hL rfl (show _ = [(2, .int 0), (1, .int 0), (0, .int a1)] from rfl) ?_
  refine R_pick [2, 1, 0] (ls' := [(0, .int a1), (1, .int 0), (2, .int 0)]) rfl ?_
  obtain ⟨e4, he4, hg⟩ := bind_some hg
  refine iter_walk (P := fun s : (Int32 × Int32) => RX K 4 [(0, .int a1), (1, .int s.1), (2, .int s.2)] [] m) (Qe := fun s : (Int32 × Int32) => RX K 24 [(0, .int a1), (1, .int s.1), (2, .int s.2)] [] m) (fun s5 o hg kL4 kE4 => ?_) _ _ _ he4 ?_
  · obtain ⟨y1, y2⟩ := s5
    rw [bX9_bits_4] at hg
    show RX K 4 [(0, .int a1), (1, .int y1), (2, .int y2)] [] m
    refine R_iload_n (pc := 4) hC 2 dX9_bits_4 rfl rfl ?_
    refine R_bipush (pc := 5) hC dX9_bits_5 kb_31 ?_
    refine R_icmp_ge (tgt := 24) (pc := 7) hC dX9_bits_7 (by decide) (fun c => ?_) (fun c => ?_)
    · replace hg := (if_pos c).symm.trans hg
      refine R_pick [0, 1, 2] (ls' := [(0, .int a1), (1, .int y1), (2, .int y2)]) rfl ?_
      have h9 := kE4 _ (Option.some.inj hg).symm
      exact h9
    · replace hg := (if_neg c).symm.trans hg
      refine R_iload_n (pc := 10) hC 1 dX9_bits_10 rfl rfl ?_
      refine R_iload_n (pc := 11) hC 0 dX9_bits_11 rfl rfl ?_
      refine R_iload_n (pc := 12) hC 2 dX9_bits_12 rfl rfl ?_
      refine R_ishr (pc := 13) hC dX9_bits_13 ?_
      refine R_iconst (pc := 14) hC dX9_bits_14 ki_1 ?_
      refine R_iand (pc := 15) hC dX9_bits_15 ?_
      refine R_iadd (pc := 16) hC dX9_bits_16 ?_
      obtain ⟨x3, hx3, hg⟩ := lete_some hg
      refine R_top hx3 ?_
      refine R_istore_n (pc := 17) hC dX9_bits_17 rfl hL rfl (show _ = [(1, .int x3), (0, .int a1), (2, .int y2)] from rfl) ?_
      refine R_iinc (pc := 18) hC 2 dX9_bits_18 rfl (iv ki_1) hL rfl (show _ = [(2, .int (y2 + 1)), (1, .int x3), (0, .int a1)] from rfl) ?_
      refine R_goto (tgt := 4) (pc := 21) hC dX9_bits_21 (by decide) ?_
      refine R_pick [2, 1, 0] (ls' := [(0, .int a1), (1, .int x3), (2, .int (y2 + 1))]) rfl ?_
      have h9 := kL4 _ (Option.some.inj hg).symm
      exact h9
  · show RX K 24 [(0, .int a1), (1, .int e4.1), (2, .int e4.2)] [] m
    refine R_iload_n (pc := 24) hC 1 dX9_bits_24 rfl rfl ?_
    have h9 := gxI (m := m) hg
    exact R_ireturn (pc := 25) hC dX9_bits_25 h9
theorem dX9_partsOf_0 : decode cX9_partsOf 0 = .ok (.iconst 0, 1) := by decide +kernel
theorem dX9_partsOf_1 : decode cX9_partsOf 1 = .ok (.istore_n 2, 1) := by decide +kernel
theorem dX9_partsOf_2 : decode cX9_partsOf 2 = .ok (.iload_n 2, 1) := by decide +kernel
theorem dX9_partsOf_3 : decode cX9_partsOf 3 = .ok (.aload_n 0, 1) := by decide +kernel
theorem dX9_partsOf_4 : decode cX9_partsOf 4 = .ok (.getfield 34, 3) := by decide +kernel
theorem dX9_partsOf_7 : decode cX9_partsOf 7 = .ok (.if_icmp .ge 16, 3) := by decide +kernel
theorem dX9_partsOf_10 : decode cX9_partsOf 10 = .ok (.aload_n 0, 1) := by decide +kernel
theorem dX9_partsOf_11 : decode cX9_partsOf 11 = .ok (.getfield 53, 3) := by decide +kernel
theorem dX9_partsOf_14 : decode cX9_partsOf 14 = .ok (.iload_n 2, 1) := by decide +kernel
theorem dX9_partsOf_15 : decode cX9_partsOf 15 = .ok (.iload_n 2, 1) := by decide +kernel
theorem dX9_partsOf_16 : decode cX9_partsOf 16 = .ok (.iastore, 1) := by decide +kernel
theorem dX9_partsOf_17 : decode cX9_partsOf 17 = .ok (.iinc 2 1, 3) := by decide +kernel
theorem dX9_partsOf_20 : decode cX9_partsOf 20 = .ok (.goto (-18), 3) := by decide +kernel
theorem dX9_partsOf_23 : decode cX9_partsOf 23 = .ok (.aload_n 0, 1) := by decide +kernel
theorem dX9_partsOf_24 : decode cX9_partsOf 24 = .ok (.getfield 34, 3) := by decide +kernel
theorem dX9_partsOf_27 : decode cX9_partsOf 27 = .ok (.istore_n 2, 1) := by decide +kernel
theorem dX9_partsOf_28 : decode cX9_partsOf 28 = .ok (.iconst 0, 1) := by decide +kernel
theorem dX9_partsOf_29 : decode cX9_partsOf 29 = .ok (.istore_n 3, 1) := by decide +kernel
theorem dX9_partsOf_30 : decode cX9_partsOf 30 = .ok (.iload_n 3, 1) := by decide +kernel
theorem dX9_partsOf_31 : decode cX9_partsOf 31 = .ok (.aload_n 0, 1) := by decide +kernel
theorem dX9_partsOf_32 : decode cX9_partsOf 32 = .ok (.getfield 77, 3) := by decide +kernel
theorem dX9_partsOf_35 : decode cX9_partsOf 35 = .ok (.if_icmp .ge 105, 3) := by decide +kernel
theorem dX9_partsOf_38 : decode cX9_partsOf 38 = .ok (.aload_n 0, 1) := by decide +kernel
theorem dX9_partsOf_39 : decode cX9_partsOf 39 = .ok (.getfield 53, 3) := by decide +kernel
theorem dX9_partsOf_42 : decode cX9_partsOf 42 = .ok (.aload_n 0, 1) := by decide +kernel
theorem dX9_partsOf_43 : decode cX9_partsOf 43 = .ok (.getfield 16, 3) := by decide +kernel
theorem dX9_partsOf_46 : decode cX9_partsOf 46 = .ok (.iload_n 3, 1) := by decide +kernel
theorem dX9_partsOf_47 : decode cX9_partsOf 47 = .ok (.iaload, 1) := by decide +kernel
theorem dX9_partsOf_48 : decode cX9_partsOf 48 = .ok (.iaload, 1) := by decide +kernel
theorem dX9_partsOf_49 : decode cX9_partsOf 49 = .ok (.istore 4, 2) := by decide +kernel
theorem dX9_partsOf_51 : decode cX9_partsOf 51 = .ok (.aload_n 0, 1) := by decide +kernel
theorem dX9_partsOf_52 : decode cX9_partsOf 52 = .ok (.getfield 53, 3) := by decide +kernel
theorem dX9_partsOf_55 : decode cX9_partsOf 55 = .ok (.aload_n 0, 1) := by decide +kernel
theorem dX9_partsOf_56 : decode cX9_partsOf 56 = .ok (.getfield 19, 3) := by decide +kernel
theorem dX9_partsOf_59 : decode cX9_partsOf 59 = .ok (.iload_n 3, 1) := by decide +kernel
theorem dX9_partsOf_60 : decode cX9_partsOf 60 = .ok (.iaload, 1) := by decide +kernel
theorem dX9_partsOf_61 : decode cX9_partsOf 61 = .ok (.iaload, 1) := by decide +kernel
theorem dX9_partsOf_62 : decode cX9_partsOf 62 = .ok (.istore 5, 2) := by decide +kernel
theorem dX9_partsOf_64 : decode cX9_partsOf 64 = .ok (.iload_n 1, 1) := by decide +kernel
theorem dX9_partsOf_65 : decode cX9_partsOf 65 = .ok (.iload_n 3, 1) := by decide +kernel
theorem dX9_partsOf_66 : decode cX9_partsOf 66 = .ok (.ishr, 1) := by decide +kernel
theorem dX9_partsOf_67 : decode cX9_partsOf 67 = .ok (.iconst 1, 1) := by decide +kernel
theorem dX9_partsOf_68 : decode cX9_partsOf 68 = .ok (.iand, 1) := by decide +kernel
theorem dX9_partsOf_69 : decode cX9_partsOf 69 = .ok (.ifCond .eq 65, 3) := by decide +kernel
theorem dX9_partsOf_72 : decode cX9_partsOf 72 = .ok (.iload 4, 2) := by decide +kernel
theorem dX9_partsOf_74 : decode cX9_partsOf 74 = .ok (.iload 5, 2) := by decide +kernel
theorem dX9_partsOf_76 : decode cX9_partsOf 76 = .ok (.if_icmp .ne 6, 3) := by decide +kernel
theorem dX9_partsOf_79 : decode cX9_partsOf 79 = .ok (.goto 55, 3) := by decide +kernel
theorem dX9_partsOf_82 : decode cX9_partsOf 82 = .ok (.iinc 2 (-1), 3) := by decide +kernel
theorem dX9_partsOf_85 : decode cX9_partsOf 85 = .ok (.iconst 0, 1) := by decide +kernel
theorem dX9_partsOf_86 : decode cX9_partsOf 86 = .ok (.istore 6, 2) := by decide +kernel
theorem dX9_partsOf_88 : decode cX9_partsOf 88 = .ok (.iload 6, 2) := by decide +kernel
theorem dX9_partsOf_90 : decode cX9_partsOf 90 = .ok (.aload_n 0, 1) := by decide +kernel
theorem dX9_partsOf_91 : decode cX9_partsOf 91 = .ok (.getfield 34, 3) := by decide +kernel
theorem dX9_partsOf_94 : decode cX9_partsOf 94 = .ok (.if_icmp .ge 40, 3) := by decide +kernel
theorem dX9_partsOf_97 : decode cX9_partsOf 97 = .ok (.aload_n 0, 1) := by decide +kernel
theorem dX9_partsOf_98 : decode cX9_partsOf 98 = .ok (.getfield 53, 3) := by decide +kernel
theorem dX9_partsOf_101 : decode cX9_partsOf 101 = .ok (.iload 6, 2) := by decide +kernel
theorem dX9_partsOf_103 : decode cX9_partsOf 103 = .ok (.aload_n 0, 1) := by decide +kernel
theorem dX9_partsOf_104 : decode cX9_partsOf 104 = .ok (.getfield 53, 3) := by decide +kernel
theorem dX9_partsOf_107 : decode cX9_partsOf 107 = .ok (.iload 6, 2) := by decide +kernel
theorem dX9_partsOf_109 : decode cX9_partsOf 109 = .ok (.iaload, 1) := by decide +kernel
theorem dX9_partsOf_110 : decode cX9_partsOf 110 = .ok (.iload 5, 2) := by decide +kernel
theorem dX9_partsOf_112 : decode cX9_partsOf 112 = .ok (.if_icmp .ne 8, 3) := by decide +kernel
theorem dX9_partsOf_115 : decode cX9_partsOf 115 = .ok (.iload 4, 2) := by decide +kernel
theorem dX9_partsOf_117 : decode cX9_partsOf 117 = .ok (.goto 10, 3) := by decide +kernel
theorem dX9_partsOf_120 : decode cX9_partsOf 120 = .ok (.aload_n 0, 1) := by decide +kernel
theorem dX9_partsOf_121 : decode cX9_partsOf 121 = .ok (.getfield 53, 3) := by decide +kernel
theorem dX9_partsOf_124 : decode cX9_partsOf 124 = .ok (.iload 6, 2) := by decide +kernel
theorem dX9_partsOf_126 : decode cX9_partsOf 126 = .ok (.iaload, 1) := by decide +kernel
theorem dX9_partsOf_127 : decode cX9_partsOf 127 = .ok (.iastore, 1) := by decide +kernel
theorem dX9_partsOf_128 : decode cX9_partsOf 128 = .ok (.iinc 6 1, 3) := by decide +kernel
theorem dX9_partsOf_131 : decode cX9_partsOf 131 = .ok (.goto (-43), 3) := by decide +kernel
theorem dX9_partsOf_134 : decode cX9_partsOf 134 = .ok (.iinc 3 1, 3) := by decide +kernel
theorem dX9_partsOf_137 : decode cX9_partsOf 137 = .ok (.goto (-107), 3) := by decide +kernel
theorem dX9_partsOf_140 : decode cX9_partsOf 140 = .ok (.iload_n 2, 1) := by decide +kernel
theorem dX9_partsOf_141 : decode cX9_partsOf 141 = .ok (.ireturn, 1) := by decide +kernel
def bX9_partsOf_2  : (Int32 × Mem) → Option ((Int32 × Mem) ⊕ (Int32 × Mem))
  | (y1, m2) => (if (m2.1 43 8) ≤ y1 then some (.inr (y1, m2)) else chk (inb y1 7) (lete (mu m2 57 (Int32.toNatClampNeg y1) y1) (fun m4 => some (.inl (y1 + 1, m4)))))
def bX9_partsOf_88 (x13 : Int32) (x16 : Int32) : (Int32 × Mem) → Option ((Int32 × Mem) ⊕ (Int32 × Mem))
  | (y17, m18) => (if (m18.1 43 8) ≤ y17 then some (.inr (y17, m18)) else chk (inb y17 7) ((if (m18.1 57 (Int32.toNatClampNeg y17)) = x16 then chk (inb y17 7) (lete (mu m18 57 (Int32.toNatClampNeg y17) x13) (fun m24 => some (.inl (y17 + 1, m24)))) else chk (inb y17 7) (chk (inb y17 7) (lete (mu m18 57 (Int32.toNatClampNeg y17) (m18.1 57 (Int32.toNatClampNeg y17))) (fun m22 => some (.inl (y17 + 1, m22))))))))
def bX9_partsOf_30 (F : Nat) (a1 : Int32) : (Int32 × Int32 × Mem) → Option ((Int32 × Int32 × Mem) ⊕ (Int32 × Int32 × Mem))
  | (y8, y9, m10) => (if (m10.1 43 9) ≤ y9 then some (.inr (y8, y9, m10)) else chk (inb y9 11) (chk (inb (m10.1 46 (Int32.toNatClampNeg y9)) 7) (lete (m10.1 57 (Int32.toNatClampNeg (m10.1 46 (Int32.toNatClampNeg y9)))) (fun x13 => chk (inb y9 11) (chk (inb (m10.1 47 (Int32.toNatClampNeg y9)) 7) (lete (m10.1 57 (Int32.toNatClampNeg (m10.1 47 (Int32.toNatClampNeg y9)))) (fun x16 => (if ((a1 >>> (y9 &&& 31)) &&& 1) = 0 then some (.inl (y8, y9 + 1, m10)) else (if x13 = x16 then some (.inl (y8, y9 + 1, m10)) else (iter F (bX9_partsOf_88 x13 x16) (0, m10)).bind (fun e25 => some (.inl (y8 + (-1), y9 + 1, e25.2))))))))))))
def gX9_partsOf (F : Nat) (m : Mem) (a1 : Int32) : Option (Int32 × Mem) := (iter F (bX9_partsOf_2) (0, m)).bind (fun e5 => lete (e5.2.1 43 8) (fun x7 => (iter F (bX9_partsOf_30 F a1) (x7, 0, e5.2)).bind (fun e27 => some (e27.1, e27.2.2))))
set_option maxHeartbeats 4000000 in
set_option maxRecDepth 20000 in
theorem LX9_partsOf {n : Nat} {F : Nat} {m : Mem} {a1 : Int32} {r : Int32 × Mem} (hn64 : 64 ≤ n) (hg : gX9_partsOf F m a1 = some r) : MX yX9_partsOf cX9_partsOf 7 (some .int) { frames := 0, cells := 0, slots := 0, locals := 0 } n [.ref 43, .int a1] m (some (.int r.1)) r.2 := by
  refine MX_of (by decide) (Nat.le_of_ble_eq_true rfl) (Or.inr (Or.inl ⟨rfl, _, rfl⟩)) (fun K hC hk hL hR => ?_)
  replace hn64 : 64 ≤ kn K := hk.symm ▸ hn64
  show RX K 0 [(0, .ref 43), (1, .int a1)] [] m
  rw [gX9_partsOf] at hg
  refine R_iconst (pc := 0) hC dX9_partsOf_0 ki_0 ?_
  refine R_istore_n (pc := 1) hC dX9_partsOf_1 rfl hL rfl (show _ = [(2, .int 0), (0, .ref 43), (1, .int a1)] from rfl) ?_
  refine R_pick [1, 2, 0] (ls' := [(0, .ref 43), (1, .int a1), (2, .int 0)]) rfl ?_
  obtain ⟨e5, he5, hg⟩ := bind_some hg
  refine iter_walk (P := fun s : (Int32 × Mem) => RX K 2 [(0, .ref 43), (1, .int a1), (2, .int s.1)] [] s.2) (Qe := fun s : (Int32 × Mem) => RX K 23 [(0, .ref 43), (1, .int a1), (2, .int s.1)] [] s.2) (fun s6 o hg kL2 kE2 => ?_) _ _ _ he5 ?_
  · obtain ⟨y1, m2⟩ := s6
    rw [bX9_partsOf_2] at hg
    show RX K 2 [(0, .ref 43), (1, .int a1), (2, .int y1)] [] m2
    refine R_iload_n (pc := 2) hC 2 dX9_partsOf_2 rfl rfl ?_
    refine R_aload_n (pc := 3) hC 0 dX9_partsOf_3 rfl rfl ?_
    refine gf_X9_34 (pc := 4) hC hn64 dX9_partsOf_4 ?_
    refine R_icmp_ge (tgt := 23) (pc := 7) hC dX9_partsOf_7 (by decide) (fun c => ?_) (fun c => ?_)
    · replace hg := (if_pos c).symm.trans hg
      refine R_pick [0, 1, 2] (ls' := [(0, .ref 43), (1, .int a1), (2, .int y1)]) rfl ?_
      have h9 := kE2 _ (Option.some.inj hg).symm
      exact h9
    · replace hg := (if_neg c).symm.trans hg
      refine R_aload_n (pc := 10) hC 0 dX9_partsOf_10 rfl rfl ?_
      refine gf_X9_53 (pc := 11) hC hn64 dX9_partsOf_11 ?_
      refine R_iload_n (pc := 14) hC 2 dX9_partsOf_14 rfl rfl ?_
      refine R_iload_n (pc := 15) hC 2 dX9_partsOf_15 rfl rfl ?_
      obtain ⟨c3, hg⟩ := chk_some hg
      obtain ⟨m4, hm4, hg⟩ := lete_some hg
      refine R_iastore (pc := 16) hC 57 (jx hn64 rfl) ly57 (inb_vp c3) dX9_partsOf_16 ?_
      refine R_mem hm4 ?_
      refine R_iinc (pc := 17) hC 2 dX9_partsOf_17 rfl (iv ki_1) hL rfl (show _ = [(2, .int (y1 + 1)), (0, .ref 43), (1, .int a1)] from rfl) ?_
      refine R_goto (tgt := 2) (pc := 20) hC dX9_partsOf_20 (by decide) ?_
      refine R_pick [1, 2, 0] (ls' := [(0, .ref 43), (1, .int a1), (2, .int (y1 + 1))]) rfl ?_
      have h9 := kL2 _ (Option.some.inj hg).symm
      exact h9
  · show RX K 23 [(0, .ref 43), (1, .int a1), (2, .int e5.1)] [] e5.2
    refine R_aload_n (pc := 23) hC 0 dX9_partsOf_23 rfl rfl ?_
    refine gf_X9_34 (pc := 24) hC hn64 dX9_partsOf_24 ?_
    obtain ⟨x7, hx7, hg⟩ := lete_some hg
    refine R_top hx7 ?_
    refine R_istore_n (pc := 27) hC dX9_partsOf_27 rfl hL rfl (show _ = [(2, .int x7), (0, .ref 43), (1, .int a1)] from rfl) ?_
    refine R_iconst (pc := 28) hC dX9_partsOf_28 ki_0 ?_
    refine R_istore_n (pc := 29) hC dX9_partsOf_29 rfl hL rfl (show _ = [(3, .int 0), (2, .int x7), (0, .ref 43), (1, .int a1)] from rfl) ?_
    refine R_pick [2, 3, 1, 0] (ls' := [(0, .ref 43), (1, .int a1), (2, .int x7), (3, .int 0)]) rfl ?_
    obtain ⟨e27, he27, hg⟩ := bind_some hg
    refine iter_walk (P := fun s : (Int32 × Int32 × Mem) => RX K 30 [(0, .ref 43), (1, .int a1), (2, .int s.1), (3, .int s.2.1)] [] s.2.2) (Qe := fun s : (Int32 × Int32 × Mem) => RX K 140 [(0, .ref 43), (1, .int a1), (2, .int s.1), (3, .int s.2.1)] [] s.2.2) (fun s28 o hg kL30 kE30 => ?_) _ _ _ he27 ?_
    · obtain ⟨y8, y9, m10⟩ := s28
      rw [bX9_partsOf_30] at hg
      show RX K 30 [(0, .ref 43), (1, .int a1), (2, .int y8), (3, .int y9)] [] m10
      refine R_iload_n (pc := 30) hC 3 dX9_partsOf_30 rfl rfl ?_
      refine R_aload_n (pc := 31) hC 0 dX9_partsOf_31 rfl rfl ?_
      refine gf_X9_77 (pc := 32) hC hn64 dX9_partsOf_32 ?_
      refine R_icmp_ge (tgt := 140) (pc := 35) hC dX9_partsOf_35 (by decide) (fun c => ?_) (fun c => ?_)
      · replace hg := (if_pos c).symm.trans hg
        refine R_pick [0, 1, 2, 3] (ls' := [(0, .ref 43), (1, .int a1), (2, .int y8), (3, .int y9)]) rfl ?_
        have h9 := kE30 _ (Option.some.inj hg).symm
        exact h9
      · replace hg := (if_neg c).symm.trans hg
        refine R_aload_n (pc := 38) hC 0 dX9_partsOf_38 rfl rfl ?_
        refine gf_X9_53 (pc := 39) hC hn64 dX9_partsOf_39 ?_
        refine R_aload_n (pc := 42) hC 0 dX9_partsOf_42 rfl rfl ?_
        refine gf_X9_16 (pc := 43) hC hn64 dX9_partsOf_43 ?_
        refine R_iload_n (pc := 46) hC 3 dX9_partsOf_46 rfl rfl ?_
        obtain ⟨c11, hg⟩ := chk_some hg
        refine R_iaload (pc := 47) hC 46 (jx hn64 rfl) ly46 (inb_vp c11) dX9_partsOf_47 ?_
        obtain ⟨c12, hg⟩ := chk_some hg
        refine R_iaload (pc := 48) hC 57 (jx hn64 rfl) ly57 (inb_vp c12) dX9_partsOf_48 ?_
        obtain ⟨x13, hx13, hg⟩ := lete_some hg
        refine R_top hx13 ?_
        refine R_istore (pc := 49) hC dX9_partsOf_49 hL rfl (show _ = [(4, .int x13), (0, .ref 43), (1, .int a1), (2, .int y8), (3, .int y9)] from rfl) ?_
        refine R_aload_n (pc := 51) hC 1 dX9_partsOf_51 rfl rfl ?_
        refine gf_X9_53 (pc := 52) hC hn64 dX9_partsOf_52 ?_
        refine R_aload_n (pc := 55) hC 1 dX9_partsOf_55 rfl rfl ?_
        refine gf_X9_19 (pc := 56) hC hn64 dX9_partsOf_56 ?_
        refine R_iload_n (pc := 59) hC 4 dX9_partsOf_59 rfl rfl ?_
        obtain ⟨c14, hg⟩ := chk_some hg
        refine R_iaload (pc := 60) hC 47 (jx hn64 rfl) ly47 (inb_vp c14) dX9_partsOf_60 ?_
        obtain ⟨c15, hg⟩ := chk_some hg
        refine R_iaload (pc := 61) hC 57 (jx hn64 rfl) ly57 (inb_vp c15) dX9_partsOf_61 ?_
        obtain ⟨x16, hx16, hg⟩ := lete_some hg
        refine R_top hx16 ?_
        refine R_istore (pc := 62) hC dX9_partsOf_62 hL rfl (show _ = [(5, .int x16), (4, .int x13), (0, .ref 43), (1, .int a1), (2, .int y8), (3, .int y9)] from rfl) ?_
        refine R_iload_n (pc := 64) hC 3 dX9_partsOf_64 rfl rfl ?_
        refine R_iload_n (pc := 65) hC 5 dX9_partsOf_65 rfl rfl ?_
        refine R_ishr (pc := 66) hC dX9_partsOf_66 ?_
        refine R_iconst (pc := 67) hC dX9_partsOf_67 ki_1 ?_
        refine R_iand (pc := 68) hC dX9_partsOf_68 ?_
        refine R_if_eq (tgt := 134) (pc := 69) hC dX9_partsOf_69 (by decide) (fun c => ?_) (fun c => ?_)
        · replace hg := (if_pos c).symm.trans hg
          refine R_iinc (pc := 134) hC 5 dX9_partsOf_134 rfl (iv ki_1) hL rfl (show _ = [(3, .int (y9 + 1)), (5, .int x16), (4, .int x13), (0, .ref 43), (1, .int a1), (2, .int y8)] from rfl) ?_
          refine R_goto (tgt := 30) (pc := 137) hC dX9_partsOf_137 (by decide) ?_
          refine R_pick [3, 4, 5, 0] (ls' := [(0, .ref 43), (1, .int a1), (2, .int y8), (3, .int (y9 + 1))]) rfl ?_
          have h9 := kL30 _ (Option.some.inj hg).symm
          exact h9
        · replace hg := (if_neg c).symm.trans hg
          refine R_iload (pc := 72) hC 1 dX9_partsOf_72 rfl ?_
          refine R_iload (pc := 74) hC 0 dX9_partsOf_74 rfl ?_
          refine R_icmp_ne (tgt := 82) (pc := 76) hC dX9_partsOf_76 (by decide) (fun c => ?_) (fun c => ?_)
          · replace hg := (if_neg c).symm.trans hg
            refine R_iinc (pc := 82) hC 4 dX9_partsOf_82 rfl (iv ki_m1) hL rfl (show _ = [(2, .int (y8 + (-1))), (5, .int x16), (4, .int x13), (0, .ref 43), (1, .int a1), (3, .int y9)] from rfl) ?_
            refine R_iconst (pc := 85) hC dX9_partsOf_85 ki_0 ?_
            refine R_istore (pc := 86) hC dX9_partsOf_86 hL rfl (show _ = [(6, .int 0), (2, .int (y8 + (-1))), (5, .int x16), (4, .int x13), (0, .ref 43), (1, .int a1), (3, .int y9)] from rfl) ?_
            refine R_pick [4, 5, 1, 6, 3, 2, 0] (ls' := [(0, .ref 43), (1, .int a1), (2, .int (y8 + (-1))), (3, .int y9), (4, .int x13), (5, .int x16), (6, .int 0)]) rfl ?_
            obtain ⟨e25, he25, hg⟩ := bind_some hg
            refine iter_walk (P := fun s : (Int32 × Mem) => RX K 88 [(0, .ref 43), (1, .int a1), (2, .int (y8 + (-1))), (3, .int y9), (4, .int x13), (5, .int x16), (6, .int s.1)] [] s.2) (Qe := fun s : (Int32 × Mem) => RX K 134 [(0, .ref 43), (1, .int a1), (2, .int (y8 + (-1))), (3, .int y9), (4, .int x13), (5, .int x16), (6, .int s.1)] [] s.2) (fun s26 o hg kL88 kE88 => ?_) _ _ _ he25 ?_
            · obtain ⟨y17, m18⟩ := s26
              rw [bX9_partsOf_88] at hg
              show RX K 88 [(0, .ref 43), (1, .int a1), (2, .int (y8 + (-1))), (3, .int y9), (4, .int x13), (5, .int x16), (6, .int y17)] [] m18
              refine R_iload (pc := 88) hC 6 dX9_partsOf_88 rfl ?_
              refine R_aload_n (pc := 90) hC 0 dX9_partsOf_90 rfl rfl ?_
              refine gf_X9_34 (pc := 91) hC hn64 dX9_partsOf_91 ?_
              refine R_icmp_ge (tgt := 134) (pc := 94) hC dX9_partsOf_94 (by decide) (fun c => ?_) (fun c => ?_)
              · replace hg := (if_pos c).symm.trans hg
                refine R_pick [0, 1, 2, 3, 4, 5, 6] (ls' := [(0, .ref 43), (1, .int a1), (2, .int (y8 + (-1))), (3, .int y9), (4, .int x13), (5, .int x16), (6, .int y17)]) rfl ?_
                have h9 := kE88 _ (Option.some.inj hg).symm
                exact h9
              · replace hg := (if_neg c).symm.trans hg
                refine R_aload_n (pc := 97) hC 0 dX9_partsOf_97 rfl rfl ?_
                refine gf_X9_53 (pc := 98) hC hn64 dX9_partsOf_98 ?_
                refine R_iload (pc := 101) hC 6 dX9_partsOf_101 rfl ?_
                refine R_aload_n (pc := 103) hC 0 dX9_partsOf_103 rfl rfl ?_
                refine gf_X9_53 (pc := 104) hC hn64 dX9_partsOf_104 ?_
                refine R_iload (pc := 107) hC 6 dX9_partsOf_107 rfl ?_
                obtain ⟨c19, hg⟩ := chk_some hg
                refine R_iaload (pc := 109) hC 57 (jx hn64 rfl) ly57 (inb_vp c19) dX9_partsOf_109 ?_
                refine R_iload (pc := 110) hC 5 dX9_partsOf_110 rfl ?_
                refine R_icmp_ne (tgt := 120) (pc := 112) hC dX9_partsOf_112 (by decide) (fun c => ?_) (fun c => ?_)
                · replace hg := (if_neg c).symm.trans hg
                  refine R_aload_n (pc := 120) hC 0 dX9_partsOf_120 rfl rfl ?_
                  refine gf_X9_53 (pc := 121) hC hn64 dX9_partsOf_121 ?_
                  refine R_iload (pc := 124) hC 6 dX9_partsOf_124 rfl ?_
                  obtain ⟨c20, hg⟩ := chk_some hg
                  refine R_iaload (pc := 126) hC 57 (jx hn64 rfl) ly57 (inb_vp c20) dX9_partsOf_126 ?_
                  obtain ⟨c21, hg⟩ := chk_some hg
                  obtain ⟨m22, hm22, hg⟩ := lete_some hg
                  refine R_iastore (pc := 127) hC 57 (jx hn64 rfl) ly57 (inb_vp c21) dX9_partsOf_127 ?_
                  refine R_mem hm22 ?_
                  refine R_iinc (pc := 128) hC 6 dX9_partsOf_128 rfl (iv ki_1) hL rfl (show _ = [(6, .int (y17 + 1)), (0, .ref 43), (1, .int a1), (2, .int (y8 + (-1))), (3, .int y9), (4, .int x13), (5, .int x16)] from rfl) ?_
                  refine R_goto (tgt := 88) (pc := 131) hC dX9_partsOf_131 (by decide) ?_
                  refine R_pick [1, 2, 3, 4, 5, 6, 0] (ls' := [(0, .ref 43), (1, .int a1), (2, .int (y8 + (-1))), (3, .int y9), (4, .int x13), (5, .int x16), (6, .int (y17 + 1))]) rfl ?_
                  have h9 := kL88 _ (Option.some.inj hg).symm
                  exact h9
                · replace hg := (if_pos c).symm.trans hg
                  refine R_iload (pc := 115) hC 4 dX9_partsOf_115 rfl ?_
                  refine R_goto (tgt := 127) (pc := 117) hC dX9_partsOf_117 (by decide) ?_
                  obtain ⟨c23, hg⟩ := chk_some hg
                  obtain ⟨m24, hm24, hg⟩ := lete_some hg
                  refine R_iastore (pc := 127) hC 57 (jx hn64 rfl) ly57 (inb_vp c23) dX9_partsOf_127 ?_
                  refine R_mem hm24 ?_
                  refine R_iinc (pc := 128) hC 6 dX9_partsOf_128 rfl (iv ki_1) hL rfl (show _ = [(6, .int (y17 + 1)), (0, .ref 43), (1, .int a1), (2, .int (y8 + (-1))), (3, .int y9), (4, .int x13), (5, .int x16)] from rfl) ?_
                  refine R_goto (tgt := 88) (pc := 131) hC dX9_partsOf_131 (by decide) ?_
                  refine R_pick [1, 2, 3, 4, 5, 6, 0] (ls' := [(0, .ref 43), (1, .int a1), (2, .int (y8 + (-1))), (3, .int y9), (4, .int x13), (5, .int x16), (6, .int (y17 + 1))]) rfl ?_
                  have h9 := kL88 _ (Option.some.inj hg).symm
                  exact h9
            · show RX K 134 [(0, .ref 43), (1, .int a1), (2, .int (y8 + (-1))), (3, .int y9), (4, .int x13), (5, .int x16), (6, .int e25.1)] [] e25.2
              refine R_iinc (pc := 134) hC 3 dX9_partsOf_134 rfl (iv ki_1) hL rfl (show _ = [(3, .int (y9 + 1)), (0, .ref 43), (1, .int a1), (2, .int (y8 + (-1))), (4, .int x13), (5, .int x16), (6, .int e25.1)] from rfl) ?_
              refine R_goto (tgt := 30) (pc := 137) hC dX9_partsOf_137 (by decide) ?_
              refine R_pick [1, 2, 3, 0] (ls' := [(0, .ref 43), (1, .int a1), (2, .int (y8 + (-1))), (3, .int (y9 + 1))]) rfl ?_
              have h9 := kL30 _ (Option.some.inj hg).symm
              exact h9
          · replace hg := (if_pos c).symm.trans hg
            refine R_goto (tgt := 134) (pc := 79) hC dX9_partsOf_79 (by decide) ?_
            refine R_iinc (pc := 134) hC 5 dX9_partsOf_134 rfl (iv ki_1) hL rfl (show _ = [(3, .int (y9 + 1)), (5, .int x16), (4, .int x13), (0, .ref 43), (1, .int a1), (2, .int y8)] from rfl) ?_
            refine R_goto (tgt := 30) (pc := 137) hC dX9_partsOf_137 (by decide) ?_
            refine R_pick [3, 4, 5, 0] (ls' := [(0, .ref 43), (1, .int a1), (2, .int y8), (3, .int (y9 + 1))]) rfl ?_
            have h9 := kL30 _ (Option.some.inj hg).symm
            exact h9
    · show RX K 140 [(0, .ref 43), (1, .int a1), (2, .int e27.1), (3, .int e27.2.1)] [] e27.2.2
      refine R_iload_n (pc := 140) hC 2 dX9_partsOf_140 rfl rfl ?_
      have h9 := gxIM hg
      exact R_ireturn (pc := 141) hC dX9_partsOf_141 h9
theorem dX9_isForest_0 : decode cX9_isForest 0 = .ok (.iload_n 1, 1) := by decide +kernel
theorem dX9_isForest_1 : decode cX9_isForest 1 = .ok (.invokestatic 165, 3) := by decide +kernel
theorem dX9_isForest_4 : decode cX9_isForest 4 = .ok (.aload_n 0, 1) := by decide +kernel
theorem dX9_isForest_5 : decode cX9_isForest 5 = .ok (.getfield 34, 3) := by decide +kernel
theorem dX9_isForest_8 : decode cX9_isForest 8 = .ok (.iload_n 2, 1) := by decide +kernel
theorem dX9_isForest_9 : decode cX9_isForest 9 = .ok (.isub, 1) := by decide +kernel
theorem dX9_isForest_10 : decode cX9_isForest 10 = .ok (.if_icmp .ne 16, 3) := by decide +kernel
theorem dX9_isForest_13 : decode cX9_isForest 13 = .ok (.aload_n 0, 1) := by decide +kernel
theorem dX9_isForest_14 : decode cX9_isForest 14 = .ok (.iload_n 1, 1) := by decide +kernel
theorem dX9_isForest_15 : decode cX9_isForest 15 = .ok (.invokevirtual 168, 3) := by decide +kernel
theorem dX9_isForest_18 : decode cX9_isForest 18 = .ok (.iload_n 2, 1) := by decide +kernel
theorem dX9_isForest_19 : decode cX9_isForest 19 = .ok (.if_icmp .ne 7, 3) := by decide +kernel
theorem dX9_isForest_22 : decode cX9_isForest 22 = .ok (.iconst 1, 1) := by decide +kernel
theorem dX9_isForest_23 : decode cX9_isForest 23 = .ok (.goto 4, 3) := by decide +kernel
theorem dX9_isForest_26 : decode cX9_isForest 26 = .ok (.iconst 0, 1) := by decide +kernel
theorem dX9_isForest_27 : decode cX9_isForest 27 = .ok (.ireturn, 1) := by decide +kernel
def gX9_isForest (F : Nat) (m : Mem) (a1 : Int32) (a2 : Int32) : Option (Bool × Mem) := (gX9_bits F a1).bind (fun x1 => (if x1 = ((m.1 43 8) - a2) then (gX9_partsOf F m a1).bind (fun q2 => (if q2.1 = a2 then some (true, q2.2) else some (false, q2.2))) else some (false, m)))
set_option maxHeartbeats 4000000 in
set_option maxRecDepth 20000 in
theorem LX9_isForest {n : Nat} {F : Nat} {m : Mem} {a1 : Int32} {a2 : Int32} {r : Bool × Mem} (hn64 : 64 ≤ n) (hg : gX9_isForest F m a1 a2 = some r) : MX yX9_isForest cX9_isForest 3 (some .boolean) { frames := 1, cells := 0, slots := 0, locals := 26 } n [.ref 43, .int a1, .int a2] m (some (.int (b2i r.1))) r.2 := by
  refine MX_of (by decide) (Nat.le_of_ble_eq_true rfl) (Or.inr (Or.inr (Or.inr ⟨rfl, _, rfl⟩))) (fun K hC hk hL hR => ?_)
  replace hn64 : 64 ≤ kn K := hk.symm ▸ hn64
  show RX K 0 [(0, .ref 43), (1, .int a1), (2, .int a2)] [] m
  rw [gX9_isForest] at hg
  refine R_iload_n (pc := 0) hC 1 dX9_isForest_0 rfl rfl ?_
  obtain ⟨x1, hx1, hg⟩ := bind_some hg
  refine R_callS (pc := 1) (av := [.int a1]) (rest := []) hC hR mf_X9_bits wm_X9_165 (LX9_bits hn64 hx1) rfl rfl rfl (Nat.le_of_ble_eq_true rfl) dX9_isForest_1 rfl ?_
  show RX K 4 [(0, .ref 43), (1, .int a1), (2, .int a2)] [.int x1] m
  refine R_aload_n (pc := 4) hC 0 dX9_isForest_4 rfl rfl ?_
  refine gf_X9_34 (pc := 5) hC hn64 dX9_isForest_5 ?_
  refine R_iload_n (pc := 8) hC 2 dX9_isForest_8 rfl rfl ?_
  refine R_isub (pc := 9) hC dX9_isForest_9 ?_
  refine R_icmp_ne (tgt := 26) (pc := 10) hC dX9_isForest_10 (by decide) (fun c => ?_) (fun c => ?_)
  · replace hg := (if_neg c).symm.trans hg
    refine R_iconst (pc := 26) hC dX9_isForest_26 ki_0 ?_
    have h9 := gxZM hg
    exact R_ireturn (pc := 27) hC dX9_isForest_27 h9
  · replace hg := (if_pos c).symm.trans hg
    refine R_aload_n (pc := 13) hC 0 dX9_isForest_13 rfl rfl ?_
    refine R_iload_n (pc := 14) hC 1 dX9_isForest_14 rfl rfl ?_
    obtain ⟨q2, hq2, hg⟩ := bind_some hg
    refine R_callV (pc := 15) (av := [.int a1]) (rest := []) hC hR 43 (jx hn64 rfl) ly43 rfl mf_X9_partsOf wm_X9_168 (LX9_partsOf hn64 hq2) rfl rfl rfl (Nat.le_of_ble_eq_true rfl) dX9_isForest_15 rfl ?_
    show RX K 18 [(0, .ref 43), (1, .int a1), (2, .int a2)] [.int q2.1] q2.2
    refine R_iload_n (pc := 18) hC 2 dX9_isForest_18 rfl rfl ?_
    refine R_icmp_ne (tgt := 26) (pc := 19) hC dX9_isForest_19 (by decide) (fun c => ?_) (fun c => ?_)
    · replace hg := (if_neg c).symm.trans hg
      refine R_iconst (pc := 26) hC dX9_isForest_26 ki_0 ?_
      have h9 := gxZM hg
      exact R_ireturn (pc := 27) hC dX9_isForest_27 h9
    · replace hg := (if_pos c).symm.trans hg
      refine R_iconst (pc := 22) hC dX9_isForest_22 ki_1 ?_
      refine R_goto (tgt := 27) (pc := 23) hC dX9_isForest_23 (by decide) ?_
      have h9 := gxZM hg
      exact R_ireturn (pc := 27) hC dX9_isForest_27 h9
theorem dX9_isRuled_0 : decode cX9_isRuled 0 = .ok (.iload_n 1, 1) := by decide +kernel
theorem dX9_isRuled_1 : decode cX9_isRuled 1 = .ok (.aload_n 0, 1) := by decide +kernel
theorem dX9_isRuled_2 : decode cX9_isRuled 2 = .ok (.iconst 2, 1) := by decide +kernel
theorem dX9_isRuled_3 : decode cX9_isRuled 3 = .ok (.invokevirtual 171, 3) := by decide +kernel
theorem dX9_isRuled_6 : decode cX9_isRuled 6 = .ok (.iand, 1) := by decide +kernel
theorem dX9_isRuled_7 : decode cX9_isRuled 7 = .ok (.ifCond .ne 19, 3) := by decide +kernel
theorem dX9_isRuled_10 : decode cX9_isRuled 10 = .ok (.aload_n 0, 1) := by decide +kernel
theorem dX9_isRuled_11 : decode cX9_isRuled 11 = .ok (.iconst 1, 1) := by decide +kernel
theorem dX9_isRuled_12 : decode cX9_isRuled 12 = .ok (.invokevirtual 171, 3) := by decide +kernel
theorem dX9_isRuled_15 : decode cX9_isRuled 15 = .ok (.iload_n 1, 1) := by decide +kernel
theorem dX9_isRuled_16 : decode cX9_isRuled 16 = .ok (.iconst (-1), 1) := by decide +kernel
theorem dX9_isRuled_17 : decode cX9_isRuled 17 = .ok (.ixor, 1) := by decide +kernel
theorem dX9_isRuled_18 : decode cX9_isRuled 18 = .ok (.iand, 1) := by decide +kernel
theorem dX9_isRuled_19 : decode cX9_isRuled 19 = .ok (.ifCond .ne 7, 3) := by decide +kernel
theorem dX9_isRuled_22 : decode cX9_isRuled 22 = .ok (.iconst 1, 1) := by decide +kernel
theorem dX9_isRuled_23 : decode cX9_isRuled 23 = .ok (.goto 4, 3) := by decide +kernel
theorem dX9_isRuled_26 : decode cX9_isRuled 26 = .ok (.iconst 0, 1) := by decide +kernel
theorem dX9_isRuled_27 : decode cX9_isRuled 27 = .ok (.ireturn, 1) := by decide +kernel
def gX9_isRuled (F : Nat) (m : Mem) (a1 : Int32) : Option (Bool) := (gX9_ruledAs F m 2).bind (fun x1 => (if (a1 &&& x1) = 0 then (gX9_ruledAs F m 1).bind (fun x2 => (if (x2 &&& (a1 ^^^ (-1))) = 0 then some true else some false)) else some false))
set_option maxHeartbeats 4000000 in
set_option maxRecDepth 20000 in
theorem LX9_isRuled {n : Nat} {F : Nat} {m : Mem} {a1 : Int32} {r : Bool} (hn64 : 64 ≤ n) (hg : gX9_isRuled F m a1 = some r) : MX yX9_isRuled cX9_isRuled 2 (some .boolean) { frames := 1, cells := 0, slots := 0, locals := 23 } n [.ref 43, .int a1] m (some (.int (b2i r))) m := by
  refine MX_of (by decide) (Nat.le_of_ble_eq_true rfl) (Or.inr (Or.inr (Or.inr ⟨rfl, _, rfl⟩))) (fun K hC hk hL hR => ?_)
  replace hn64 : 64 ≤ kn K := hk.symm ▸ hn64
  show RX K 0 [(0, .ref 43), (1, .int a1)] [] m
  rw [gX9_isRuled] at hg
  refine R_iload_n (pc := 0) hC 1 dX9_isRuled_0 rfl rfl ?_
  refine R_aload_n (pc := 1) hC 0 dX9_isRuled_1 rfl rfl ?_
  refine R_iconst (pc := 2) hC dX9_isRuled_2 ki_2 ?_
  obtain ⟨x1, hx1, hg⟩ := bind_some hg
  refine R_callV (pc := 3) (av := [.int 2]) (rest := [.int a1]) hC hR 43 (jx hn64 rfl) ly43 rfl mf_X9_ruledAs wm_X9_171 (LX9_ruledAs hn64 hx1) rfl rfl rfl (Nat.le_of_ble_eq_true rfl) dX9_isRuled_3 rfl ?_
  show RX K 6 [(0, .ref 43), (1, .int a1)] [.int x1, .int a1] m
  refine R_iand (pc := 6) hC dX9_isRuled_6 ?_
  refine R_if_ne (tgt := 26) (pc := 7) hC dX9_isRuled_7 (by decide) (fun c => ?_) (fun c => ?_)
  · replace hg := (if_neg c).symm.trans hg
    refine R_iconst (pc := 26) hC dX9_isRuled_26 ki_0 ?_
    have h9 := gxZ (m := m) hg
    exact R_ireturn (pc := 27) hC dX9_isRuled_27 h9
  · replace hg := (if_pos c).symm.trans hg
    refine R_aload_n (pc := 10) hC 0 dX9_isRuled_10 rfl rfl ?_
    refine R_iconst (pc := 11) hC dX9_isRuled_11 ki_1 ?_
    obtain ⟨x2, hx2, hg⟩ := bind_some hg
    refine R_callV (pc := 12) (av := [.int 1]) (rest := []) hC hR 43 (jx hn64 rfl) ly43 rfl mf_X9_ruledAs wm_X9_171 (LX9_ruledAs hn64 hx2) rfl rfl rfl (Nat.le_of_ble_eq_true rfl) dX9_isRuled_12 rfl ?_
    show RX K 15 [(0, .ref 43), (1, .int a1)] [.int x2] m
    refine R_iload_n (pc := 15) hC 1 dX9_isRuled_15 rfl rfl ?_
    refine R_iconst (pc := 16) hC dX9_isRuled_16 ki_m1 ?_
    refine R_ixor (pc := 17) hC dX9_isRuled_17 ?_
    refine R_iand (pc := 18) hC dX9_isRuled_18 ?_
    refine R_if_ne (tgt := 26) (pc := 19) hC dX9_isRuled_19 (by decide) (fun c => ?_) (fun c => ?_)
    · replace hg := (if_neg c).symm.trans hg
      refine R_iconst (pc := 26) hC dX9_isRuled_26 ki_0 ?_
      have h9 := gxZ (m := m) hg
      exact R_ireturn (pc := 27) hC dX9_isRuled_27 h9
    · replace hg := (if_pos c).symm.trans hg
      refine R_iconst (pc := 22) hC dX9_isRuled_22 ki_1 ?_
      refine R_goto (tgt := 27) (pc := 23) hC dX9_isRuled_23 (by decide) ?_
      have h9 := gxZ (m := m) hg
      exact R_ireturn (pc := 27) hC dX9_isRuled_27 h9
theorem dX9_isWay_0 : decode cX9_isWay 0 = .ok (.aload_n 0, 1) := by decide +kernel
theorem dX9_isWay_1 : decode cX9_isWay 1 = .ok (.iload_n 1, 1) := by decide +kernel
theorem dX9_isWay_2 : decode cX9_isWay 2 = .ok (.invokevirtual 174, 3) := by decide +kernel
theorem dX9_isWay_5 : decode cX9_isWay 5 = .ok (.ifCond .eq 24, 3) := by decide +kernel
theorem dX9_isWay_8 : decode cX9_isWay 8 = .ok (.aload_n 0, 1) := by decide +kernel
theorem dX9_isWay_9 : decode cX9_isWay 9 = .ok (.iload_n 1, 1) := by decide +kernel
theorem dX9_isWay_10 : decode cX9_isWay 10 = .ok (.iconst 1, 1) := by decide +kernel
theorem dX9_isWay_11 : decode cX9_isWay 11 = .ok (.invokevirtual 177, 3) := by decide +kernel
theorem dX9_isWay_14 : decode cX9_isWay 14 = .ok (.ifCond .eq 15, 3) := by decide +kernel
theorem dX9_isWay_17 : decode cX9_isWay 17 = .ok (.aload_n 0, 1) := by decide +kernel
theorem dX9_isWay_18 : decode cX9_isWay 18 = .ok (.iload_n 1, 1) := by decide +kernel
theorem dX9_isWay_19 : decode cX9_isWay 19 = .ok (.invokevirtual 180, 3) := by decide +kernel
theorem dX9_isWay_22 : decode cX9_isWay 22 = .ok (.ifCond .eq 7, 3) := by decide +kernel
theorem dX9_isWay_25 : decode cX9_isWay 25 = .ok (.iconst 1, 1) := by decide +kernel
theorem dX9_isWay_26 : decode cX9_isWay 26 = .ok (.goto 4, 3) := by decide +kernel
theorem dX9_isWay_29 : decode cX9_isWay 29 = .ok (.iconst 0, 1) := by decide +kernel
theorem dX9_isWay_30 : decode cX9_isWay 30 = .ok (.ireturn, 1) := by decide +kernel
def gX9_isWay (F : Nat) (m : Mem) (a1 : Int32) : Option (Bool × Mem) := (gX9_areLanes m a1).bind (fun x1 => (if x1 = true then (gX9_isForest F m a1 1).bind (fun q2 => (if q2.1 = true then (gX9_isRuled F q2.2 a1).bind (fun x3 => (if x3 = true then some (true, q2.2) else some (false, q2.2))) else some (false, q2.2))) else some (false, m)))
set_option maxHeartbeats 4000000 in
set_option maxRecDepth 20000 in
theorem LX9_isWay {n : Nat} {F : Nat} {m : Mem} {a1 : Int32} {r : Bool × Mem} (hn64 : 64 ≤ n) (hg : gX9_isWay F m a1 = some r) : MX yX9_isWay cX9_isWay 2 (some .boolean) { frames := 2, cells := 0, slots := 0, locals := 48 } n [.ref 43, .int a1] m (some (.int (b2i r.1))) r.2 := by
  refine MX_of (by decide) (Nat.le_of_ble_eq_true rfl) (Or.inr (Or.inr (Or.inr ⟨rfl, _, rfl⟩))) (fun K hC hk hL hR => ?_)
  replace hn64 : 64 ≤ kn K := hk.symm ▸ hn64
  show RX K 0 [(0, .ref 43), (1, .int a1)] [] m
  rw [gX9_isWay] at hg
  refine R_aload_n (pc := 0) hC 0 dX9_isWay_0 rfl rfl ?_
  refine R_iload_n (pc := 1) hC 1 dX9_isWay_1 rfl rfl ?_
  obtain ⟨x1, hx1, hg⟩ := bind_some hg
  refine R_callV (pc := 2) (av := [.int a1]) (rest := []) hC hR 43 (jx hn64 rfl) ly43 rfl mf_X9_areLanes wm_X9_174 (LX9_areLanes hn64 hx1) rfl rfl rfl (Nat.le_of_ble_eq_true rfl) dX9_isWay_2 rfl ?_
  show RX K 5 [(0, .ref 43), (1, .int a1)] [.int (b2i x1)] m
  refine R_ifB_eq (tgt := 29) (pc := 5) hC dX9_isWay_5 (by decide) (fun c => ?_) (fun c => ?_)
  · replace hg := (if_neg c).symm.trans hg
    refine R_iconst (pc := 29) hC dX9_isWay_29 ki_0 ?_
    have h9 := gxZM hg
    exact R_ireturn (pc := 30) hC dX9_isWay_30 h9
  · replace hg := (if_pos c).symm.trans hg
    refine R_aload_n (pc := 8) hC 0 dX9_isWay_8 rfl rfl ?_
    refine R_iload_n (pc := 9) hC 1 dX9_isWay_9 rfl rfl ?_
    refine R_iconst (pc := 10) hC dX9_isWay_10 ki_1 ?_
    obtain ⟨q2, hq2, hg⟩ := bind_some hg
    refine R_callV (pc := 11) (av := [.int a1, .int 1]) (rest := []) hC hR 43 (jx hn64 rfl) ly43 rfl mf_X9_isForest wm_X9_177 (LX9_isForest hn64 hq2) rfl rfl rfl (Nat.le_of_ble_eq_true rfl) dX9_isWay_11 rfl ?_
    show RX K 14 [(0, .ref 43), (1, .int a1)] [.int (b2i q2.1)] q2.2
    refine R_ifB_eq (tgt := 29) (pc := 14) hC dX9_isWay_14 (by decide) (fun c => ?_) (fun c => ?_)
    · replace hg := (if_neg c).symm.trans hg
      refine R_iconst (pc := 29) hC dX9_isWay_29 ki_0 ?_
      have h9 := gxZM hg
      exact R_ireturn (pc := 30) hC dX9_isWay_30 h9
    · replace hg := (if_pos c).symm.trans hg
      refine R_aload_n (pc := 17) hC 0 dX9_isWay_17 rfl rfl ?_
      refine R_iload_n (pc := 18) hC 1 dX9_isWay_18 rfl rfl ?_
      obtain ⟨x3, hx3, hg⟩ := bind_some hg
      refine R_callV (pc := 19) (av := [.int a1]) (rest := []) hC hR 43 (jx hn64 rfl) ly43 rfl mf_X9_isRuled wm_X9_180 (LX9_isRuled hn64 hx3) rfl rfl rfl (Nat.le_of_ble_eq_true rfl) dX9_isWay_19 rfl ?_
      show RX K 22 [(0, .ref 43), (1, .int a1)] [.int (b2i x3)] q2.2
      refine R_ifB_eq (tgt := 29) (pc := 22) hC dX9_isWay_22 (by decide) (fun c => ?_) (fun c => ?_)
      · replace hg := (if_neg c).symm.trans hg
        refine R_iconst (pc := 29) hC dX9_isWay_29 ki_0 ?_
        have h9 := gxZM hg
        exact R_ireturn (pc := 30) hC dX9_isWay_30 h9
      · replace hg := (if_pos c).symm.trans hg
        refine R_iconst (pc := 25) hC dX9_isWay_25 ki_1 ?_
        refine R_goto (tgt := 30) (pc := 26) hC dX9_isWay_26 (by decide) ?_
        have h9 := gxZM hg
        exact R_ireturn (pc := 30) hC dX9_isWay_30 h9
theorem dX9_worthOf_0 : decode cX9_worthOf 0 = .ok (.lconst 1, 1) := by decide +kernel
theorem dX9_worthOf_1 : decode cX9_worthOf 1 = .ok (.lstore_n 2, 1) := by decide +kernel
theorem dX9_worthOf_2 : decode cX9_worthOf 2 = .ok (.iconst 0, 1) := by decide +kernel
theorem dX9_worthOf_3 : decode cX9_worthOf 3 = .ok (.istore 4, 2) := by decide +kernel
theorem dX9_worthOf_5 : decode cX9_worthOf 5 = .ok (.iload 4, 2) := by decide +kernel
theorem dX9_worthOf_7 : decode cX9_worthOf 7 = .ok (.aload_n 0, 1) := by decide +kernel
theorem dX9_worthOf_8 : decode cX9_worthOf 8 = .ok (.getfield 77, 3) := by decide +kernel
theorem dX9_worthOf_11 : decode cX9_worthOf 11 = .ok (.if_icmp .ge 33, 3) := by decide +kernel
theorem dX9_worthOf_14 : decode cX9_worthOf 14 = .ok (.lload_n 2, 1) := by decide +kernel
theorem dX9_worthOf_15 : decode cX9_worthOf 15 = .ok (.iload_n 1, 1) := by decide +kernel
theorem dX9_worthOf_16 : decode cX9_worthOf 16 = .ok (.iload 4, 2) := by decide +kernel
theorem dX9_worthOf_18 : decode cX9_worthOf 18 = .ok (.ishr, 1) := by decide +kernel
theorem dX9_worthOf_19 : decode cX9_worthOf 19 = .ok (.iconst 1, 1) := by decide +kernel
theorem dX9_worthOf_20 : decode cX9_worthOf 20 = .ok (.iand, 1) := by decide +kernel
theorem dX9_worthOf_21 : decode cX9_worthOf 21 = .ok (.iconst 1, 1) := by decide +kernel
theorem dX9_worthOf_22 : decode cX9_worthOf 22 = .ok (.if_icmp .ne 13, 3) := by decide +kernel
theorem dX9_worthOf_25 : decode cX9_worthOf 25 = .ok (.aload_n 0, 1) := by decide +kernel
theorem dX9_worthOf_26 : decode cX9_worthOf 26 = .ok (.iload 4, 2) := by decide +kernel
theorem dX9_worthOf_28 : decode cX9_worthOf 28 = .ok (.invokevirtual 153, 3) := by decide +kernel
theorem dX9_worthOf_31 : decode cX9_worthOf 31 = .ok (.i2l, 1) := by decide +kernel
theorem dX9_worthOf_32 : decode cX9_worthOf 32 = .ok (.goto 4, 3) := by decide +kernel
theorem dX9_worthOf_35 : decode cX9_worthOf 35 = .ok (.lconst 1, 1) := by decide +kernel
theorem dX9_worthOf_36 : decode cX9_worthOf 36 = .ok (.lmul, 1) := by decide +kernel
theorem dX9_worthOf_37 : decode cX9_worthOf 37 = .ok (.lstore_n 2, 1) := by decide +kernel
theorem dX9_worthOf_38 : decode cX9_worthOf 38 = .ok (.iinc 4 1, 3) := by decide +kernel
theorem dX9_worthOf_41 : decode cX9_worthOf 41 = .ok (.goto (-36), 3) := by decide +kernel
theorem dX9_worthOf_44 : decode cX9_worthOf 44 = .ok (.lload_n 2, 1) := by decide +kernel
theorem dX9_worthOf_45 : decode cX9_worthOf 45 = .ok (.lreturn, 1) := by decide +kernel
def bX9_worthOf_5 (m : Mem) (a1 : Int32) : (Int64 × Int32) → Option ((Int64 × Int32) ⊕ (Int64 × Int32))
  | (y1, y2) => (if (m.1 43 9) ≤ y2 then some (.inr (y1, y2)) else (if ((a1 >>> (y2 &&& 31)) &&& 1) = 1 then (gX9_weightOf m y2).bind (fun x4 => lete (y1 * (Int32.toInt64 x4)) (fun x5 => some (.inl (x5, y2 + 1)))) else lete (y1 * 1) (fun x3 => some (.inl (x3, y2 + 1)))))
def gX9_worthOf (F : Nat) (m : Mem) (a1 : Int32) : Option (Int64) := (iter F (bX9_worthOf_5 m a1) (1, 0)).bind (fun e6 => some e6.1)
set_option maxHeartbeats 4000000 in
set_option maxRecDepth 20000 in
theorem LX9_worthOf {n : Nat} {F : Nat} {m : Mem} {a1 : Int32} {r : Int64} (hn64 : 64 ≤ n) (hg : gX9_worthOf F m a1 = some r) : MX yX9_worthOf cX9_worthOf 5 (some .long) { frames := 1, cells := 0, slots := 0, locals := 21 } n [.ref 43, .int a1] m (some (.long r)) m := by
  refine MX_of (by decide) (Nat.le_of_ble_eq_true rfl) (Or.inr (Or.inr (Or.inl ⟨rfl, _, rfl⟩))) (fun K hC hk hL hR => ?_)
  replace hn64 : 64 ≤ kn K := hk.symm ▸ hn64
  show RX K 0 [(0, .ref 43), (1, .int a1)] [] m
  rw [gX9_worthOf] at hg
  refine R_lconst (pc := 0) hC dX9_worthOf_0 kl_1 ?_
  refine R_lstore_n (pc := 1) hC dX9_worthOf_1 rfl hL rfl (show _ = [(2, .long 1), (0, .ref 43), (1, .int a1)] from rfl) ?_
  refine R_iconst (pc := 2) hC dX9_worthOf_2 ki_0 ?_
  refine R_istore (pc := 3) hC dX9_worthOf_3 hL rfl (show _ = [(4, .int 0), (2, .long 1), (0, .ref 43), (1, .int a1)] from rfl) ?_
  refine R_pick [2, 3, 1, 0] (ls' := [(0, .ref 43), (1, .int a1), (2, .long 1), (4, .int 0)]) rfl ?_
  obtain ⟨e6, he6, hg⟩ := bind_some hg
  refine iter_walk (P := fun s : (Int64 × Int32) => RX K 5 [(0, .ref 43), (1, .int a1), (2, .long s.1), (4, .int s.2)] [] m) (Qe := fun s : (Int64 × Int32) => RX K 44 [(0, .ref 43), (1, .int a1), (2, .long s.1), (4, .int s.2)] [] m) (fun s7 o hg kL5 kE5 => ?_) _ _ _ he6 ?_
  · obtain ⟨y1, y2⟩ := s7
    rw [bX9_worthOf_5] at hg
    show RX K 5 [(0, .ref 43), (1, .int a1), (2, .long y1), (4, .int y2)] [] m
    refine R_iload (pc := 5) hC 3 dX9_worthOf_5 rfl ?_
    refine R_aload_n (pc := 7) hC 0 dX9_worthOf_7 rfl rfl ?_
    refine gf_X9_77 (pc := 8) hC hn64 dX9_worthOf_8 ?_
    refine R_icmp_ge (tgt := 44) (pc := 11) hC dX9_worthOf_11 (by decide) (fun c => ?_) (fun c => ?_)
    · replace hg := (if_pos c).symm.trans hg
      refine R_pick [0, 1, 2, 3] (ls' := [(0, .ref 43), (1, .int a1), (2, .long y1), (4, .int y2)]) rfl ?_
      have h9 := kE5 _ (Option.some.inj hg).symm
      exact h9
    · replace hg := (if_neg c).symm.trans hg
      refine R_lload_n (pc := 14) hC 2 dX9_worthOf_14 rfl rfl ?_
      refine R_iload_n (pc := 15) hC 1 dX9_worthOf_15 rfl rfl ?_
      refine R_iload (pc := 16) hC 3 dX9_worthOf_16 rfl ?_
      refine R_ishr (pc := 18) hC dX9_worthOf_18 ?_
      refine R_iconst (pc := 19) hC dX9_worthOf_19 ki_1 ?_
      refine R_iand (pc := 20) hC dX9_worthOf_20 ?_
      refine R_iconst (pc := 21) hC dX9_worthOf_21 ki_1 ?_
      refine R_icmp_ne (tgt := 35) (pc := 22) hC dX9_worthOf_22 (by decide) (fun c => ?_) (fun c => ?_)
      · replace hg := (if_neg c).symm.trans hg
        refine R_lconst (pc := 35) hC dX9_worthOf_35 kl_1 ?_
        refine R_lmul (pc := 36) hC dX9_worthOf_36 ?_
        obtain ⟨x3, hx3, hg⟩ := lete_some hg
        refine R_topL hx3 ?_
        refine R_lstore_n (pc := 37) hC dX9_worthOf_37 rfl hL rfl (show _ = [(2, .long x3), (0, .ref 43), (1, .int a1), (4, .int y2)] from rfl) ?_
        refine R_iinc (pc := 38) hC 3 dX9_worthOf_38 rfl (iv ki_1) hL rfl (show _ = [(4, .int (y2 + 1)), (2, .long x3), (0, .ref 43), (1, .int a1)] from rfl) ?_
        refine R_goto (tgt := 5) (pc := 41) hC dX9_worthOf_41 (by decide) ?_
        refine R_pick [2, 3, 1, 0] (ls' := [(0, .ref 43), (1, .int a1), (2, .long x3), (4, .int (y2 + 1))]) rfl ?_
        have h9 := kL5 _ (Option.some.inj hg).symm
        exact h9
      · replace hg := (if_pos c).symm.trans hg
        refine R_aload_n (pc := 25) hC 0 dX9_worthOf_25 rfl rfl ?_
        refine R_iload (pc := 26) hC 3 dX9_worthOf_26 rfl ?_
        obtain ⟨x4, hx4, hg⟩ := bind_some hg
        refine R_callV (pc := 28) (av := [.int y2]) (rest := [.long y1]) hC hR 43 (jx hn64 rfl) ly43 rfl mf_X9_weightOf wm_X9_153 (LX9_weightOf hn64 hx4) rfl rfl rfl (Nat.le_of_ble_eq_true rfl) dX9_worthOf_28 rfl ?_
        show RX K 31 [(0, .ref 43), (1, .int a1), (2, .long y1), (4, .int y2)] [.int x4, .long y1] m
        refine R_i2l (pc := 31) hC dX9_worthOf_31 ?_
        refine R_goto (tgt := 36) (pc := 32) hC dX9_worthOf_32 (by decide) ?_
        refine R_lmul (pc := 36) hC dX9_worthOf_36 ?_
        obtain ⟨x5, hx5, hg⟩ := lete_some hg
        refine R_topL hx5 ?_
        refine R_lstore_n (pc := 37) hC dX9_worthOf_37 rfl hL rfl (show _ = [(2, .long x5), (0, .ref 43), (1, .int a1), (4, .int y2)] from rfl) ?_
        refine R_iinc (pc := 38) hC 3 dX9_worthOf_38 rfl (iv ki_1) hL rfl (show _ = [(4, .int (y2 + 1)), (2, .long x5), (0, .ref 43), (1, .int a1)] from rfl) ?_
        refine R_goto (tgt := 5) (pc := 41) hC dX9_worthOf_41 (by decide) ?_
        refine R_pick [2, 3, 1, 0] (ls' := [(0, .ref 43), (1, .int a1), (2, .long x5), (4, .int (y2 + 1))]) rfl ?_
        have h9 := kL5 _ (Option.some.inj hg).symm
        exact h9
  · show RX K 44 [(0, .ref 43), (1, .int a1), (2, .long e6.1), (4, .int e6.2)] [] m
    refine R_lload_n (pc := 44) hC 2 dX9_worthOf_44 rfl rfl ?_
    have h9 := gxJ (m := m) hg
    exact R_lreturn (pc := 45) hC dX9_worthOf_45 h9
theorem dX9_costsOf_0 : decode cX9_costsOf 0 = .ok (.iconst 0, 1) := by decide +kernel
theorem dX9_costsOf_1 : decode cX9_costsOf 1 = .ok (.istore_n 2, 1) := by decide +kernel
theorem dX9_costsOf_2 : decode cX9_costsOf 2 = .ok (.iconst 0, 1) := by decide +kernel
theorem dX9_costsOf_3 : decode cX9_costsOf 3 = .ok (.istore_n 3, 1) := by decide +kernel
theorem dX9_costsOf_4 : decode cX9_costsOf 4 = .ok (.iload_n 3, 1) := by decide +kernel
theorem dX9_costsOf_5 : decode cX9_costsOf 5 = .ok (.aload_n 0, 1) := by decide +kernel
theorem dX9_costsOf_6 : decode cX9_costsOf 6 = .ok (.getfield 77, 3) := by decide +kernel
theorem dX9_costsOf_9 : decode cX9_costsOf 9 = .ok (.if_icmp .ge 23, 3) := by decide +kernel
theorem dX9_costsOf_12 : decode cX9_costsOf 12 = .ok (.iload_n 2, 1) := by decide +kernel
theorem dX9_costsOf_13 : decode cX9_costsOf 13 = .ok (.iload_n 1, 1) := by decide +kernel
theorem dX9_costsOf_14 : decode cX9_costsOf 14 = .ok (.iload_n 3, 1) := by decide +kernel
theorem dX9_costsOf_15 : decode cX9_costsOf 15 = .ok (.ishr, 1) := by decide +kernel
theorem dX9_costsOf_16 : decode cX9_costsOf 16 = .ok (.iconst 1, 1) := by decide +kernel
theorem dX9_costsOf_17 : decode cX9_costsOf 17 = .ok (.iand, 1) := by decide +kernel
theorem dX9_costsOf_18 : decode cX9_costsOf 18 = .ok (.aload_n 0, 1) := by decide +kernel
theorem dX9_costsOf_19 : decode cX9_costsOf 19 = .ok (.iload_n 3, 1) := by decide +kernel
theorem dX9_costsOf_20 : decode cX9_costsOf 20 = .ok (.invokevirtual 156, 3) := by decide +kernel
theorem dX9_costsOf_23 : decode cX9_costsOf 23 = .ok (.imul, 1) := by decide +kernel
theorem dX9_costsOf_24 : decode cX9_costsOf 24 = .ok (.iadd, 1) := by decide +kernel
theorem dX9_costsOf_25 : decode cX9_costsOf 25 = .ok (.istore_n 2, 1) := by decide +kernel
theorem dX9_costsOf_26 : decode cX9_costsOf 26 = .ok (.iinc 3 1, 3) := by decide +kernel
theorem dX9_costsOf_29 : decode cX9_costsOf 29 = .ok (.goto (-25), 3) := by decide +kernel
theorem dX9_costsOf_32 : decode cX9_costsOf 32 = .ok (.iload_n 2, 1) := by decide +kernel
theorem dX9_costsOf_33 : decode cX9_costsOf 33 = .ok (.ireturn, 1) := by decide +kernel
def bX9_costsOf_4 (m : Mem) (a1 : Int32) : (Int32 × Int32) → Option ((Int32 × Int32) ⊕ (Int32 × Int32))
  | (y1, y2) => (if (m.1 43 9) ≤ y2 then some (.inr (y1, y2)) else (gX9_costOf m y2).bind (fun x3 => lete (y1 + (((a1 >>> (y2 &&& 31)) &&& 1) * x3)) (fun x4 => some (.inl (x4, y2 + 1)))))
def gX9_costsOf (F : Nat) (m : Mem) (a1 : Int32) : Option (Int32) := (iter F (bX9_costsOf_4 m a1) (0, 0)).bind (fun e5 => some e5.1)
set_option maxHeartbeats 4000000 in
set_option maxRecDepth 20000 in
theorem LX9_costsOf {n : Nat} {F : Nat} {m : Mem} {a1 : Int32} {r : Int32} (hn64 : 64 ≤ n) (hg : gX9_costsOf F m a1 = some r) : MX yX9_costsOf cX9_costsOf 4 (some .int) { frames := 1, cells := 0, slots := 0, locals := 21 } n [.ref 43, .int a1] m (some (.int r)) m := by
  refine MX_of (by decide) (Nat.le_of_ble_eq_true rfl) (Or.inr (Or.inl ⟨rfl, _, rfl⟩)) (fun K hC hk hL hR => ?_)
  replace hn64 : 64 ≤ kn K := hk.symm ▸ hn64
  show RX K 0 [(0, .ref 43), (1, .int a1)] [] m
  rw [gX9_costsOf] at hg
  refine R_iconst (pc := 0) hC dX9_costsOf_0 ki_0 ?_
  refine R_istore_n (pc := 1) hC dX9_costsOf_1 rfl hL rfl (show _ = [(2, .int 0), (0, .ref 43), (1, .int a1)] from rfl) ?_
  refine R_iconst (pc := 2) hC dX9_costsOf_2 ki_0 ?_
  refine R_istore_n (pc := 3) hC dX9_costsOf_3 rfl hL rfl (show _ = [(3, .int 0), (2, .int 0), (0, .ref 43), (1, .int a1)] from rfl) ?_
  refine R_pick [2, 3, 1, 0] (ls' := [(0, .ref 43), (1, .int a1), (2, .int 0), (3, .int 0)]) rfl ?_
  obtain ⟨e5, he5, hg⟩ := bind_some hg
  refine iter_walk (P := fun s : (Int32 × Int32) => RX K 4 [(0, .ref 43), (1, .int a1), (2, .int s.1), (3, .int s.2)] [] m) (Qe := fun s : (Int32 × Int32) => RX K 32 [(0, .ref 43), (1, .int a1), (2, .int s.1), (3, .int s.2)] [] m) (fun s6 o hg kL4 kE4 => ?_) _ _ _ he5 ?_
  · obtain ⟨y1, y2⟩ := s6
    rw [bX9_costsOf_4] at hg
    show RX K 4 [(0, .ref 43), (1, .int a1), (2, .int y1), (3, .int y2)] [] m
    refine R_iload_n (pc := 4) hC 3 dX9_costsOf_4 rfl rfl ?_
    refine R_aload_n (pc := 5) hC 0 dX9_costsOf_5 rfl rfl ?_
    refine gf_X9_77 (pc := 6) hC hn64 dX9_costsOf_6 ?_
    refine R_icmp_ge (tgt := 32) (pc := 9) hC dX9_costsOf_9 (by decide) (fun c => ?_) (fun c => ?_)
    · replace hg := (if_pos c).symm.trans hg
      refine R_pick [0, 1, 2, 3] (ls' := [(0, .ref 43), (1, .int a1), (2, .int y1), (3, .int y2)]) rfl ?_
      have h9 := kE4 _ (Option.some.inj hg).symm
      exact h9
    · replace hg := (if_neg c).symm.trans hg
      refine R_iload_n (pc := 12) hC 2 dX9_costsOf_12 rfl rfl ?_
      refine R_iload_n (pc := 13) hC 1 dX9_costsOf_13 rfl rfl ?_
      refine R_iload_n (pc := 14) hC 3 dX9_costsOf_14 rfl rfl ?_
      refine R_ishr (pc := 15) hC dX9_costsOf_15 ?_
      refine R_iconst (pc := 16) hC dX9_costsOf_16 ki_1 ?_
      refine R_iand (pc := 17) hC dX9_costsOf_17 ?_
      refine R_aload_n (pc := 18) hC 0 dX9_costsOf_18 rfl rfl ?_
      refine R_iload_n (pc := 19) hC 3 dX9_costsOf_19 rfl rfl ?_
      obtain ⟨x3, hx3, hg⟩ := bind_some hg
      refine R_callV (pc := 20) (av := [.int y2]) (rest := [.int ((a1 >>> (y2 &&& 31)) &&& 1), .int y1]) hC hR 43 (jx hn64 rfl) ly43 rfl mf_X9_costOf wm_X9_156 (LX9_costOf hn64 hx3) rfl rfl rfl (Nat.le_of_ble_eq_true rfl) dX9_costsOf_20 rfl ?_
      show RX K 23 [(0, .ref 43), (1, .int a1), (2, .int y1), (3, .int y2)] [.int x3, .int ((a1 >>> (y2 &&& 31)) &&& 1), .int y1] m
      refine R_imul (pc := 23) hC dX9_costsOf_23 ?_
      refine R_iadd (pc := 24) hC dX9_costsOf_24 ?_
      obtain ⟨x4, hx4, hg⟩ := lete_some hg
      refine R_top hx4 ?_
      refine R_istore_n (pc := 25) hC dX9_costsOf_25 rfl hL rfl (show _ = [(2, .int x4), (0, .ref 43), (1, .int a1), (3, .int y2)] from rfl) ?_
      refine R_iinc (pc := 26) hC 3 dX9_costsOf_26 rfl (iv ki_1) hL rfl (show _ = [(3, .int (y2 + 1)), (2, .int x4), (0, .ref 43), (1, .int a1)] from rfl) ?_
      refine R_goto (tgt := 4) (pc := 29) hC dX9_costsOf_29 (by decide) ?_
      refine R_pick [2, 3, 1, 0] (ls' := [(0, .ref 43), (1, .int a1), (2, .int x4), (3, .int (y2 + 1))]) rfl ?_
      have h9 := kL4 _ (Option.some.inj hg).symm
      exact h9
  · show RX K 32 [(0, .ref 43), (1, .int a1), (2, .int e5.1), (3, .int e5.2)] [] m
    refine R_iload_n (pc := 32) hC 2 dX9_costsOf_32 rfl rfl ?_
    have h9 := gxI (m := m) hg
    exact R_ireturn (pc := 33) hC dX9_costsOf_33 h9
theorem dX9_findWays_0 : decode cX9_findWays 0 = .ok (.aload_n 0, 1) := by decide +kernel
theorem dX9_findWays_1 : decode cX9_findWays 1 = .ok (.iconst 0, 1) := by decide +kernel
theorem dX9_findWays_2 : decode cX9_findWays 2 = .ok (.putfield 183, 3) := by decide +kernel
theorem dX9_findWays_5 : decode cX9_findWays 5 = .ok (.iconst 0, 1) := by decide +kernel
theorem dX9_findWays_6 : decode cX9_findWays 6 = .ok (.istore_n 1, 1) := by decide +kernel
theorem dX9_findWays_7 : decode cX9_findWays 7 = .ok (.iload_n 1, 1) := by decide +kernel
theorem dX9_findWays_8 : decode cX9_findWays 8 = .ok (.aload_n 0, 1) := by decide +kernel
theorem dX9_findWays_9 : decode cX9_findWays 9 = .ok (.invokevirtual 162, 3) := by decide +kernel
theorem dX9_findWays_12 : decode cX9_findWays 12 = .ok (.if_icmp .gt 54, 3) := by decide +kernel
theorem dX9_findWays_15 : decode cX9_findWays 15 = .ok (.aload_n 0, 1) := by decide +kernel
theorem dX9_findWays_16 : decode cX9_findWays 16 = .ok (.iload_n 1, 1) := by decide +kernel
theorem dX9_findWays_17 : decode cX9_findWays 17 = .ok (.invokevirtual 186, 3) := by decide +kernel
theorem dX9_findWays_20 : decode cX9_findWays 20 = .ok (.ifCond .ne 6, 3) := by decide +kernel
theorem dX9_findWays_23 : decode cX9_findWays 23 = .ok (.goto 37, 3) := by decide +kernel
theorem dX9_findWays_26 : decode cX9_findWays 26 = .ok (.aload_n 0, 1) := by decide +kernel
theorem dX9_findWays_27 : decode cX9_findWays 27 = .ok (.getfield 56, 3) := by decide +kernel
theorem dX9_findWays_30 : decode cX9_findWays 30 = .ok (.aload_n 0, 1) := by decide +kernel
theorem dX9_findWays_31 : decode cX9_findWays 31 = .ok (.getfield 183, 3) := by decide +kernel
theorem dX9_findWays_34 : decode cX9_findWays 34 = .ok (.iload_n 1, 1) := by decide +kernel
theorem dX9_findWays_35 : decode cX9_findWays 35 = .ok (.iastore, 1) := by decide +kernel
theorem dX9_findWays_36 : decode cX9_findWays 36 = .ok (.aload_n 0, 1) := by decide +kernel
theorem dX9_findWays_37 : decode cX9_findWays 37 = .ok (.getfield 59, 3) := by decide +kernel
theorem dX9_findWays_40 : decode cX9_findWays 40 = .ok (.aload_n 0, 1) := by decide +kernel
theorem dX9_findWays_41 : decode cX9_findWays 41 = .ok (.getfield 183, 3) := by decide +kernel
theorem dX9_findWays_44 : decode cX9_findWays 44 = .ok (.aload_n 0, 1) := by decide +kernel
theorem dX9_findWays_45 : decode cX9_findWays 45 = .ok (.iload_n 1, 1) := by decide +kernel
theorem dX9_findWays_46 : decode cX9_findWays 46 = .ok (.invokevirtual 189, 3) := by decide +kernel
theorem dX9_findWays_49 : decode cX9_findWays 49 = .ok (.lastore, 1) := by decide +kernel
theorem dX9_findWays_50 : decode cX9_findWays 50 = .ok (.aload_n 0, 1) := by decide +kernel
theorem dX9_findWays_51 : decode cX9_findWays 51 = .ok (.dup, 1) := by decide +kernel
theorem dX9_findWays_52 : decode cX9_findWays 52 = .ok (.getfield 183, 3) := by decide +kernel
theorem dX9_findWays_55 : decode cX9_findWays 55 = .ok (.iconst 1, 1) := by decide +kernel
theorem dX9_findWays_56 : decode cX9_findWays 56 = .ok (.iadd, 1) := by decide +kernel
theorem dX9_findWays_57 : decode cX9_findWays 57 = .ok (.putfield 183, 3) := by decide +kernel
theorem dX9_findWays_60 : decode cX9_findWays 60 = .ok (.iinc 1 1, 3) := by decide +kernel
theorem dX9_findWays_63 : decode cX9_findWays 63 = .ok (.goto (-56), 3) := by decide +kernel
theorem dX9_findWays_66 : decode cX9_findWays 66 = .ok (.return_, 1) := by decide +kernel
def bX9_findWays_7 (F : Nat) : (Int32 × Mem) → Option ((Int32 × Mem) ⊕ (Int32 × Mem))
  | (y2, m3) => (gX9_allLanes m3).bind (fun x4 => (if x4 < y2 then some (.inr (y2, m3)) else (gX9_isWay F m3 y2).bind (fun q5 => (if q5.1 = true then chk (inb (q5.2.1 43 24) 1024) (lete (mu q5.2 58 (Int32.toNatClampNeg (q5.2.1 43 24)) y2) (fun m7 => (gX9_worthOf F m7 y2).bind (fun x8 => chk (inb (m7.1 43 24) 1024) (lete (muL m7 59 (Int32.toNatClampNeg (m7.1 43 24)) x8) (fun m10 => lete (mu m10 43 24 ((m10.1 43 24) + 1)) (fun m11 => some (.inl (y2 + 1, m11)))))))) else some (.inl (y2 + 1, q5.2))))))
def gX9_findWays (F : Nat) (m : Mem) : Option (Mem) := lete (mu m 43 24 0) (fun m1 => (iter F (bX9_findWays_7 F) (0, m1)).bind (fun e12 => some e12.2))
set_option maxHeartbeats 4000000 in
set_option maxRecDepth 20000 in
theorem LX9_findWays {n : Nat} {F : Nat} {m : Mem} {r : Mem} (hn64 : 64 ≤ n) (hg : gX9_findWays F m  = some r) : MX yX9_findWays cX9_findWays 2 none { frames := 3, cells := 0, slots := 0, locals := 69 } n [.ref 43] m (none) r := by
  refine MX_of (by decide) (Nat.le_of_ble_eq_true rfl) (Or.inl ⟨rfl, rfl⟩) (fun K hC hk hL hR => ?_)
  replace hn64 : 64 ≤ kn K := hk.symm ▸ hn64
  show RX K 0 [(0, .ref 43)] [] m
  rw [gX9_findWays] at hg
  refine R_aload_n (pc := 0) hC 0 dX9_findWays_0 rfl rfl ?_
  refine R_iconst (pc := 1) hC dX9_findWays_1 ki_0 ?_
  obtain ⟨m1, hm1, hg⟩ := lete_some hg
  refine pf_X9_183 (pc := 2) hC hn64 dX9_findWays_2 ?_
  refine R_mem hm1 ?_
  refine R_iconst (pc := 5) hC dX9_findWays_5 ki_0 ?_
  refine R_istore_n (pc := 6) hC dX9_findWays_6 rfl hL rfl (show _ = [(1, .int 0), (0, .ref 43)] from rfl) ?_
  refine R_pick [1, 0] (ls' := [(0, .ref 43), (1, .int 0)]) rfl ?_
  obtain ⟨e12, he12, hg⟩ := bind_some hg
  refine iter_walk (P := fun s : (Int32 × Mem) => RX K 7 [(0, .ref 43), (1, .int s.1)] [] s.2) (Qe := fun s : (Int32 × Mem) => RX K 66 [(0, .ref 43), (1, .int s.1)] [] s.2) (fun s13 o hg kL7 kE7 => ?_) _ _ _ he12 ?_
  · obtain ⟨y2, m3⟩ := s13
    rw [bX9_findWays_7] at hg
    show RX K 7 [(0, .ref 43), (1, .int y2)] [] m3
    refine R_iload_n (pc := 7) hC 1 dX9_findWays_7 rfl rfl ?_
    refine R_aload_n (pc := 8) hC 0 dX9_findWays_8 rfl rfl ?_
    obtain ⟨x4, hx4, hg⟩ := bind_some hg
    refine R_callV (pc := 9) (av := []) (rest := [.int y2]) hC hR 43 (jx hn64 rfl) ly43 rfl mf_X9_allLanes wm_X9_162 (LX9_allLanes hn64 hx4) rfl rfl rfl (Nat.le_of_ble_eq_true rfl) dX9_findWays_9 rfl ?_
    show RX K 12 [(0, .ref 43), (1, .int y2)] [.int x4, .int y2] m3
    refine R_icmp_gt (tgt := 66) (pc := 12) hC dX9_findWays_12 (by decide) (fun c => ?_) (fun c => ?_)
    · replace hg := (if_pos c).symm.trans hg
      refine R_pick [0, 1] (ls' := [(0, .ref 43), (1, .int y2)]) rfl ?_
      have h9 := kE7 _ (Option.some.inj hg).symm
      exact h9
    · replace hg := (if_neg c).symm.trans hg
      refine R_aload_n (pc := 15) hC 0 dX9_findWays_15 rfl rfl ?_
      refine R_iload_n (pc := 16) hC 1 dX9_findWays_16 rfl rfl ?_
      obtain ⟨q5, hq5, hg⟩ := bind_some hg
      refine R_callV (pc := 17) (av := [.int y2]) (rest := []) hC hR 43 (jx hn64 rfl) ly43 rfl mf_X9_isWay wm_X9_186 (LX9_isWay hn64 hq5) rfl rfl rfl (Nat.le_of_ble_eq_true rfl) dX9_findWays_17 rfl ?_
      show RX K 20 [(0, .ref 43), (1, .int y2)] [.int (b2i q5.1)] q5.2
      refine R_ifB_ne (tgt := 26) (pc := 20) hC dX9_findWays_20 (by decide) (fun c => ?_) (fun c => ?_)
      · replace hg := (if_pos c).symm.trans hg
        refine R_aload_n (pc := 26) hC 0 dX9_findWays_26 rfl rfl ?_
        refine gf_X9_56 (pc := 27) hC hn64 dX9_findWays_27 ?_
        refine R_aload_n (pc := 30) hC 0 dX9_findWays_30 rfl rfl ?_
        refine gf_X9_183 (pc := 31) hC hn64 dX9_findWays_31 ?_
        refine R_iload_n (pc := 34) hC 1 dX9_findWays_34 rfl rfl ?_
        obtain ⟨c6, hg⟩ := chk_some hg
        obtain ⟨m7, hm7, hg⟩ := lete_some hg
        refine R_iastore (pc := 35) hC 58 (jx hn64 rfl) ly58 (inb_vp c6) dX9_findWays_35 ?_
        refine R_mem hm7 ?_
        refine R_aload_n (pc := 36) hC 0 dX9_findWays_36 rfl rfl ?_
        refine gf_X9_59 (pc := 37) hC hn64 dX9_findWays_37 ?_
        refine R_aload_n (pc := 40) hC 0 dX9_findWays_40 rfl rfl ?_
        refine gf_X9_183 (pc := 41) hC hn64 dX9_findWays_41 ?_
        refine R_aload_n (pc := 44) hC 0 dX9_findWays_44 rfl rfl ?_
        refine R_iload_n (pc := 45) hC 1 dX9_findWays_45 rfl rfl ?_
        obtain ⟨x8, hx8, hg⟩ := bind_some hg
        refine R_callV (pc := 46) (av := [.int y2]) (rest := [.int (m7.1 43 24), .ref 59]) hC hR 43 (jx hn64 rfl) ly43 rfl mf_X9_worthOf wm_X9_189 (LX9_worthOf hn64 hx8) rfl rfl rfl (Nat.le_of_ble_eq_true rfl) dX9_findWays_46 rfl ?_
        show RX K 49 [(0, .ref 43), (1, .int y2)] [.long x8, .int (m7.1 43 24), .ref 59] m7
        obtain ⟨c9, hg⟩ := chk_some hg
        obtain ⟨m10, hm10, hg⟩ := lete_some hg
        refine R_lastore (pc := 49) hC 59 (jx hn64 rfl) ly59 (inb_vp c9) dX9_findWays_49 ?_
        refine R_mem hm10 ?_
        refine R_aload_n (pc := 50) hC 0 dX9_findWays_50 rfl rfl ?_
        refine R_dup (pc := 51) hC dX9_findWays_51 rfl ?_
        refine gf_X9_183 (pc := 52) hC hn64 dX9_findWays_52 ?_
        refine R_iconst (pc := 55) hC dX9_findWays_55 ki_1 ?_
        refine R_iadd (pc := 56) hC dX9_findWays_56 ?_
        obtain ⟨m11, hm11, hg⟩ := lete_some hg
        refine pf_X9_183 (pc := 57) hC hn64 dX9_findWays_57 ?_
        refine R_mem hm11 ?_
        refine R_iinc (pc := 60) hC 1 dX9_findWays_60 rfl (iv ki_1) hL rfl (show _ = [(1, .int (y2 + 1)), (0, .ref 43)] from rfl) ?_
        refine R_goto (tgt := 7) (pc := 63) hC dX9_findWays_63 (by decide) ?_
        refine R_pick [1, 0] (ls' := [(0, .ref 43), (1, .int (y2 + 1))]) rfl ?_
        have h9 := kL7 _ (Option.some.inj hg).symm
        exact h9
      · replace hg := (if_neg c).symm.trans hg
        refine R_goto (tgt := 60) (pc := 23) hC dX9_findWays_23 (by decide) ?_
        refine R_iinc (pc := 60) hC 1 dX9_findWays_60 rfl (iv ki_1) hL rfl (show _ = [(1, .int (y2 + 1)), (0, .ref 43)] from rfl) ?_
        refine R_goto (tgt := 7) (pc := 63) hC dX9_findWays_63 (by decide) ?_
        refine R_pick [1, 0] (ls' := [(0, .ref 43), (1, .int (y2 + 1))]) rfl ?_
        have h9 := kL7 _ (Option.some.inj hg).symm
        exact h9
  · show RX K 66 [(0, .ref 43), (1, .int e12.1)] [] e12.2
    have h9 := gxV hg
    exact R_return (pc := 66) hC dX9_findWays_66 h9
theorem dX9_sumWith_0 : decode cX9_sumWith 0 = .ok (.lconst 0, 1) := by decide +kernel
theorem dX9_sumWith_1 : decode cX9_sumWith 1 = .ok (.lstore_n 3, 1) := by decide +kernel
theorem dX9_sumWith_2 : decode cX9_sumWith 2 = .ok (.iconst 0, 1) := by decide +kernel
theorem dX9_sumWith_3 : decode cX9_sumWith 3 = .ok (.istore 5, 2) := by decide +kernel
theorem dX9_sumWith_5 : decode cX9_sumWith 5 = .ok (.iload 5, 2) := by decide +kernel
theorem dX9_sumWith_7 : decode cX9_sumWith 7 = .ok (.aload_n 0, 1) := by decide +kernel
theorem dX9_sumWith_8 : decode cX9_sumWith 8 = .ok (.getfield 183, 3) := by decide +kernel
theorem dX9_sumWith_11 : decode cX9_sumWith 11 = .ok (.if_icmp .ge 49, 3) := by decide +kernel
theorem dX9_sumWith_14 : decode cX9_sumWith 14 = .ok (.lload_n 3, 1) := by decide +kernel
theorem dX9_sumWith_15 : decode cX9_sumWith 15 = .ok (.iload_n 1, 1) := by decide +kernel
theorem dX9_sumWith_16 : decode cX9_sumWith 16 = .ok (.aload_n 0, 1) := by decide +kernel
theorem dX9_sumWith_17 : decode cX9_sumWith 17 = .ok (.getfield 56, 3) := by decide +kernel
theorem dX9_sumWith_20 : decode cX9_sumWith 20 = .ok (.iload 5, 2) := by decide +kernel
theorem dX9_sumWith_22 : decode cX9_sumWith 22 = .ok (.iaload, 1) := by decide +kernel
theorem dX9_sumWith_23 : decode cX9_sumWith 23 = .ok (.iconst (-1), 1) := by decide +kernel
theorem dX9_sumWith_24 : decode cX9_sumWith 24 = .ok (.ixor, 1) := by decide +kernel
theorem dX9_sumWith_25 : decode cX9_sumWith 25 = .ok (.iand, 1) := by decide +kernel
theorem dX9_sumWith_26 : decode cX9_sumWith 26 = .ok (.ifCond .ne 25, 3) := by decide +kernel
theorem dX9_sumWith_29 : decode cX9_sumWith 29 = .ok (.iload_n 2, 1) := by decide +kernel
theorem dX9_sumWith_30 : decode cX9_sumWith 30 = .ok (.aload_n 0, 1) := by decide +kernel
theorem dX9_sumWith_31 : decode cX9_sumWith 31 = .ok (.getfield 56, 3) := by decide +kernel
theorem dX9_sumWith_34 : decode cX9_sumWith 34 = .ok (.iload 5, 2) := by decide +kernel
theorem dX9_sumWith_36 : decode cX9_sumWith 36 = .ok (.iaload, 1) := by decide +kernel
theorem dX9_sumWith_37 : decode cX9_sumWith 37 = .ok (.iand, 1) := by decide +kernel
theorem dX9_sumWith_38 : decode cX9_sumWith 38 = .ok (.ifCond .ne 13, 3) := by decide +kernel
theorem dX9_sumWith_41 : decode cX9_sumWith 41 = .ok (.aload_n 0, 1) := by decide +kernel
theorem dX9_sumWith_42 : decode cX9_sumWith 42 = .ok (.getfield 59, 3) := by decide +kernel
theorem dX9_sumWith_45 : decode cX9_sumWith 45 = .ok (.iload 5, 2) := by decide +kernel
theorem dX9_sumWith_47 : decode cX9_sumWith 47 = .ok (.laload, 1) := by decide +kernel
theorem dX9_sumWith_48 : decode cX9_sumWith 48 = .ok (.goto 4, 3) := by decide +kernel
theorem dX9_sumWith_51 : decode cX9_sumWith 51 = .ok (.lconst 0, 1) := by decide +kernel
theorem dX9_sumWith_52 : decode cX9_sumWith 52 = .ok (.ladd, 1) := by decide +kernel
theorem dX9_sumWith_53 : decode cX9_sumWith 53 = .ok (.lstore_n 3, 1) := by decide +kernel
theorem dX9_sumWith_54 : decode cX9_sumWith 54 = .ok (.iinc 5 1, 3) := by decide +kernel
theorem dX9_sumWith_57 : decode cX9_sumWith 57 = .ok (.goto (-52), 3) := by decide +kernel
theorem dX9_sumWith_60 : decode cX9_sumWith 60 = .ok (.lload_n 3, 1) := by decide +kernel
theorem dX9_sumWith_61 : decode cX9_sumWith 61 = .ok (.lreturn, 1) := by decide +kernel
def bX9_sumWith_5 (m : Mem) (a1 : Int32) (a2 : Int32) : (Int64 × Int32) → Option ((Int64 × Int32) ⊕ (Int64 × Int32))
  | (y1, y2) => (if (m.1 43 24) ≤ y2 then some (.inr (y1, y2)) else chk (inb y2 1024) ((if (a1 &&& ((m.1 58 (Int32.toNatClampNeg y2)) ^^^ (-1))) = 0 then chk (inb y2 1024) ((if (a2 &&& (m.1 58 (Int32.toNatClampNeg y2))) = 0 then chk (inb y2 1024) (lete (y1 + (m.2 59 (Int32.toNatClampNeg y2))) (fun x8 => some (.inl (x8, y2 + 1)))) else lete (y1 + 0) (fun x6 => some (.inl (x6, y2 + 1))))) else lete (y1 + 0) (fun x4 => some (.inl (x4, y2 + 1))))))
def gX9_sumWith (F : Nat) (m : Mem) (a1 : Int32) (a2 : Int32) : Option (Int64) := (iter F (bX9_sumWith_5 m a1 a2) (0, 0)).bind (fun e9 => some e9.1)
set_option maxHeartbeats 4000000 in
set_option maxRecDepth 20000 in
theorem LX9_sumWith {n : Nat} {F : Nat} {m : Mem} {a1 : Int32} {a2 : Int32} {r : Int64} (hn64 : 64 ≤ n) (hg : gX9_sumWith F m a1 a2 = some r) : MX yX9_sumWith cX9_sumWith 6 (some .long) { frames := 0, cells := 0, slots := 0, locals := 0 } n [.ref 43, .int a1, .int a2] m (some (.long r)) m := by
  refine MX_of (by decide) (Nat.le_of_ble_eq_true rfl) (Or.inr (Or.inr (Or.inl ⟨rfl, _, rfl⟩))) (fun K hC hk hL hR => ?_)
  replace hn64 : 64 ≤ kn K := hk.symm ▸ hn64
  show RX K 0 [(0, .ref 43), (1, .int a1), (2, .int a2)] [] m
  rw [gX9_sumWith] at hg
  refine R_lconst (pc := 0) hC dX9_sumWith_0 kl_0 ?_
  refine R_lstore_n (pc := 1) hC dX9_sumWith_1 rfl hL rfl (show _ = [(3, .long 0), (0, .ref 43), (1, .int a1), (2, .int a2)] from rfl) ?_
  refine R_iconst (pc := 2) hC dX9_sumWith_2 ki_0 ?_
  refine R_istore (pc := 3) hC dX9_sumWith_3 hL rfl (show _ = [(5, .int 0), (3, .long 0), (0, .ref 43), (1, .int a1), (2, .int a2)] from rfl) ?_
  refine R_pick [2, 3, 4, 1, 0] (ls' := [(0, .ref 43), (1, .int a1), (2, .int a2), (3, .long 0), (5, .int 0)]) rfl ?_
  obtain ⟨e9, he9, hg⟩ := bind_some hg
  refine iter_walk (P := fun s : (Int64 × Int32) => RX K 5 [(0, .ref 43), (1, .int a1), (2, .int a2), (3, .long s.1), (5, .int s.2)] [] m) (Qe := fun s : (Int64 × Int32) => RX K 60 [(0, .ref 43), (1, .int a1), (2, .int a2), (3, .long s.1), (5, .int s.2)] [] m) (fun s10 o hg kL5 kE5 => ?_) _ _ _ he9 ?_
  · obtain ⟨y1, y2⟩ := s10
    rw [bX9_sumWith_5] at hg
    show RX K 5 [(0, .ref 43), (1, .int a1), (2, .int a2), (3, .long y1), (5, .int y2)] [] m
    refine R_iload (pc := 5) hC 4 dX9_sumWith_5 rfl ?_
    refine R_aload_n (pc := 7) hC 0 dX9_sumWith_7 rfl rfl ?_
    refine gf_X9_183 (pc := 8) hC hn64 dX9_sumWith_8 ?_
    refine R_icmp_ge (tgt := 60) (pc := 11) hC dX9_sumWith_11 (by decide) (fun c => ?_) (fun c => ?_)
    · replace hg := (if_pos c).symm.trans hg
      refine R_pick [0, 1, 2, 3, 4] (ls' := [(0, .ref 43), (1, .int a1), (2, .int a2), (3, .long y1), (5, .int y2)]) rfl ?_
      have h9 := kE5 _ (Option.some.inj hg).symm
      exact h9
    · replace hg := (if_neg c).symm.trans hg
      refine R_lload_n (pc := 14) hC 3 dX9_sumWith_14 rfl rfl ?_
      refine R_iload_n (pc := 15) hC 1 dX9_sumWith_15 rfl rfl ?_
      refine R_aload_n (pc := 16) hC 0 dX9_sumWith_16 rfl rfl ?_
      refine gf_X9_56 (pc := 17) hC hn64 dX9_sumWith_17 ?_
      refine R_iload (pc := 20) hC 4 dX9_sumWith_20 rfl ?_
      obtain ⟨c3, hg⟩ := chk_some hg
      refine R_iaload (pc := 22) hC 58 (jx hn64 rfl) ly58 (inb_vp c3) dX9_sumWith_22 ?_
      refine R_iconst (pc := 23) hC dX9_sumWith_23 ki_m1 ?_
      refine R_ixor (pc := 24) hC dX9_sumWith_24 ?_
      refine R_iand (pc := 25) hC dX9_sumWith_25 ?_
      refine R_if_ne (tgt := 51) (pc := 26) hC dX9_sumWith_26 (by decide) (fun c => ?_) (fun c => ?_)
      · replace hg := (if_neg c).symm.trans hg
        refine R_lconst (pc := 51) hC dX9_sumWith_51 kl_0 ?_
        refine R_ladd (pc := 52) hC dX9_sumWith_52 ?_
        obtain ⟨x4, hx4, hg⟩ := lete_some hg
        refine R_topL hx4 ?_
        refine R_lstore_n (pc := 53) hC dX9_sumWith_53 rfl hL rfl (show _ = [(3, .long x4), (0, .ref 43), (1, .int a1), (2, .int a2), (5, .int y2)] from rfl) ?_
        refine R_iinc (pc := 54) hC 4 dX9_sumWith_54 rfl (iv ki_1) hL rfl (show _ = [(5, .int (y2 + 1)), (3, .long x4), (0, .ref 43), (1, .int a1), (2, .int a2)] from rfl) ?_
        refine R_goto (tgt := 5) (pc := 57) hC dX9_sumWith_57 (by decide) ?_
        refine R_pick [2, 3, 4, 1, 0] (ls' := [(0, .ref 43), (1, .int a1), (2, .int a2), (3, .long x4), (5, .int (y2 + 1))]) rfl ?_
        have h9 := kL5 _ (Option.some.inj hg).symm
        exact h9
      · replace hg := (if_pos c).symm.trans hg
        refine R_iload_n (pc := 29) hC 2 dX9_sumWith_29 rfl rfl ?_
        refine R_aload_n (pc := 30) hC 0 dX9_sumWith_30 rfl rfl ?_
        refine gf_X9_56 (pc := 31) hC hn64 dX9_sumWith_31 ?_
        refine R_iload (pc := 34) hC 4 dX9_sumWith_34 rfl ?_
        obtain ⟨c5, hg⟩ := chk_some hg
        refine R_iaload (pc := 36) hC 58 (jx hn64 rfl) ly58 (inb_vp c5) dX9_sumWith_36 ?_
        refine R_iand (pc := 37) hC dX9_sumWith_37 ?_
        refine R_if_ne (tgt := 51) (pc := 38) hC dX9_sumWith_38 (by decide) (fun c => ?_) (fun c => ?_)
        · replace hg := (if_neg c).symm.trans hg
          refine R_lconst (pc := 51) hC dX9_sumWith_51 kl_0 ?_
          refine R_ladd (pc := 52) hC dX9_sumWith_52 ?_
          obtain ⟨x6, hx6, hg⟩ := lete_some hg
          refine R_topL hx6 ?_
          refine R_lstore_n (pc := 53) hC dX9_sumWith_53 rfl hL rfl (show _ = [(3, .long x6), (0, .ref 43), (1, .int a1), (2, .int a2), (5, .int y2)] from rfl) ?_
          refine R_iinc (pc := 54) hC 4 dX9_sumWith_54 rfl (iv ki_1) hL rfl (show _ = [(5, .int (y2 + 1)), (3, .long x6), (0, .ref 43), (1, .int a1), (2, .int a2)] from rfl) ?_
          refine R_goto (tgt := 5) (pc := 57) hC dX9_sumWith_57 (by decide) ?_
          refine R_pick [2, 3, 4, 1, 0] (ls' := [(0, .ref 43), (1, .int a1), (2, .int a2), (3, .long x6), (5, .int (y2 + 1))]) rfl ?_
          have h9 := kL5 _ (Option.some.inj hg).symm
          exact h9
        · replace hg := (if_pos c).symm.trans hg
          refine R_aload_n (pc := 41) hC 0 dX9_sumWith_41 rfl rfl ?_
          refine gf_X9_59 (pc := 42) hC hn64 dX9_sumWith_42 ?_
          refine R_iload (pc := 45) hC 4 dX9_sumWith_45 rfl ?_
          obtain ⟨c7, hg⟩ := chk_some hg
          refine R_laload (pc := 47) hC 59 (jx hn64 rfl) ly59 (inb_vp c7) dX9_sumWith_47 ?_
          refine R_goto (tgt := 52) (pc := 48) hC dX9_sumWith_48 (by decide) ?_
          refine R_ladd (pc := 52) hC dX9_sumWith_52 ?_
          obtain ⟨x8, hx8, hg⟩ := lete_some hg
          refine R_topL hx8 ?_
          refine R_lstore_n (pc := 53) hC dX9_sumWith_53 rfl hL rfl (show _ = [(3, .long x8), (0, .ref 43), (1, .int a1), (2, .int a2), (5, .int y2)] from rfl) ?_
          refine R_iinc (pc := 54) hC 4 dX9_sumWith_54 rfl (iv ki_1) hL rfl (show _ = [(5, .int (y2 + 1)), (3, .long x8), (0, .ref 43), (1, .int a1), (2, .int a2)] from rfl) ?_
          refine R_goto (tgt := 5) (pc := 57) hC dX9_sumWith_57 (by decide) ?_
          refine R_pick [2, 3, 4, 1, 0] (ls' := [(0, .ref 43), (1, .int a1), (2, .int a2), (3, .long x8), (5, .int (y2 + 1))]) rfl ?_
          have h9 := kL5 _ (Option.some.inj hg).symm
          exact h9
  · show RX K 60 [(0, .ref 43), (1, .int a1), (2, .int a2), (3, .long e9.1), (5, .int e9.2)] [] m
    refine R_lload_n (pc := 60) hC 3 dX9_sumWith_60 rfl rfl ?_
    have h9 := gxJ (m := m) hg
    exact R_lreturn (pc := 61) hC dX9_sumWith_61 h9
theorem dX9_is_0 : decode cX9_is 0 = .ok (.aload_n 0, 1) := by decide +kernel
theorem dX9_is_1 : decode cX9_is 1 = .ok (.iload_n 1, 1) := by decide +kernel
theorem dX9_is_2 : decode cX9_is 2 = .ok (.invokevirtual 174, 3) := by decide +kernel
theorem dX9_is_5 : decode cX9_is 5 = .ok (.ifCond .ne 11, 3) := by decide +kernel
theorem dX9_is_8 : decode cX9_is 8 = .ok (.aload_n 0, 1) := by decide +kernel
theorem dX9_is_9 : decode cX9_is 9 = .ok (.iconst (-1), 1) := by decide +kernel
theorem dX9_is_10 : decode cX9_is 10 = .ok (.invokevirtual 87, 3) := by decide +kernel
theorem dX9_is_13 : decode cX9_is 13 = .ok (.goto 16, 3) := by decide +kernel
theorem dX9_is_16 : decode cX9_is 16 = .ok (.aload_n 0, 1) := by decide +kernel
theorem dX9_is_17 : decode cX9_is 17 = .ok (.iload_n 1, 1) := by decide +kernel
theorem dX9_is_18 : decode cX9_is 18 = .ok (.invokevirtual 186, 3) := by decide +kernel
theorem dX9_is_21 : decode cX9_is 21 = .ok (.ifCond .eq 7, 3) := by decide +kernel
theorem dX9_is_24 : decode cX9_is 24 = .ok (.iconst 1, 1) := by decide +kernel
theorem dX9_is_25 : decode cX9_is 25 = .ok (.goto 4, 3) := by decide +kernel
theorem dX9_is_28 : decode cX9_is 28 = .ok (.iconst 0, 1) := by decide +kernel
theorem dX9_is_29 : decode cX9_is 29 = .ok (.ireturn, 1) := by decide +kernel
def gX9_is (F : Nat) (m : Mem) (a1 : Int32) : Option (Int32 × Mem) := (gX9_areLanes m a1).bind (fun x1 => (if x1 = true then (gX9_isWay F m a1).bind (fun q2 => (if q2.1 = true then some (1, q2.2) else some (0, q2.2))) else (gX9_no m (-1)).bind (fun q3 => some (q3.1, q3.2))))
set_option maxHeartbeats 4000000 in
set_option maxRecDepth 20000 in
theorem LX9_is {n : Nat} {F : Nat} {m : Mem} {a1 : Int32} {r : Int32 × Mem} (hn64 : 64 ≤ n) (hg : gX9_is F m a1 = some r) : MX yX9_is cX9_is 2 (some .int) { frames := 3, cells := 0, slots := 0, locals := 69 } n [.ref 43, .int a1] m (some (.int r.1)) r.2 := by
  refine MX_of (by decide) (Nat.le_of_ble_eq_true rfl) (Or.inr (Or.inl ⟨rfl, _, rfl⟩)) (fun K hC hk hL hR => ?_)
  replace hn64 : 64 ≤ kn K := hk.symm ▸ hn64
  show RX K 0 [(0, .ref 43), (1, .int a1)] [] m
  rw [gX9_is] at hg
  refine R_aload_n (pc := 0) hC 0 dX9_is_0 rfl rfl ?_
  refine R_iload_n (pc := 1) hC 1 dX9_is_1 rfl rfl ?_
  obtain ⟨x1, hx1, hg⟩ := bind_some hg
  refine R_callV (pc := 2) (av := [.int a1]) (rest := []) hC hR 43 (jx hn64 rfl) ly43 rfl mf_X9_areLanes wm_X9_174 (LX9_areLanes hn64 hx1) rfl rfl rfl (Nat.le_of_ble_eq_true rfl) dX9_is_2 rfl ?_
  show RX K 5 [(0, .ref 43), (1, .int a1)] [.int (b2i x1)] m
  refine R_ifB_ne (tgt := 16) (pc := 5) hC dX9_is_5 (by decide) (fun c => ?_) (fun c => ?_)
  · replace hg := (if_pos c).symm.trans hg
    refine R_aload_n (pc := 16) hC 0 dX9_is_16 rfl rfl ?_
    refine R_iload_n (pc := 17) hC 1 dX9_is_17 rfl rfl ?_
    obtain ⟨q2, hq2, hg⟩ := bind_some hg
    refine R_callV (pc := 18) (av := [.int a1]) (rest := []) hC hR 43 (jx hn64 rfl) ly43 rfl mf_X9_isWay wm_X9_186 (LX9_isWay hn64 hq2) rfl rfl rfl (Nat.le_of_ble_eq_true rfl) dX9_is_18 rfl ?_
    show RX K 21 [(0, .ref 43), (1, .int a1)] [.int (b2i q2.1)] q2.2
    refine R_ifB_eq (tgt := 28) (pc := 21) hC dX9_is_21 (by decide) (fun c => ?_) (fun c => ?_)
    · replace hg := (if_neg c).symm.trans hg
      refine R_iconst (pc := 28) hC dX9_is_28 ki_0 ?_
      have h9 := gxIM hg
      exact R_ireturn (pc := 29) hC dX9_is_29 h9
    · replace hg := (if_pos c).symm.trans hg
      refine R_iconst (pc := 24) hC dX9_is_24 ki_1 ?_
      refine R_goto (tgt := 29) (pc := 25) hC dX9_is_25 (by decide) ?_
      have h9 := gxIM hg
      exact R_ireturn (pc := 29) hC dX9_is_29 h9
  · replace hg := (if_neg c).symm.trans hg
    refine R_aload_n (pc := 8) hC 0 dX9_is_8 rfl rfl ?_
    refine R_iconst (pc := 9) hC dX9_is_9 ki_m1 ?_
    obtain ⟨q3, hq3, hg⟩ := bind_some hg
    refine R_callV (pc := 10) (av := [.int (-1)]) (rest := []) hC hR 43 (jx hn64 rfl) ly43 rfl mf_X9_no wm_X9_87 (LX9_no hn64 hq3) rfl rfl rfl (Nat.le_of_ble_eq_true rfl) dX9_is_10 rfl ?_
    show RX K 13 [(0, .ref 43), (1, .int a1)] [.int q3.1] q3.2
    refine R_goto (tgt := 29) (pc := 13) hC dX9_is_13 (by decide) ?_
    have h9 := gxIM hg
    exact R_ireturn (pc := 29) hC dX9_is_29 h9
theorem dX9_hangs_0 : decode cX9_hangs 0 = .ok (.aload_n 0, 1) := by decide +kernel
theorem dX9_hangs_1 : decode cX9_hangs 1 = .ok (.iload_n 1, 1) := by decide +kernel
theorem dX9_hangs_2 : decode cX9_hangs 2 = .ok (.invokevirtual 174, 3) := by decide +kernel
theorem dX9_hangs_5 : decode cX9_hangs 5 = .ok (.ifCond .ne 11, 3) := by decide +kernel
theorem dX9_hangs_8 : decode cX9_hangs 8 = .ok (.aload_n 0, 1) := by decide +kernel
theorem dX9_hangs_9 : decode cX9_hangs 9 = .ok (.iconst (-1), 1) := by decide +kernel
theorem dX9_hangs_10 : decode cX9_hangs 10 = .ok (.invokevirtual 87, 3) := by decide +kernel
theorem dX9_hangs_13 : decode cX9_hangs 13 = .ok (.goto 17, 3) := by decide +kernel
theorem dX9_hangs_16 : decode cX9_hangs 16 = .ok (.aload_n 0, 1) := by decide +kernel
theorem dX9_hangs_17 : decode cX9_hangs 17 = .ok (.iload_n 1, 1) := by decide +kernel
theorem dX9_hangs_18 : decode cX9_hangs 18 = .ok (.invokevirtual 168, 3) := by decide +kernel
theorem dX9_hangs_21 : decode cX9_hangs 21 = .ok (.iconst 1, 1) := by decide +kernel
theorem dX9_hangs_22 : decode cX9_hangs 22 = .ok (.if_icmp .ne 7, 3) := by decide +kernel
theorem dX9_hangs_25 : decode cX9_hangs 25 = .ok (.iconst 1, 1) := by decide +kernel
theorem dX9_hangs_26 : decode cX9_hangs 26 = .ok (.goto 4, 3) := by decide +kernel
theorem dX9_hangs_29 : decode cX9_hangs 29 = .ok (.iconst 0, 1) := by decide +kernel
theorem dX9_hangs_30 : decode cX9_hangs 30 = .ok (.ireturn, 1) := by decide +kernel
def gX9_hangs (F : Nat) (m : Mem) (a1 : Int32) : Option (Int32 × Mem) := (gX9_areLanes m a1).bind (fun x1 => (if x1 = true then (gX9_partsOf F m a1).bind (fun q2 => (if q2.1 = 1 then some (1, q2.2) else some (0, q2.2))) else (gX9_no m (-1)).bind (fun q3 => some (q3.1, q3.2))))
set_option maxHeartbeats 4000000 in
set_option maxRecDepth 20000 in
theorem LX9_hangs {n : Nat} {F : Nat} {m : Mem} {a1 : Int32} {r : Int32 × Mem} (hn64 : 64 ≤ n) (hg : gX9_hangs F m a1 = some r) : MX yX9_hangs cX9_hangs 2 (some .int) { frames := 2, cells := 0, slots := 0, locals := 41 } n [.ref 43, .int a1] m (some (.int r.1)) r.2 := by
  refine MX_of (by decide) (Nat.le_of_ble_eq_true rfl) (Or.inr (Or.inl ⟨rfl, _, rfl⟩)) (fun K hC hk hL hR => ?_)
  replace hn64 : 64 ≤ kn K := hk.symm ▸ hn64
  show RX K 0 [(0, .ref 43), (1, .int a1)] [] m
  rw [gX9_hangs] at hg
  refine R_aload_n (pc := 0) hC 0 dX9_hangs_0 rfl rfl ?_
  refine R_iload_n (pc := 1) hC 1 dX9_hangs_1 rfl rfl ?_
  obtain ⟨x1, hx1, hg⟩ := bind_some hg
  refine R_callV (pc := 2) (av := [.int a1]) (rest := []) hC hR 43 (jx hn64 rfl) ly43 rfl mf_X9_areLanes wm_X9_174 (LX9_areLanes hn64 hx1) rfl rfl rfl (Nat.le_of_ble_eq_true rfl) dX9_hangs_2 rfl ?_
  show RX K 5 [(0, .ref 43), (1, .int a1)] [.int (b2i x1)] m
  refine R_ifB_ne (tgt := 16) (pc := 5) hC dX9_hangs_5 (by decide) (fun c => ?_) (fun c => ?_)
  · replace hg := (if_pos c).symm.trans hg
    refine R_aload_n (pc := 16) hC 0 dX9_hangs_16 rfl rfl ?_
    refine R_iload_n (pc := 17) hC 1 dX9_hangs_17 rfl rfl ?_
    obtain ⟨q2, hq2, hg⟩ := bind_some hg
    refine R_callV (pc := 18) (av := [.int a1]) (rest := []) hC hR 43 (jx hn64 rfl) ly43 rfl mf_X9_partsOf wm_X9_168 (LX9_partsOf hn64 hq2) rfl rfl rfl (Nat.le_of_ble_eq_true rfl) dX9_hangs_18 rfl ?_
    show RX K 21 [(0, .ref 43), (1, .int a1)] [.int q2.1] q2.2
    refine R_iconst (pc := 21) hC dX9_hangs_21 ki_1 ?_
    refine R_icmp_ne (tgt := 29) (pc := 22) hC dX9_hangs_22 (by decide) (fun c => ?_) (fun c => ?_)
    · replace hg := (if_neg c).symm.trans hg
      refine R_iconst (pc := 29) hC dX9_hangs_29 ki_0 ?_
      have h9 := gxIM hg
      exact R_ireturn (pc := 30) hC dX9_hangs_30 h9
    · replace hg := (if_pos c).symm.trans hg
      refine R_iconst (pc := 25) hC dX9_hangs_25 ki_1 ?_
      refine R_goto (tgt := 30) (pc := 26) hC dX9_hangs_26 (by decide) ?_
      have h9 := gxIM hg
      exact R_ireturn (pc := 30) hC dX9_hangs_30 h9
  · replace hg := (if_neg c).symm.trans hg
    refine R_aload_n (pc := 8) hC 0 dX9_hangs_8 rfl rfl ?_
    refine R_iconst (pc := 9) hC dX9_hangs_9 ki_m1 ?_
    obtain ⟨q3, hq3, hg⟩ := bind_some hg
    refine R_callV (pc := 10) (av := [.int (-1)]) (rest := []) hC hR 43 (jx hn64 rfl) ly43 rfl mf_X9_no wm_X9_87 (LX9_no hn64 hq3) rfl rfl rfl (Nat.le_of_ble_eq_true rfl) dX9_hangs_10 rfl ?_
    show RX K 13 [(0, .ref 43), (1, .int a1)] [.int q3.1] q3.2
    refine R_goto (tgt := 30) (pc := 13) hC dX9_hangs_13 (by decide) ?_
    have h9 := gxIM hg
    exact R_ireturn (pc := 30) hC dX9_hangs_30 h9
theorem dX9_parts_0 : decode cX9_parts 0 = .ok (.aload_n 0, 1) := by decide +kernel
theorem dX9_parts_1 : decode cX9_parts 1 = .ok (.iload_n 1, 1) := by decide +kernel
theorem dX9_parts_2 : decode cX9_parts 2 = .ok (.invokevirtual 174, 3) := by decide +kernel
theorem dX9_parts_5 : decode cX9_parts 5 = .ok (.ifCond .eq 11, 3) := by decide +kernel
theorem dX9_parts_8 : decode cX9_parts 8 = .ok (.aload_n 0, 1) := by decide +kernel
theorem dX9_parts_9 : decode cX9_parts 9 = .ok (.iload_n 1, 1) := by decide +kernel
theorem dX9_parts_10 : decode cX9_parts 10 = .ok (.invokevirtual 168, 3) := by decide +kernel
theorem dX9_parts_13 : decode cX9_parts 13 = .ok (.goto 8, 3) := by decide +kernel
theorem dX9_parts_16 : decode cX9_parts 16 = .ok (.aload_n 0, 1) := by decide +kernel
theorem dX9_parts_17 : decode cX9_parts 17 = .ok (.iconst (-1), 1) := by decide +kernel
theorem dX9_parts_18 : decode cX9_parts 18 = .ok (.invokevirtual 87, 3) := by decide +kernel
theorem dX9_parts_21 : decode cX9_parts 21 = .ok (.ireturn, 1) := by decide +kernel
def gX9_parts (F : Nat) (m : Mem) (a1 : Int32) : Option (Int32 × Mem) := (gX9_areLanes m a1).bind (fun x1 => (if x1 = true then (gX9_partsOf F m a1).bind (fun q3 => some (q3.1, q3.2)) else (gX9_no m (-1)).bind (fun q2 => some (q2.1, q2.2))))
set_option maxHeartbeats 4000000 in
set_option maxRecDepth 20000 in
theorem LX9_parts {n : Nat} {F : Nat} {m : Mem} {a1 : Int32} {r : Int32 × Mem} (hn64 : 64 ≤ n) (hg : gX9_parts F m a1 = some r) : MX yX9_parts cX9_parts 2 (some .int) { frames := 2, cells := 0, slots := 0, locals := 41 } n [.ref 43, .int a1] m (some (.int r.1)) r.2 := by
  refine MX_of (by decide) (Nat.le_of_ble_eq_true rfl) (Or.inr (Or.inl ⟨rfl, _, rfl⟩)) (fun K hC hk hL hR => ?_)
  replace hn64 : 64 ≤ kn K := hk.symm ▸ hn64
  show RX K 0 [(0, .ref 43), (1, .int a1)] [] m
  rw [gX9_parts] at hg
  refine R_aload_n (pc := 0) hC 0 dX9_parts_0 rfl rfl ?_
  refine R_iload_n (pc := 1) hC 1 dX9_parts_1 rfl rfl ?_
  obtain ⟨x1, hx1, hg⟩ := bind_some hg
  refine R_callV (pc := 2) (av := [.int a1]) (rest := []) hC hR 43 (jx hn64 rfl) ly43 rfl mf_X9_areLanes wm_X9_174 (LX9_areLanes hn64 hx1) rfl rfl rfl (Nat.le_of_ble_eq_true rfl) dX9_parts_2 rfl ?_
  show RX K 5 [(0, .ref 43), (1, .int a1)] [.int (b2i x1)] m
  refine R_ifB_eq (tgt := 16) (pc := 5) hC dX9_parts_5 (by decide) (fun c => ?_) (fun c => ?_)
  · replace hg := (if_neg c).symm.trans hg
    refine R_aload_n (pc := 16) hC 0 dX9_parts_16 rfl rfl ?_
    refine R_iconst (pc := 17) hC dX9_parts_17 ki_m1 ?_
    obtain ⟨q2, hq2, hg⟩ := bind_some hg
    refine R_callV (pc := 18) (av := [.int (-1)]) (rest := []) hC hR 43 (jx hn64 rfl) ly43 rfl mf_X9_no wm_X9_87 (LX9_no hn64 hq2) rfl rfl rfl (Nat.le_of_ble_eq_true rfl) dX9_parts_18 rfl ?_
    show RX K 21 [(0, .ref 43), (1, .int a1)] [.int q2.1] q2.2
    have h9 := gxIM hg
    exact R_ireturn (pc := 21) hC dX9_parts_21 h9
  · replace hg := (if_pos c).symm.trans hg
    refine R_aload_n (pc := 8) hC 0 dX9_parts_8 rfl rfl ?_
    refine R_iload_n (pc := 9) hC 1 dX9_parts_9 rfl rfl ?_
    obtain ⟨q3, hq3, hg⟩ := bind_some hg
    refine R_callV (pc := 10) (av := [.int a1]) (rest := []) hC hR 43 (jx hn64 rfl) ly43 rfl mf_X9_partsOf wm_X9_168 (LX9_partsOf hn64 hq3) rfl rfl rfl (Nat.le_of_ble_eq_true rfl) dX9_parts_10 rfl ?_
    show RX K 13 [(0, .ref 43), (1, .int a1)] [.int q3.1] q3.2
    refine R_goto (tgt := 21) (pc := 13) hC dX9_parts_13 (by decide) ?_
    have h9 := gxIM hg
    exact R_ireturn (pc := 21) hC dX9_parts_21 h9
theorem dX9_many_0 : decode cX9_many 0 = .ok (.aload_n 0, 1) := by decide +kernel
theorem dX9_many_1 : decode cX9_many 1 = .ok (.invokevirtual 193, 3) := by decide +kernel
theorem dX9_many_4 : decode cX9_many 4 = .ok (.aload_n 0, 1) := by decide +kernel
theorem dX9_many_5 : decode cX9_many 5 = .ok (.getfield 183, 3) := by decide +kernel
theorem dX9_many_8 : decode cX9_many 8 = .ok (.ireturn, 1) := by decide +kernel
def gX9_many (F : Nat) (m : Mem) : Option (Int32 × Mem) := (gX9_findWays F m).bind (fun q1 => some (q1.1 43 24, q1))
set_option maxHeartbeats 4000000 in
set_option maxRecDepth 20000 in
theorem LX9_many {n : Nat} {F : Nat} {m : Mem} {r : Int32 × Mem} (hn64 : 64 ≤ n) (hg : gX9_many F m  = some r) : MX yX9_many cX9_many 1 (some .int) { frames := 4, cells := 0, slots := 0, locals := 90 } n [.ref 43] m (some (.int r.1)) r.2 := by
  refine MX_of (by decide) (Nat.le_of_ble_eq_true rfl) (Or.inr (Or.inl ⟨rfl, _, rfl⟩)) (fun K hC hk hL hR => ?_)
  replace hn64 : 64 ≤ kn K := hk.symm ▸ hn64
  show RX K 0 [(0, .ref 43)] [] m
  rw [gX9_many] at hg
  refine R_aload_n (pc := 0) hC 0 dX9_many_0 rfl rfl ?_
  obtain ⟨q1, hq1, hg⟩ := bind_some hg
  refine R_callV (pc := 1) (av := []) (rest := []) hC hR 43 (jx hn64 rfl) ly43 rfl mf_X9_findWays wm_X9_193 (LX9_findWays hn64 hq1) rfl rfl rfl (Nat.le_of_ble_eq_true rfl) dX9_many_1 rfl ?_
  show RX K 4 [(0, .ref 43)] [] q1
  refine R_aload_n (pc := 4) hC 0 dX9_many_4 rfl rfl ?_
  refine gf_X9_183 (pc := 5) hC hn64 dX9_many_5 ?_
  have h9 := gxIM hg
  exact R_ireturn (pc := 8) hC dX9_many_8 h9
theorem dX9_sum_0 : decode cX9_sum 0 = .ok (.aload_n 0, 1) := by decide +kernel
theorem dX9_sum_1 : decode cX9_sum 1 = .ok (.invokevirtual 193, 3) := by decide +kernel
theorem dX9_sum_4 : decode cX9_sum 4 = .ok (.aload_n 0, 1) := by decide +kernel
theorem dX9_sum_5 : decode cX9_sum 5 = .ok (.iconst 0, 1) := by decide +kernel
theorem dX9_sum_6 : decode cX9_sum 6 = .ok (.iconst 0, 1) := by decide +kernel
theorem dX9_sum_7 : decode cX9_sum 7 = .ok (.invokevirtual 196, 3) := by decide +kernel
theorem dX9_sum_10 : decode cX9_sum 10 = .ok (.lreturn, 1) := by decide +kernel
def gX9_sum (F : Nat) (m : Mem) : Option (Int64 × Mem) := (gX9_findWays F m).bind (fun q1 => (gX9_sumWith F q1 0 0).bind (fun x2 => some (x2, q1)))
set_option maxHeartbeats 4000000 in
set_option maxRecDepth 20000 in
theorem LX9_sum {n : Nat} {F : Nat} {m : Mem} {r : Int64 × Mem} (hn64 : 64 ≤ n) (hg : gX9_sum F m  = some r) : MX yX9_sum cX9_sum 1 (some .long) { frames := 4, cells := 0, slots := 0, locals := 90 } n [.ref 43] m (some (.long r.1)) r.2 := by
  refine MX_of (by decide) (Nat.le_of_ble_eq_true rfl) (Or.inr (Or.inr (Or.inl ⟨rfl, _, rfl⟩))) (fun K hC hk hL hR => ?_)
  replace hn64 : 64 ≤ kn K := hk.symm ▸ hn64
  show RX K 0 [(0, .ref 43)] [] m
  rw [gX9_sum] at hg
  refine R_aload_n (pc := 0) hC 0 dX9_sum_0 rfl rfl ?_
  obtain ⟨q1, hq1, hg⟩ := bind_some hg
  refine R_callV (pc := 1) (av := []) (rest := []) hC hR 43 (jx hn64 rfl) ly43 rfl mf_X9_findWays wm_X9_193 (LX9_findWays hn64 hq1) rfl rfl rfl (Nat.le_of_ble_eq_true rfl) dX9_sum_1 rfl ?_
  show RX K 4 [(0, .ref 43)] [] q1
  refine R_aload_n (pc := 4) hC 0 dX9_sum_4 rfl rfl ?_
  refine R_iconst (pc := 5) hC dX9_sum_5 ki_0 ?_
  refine R_iconst (pc := 6) hC dX9_sum_6 ki_0 ?_
  obtain ⟨x2, hx2, hg⟩ := bind_some hg
  refine R_callV (pc := 7) (av := [.int 0, .int 0]) (rest := []) hC hR 43 (jx hn64 rfl) ly43 rfl mf_X9_sumWith wm_X9_196 (LX9_sumWith hn64 hx2) rfl rfl rfl (Nat.le_of_ble_eq_true rfl) dX9_sum_7 rfl ?_
  show RX K 10 [(0, .ref 43)] [.long x2] q1
  have h9 := gxJM hg
  exact R_lreturn (pc := 10) hC dX9_sum_10 h9
theorem dX9_way_0 : decode cX9_way 0 = .ok (.iload_n 1, 1) := by decide +kernel
theorem dX9_way_1 : decode cX9_way 1 = .ok (.ifCond .ge 10, 3) := by decide +kernel
theorem dX9_way_4 : decode cX9_way 4 = .ok (.aload_n 0, 1) := by decide +kernel
theorem dX9_way_5 : decode cX9_way 5 = .ok (.bipush (-4), 2) := by decide +kernel
theorem dX9_way_7 : decode cX9_way 7 = .ok (.invokevirtual 87, 3) := by decide +kernel
theorem dX9_way_10 : decode cX9_way 10 = .ok (.ireturn, 1) := by decide +kernel
theorem dX9_way_11 : decode cX9_way 11 = .ok (.aload_n 0, 1) := by decide +kernel
theorem dX9_way_12 : decode cX9_way 12 = .ok (.invokevirtual 193, 3) := by decide +kernel
theorem dX9_way_15 : decode cX9_way 15 = .ok (.iload_n 1, 1) := by decide +kernel
theorem dX9_way_16 : decode cX9_way 16 = .ok (.aload_n 0, 1) := by decide +kernel
theorem dX9_way_17 : decode cX9_way 17 = .ok (.getfield 183, 3) := by decide +kernel
theorem dX9_way_20 : decode cX9_way 20 = .ok (.if_icmp .ge 12, 3) := by decide +kernel
theorem dX9_way_23 : decode cX9_way 23 = .ok (.aload_n 0, 1) := by decide +kernel
theorem dX9_way_24 : decode cX9_way 24 = .ok (.getfield 56, 3) := by decide +kernel
theorem dX9_way_27 : decode cX9_way 27 = .ok (.iload_n 1, 1) := by decide +kernel
theorem dX9_way_28 : decode cX9_way 28 = .ok (.iaload, 1) := by decide +kernel
theorem dX9_way_29 : decode cX9_way 29 = .ok (.goto 5, 3) := by decide +kernel
theorem dX9_way_32 : decode cX9_way 32 = .ok (.bipush (-9), 2) := by decide +kernel
theorem dX9_way_34 : decode cX9_way 34 = .ok (.ireturn, 1) := by decide +kernel
def gX9_way (F : Nat) (m : Mem) (a1 : Int32) : Option (Int32 × Mem) := (if 0 ≤ a1 then (gX9_findWays F m).bind (fun q1 => (if (q1.1 43 24) ≤ a1 then some ((-9), q1) else chk (inb a1 1024) (some (q1.1 58 (Int32.toNatClampNeg a1), q1)))) else (gX9_no m (-4)).bind (fun q3 => some (q3.1, q3.2)))
set_option maxHeartbeats 4000000 in
set_option maxRecDepth 20000 in
theorem LX9_way {n : Nat} {F : Nat} {m : Mem} {a1 : Int32} {r : Int32 × Mem} (hn64 : 64 ≤ n) (hg : gX9_way F m a1 = some r) : MX yX9_way cX9_way 2 (some .int) { frames := 4, cells := 0, slots := 0, locals := 90 } n [.ref 43, .int a1] m (some (.int r.1)) r.2 := by
  refine MX_of (by decide) (Nat.le_of_ble_eq_true rfl) (Or.inr (Or.inl ⟨rfl, _, rfl⟩)) (fun K hC hk hL hR => ?_)
  replace hn64 : 64 ≤ kn K := hk.symm ▸ hn64
  show RX K 0 [(0, .ref 43), (1, .int a1)] [] m
  rw [gX9_way] at hg
  refine R_iload_n (pc := 0) hC 1 dX9_way_0 rfl rfl ?_
  refine R_if_ge (tgt := 11) (pc := 1) hC dX9_way_1 (by decide) (fun c => ?_) (fun c => ?_)
  · replace hg := (if_pos c).symm.trans hg
    refine R_aload_n (pc := 11) hC 0 dX9_way_11 rfl rfl ?_
    obtain ⟨q1, hq1, hg⟩ := bind_some hg
    refine R_callV (pc := 12) (av := []) (rest := []) hC hR 43 (jx hn64 rfl) ly43 rfl mf_X9_findWays wm_X9_193 (LX9_findWays hn64 hq1) rfl rfl rfl (Nat.le_of_ble_eq_true rfl) dX9_way_12 rfl ?_
    show RX K 15 [(0, .ref 43), (1, .int a1)] [] q1
    refine R_iload_n (pc := 15) hC 1 dX9_way_15 rfl rfl ?_
    refine R_aload_n (pc := 16) hC 0 dX9_way_16 rfl rfl ?_
    refine gf_X9_183 (pc := 17) hC hn64 dX9_way_17 ?_
    refine R_icmp_ge (tgt := 32) (pc := 20) hC dX9_way_20 (by decide) (fun c => ?_) (fun c => ?_)
    · replace hg := (if_pos c).symm.trans hg
      refine R_bipush (pc := 32) hC dX9_way_32 kb_m9 ?_
      have h9 := gxIM hg
      exact R_ireturn (pc := 34) hC dX9_way_34 h9
    · replace hg := (if_neg c).symm.trans hg
      refine R_aload_n (pc := 23) hC 0 dX9_way_23 rfl rfl ?_
      refine gf_X9_56 (pc := 24) hC hn64 dX9_way_24 ?_
      refine R_iload_n (pc := 27) hC 1 dX9_way_27 rfl rfl ?_
      obtain ⟨c2, hg⟩ := chk_some hg
      refine R_iaload (pc := 28) hC 58 (jx hn64 rfl) ly58 (inb_vp c2) dX9_way_28 ?_
      refine R_goto (tgt := 34) (pc := 29) hC dX9_way_29 (by decide) ?_
      have h9 := gxIM hg
      exact R_ireturn (pc := 34) hC dX9_way_34 h9
  · replace hg := (if_neg c).symm.trans hg
    refine R_aload_n (pc := 4) hC 0 dX9_way_4 rfl rfl ?_
    refine R_bipush (pc := 5) hC dX9_way_5 kb_m4 ?_
    obtain ⟨q3, hq3, hg⟩ := bind_some hg
    refine R_callV (pc := 7) (av := [.int (-4)]) (rest := []) hC hR 43 (jx hn64 rfl) ly43 rfl mf_X9_no wm_X9_87 (LX9_no hn64 hq3) rfl rfl rfl (Nat.le_of_ble_eq_true rfl) dX9_way_7 rfl ?_
    show RX K 10 [(0, .ref 43), (1, .int a1)] [.int q3.1] q3.2
    have h9 := gxIM hg
    exact R_ireturn (pc := 10) hC dX9_way_10 h9
theorem dX9_divisor_0 : decode cX9_divisor 0 = .ok (.lload_n 0, 1) := by decide +kernel
theorem dX9_divisor_1 : decode cX9_divisor 1 = .ok (.lstore 4, 2) := by decide +kernel
theorem dX9_divisor_3 : decode cX9_divisor 3 = .ok (.lload_n 2, 1) := by decide +kernel
theorem dX9_divisor_4 : decode cX9_divisor 4 = .ok (.lstore 6, 2) := by decide +kernel
theorem dX9_divisor_6 : decode cX9_divisor 6 = .ok (.lload 6, 2) := by decide +kernel
theorem dX9_divisor_8 : decode cX9_divisor 8 = .ok (.lconst 0, 1) := by decide +kernel
theorem dX9_divisor_9 : decode cX9_divisor 9 = .ok (.lcmp, 1) := by decide +kernel
theorem dX9_divisor_10 : decode cX9_divisor 10 = .ok (.ifCond .eq 21, 3) := by decide +kernel
theorem dX9_divisor_13 : decode cX9_divisor 13 = .ok (.lload 4, 2) := by decide +kernel
theorem dX9_divisor_15 : decode cX9_divisor 15 = .ok (.lload 6, 2) := by decide +kernel
theorem dX9_divisor_17 : decode cX9_divisor 17 = .ok (.lrem, 1) := by decide +kernel
theorem dX9_divisor_18 : decode cX9_divisor 18 = .ok (.lstore 8, 2) := by decide +kernel
theorem dX9_divisor_20 : decode cX9_divisor 20 = .ok (.lload 6, 2) := by decide +kernel
theorem dX9_divisor_22 : decode cX9_divisor 22 = .ok (.lstore 4, 2) := by decide +kernel
theorem dX9_divisor_24 : decode cX9_divisor 24 = .ok (.lload 8, 2) := by decide +kernel
theorem dX9_divisor_26 : decode cX9_divisor 26 = .ok (.lstore 6, 2) := by decide +kernel
theorem dX9_divisor_28 : decode cX9_divisor 28 = .ok (.goto (-22), 3) := by decide +kernel
theorem dX9_divisor_31 : decode cX9_divisor 31 = .ok (.lload 4, 2) := by decide +kernel
theorem dX9_divisor_33 : decode cX9_divisor 33 = .ok (.lreturn, 1) := by decide +kernel
def bX9_divisor_6  : (Int64 × Int64) → Option ((Int64 × Int64) ⊕ (Int64 × Int64))
  | (y1, y2) => (if (lg_cmp y2 0) = 0 then some (.inr (y1, y2)) else chk (¬ y2 = 0) (lete (y1 - y1 / y2 * y2) (fun x4 => some (.inl (y2, x4)))))
def gX9_divisor (F : Nat) (a1 : Int64) (a2 : Int64) : Option (Int64) := (iter F (bX9_divisor_6) (a1, a2)).bind (fun e5 => some e5.1)
set_option maxHeartbeats 4000000 in
set_option maxRecDepth 20000 in
theorem LX9_divisor {n : Nat} {F : Nat} {m : Mem} {a1 : Int64} {a2 : Int64} {r : Int64} (hn64 : 64 ≤ n) (hg : gX9_divisor F a1 a2 = some r) : MX yX9_divisor cX9_divisor 10 (some .long) { frames := 0, cells := 0, slots := 0, locals := 0 } n [.long a1, .long a2] m (some (.long r)) m := by
  refine MX_of (by decide) (Nat.le_of_ble_eq_true rfl) (Or.inr (Or.inr (Or.inl ⟨rfl, _, rfl⟩))) (fun K hC hk hL hR => ?_)
  replace hn64 : 64 ≤ kn K := hk.symm ▸ hn64
  show RX K 0 [(0, .long a1), (2, .long a2)] [] m
  rw [gX9_divisor] at hg
  refine R_lload_n (pc := 0) hC 0 dX9_divisor_0 rfl rfl ?_
  refine R_lstore (pc := 1) hC dX9_divisor_1 hL rfl (show _ = [(4, .long a1), (0, .long a1), (2, .long a2)] from rfl) ?_
  refine R_lload_n (pc := 3) hC 2 dX9_divisor_3 rfl rfl ?_
  refine R_lstore (pc := 4) hC dX9_divisor_4 hL rfl (show _ = [(6, .long a2), (4, .long a1), (0, .long a1), (2, .long a2)] from rfl) ?_
  refine R_pick [2, 3, 1, 0] (ls' := [(0, .long a1), (2, .long a2), (4, .long a1), (6, .long a2)]) rfl ?_
  obtain ⟨e5, he5, hg⟩ := bind_some hg
  refine iter_walk (P := fun s : (Int64 × Int64) => RX K 6 [(0, .long a1), (2, .long a2), (4, .long s.1), (6, .long s.2)] [] m) (Qe := fun s : (Int64 × Int64) => RX K 31 [(0, .long a1), (2, .long a2), (4, .long s.1), (6, .long s.2)] [] m) (fun s6 o hg kL6 kE6 => ?_) _ _ _ he5 ?_
  · obtain ⟨y1, y2⟩ := s6
    rw [bX9_divisor_6] at hg
    show RX K 6 [(0, .long a1), (2, .long a2), (4, .long y1), (6, .long y2)] [] m
    refine R_lload (pc := 6) hC 3 dX9_divisor_6 rfl ?_
    refine R_lconst (pc := 8) hC dX9_divisor_8 kl_0 ?_
    refine R_lcmp (pc := 9) hC dX9_divisor_9 ?_
    refine R_if_eq (tgt := 31) (pc := 10) hC dX9_divisor_10 (by decide) (fun c => ?_) (fun c => ?_)
    · replace hg := (if_pos c).symm.trans hg
      refine R_pick [0, 1, 2, 3] (ls' := [(0, .long a1), (2, .long a2), (4, .long y1), (6, .long y2)]) rfl ?_
      have h9 := kE6 _ (Option.some.inj hg).symm
      exact h9
    · replace hg := (if_neg c).symm.trans hg
      refine R_lload (pc := 13) hC 2 dX9_divisor_13 rfl ?_
      refine R_lload (pc := 15) hC 3 dX9_divisor_15 rfl ?_
      obtain ⟨c3, hg⟩ := chk_some hg
      refine R_lrem (pc := 17) hC dX9_divisor_17 c3 ?_
      obtain ⟨x4, hx4, hg⟩ := lete_some hg
      refine R_topL hx4 ?_
      refine R_lstore (pc := 18) hC dX9_divisor_18 hL rfl (show _ = [(8, .long x4), (0, .long a1), (2, .long a2), (4, .long y1), (6, .long y2)] from rfl) ?_
      refine R_lload (pc := 20) hC 4 dX9_divisor_20 rfl ?_
      refine R_lstore (pc := 22) hC dX9_divisor_22 hL rfl (show _ = [(4, .long y2), (8, .long x4), (0, .long a1), (2, .long a2), (6, .long y2)] from rfl) ?_
      refine R_lload (pc := 24) hC 1 dX9_divisor_24 rfl ?_
      refine R_lstore (pc := 26) hC dX9_divisor_26 hL rfl (show _ = [(6, .long x4), (4, .long y2), (8, .long x4), (0, .long a1), (2, .long a2)] from rfl) ?_
      refine R_goto (tgt := 6) (pc := 28) hC dX9_divisor_28 (by decide) ?_
      refine R_pick [3, 4, 1, 0] (ls' := [(0, .long a1), (2, .long a2), (4, .long y2), (6, .long x4)]) rfl ?_
      have h9 := kL6 _ (Option.some.inj hg).symm
      exact h9
  · show RX K 31 [(0, .long a1), (2, .long a2), (4, .long e5.1), (6, .long e5.2)] [] m
    refine R_lload (pc := 31) hC 2 dX9_divisor_31 rfl ?_
    have h9 := gxJ (m := m) hg
    exact R_lreturn (pc := 33) hC dX9_divisor_33 h9
theorem dX9_inLeast_0 : decode cX9_inLeast 0 = .ok (.iload 4, 2) := by decide +kernel
theorem dX9_inLeast_2 : decode cX9_inLeast 2 = .ok (.ifCond .ne 7, 3) := by decide +kernel
theorem dX9_inLeast_5 : decode cX9_inLeast 5 = .ok (.lload_n 0, 1) := by decide +kernel
theorem dX9_inLeast_6 : decode cX9_inLeast 6 = .ok (.goto 4, 3) := by decide +kernel
theorem dX9_inLeast_9 : decode cX9_inLeast 9 = .ok (.lload_n 2, 1) := by decide +kernel
theorem dX9_inLeast_10 : decode cX9_inLeast 10 = .ok (.lload_n 0, 1) := by decide +kernel
theorem dX9_inLeast_11 : decode cX9_inLeast 11 = .ok (.lload_n 2, 1) := by decide +kernel
theorem dX9_inLeast_12 : decode cX9_inLeast 12 = .ok (.invokestatic 200, 3) := by decide +kernel
theorem dX9_inLeast_15 : decode cX9_inLeast 15 = .ok (.ldiv, 1) := by decide +kernel
theorem dX9_inLeast_16 : decode cX9_inLeast 16 = .ok (.lreturn, 1) := by decide +kernel
def gX9_inLeast (F : Nat) (a1 : Int64) (a2 : Int64) (a3 : Int32) : Option (Int64) := (if a3 = 0 then (gX9_divisor F a1 a2).bind (fun x3 => chk (¬ x3 = 0) (some (a1 / x3))) else (gX9_divisor F a1 a2).bind (fun x1 => chk (¬ x1 = 0) (some (a2 / x1))))
set_option maxHeartbeats 4000000 in
set_option maxRecDepth 20000 in
theorem LX9_inLeast {n : Nat} {F : Nat} {m : Mem} {a1 : Int64} {a2 : Int64} {a3 : Int32} {r : Int64} (hn64 : 64 ≤ n) (hg : gX9_inLeast F a1 a2 a3 = some r) : MX yX9_inLeast cX9_inLeast 5 (some .long) { frames := 1, cells := 0, slots := 0, locals := 29 } n [.long a1, .long a2, .int a3] m (some (.long r)) m := by
  refine MX_of (by decide) (Nat.le_of_ble_eq_true rfl) (Or.inr (Or.inr (Or.inl ⟨rfl, _, rfl⟩))) (fun K hC hk hL hR => ?_)
  replace hn64 : 64 ≤ kn K := hk.symm ▸ hn64
  show RX K 0 [(0, .long a1), (2, .long a2), (4, .int a3)] [] m
  rw [gX9_inLeast] at hg
  refine R_iload (pc := 0) hC 2 dX9_inLeast_0 rfl ?_
  refine R_if_ne (tgt := 9) (pc := 2) hC dX9_inLeast_2 (by decide) (fun c => ?_) (fun c => ?_)
  · replace hg := (if_neg c).symm.trans hg
    refine R_lload_n (pc := 9) hC 1 dX9_inLeast_9 rfl rfl ?_
    refine R_lload_n (pc := 10) hC 0 dX9_inLeast_10 rfl rfl ?_
    refine R_lload_n (pc := 11) hC 1 dX9_inLeast_11 rfl rfl ?_
    obtain ⟨x1, hx1, hg⟩ := bind_some hg
    refine R_callS (pc := 12) (av := [.long a1, .long a2]) (rest := [.long a2]) hC hR mf_X9_divisor wm_X9_200 (LX9_divisor hn64 hx1) rfl rfl rfl (Nat.le_of_ble_eq_true rfl) dX9_inLeast_12 rfl ?_
    show RX K 15 [(0, .long a1), (2, .long a2), (4, .int a3)] [.long x1, .long a2] m
    obtain ⟨c2, hg⟩ := chk_some hg
    refine R_ldiv (pc := 15) hC dX9_inLeast_15 c2 ?_
    have h9 := gxJ (m := m) hg
    exact R_lreturn (pc := 16) hC dX9_inLeast_16 h9
  · replace hg := (if_pos c).symm.trans hg
    refine R_lload_n (pc := 5) hC 0 dX9_inLeast_5 rfl rfl ?_
    refine R_goto (tgt := 10) (pc := 6) hC dX9_inLeast_6 (by decide) ?_
    refine R_lload_n (pc := 10) hC 0 dX9_inLeast_10 rfl rfl ?_
    refine R_lload_n (pc := 11) hC 1 dX9_inLeast_11 rfl rfl ?_
    obtain ⟨x3, hx3, hg⟩ := bind_some hg
    refine R_callS (pc := 12) (av := [.long a1, .long a2]) (rest := [.long a1]) hC hR mf_X9_divisor wm_X9_200 (LX9_divisor hn64 hx3) rfl rfl rfl (Nat.le_of_ble_eq_true rfl) dX9_inLeast_12 rfl ?_
    show RX K 15 [(0, .long a1), (2, .long a2), (4, .int a3)] [.long x3, .long a1] m
    obtain ⟨c4, hg⟩ := chk_some hg
    refine R_ldiv (pc := 15) hC dX9_inLeast_15 c4 ?_
    have h9 := gxJ (m := m) hg
    exact R_lreturn (pc := 16) hC dX9_inLeast_16 h9
theorem dX9_share_0 : decode cX9_share 0 = .ok (.aload_n 0, 1) := by decide +kernel
theorem dX9_share_1 : decode cX9_share 1 = .ok (.invokevirtual 193, 3) := by decide +kernel
theorem dX9_share_4 : decode cX9_share 4 = .ok (.aload_n 0, 1) := by decide +kernel
theorem dX9_share_5 : decode cX9_share 5 = .ok (.getfield 183, 3) := by decide +kernel
theorem dX9_share_8 : decode cX9_share 8 = .ok (.ifCond .ne 12, 3) := by decide +kernel
theorem dX9_share_11 : decode cX9_share 11 = .ok (.aload_n 0, 1) := by decide +kernel
theorem dX9_share_12 : decode cX9_share 12 = .ok (.bipush (-3), 2) := by decide +kernel
theorem dX9_share_14 : decode cX9_share 14 = .ok (.invokevirtual 204, 3) := by decide +kernel
theorem dX9_share_17 : decode cX9_share 17 = .ok (.goto 19, 3) := by decide +kernel
theorem dX9_share_20 : decode cX9_share 20 = .ok (.aload_n 0, 1) := by decide +kernel
theorem dX9_share_21 : decode cX9_share 21 = .ok (.iload_n 1, 1) := by decide +kernel
theorem dX9_share_22 : decode cX9_share 22 = .ok (.iconst 0, 1) := by decide +kernel
theorem dX9_share_23 : decode cX9_share 23 = .ok (.invokevirtual 196, 3) := by decide +kernel
theorem dX9_share_26 : decode cX9_share 26 = .ok (.aload_n 0, 1) := by decide +kernel
theorem dX9_share_27 : decode cX9_share 27 = .ok (.iconst 0, 1) := by decide +kernel
theorem dX9_share_28 : decode cX9_share 28 = .ok (.iconst 0, 1) := by decide +kernel
theorem dX9_share_29 : decode cX9_share 29 = .ok (.invokevirtual 196, 3) := by decide +kernel
theorem dX9_share_32 : decode cX9_share 32 = .ok (.iload_n 2, 1) := by decide +kernel
theorem dX9_share_33 : decode cX9_share 33 = .ok (.invokestatic 207, 3) := by decide +kernel
theorem dX9_share_36 : decode cX9_share 36 = .ok (.lreturn, 1) := by decide +kernel
def gX9_share (F : Nat) (m : Mem) (a1 : Int32) (a2 : Int32) : Option (Int64 × Mem) := (gX9_findWays F m).bind (fun q1 => (if (q1.1 43 24) = 0 then (gX9_lowest q1 (-3)).bind (fun q5 => some (q5.1, q5.2)) else (gX9_sumWith F q1 a1 0).bind (fun x2 => (gX9_sumWith F q1 0 0).bind (fun x3 => (gX9_inLeast F x2 x3 a2).bind (fun x4 => some (x4, q1))))))
set_option maxHeartbeats 4000000 in
set_option maxRecDepth 20000 in
theorem LX9_share {n : Nat} {F : Nat} {m : Mem} {a1 : Int32} {a2 : Int32} {r : Int64 × Mem} (hn64 : 64 ≤ n) (hg : gX9_share F m a1 a2 = some r) : MX yX9_share cX9_share 3 (some .long) { frames := 4, cells := 0, slots := 0, locals := 90 } n [.ref 43, .int a1, .int a2] m (some (.long r.1)) r.2 := by
  refine MX_of (by decide) (Nat.le_of_ble_eq_true rfl) (Or.inr (Or.inr (Or.inl ⟨rfl, _, rfl⟩))) (fun K hC hk hL hR => ?_)
  replace hn64 : 64 ≤ kn K := hk.symm ▸ hn64
  show RX K 0 [(0, .ref 43), (1, .int a1), (2, .int a2)] [] m
  rw [gX9_share] at hg
  refine R_aload_n (pc := 0) hC 0 dX9_share_0 rfl rfl ?_
  obtain ⟨q1, hq1, hg⟩ := bind_some hg
  refine R_callV (pc := 1) (av := []) (rest := []) hC hR 43 (jx hn64 rfl) ly43 rfl mf_X9_findWays wm_X9_193 (LX9_findWays hn64 hq1) rfl rfl rfl (Nat.le_of_ble_eq_true rfl) dX9_share_1 rfl ?_
  show RX K 4 [(0, .ref 43), (1, .int a1), (2, .int a2)] [] q1
  refine R_aload_n (pc := 4) hC 0 dX9_share_4 rfl rfl ?_
  refine gf_X9_183 (pc := 5) hC hn64 dX9_share_5 ?_
  refine R_if_ne (tgt := 20) (pc := 8) hC dX9_share_8 (by decide) (fun c => ?_) (fun c => ?_)
  · replace hg := (if_neg c).symm.trans hg
    refine R_aload_n (pc := 20) hC 0 dX9_share_20 rfl rfl ?_
    refine R_iload_n (pc := 21) hC 1 dX9_share_21 rfl rfl ?_
    refine R_iconst (pc := 22) hC dX9_share_22 ki_0 ?_
    obtain ⟨x2, hx2, hg⟩ := bind_some hg
    refine R_callV (pc := 23) (av := [.int a1, .int 0]) (rest := []) hC hR 43 (jx hn64 rfl) ly43 rfl mf_X9_sumWith wm_X9_196 (LX9_sumWith hn64 hx2) rfl rfl rfl (Nat.le_of_ble_eq_true rfl) dX9_share_23 rfl ?_
    show RX K 26 [(0, .ref 43), (1, .int a1), (2, .int a2)] [.long x2] q1
    refine R_aload_n (pc := 26) hC 0 dX9_share_26 rfl rfl ?_
    refine R_iconst (pc := 27) hC dX9_share_27 ki_0 ?_
    refine R_iconst (pc := 28) hC dX9_share_28 ki_0 ?_
    obtain ⟨x3, hx3, hg⟩ := bind_some hg
    refine R_callV (pc := 29) (av := [.int 0, .int 0]) (rest := [.long x2]) hC hR 43 (jx hn64 rfl) ly43 rfl mf_X9_sumWith wm_X9_196 (LX9_sumWith hn64 hx3) rfl rfl rfl (Nat.le_of_ble_eq_true rfl) dX9_share_29 rfl ?_
    show RX K 32 [(0, .ref 43), (1, .int a1), (2, .int a2)] [.long x3, .long x2] q1
    refine R_iload_n (pc := 32) hC 2 dX9_share_32 rfl rfl ?_
    obtain ⟨x4, hx4, hg⟩ := bind_some hg
    refine R_callS (pc := 33) (av := [.long x2, .long x3, .int a2]) (rest := []) hC hR mf_X9_inLeast wm_X9_207 (LX9_inLeast hn64 hx4) rfl rfl rfl (Nat.le_of_ble_eq_true rfl) dX9_share_33 rfl ?_
    show RX K 36 [(0, .ref 43), (1, .int a1), (2, .int a2)] [.long x4] q1
    have h9 := gxJM hg
    exact R_lreturn (pc := 36) hC dX9_share_36 h9
  · replace hg := (if_pos c).symm.trans hg
    refine R_aload_n (pc := 11) hC 0 dX9_share_11 rfl rfl ?_
    refine R_bipush (pc := 12) hC dX9_share_12 kb_m3 ?_
    obtain ⟨q5, hq5, hg⟩ := bind_some hg
    refine R_callV (pc := 14) (av := [.int (-3)]) (rest := []) hC hR 43 (jx hn64 rfl) ly43 rfl mf_X9_lowest wm_X9_204 (LX9_lowest hn64 hq5) rfl rfl rfl (Nat.le_of_ble_eq_true rfl) dX9_share_14 rfl ?_
    show RX K 17 [(0, .ref 43), (1, .int a1), (2, .int a2)] [.long q5.1] q5.2
    refine R_goto (tgt := 36) (pc := 17) hC dX9_share_17 (by decide) ?_
    have h9 := gxJM hg
    exact R_lreturn (pc := 36) hC dX9_share_36 h9
theorem dX9_likely_0 : decode cX9_likely 0 = .ok (.aload_n 0, 1) := by decide +kernel
theorem dX9_likely_1 : decode cX9_likely 1 = .ok (.iload_n 1, 1) := by decide +kernel
theorem dX9_likely_2 : decode cX9_likely 2 = .ok (.invokevirtual 122, 3) := by decide +kernel
theorem dX9_likely_5 : decode cX9_likely 5 = .ok (.ifCond .ne 9, 3) := by decide +kernel
theorem dX9_likely_8 : decode cX9_likely 8 = .ok (.aload_n 0, 1) := by decide +kernel
theorem dX9_likely_9 : decode cX9_likely 9 = .ok (.iconst (-1), 1) := by decide +kernel
theorem dX9_likely_10 : decode cX9_likely 10 = .ok (.invokevirtual 204, 3) := by decide +kernel
theorem dX9_likely_13 : decode cX9_likely 13 = .ok (.lreturn, 1) := by decide +kernel
theorem dX9_likely_14 : decode cX9_likely 14 = .ok (.iload_n 2, 1) := by decide +kernel
theorem dX9_likely_15 : decode cX9_likely 15 = .ok (.iconst 0, 1) := by decide +kernel
theorem dX9_likely_16 : decode cX9_likely 16 = .ok (.iconst 1, 1) := by decide +kernel
theorem dX9_likely_17 : decode cX9_likely 17 = .ok (.invokestatic 98, 3) := by decide +kernel
theorem dX9_likely_20 : decode cX9_likely 20 = .ok (.ifCond .eq 14, 3) := by decide +kernel
theorem dX9_likely_23 : decode cX9_likely 23 = .ok (.aload_n 0, 1) := by decide +kernel
theorem dX9_likely_24 : decode cX9_likely 24 = .ok (.iconst 1, 1) := by decide +kernel
theorem dX9_likely_25 : decode cX9_likely 25 = .ok (.iload_n 1, 1) := by decide +kernel
theorem dX9_likely_26 : decode cX9_likely 26 = .ok (.ishl, 1) := by decide +kernel
theorem dX9_likely_27 : decode cX9_likely 27 = .ok (.iload_n 2, 1) := by decide +kernel
theorem dX9_likely_28 : decode cX9_likely 28 = .ok (.invokevirtual 211, 3) := by decide +kernel
theorem dX9_likely_31 : decode cX9_likely 31 = .ok (.goto 9, 3) := by decide +kernel
theorem dX9_likely_34 : decode cX9_likely 34 = .ok (.aload_n 0, 1) := by decide +kernel
theorem dX9_likely_35 : decode cX9_likely 35 = .ok (.bipush (-2), 2) := by decide +kernel
theorem dX9_likely_37 : decode cX9_likely 37 = .ok (.invokevirtual 204, 3) := by decide +kernel
theorem dX9_likely_40 : decode cX9_likely 40 = .ok (.lreturn, 1) := by decide +kernel
def gX9_likely (F : Nat) (m : Mem) (a1 : Int32) (a2 : Int32) : Option (Int64 × Mem) := (gX9_isLane m a1).bind (fun x1 => (if x1 = true then (gX9_isIn a2 0 1).bind (fun x2 => (if x2 = true then (gX9_share F m ((1 : Int32) <<< (a1 &&& 31)) a2).bind (fun q4 => some (q4.1, q4.2)) else (gX9_lowest m (-2)).bind (fun q3 => some (q3.1, q3.2)))) else (gX9_lowest m (-1)).bind (fun q5 => some (q5.1, q5.2))))
set_option maxHeartbeats 4000000 in
set_option maxRecDepth 20000 in
theorem LX9_likely {n : Nat} {F : Nat} {m : Mem} {a1 : Int32} {a2 : Int32} {r : Int64 × Mem} (hn64 : 64 ≤ n) (hg : gX9_likely F m a1 a2 = some r) : MX yX9_likely cX9_likely 3 (some .long) { frames := 5, cells := 0, slots := 0, locals := 112 } n [.ref 43, .int a1, .int a2] m (some (.long r.1)) r.2 := by
  refine MX_of (by decide) (Nat.le_of_ble_eq_true rfl) (Or.inr (Or.inr (Or.inl ⟨rfl, _, rfl⟩))) (fun K hC hk hL hR => ?_)
  replace hn64 : 64 ≤ kn K := hk.symm ▸ hn64
  show RX K 0 [(0, .ref 43), (1, .int a1), (2, .int a2)] [] m
  rw [gX9_likely] at hg
  refine R_aload_n (pc := 0) hC 0 dX9_likely_0 rfl rfl ?_
  refine R_iload_n (pc := 1) hC 1 dX9_likely_1 rfl rfl ?_
  obtain ⟨x1, hx1, hg⟩ := bind_some hg
  refine R_callV (pc := 2) (av := [.int a1]) (rest := []) hC hR 43 (jx hn64 rfl) ly43 rfl mf_X9_isLane wm_X9_122 (LX9_isLane hn64 hx1) rfl rfl rfl (Nat.le_of_ble_eq_true rfl) dX9_likely_2 rfl ?_
  show RX K 5 [(0, .ref 43), (1, .int a1), (2, .int a2)] [.int (b2i x1)] m
  refine R_ifB_ne (tgt := 14) (pc := 5) hC dX9_likely_5 (by decide) (fun c => ?_) (fun c => ?_)
  · replace hg := (if_pos c).symm.trans hg
    refine R_iload_n (pc := 14) hC 2 dX9_likely_14 rfl rfl ?_
    refine R_iconst (pc := 15) hC dX9_likely_15 ki_0 ?_
    refine R_iconst (pc := 16) hC dX9_likely_16 ki_1 ?_
    obtain ⟨x2, hx2, hg⟩ := bind_some hg
    refine R_callS (pc := 17) (av := [.int a2, .int 0, .int 1]) (rest := []) hC hR mf_X9_isIn wm_X9_98 (LX9_isIn hn64 hx2) rfl rfl rfl (Nat.le_of_ble_eq_true rfl) dX9_likely_17 rfl ?_
    show RX K 20 [(0, .ref 43), (1, .int a1), (2, .int a2)] [.int (b2i x2)] m
    refine R_ifB_eq (tgt := 34) (pc := 20) hC dX9_likely_20 (by decide) (fun c => ?_) (fun c => ?_)
    · replace hg := (if_neg c).symm.trans hg
      refine R_aload_n (pc := 34) hC 0 dX9_likely_34 rfl rfl ?_
      refine R_bipush (pc := 35) hC dX9_likely_35 kb_m2 ?_
      obtain ⟨q3, hq3, hg⟩ := bind_some hg
      refine R_callV (pc := 37) (av := [.int (-2)]) (rest := []) hC hR 43 (jx hn64 rfl) ly43 rfl mf_X9_lowest wm_X9_204 (LX9_lowest hn64 hq3) rfl rfl rfl (Nat.le_of_ble_eq_true rfl) dX9_likely_37 rfl ?_
      show RX K 40 [(0, .ref 43), (1, .int a1), (2, .int a2)] [.long q3.1] q3.2
      have h9 := gxJM hg
      exact R_lreturn (pc := 40) hC dX9_likely_40 h9
    · replace hg := (if_pos c).symm.trans hg
      refine R_aload_n (pc := 23) hC 0 dX9_likely_23 rfl rfl ?_
      refine R_iconst (pc := 24) hC dX9_likely_24 ki_1 ?_
      refine R_iload_n (pc := 25) hC 1 dX9_likely_25 rfl rfl ?_
      refine R_ishl (pc := 26) hC dX9_likely_26 ?_
      refine R_iload_n (pc := 27) hC 2 dX9_likely_27 rfl rfl ?_
      obtain ⟨q4, hq4, hg⟩ := bind_some hg
      refine R_callV (pc := 28) (av := [.int ((1 : Int32) <<< (a1 &&& 31)), .int a2]) (rest := []) hC hR 43 (jx hn64 rfl) ly43 rfl mf_X9_share wm_X9_211 (LX9_share hn64 hq4) rfl rfl rfl (Nat.le_of_ble_eq_true rfl) dX9_likely_28 rfl ?_
      show RX K 31 [(0, .ref 43), (1, .int a1), (2, .int a2)] [.long q4.1] q4.2
      refine R_goto (tgt := 40) (pc := 31) hC dX9_likely_31 (by decide) ?_
      have h9 := gxJM hg
      exact R_lreturn (pc := 40) hC dX9_likely_40 h9
  · replace hg := (if_neg c).symm.trans hg
    refine R_aload_n (pc := 8) hC 0 dX9_likely_8 rfl rfl ?_
    refine R_iconst (pc := 9) hC dX9_likely_9 ki_m1 ?_
    obtain ⟨q5, hq5, hg⟩ := bind_some hg
    refine R_callV (pc := 10) (av := [.int (-1)]) (rest := []) hC hR 43 (jx hn64 rfl) ly43 rfl mf_X9_lowest wm_X9_204 (LX9_lowest hn64 hq5) rfl rfl rfl (Nat.le_of_ble_eq_true rfl) dX9_likely_10 rfl ?_
    show RX K 13 [(0, .ref 43), (1, .int a1), (2, .int a2)] [.long q5.1] q5.2
    have h9 := gxJM hg
    exact R_lreturn (pc := 13) hC dX9_likely_13 h9
theorem dX9_pair_0 : decode cX9_pair 0 = .ok (.aload_n 0, 1) := by decide +kernel
theorem dX9_pair_1 : decode cX9_pair 1 = .ok (.iload_n 1, 1) := by decide +kernel
theorem dX9_pair_2 : decode cX9_pair 2 = .ok (.invokevirtual 122, 3) := by decide +kernel
theorem dX9_pair_5 : decode cX9_pair 5 = .ok (.ifCond .eq 11, 3) := by decide +kernel
theorem dX9_pair_8 : decode cX9_pair 8 = .ok (.aload_n 0, 1) := by decide +kernel
theorem dX9_pair_9 : decode cX9_pair 9 = .ok (.iload_n 2, 1) := by decide +kernel
theorem dX9_pair_10 : decode cX9_pair 10 = .ok (.invokevirtual 122, 3) := by decide +kernel
theorem dX9_pair_13 : decode cX9_pair 13 = .ok (.ifCond .ne 9, 3) := by decide +kernel
theorem dX9_pair_16 : decode cX9_pair 16 = .ok (.aload_n 0, 1) := by decide +kernel
theorem dX9_pair_17 : decode cX9_pair 17 = .ok (.iconst (-1), 1) := by decide +kernel
theorem dX9_pair_18 : decode cX9_pair 18 = .ok (.invokevirtual 204, 3) := by decide +kernel
theorem dX9_pair_21 : decode cX9_pair 21 = .ok (.lreturn, 1) := by decide +kernel
theorem dX9_pair_22 : decode cX9_pair 22 = .ok (.iload_n 3, 1) := by decide +kernel
theorem dX9_pair_23 : decode cX9_pair 23 = .ok (.iconst 0, 1) := by decide +kernel
theorem dX9_pair_24 : decode cX9_pair 24 = .ok (.iconst 1, 1) := by decide +kernel
theorem dX9_pair_25 : decode cX9_pair 25 = .ok (.invokestatic 98, 3) := by decide +kernel
theorem dX9_pair_28 : decode cX9_pair 28 = .ok (.ifCond .eq 18, 3) := by decide +kernel
theorem dX9_pair_31 : decode cX9_pair 31 = .ok (.aload_n 0, 1) := by decide +kernel
theorem dX9_pair_32 : decode cX9_pair 32 = .ok (.iconst 1, 1) := by decide +kernel
theorem dX9_pair_33 : decode cX9_pair 33 = .ok (.iload_n 1, 1) := by decide +kernel
theorem dX9_pair_34 : decode cX9_pair 34 = .ok (.ishl, 1) := by decide +kernel
theorem dX9_pair_35 : decode cX9_pair 35 = .ok (.iconst 1, 1) := by decide +kernel
theorem dX9_pair_36 : decode cX9_pair 36 = .ok (.iload_n 2, 1) := by decide +kernel
theorem dX9_pair_37 : decode cX9_pair 37 = .ok (.ishl, 1) := by decide +kernel
theorem dX9_pair_38 : decode cX9_pair 38 = .ok (.ior, 1) := by decide +kernel
theorem dX9_pair_39 : decode cX9_pair 39 = .ok (.iload_n 3, 1) := by decide +kernel
theorem dX9_pair_40 : decode cX9_pair 40 = .ok (.invokevirtual 211, 3) := by decide +kernel
theorem dX9_pair_43 : decode cX9_pair 43 = .ok (.goto 9, 3) := by decide +kernel
theorem dX9_pair_46 : decode cX9_pair 46 = .ok (.aload_n 0, 1) := by decide +kernel
theorem dX9_pair_47 : decode cX9_pair 47 = .ok (.bipush (-2), 2) := by decide +kernel
theorem dX9_pair_49 : decode cX9_pair 49 = .ok (.invokevirtual 204, 3) := by decide +kernel
theorem dX9_pair_52 : decode cX9_pair 52 = .ok (.lreturn, 1) := by decide +kernel
def gX9_pair (F : Nat) (m : Mem) (a1 : Int32) (a2 : Int32) (a3 : Int32) : Option (Int64 × Mem) := (gX9_isLane m a1).bind (fun x1 => (if x1 = true then (gX9_isLane m a2).bind (fun x3 => (if x3 = true then (gX9_isIn a3 0 1).bind (fun x4 => (if x4 = true then (gX9_share F m (((1 : Int32) <<< (a1 &&& 31)) ||| ((1 : Int32) <<< (a2 &&& 31))) a3).bind (fun q6 => some (q6.1, q6.2)) else (gX9_lowest m (-2)).bind (fun q5 => some (q5.1, q5.2)))) else (gX9_lowest m (-1)).bind (fun q7 => some (q7.1, q7.2)))) else (gX9_lowest m (-1)).bind (fun q2 => some (q2.1, q2.2))))
set_option maxHeartbeats 4000000 in
set_option maxRecDepth 20000 in
theorem LX9_pair {n : Nat} {F : Nat} {m : Mem} {a1 : Int32} {a2 : Int32} {a3 : Int32} {r : Int64 × Mem} (hn64 : 64 ≤ n) (hg : gX9_pair F m a1 a2 a3 = some r) : MX yX9_pair cX9_pair 4 (some .long) { frames := 5, cells := 0, slots := 0, locals := 112 } n [.ref 43, .int a1, .int a2, .int a3] m (some (.long r.1)) r.2 := by
  refine MX_of (by decide) (Nat.le_of_ble_eq_true rfl) (Or.inr (Or.inr (Or.inl ⟨rfl, _, rfl⟩))) (fun K hC hk hL hR => ?_)
  replace hn64 : 64 ≤ kn K := hk.symm ▸ hn64
  show RX K 0 [(0, .ref 43), (1, .int a1), (2, .int a2), (3, .int a3)] [] m
  rw [gX9_pair] at hg
  refine R_aload_n (pc := 0) hC 0 dX9_pair_0 rfl rfl ?_
  refine R_iload_n (pc := 1) hC 1 dX9_pair_1 rfl rfl ?_
  obtain ⟨x1, hx1, hg⟩ := bind_some hg
  refine R_callV (pc := 2) (av := [.int a1]) (rest := []) hC hR 43 (jx hn64 rfl) ly43 rfl mf_X9_isLane wm_X9_122 (LX9_isLane hn64 hx1) rfl rfl rfl (Nat.le_of_ble_eq_true rfl) dX9_pair_2 rfl ?_
  show RX K 5 [(0, .ref 43), (1, .int a1), (2, .int a2), (3, .int a3)] [.int (b2i x1)] m
  refine R_ifB_eq (tgt := 16) (pc := 5) hC dX9_pair_5 (by decide) (fun c => ?_) (fun c => ?_)
  · replace hg := (if_neg c).symm.trans hg
    refine R_aload_n (pc := 16) hC 0 dX9_pair_16 rfl rfl ?_
    refine R_iconst (pc := 17) hC dX9_pair_17 ki_m1 ?_
    obtain ⟨q2, hq2, hg⟩ := bind_some hg
    refine R_callV (pc := 18) (av := [.int (-1)]) (rest := []) hC hR 43 (jx hn64 rfl) ly43 rfl mf_X9_lowest wm_X9_204 (LX9_lowest hn64 hq2) rfl rfl rfl (Nat.le_of_ble_eq_true rfl) dX9_pair_18 rfl ?_
    show RX K 21 [(0, .ref 43), (1, .int a1), (2, .int a2), (3, .int a3)] [.long q2.1] q2.2
    have h9 := gxJM hg
    exact R_lreturn (pc := 21) hC dX9_pair_21 h9
  · replace hg := (if_pos c).symm.trans hg
    refine R_aload_n (pc := 8) hC 0 dX9_pair_8 rfl rfl ?_
    refine R_iload_n (pc := 9) hC 2 dX9_pair_9 rfl rfl ?_
    obtain ⟨x3, hx3, hg⟩ := bind_some hg
    refine R_callV (pc := 10) (av := [.int a2]) (rest := []) hC hR 43 (jx hn64 rfl) ly43 rfl mf_X9_isLane wm_X9_122 (LX9_isLane hn64 hx3) rfl rfl rfl (Nat.le_of_ble_eq_true rfl) dX9_pair_10 rfl ?_
    show RX K 13 [(0, .ref 43), (1, .int a1), (2, .int a2), (3, .int a3)] [.int (b2i x3)] m
    refine R_ifB_ne (tgt := 22) (pc := 13) hC dX9_pair_13 (by decide) (fun c => ?_) (fun c => ?_)
    · replace hg := (if_pos c).symm.trans hg
      refine R_iload_n (pc := 22) hC 3 dX9_pair_22 rfl rfl ?_
      refine R_iconst (pc := 23) hC dX9_pair_23 ki_0 ?_
      refine R_iconst (pc := 24) hC dX9_pair_24 ki_1 ?_
      obtain ⟨x4, hx4, hg⟩ := bind_some hg
      refine R_callS (pc := 25) (av := [.int a3, .int 0, .int 1]) (rest := []) hC hR mf_X9_isIn wm_X9_98 (LX9_isIn hn64 hx4) rfl rfl rfl (Nat.le_of_ble_eq_true rfl) dX9_pair_25 rfl ?_
      show RX K 28 [(0, .ref 43), (1, .int a1), (2, .int a2), (3, .int a3)] [.int (b2i x4)] m
      refine R_ifB_eq (tgt := 46) (pc := 28) hC dX9_pair_28 (by decide) (fun c => ?_) (fun c => ?_)
      · replace hg := (if_neg c).symm.trans hg
        refine R_aload_n (pc := 46) hC 0 dX9_pair_46 rfl rfl ?_
        refine R_bipush (pc := 47) hC dX9_pair_47 kb_m2 ?_
        obtain ⟨q5, hq5, hg⟩ := bind_some hg
        refine R_callV (pc := 49) (av := [.int (-2)]) (rest := []) hC hR 43 (jx hn64 rfl) ly43 rfl mf_X9_lowest wm_X9_204 (LX9_lowest hn64 hq5) rfl rfl rfl (Nat.le_of_ble_eq_true rfl) dX9_pair_49 rfl ?_
        show RX K 52 [(0, .ref 43), (1, .int a1), (2, .int a2), (3, .int a3)] [.long q5.1] q5.2
        have h9 := gxJM hg
        exact R_lreturn (pc := 52) hC dX9_pair_52 h9
      · replace hg := (if_pos c).symm.trans hg
        refine R_aload_n (pc := 31) hC 0 dX9_pair_31 rfl rfl ?_
        refine R_iconst (pc := 32) hC dX9_pair_32 ki_1 ?_
        refine R_iload_n (pc := 33) hC 1 dX9_pair_33 rfl rfl ?_
        refine R_ishl (pc := 34) hC dX9_pair_34 ?_
        refine R_iconst (pc := 35) hC dX9_pair_35 ki_1 ?_
        refine R_iload_n (pc := 36) hC 2 dX9_pair_36 rfl rfl ?_
        refine R_ishl (pc := 37) hC dX9_pair_37 ?_
        refine R_ior (pc := 38) hC dX9_pair_38 ?_
        refine R_iload_n (pc := 39) hC 3 dX9_pair_39 rfl rfl ?_
        obtain ⟨q6, hq6, hg⟩ := bind_some hg
        refine R_callV (pc := 40) (av := [.int (((1 : Int32) <<< (a1 &&& 31)) ||| ((1 : Int32) <<< (a2 &&& 31))), .int a3]) (rest := []) hC hR 43 (jx hn64 rfl) ly43 rfl mf_X9_share wm_X9_211 (LX9_share hn64 hq6) rfl rfl rfl (Nat.le_of_ble_eq_true rfl) dX9_pair_40 rfl ?_
        show RX K 43 [(0, .ref 43), (1, .int a1), (2, .int a2), (3, .int a3)] [.long q6.1] q6.2
        refine R_goto (tgt := 52) (pc := 43) hC dX9_pair_43 (by decide) ?_
        have h9 := gxJM hg
        exact R_lreturn (pc := 52) hC dX9_pair_52 h9
    · replace hg := (if_neg c).symm.trans hg
      refine R_aload_n (pc := 16) hC 0 dX9_pair_16 rfl rfl ?_
      refine R_iconst (pc := 17) hC dX9_pair_17 ki_m1 ?_
      obtain ⟨q7, hq7, hg⟩ := bind_some hg
      refine R_callV (pc := 18) (av := [.int (-1)]) (rest := []) hC hR 43 (jx hn64 rfl) ly43 rfl mf_X9_lowest wm_X9_204 (LX9_lowest hn64 hq7) rfl rfl rfl (Nat.le_of_ble_eq_true rfl) dX9_pair_18 rfl ?_
      show RX K 21 [(0, .ref 43), (1, .int a1), (2, .int a2), (3, .int a3)] [.long q7.1] q7.2
      have h9 := gxJM hg
      exact R_lreturn (pc := 21) hC dX9_pair_21 h9
theorem dX9_highOf_0 : decode cX9_highOf 0 = .ok (.lload_n 0, 1) := by decide +kernel
theorem dX9_highOf_1 : decode cX9_highOf 1 = .ok (.lload_n 2, 1) := by decide +kernel
theorem dX9_highOf_2 : decode cX9_highOf 2 = .ok (.bipush 17, 2) := by decide +kernel
theorem dX9_highOf_4 : decode cX9_highOf 4 = .ok (.lshr, 1) := by decide +kernel
theorem dX9_highOf_5 : decode cX9_highOf 5 = .ok (.lmul, 1) := by decide +kernel
theorem dX9_highOf_6 : decode cX9_highOf 6 = .ok (.lload_n 0, 1) := by decide +kernel
theorem dX9_highOf_7 : decode cX9_highOf 7 = .ok (.lload_n 2, 1) := by decide +kernel
theorem dX9_highOf_8 : decode cX9_highOf 8 = .ok (.ldc2_w 214, 3) := by decide +kernel
theorem dX9_highOf_11 : decode cX9_highOf 11 = .ok (.land, 1) := by decide +kernel
theorem dX9_highOf_12 : decode cX9_highOf 12 = .ok (.lmul, 1) := by decide +kernel
theorem dX9_highOf_13 : decode cX9_highOf 13 = .ok (.bipush 17, 2) := by decide +kernel
theorem dX9_highOf_15 : decode cX9_highOf 15 = .ok (.lshr, 1) := by decide +kernel
theorem dX9_highOf_16 : decode cX9_highOf 16 = .ok (.ladd, 1) := by decide +kernel
theorem dX9_highOf_17 : decode cX9_highOf 17 = .ok (.lreturn, 1) := by decide +kernel
def gX9_highOf (a1 : Int64) (a2 : Int64) : Option (Int64) := some ((a1 * (a2 >>> ((17 : Int32).toInt64 &&& 63))) + ((a1 * (a2 &&& 131071)) >>> ((17 : Int32).toInt64 &&& 63)))
set_option maxHeartbeats 4000000 in
set_option maxRecDepth 20000 in
theorem LX9_highOf {n : Nat} {m : Mem} {a1 : Int64} {a2 : Int64} {r : Int64} (hn64 : 64 ≤ n) (hg : gX9_highOf a1 a2 = some r) : MX yX9_highOf cX9_highOf 4 (some .long) { frames := 0, cells := 0, slots := 0, locals := 0 } n [.long a1, .long a2] m (some (.long r)) m := by
  refine MX_of (by decide) (Nat.le_of_ble_eq_true rfl) (Or.inr (Or.inr (Or.inl ⟨rfl, _, rfl⟩))) (fun K hC hk hL hR => ?_)
  replace hn64 : 64 ≤ kn K := hk.symm ▸ hn64
  show RX K 0 [(0, .long a1), (2, .long a2)] [] m
  rw [gX9_highOf] at hg
  refine R_lload_n (pc := 0) hC 0 dX9_highOf_0 rfl rfl ?_
  refine R_lload_n (pc := 1) hC 1 dX9_highOf_1 rfl rfl ?_
  refine R_bipush (pc := 2) hC dX9_highOf_2 kb_17 ?_
  refine R_lshr (pc := 4) hC dX9_highOf_4 ?_
  refine R_lmul (pc := 5) hC dX9_highOf_5 ?_
  refine R_lload_n (pc := 6) hC 0 dX9_highOf_6 rfl rfl ?_
  refine R_lload_n (pc := 7) hC 1 dX9_highOf_7 rfl rfl ?_
  refine R_ldc2 (pc := 8) hC wc_X9_214 dX9_highOf_8 ?_
  refine R_land (pc := 11) hC dX9_highOf_11 ?_
  refine R_lmul (pc := 12) hC dX9_highOf_12 ?_
  refine R_bipush (pc := 13) hC dX9_highOf_13 kb_17 ?_
  refine R_lshr (pc := 15) hC dX9_highOf_15 ?_
  refine R_ladd (pc := 16) hC dX9_highOf_16 ?_
  have h9 := gxJ (m := m) hg
  exact R_lreturn (pc := 17) hC dX9_highOf_17 h9
theorem dX9_lowOf_0 : decode cX9_lowOf 0 = .ok (.lload_n 0, 1) := by decide +kernel
theorem dX9_lowOf_1 : decode cX9_lowOf 1 = .ok (.lload_n 2, 1) := by decide +kernel
theorem dX9_lowOf_2 : decode cX9_lowOf 2 = .ok (.ldc2_w 214, 3) := by decide +kernel
theorem dX9_lowOf_5 : decode cX9_lowOf 5 = .ok (.land, 1) := by decide +kernel
theorem dX9_lowOf_6 : decode cX9_lowOf 6 = .ok (.lmul, 1) := by decide +kernel
theorem dX9_lowOf_7 : decode cX9_lowOf 7 = .ok (.ldc2_w 214, 3) := by decide +kernel
theorem dX9_lowOf_10 : decode cX9_lowOf 10 = .ok (.land, 1) := by decide +kernel
theorem dX9_lowOf_11 : decode cX9_lowOf 11 = .ok (.lreturn, 1) := by decide +kernel
def gX9_lowOf (a1 : Int64) (a2 : Int64) : Option (Int64) := some ((a1 * (a2 &&& 131071)) &&& 131071)
set_option maxHeartbeats 4000000 in
set_option maxRecDepth 20000 in
theorem LX9_lowOf {n : Nat} {m : Mem} {a1 : Int64} {a2 : Int64} {r : Int64} (hn64 : 64 ≤ n) (hg : gX9_lowOf a1 a2 = some r) : MX yX9_lowOf cX9_lowOf 4 (some .long) { frames := 0, cells := 0, slots := 0, locals := 0 } n [.long a1, .long a2] m (some (.long r)) m := by
  refine MX_of (by decide) (Nat.le_of_ble_eq_true rfl) (Or.inr (Or.inr (Or.inl ⟨rfl, _, rfl⟩))) (fun K hC hk hL hR => ?_)
  replace hn64 : 64 ≤ kn K := hk.symm ▸ hn64
  show RX K 0 [(0, .long a1), (2, .long a2)] [] m
  rw [gX9_lowOf] at hg
  refine R_lload_n (pc := 0) hC 0 dX9_lowOf_0 rfl rfl ?_
  refine R_lload_n (pc := 1) hC 1 dX9_lowOf_1 rfl rfl ?_
  refine R_ldc2 (pc := 2) hC wc_X9_214 dX9_lowOf_2 ?_
  refine R_land (pc := 5) hC dX9_lowOf_5 ?_
  refine R_lmul (pc := 6) hC dX9_lowOf_6 ?_
  refine R_ldc2 (pc := 7) hC wc_X9_214 dX9_lowOf_7 ?_
  refine R_land (pc := 10) hC dX9_lowOf_10 ?_
  have h9 := gxJ (m := m) hg
  exact R_lreturn (pc := 11) hC dX9_lowOf_11 h9
theorem dX9_less_0 : decode cX9_less 0 = .ok (.aload_n 0, 1) := by decide +kernel
theorem dX9_less_1 : decode cX9_less 1 = .ok (.iload_n 1, 1) := by decide +kernel
theorem dX9_less_2 : decode cX9_less 2 = .ok (.invokevirtual 122, 3) := by decide +kernel
theorem dX9_less_5 : decode cX9_less 5 = .ok (.ifCond .eq 16, 3) := by decide +kernel
theorem dX9_less_8 : decode cX9_less 8 = .ok (.aload_n 0, 1) := by decide +kernel
theorem dX9_less_9 : decode cX9_less 9 = .ok (.iload_n 2, 1) := by decide +kernel
theorem dX9_less_10 : decode cX9_less 10 = .ok (.invokevirtual 122, 3) := by decide +kernel
theorem dX9_less_13 : decode cX9_less 13 = .ok (.ifCond .eq 8, 3) := by decide +kernel
theorem dX9_less_16 : decode cX9_less 16 = .ok (.iload_n 1, 1) := by decide +kernel
theorem dX9_less_17 : decode cX9_less 17 = .ok (.iload_n 2, 1) := by decide +kernel
theorem dX9_less_18 : decode cX9_less 18 = .ok (.if_icmp .ne 9, 3) := by decide +kernel
theorem dX9_less_21 : decode cX9_less 21 = .ok (.aload_n 0, 1) := by decide +kernel
theorem dX9_less_22 : decode cX9_less 22 = .ok (.iconst (-1), 1) := by decide +kernel
theorem dX9_less_23 : decode cX9_less 23 = .ok (.invokevirtual 87, 3) := by decide +kernel
theorem dX9_less_26 : decode cX9_less 26 = .ok (.ireturn, 1) := by decide +kernel
theorem dX9_less_27 : decode cX9_less 27 = .ok (.aload_n 0, 1) := by decide +kernel
theorem dX9_less_28 : decode cX9_less 28 = .ok (.invokevirtual 193, 3) := by decide +kernel
theorem dX9_less_31 : decode cX9_less 31 = .ok (.aload_n 0, 1) := by decide +kernel
theorem dX9_less_32 : decode cX9_less 32 = .ok (.getfield 183, 3) := by decide +kernel
theorem dX9_less_35 : decode cX9_less 35 = .ok (.ifCond .ne 10, 3) := by decide +kernel
theorem dX9_less_38 : decode cX9_less 38 = .ok (.aload_n 0, 1) := by decide +kernel
theorem dX9_less_39 : decode cX9_less 39 = .ok (.bipush (-3), 2) := by decide +kernel
theorem dX9_less_41 : decode cX9_less 41 = .ok (.invokevirtual 87, 3) := by decide +kernel
theorem dX9_less_44 : decode cX9_less 44 = .ok (.ireturn, 1) := by decide +kernel
theorem dX9_less_45 : decode cX9_less 45 = .ok (.aload_n 0, 1) := by decide +kernel
theorem dX9_less_46 : decode cX9_less 46 = .ok (.iconst 1, 1) := by decide +kernel
theorem dX9_less_47 : decode cX9_less 47 = .ok (.iload_n 1, 1) := by decide +kernel
theorem dX9_less_48 : decode cX9_less 48 = .ok (.ishl, 1) := by decide +kernel
theorem dX9_less_49 : decode cX9_less 49 = .ok (.iconst 1, 1) := by decide +kernel
theorem dX9_less_50 : decode cX9_less 50 = .ok (.iload_n 2, 1) := by decide +kernel
theorem dX9_less_51 : decode cX9_less 51 = .ok (.ishl, 1) := by decide +kernel
theorem dX9_less_52 : decode cX9_less 52 = .ok (.ior, 1) := by decide +kernel
theorem dX9_less_53 : decode cX9_less 53 = .ok (.iconst 0, 1) := by decide +kernel
theorem dX9_less_54 : decode cX9_less 54 = .ok (.invokevirtual 196, 3) := by decide +kernel
theorem dX9_less_57 : decode cX9_less 57 = .ok (.lstore_n 3, 1) := by decide +kernel
theorem dX9_less_58 : decode cX9_less 58 = .ok (.aload_n 0, 1) := by decide +kernel
theorem dX9_less_59 : decode cX9_less 59 = .ok (.iconst 0, 1) := by decide +kernel
theorem dX9_less_60 : decode cX9_less 60 = .ok (.iconst 1, 1) := by decide +kernel
theorem dX9_less_61 : decode cX9_less 61 = .ok (.iload_n 1, 1) := by decide +kernel
theorem dX9_less_62 : decode cX9_less 62 = .ok (.ishl, 1) := by decide +kernel
theorem dX9_less_63 : decode cX9_less 63 = .ok (.iconst 1, 1) := by decide +kernel
theorem dX9_less_64 : decode cX9_less 64 = .ok (.iload_n 2, 1) := by decide +kernel
theorem dX9_less_65 : decode cX9_less 65 = .ok (.ishl, 1) := by decide +kernel
theorem dX9_less_66 : decode cX9_less 66 = .ok (.ior, 1) := by decide +kernel
theorem dX9_less_67 : decode cX9_less 67 = .ok (.invokevirtual 196, 3) := by decide +kernel
theorem dX9_less_70 : decode cX9_less 70 = .ok (.lstore 5, 2) := by decide +kernel
theorem dX9_less_72 : decode cX9_less 72 = .ok (.aload_n 0, 1) := by decide +kernel
theorem dX9_less_73 : decode cX9_less 73 = .ok (.iconst 1, 1) := by decide +kernel
theorem dX9_less_74 : decode cX9_less 74 = .ok (.iload_n 1, 1) := by decide +kernel
theorem dX9_less_75 : decode cX9_less 75 = .ok (.ishl, 1) := by decide +kernel
theorem dX9_less_76 : decode cX9_less 76 = .ok (.iconst 1, 1) := by decide +kernel
theorem dX9_less_77 : decode cX9_less 77 = .ok (.iload_n 2, 1) := by decide +kernel
theorem dX9_less_78 : decode cX9_less 78 = .ok (.ishl, 1) := by decide +kernel
theorem dX9_less_79 : decode cX9_less 79 = .ok (.invokevirtual 196, 3) := by decide +kernel
theorem dX9_less_82 : decode cX9_less 82 = .ok (.lstore 7, 2) := by decide +kernel
theorem dX9_less_84 : decode cX9_less 84 = .ok (.aload_n 0, 1) := by decide +kernel
theorem dX9_less_85 : decode cX9_less 85 = .ok (.iconst 1, 1) := by decide +kernel
theorem dX9_less_86 : decode cX9_less 86 = .ok (.iload_n 2, 1) := by decide +kernel
theorem dX9_less_87 : decode cX9_less 87 = .ok (.ishl, 1) := by decide +kernel
theorem dX9_less_88 : decode cX9_less 88 = .ok (.iconst 1, 1) := by decide +kernel
theorem dX9_less_89 : decode cX9_less 89 = .ok (.iload_n 1, 1) := by decide +kernel
theorem dX9_less_90 : decode cX9_less 90 = .ok (.ishl, 1) := by decide +kernel
theorem dX9_less_91 : decode cX9_less 91 = .ok (.invokevirtual 196, 3) := by decide +kernel
theorem dX9_less_94 : decode cX9_less 94 = .ok (.lstore 9, 2) := by decide +kernel
theorem dX9_less_96 : decode cX9_less 96 = .ok (.lload_n 3, 1) := by decide +kernel
theorem dX9_less_97 : decode cX9_less 97 = .ok (.lload 5, 2) := by decide +kernel
theorem dX9_less_99 : decode cX9_less 99 = .ok (.invokestatic 216, 3) := by decide +kernel
theorem dX9_less_102 : decode cX9_less 102 = .ok (.lload 7, 2) := by decide +kernel
theorem dX9_less_104 : decode cX9_less 104 = .ok (.lload 9, 2) := by decide +kernel
theorem dX9_less_106 : decode cX9_less 106 = .ok (.invokestatic 216, 3) := by decide +kernel
theorem dX9_less_109 : decode cX9_less 109 = .ok (.lsub, 1) := by decide +kernel
theorem dX9_less_110 : decode cX9_less 110 = .ok (.lstore 11, 2) := by decide +kernel
theorem dX9_less_112 : decode cX9_less 112 = .ok (.lload_n 3, 1) := by decide +kernel
theorem dX9_less_113 : decode cX9_less 113 = .ok (.lload 5, 2) := by decide +kernel
theorem dX9_less_115 : decode cX9_less 115 = .ok (.invokestatic 219, 3) := by decide +kernel
theorem dX9_less_118 : decode cX9_less 118 = .ok (.lload 7, 2) := by decide +kernel
theorem dX9_less_120 : decode cX9_less 120 = .ok (.lload 9, 2) := by decide +kernel
theorem dX9_less_122 : decode cX9_less 122 = .ok (.invokestatic 219, 3) := by decide +kernel
theorem dX9_less_125 : decode cX9_less 125 = .ok (.lsub, 1) := by decide +kernel
theorem dX9_less_126 : decode cX9_less 126 = .ok (.lstore 13, 2) := by decide +kernel
theorem dX9_less_128 : decode cX9_less 128 = .ok (.lload 11, 2) := by decide +kernel
theorem dX9_less_130 : decode cX9_less 130 = .ok (.lconst 0, 1) := by decide +kernel
theorem dX9_less_131 : decode cX9_less 131 = .ok (.lcmp, 1) := by decide +kernel
theorem dX9_less_132 : decode cX9_less 132 = .ok (.ifCond .eq 8, 3) := by decide +kernel
theorem dX9_less_135 : decode cX9_less 135 = .ok (.lload 11, 2) := by decide +kernel
theorem dX9_less_137 : decode cX9_less 137 = .ok (.goto 5, 3) := by decide +kernel
theorem dX9_less_140 : decode cX9_less 140 = .ok (.lload 13, 2) := by decide +kernel
theorem dX9_less_142 : decode cX9_less 142 = .ok (.lstore 15, 2) := by decide +kernel
theorem dX9_less_144 : decode cX9_less 144 = .ok (.lload 15, 2) := by decide +kernel
theorem dX9_less_146 : decode cX9_less 146 = .ok (.lconst 0, 1) := by decide +kernel
theorem dX9_less_147 : decode cX9_less 147 = .ok (.lcmp, 1) := by decide +kernel
theorem dX9_less_148 : decode cX9_less 148 = .ok (.ifCond .ge 7, 3) := by decide +kernel
theorem dX9_less_151 : decode cX9_less 151 = .ok (.iconst 1, 1) := by decide +kernel
theorem dX9_less_152 : decode cX9_less 152 = .ok (.goto 15, 3) := by decide +kernel
theorem dX9_less_155 : decode cX9_less 155 = .ok (.lload 15, 2) := by decide +kernel
theorem dX9_less_157 : decode cX9_less 157 = .ok (.lconst 0, 1) := by decide +kernel
theorem dX9_less_158 : decode cX9_less 158 = .ok (.lcmp, 1) := by decide +kernel
theorem dX9_less_159 : decode cX9_less 159 = .ok (.ifCond .ne 7, 3) := by decide +kernel
theorem dX9_less_162 : decode cX9_less 162 = .ok (.iconst 0, 1) := by decide +kernel
theorem dX9_less_163 : decode cX9_less 163 = .ok (.goto 4, 3) := by decide +kernel
theorem dX9_less_166 : decode cX9_less 166 = .ok (.iconst 2, 1) := by decide +kernel
theorem dX9_less_167 : decode cX9_less 167 = .ok (.ireturn, 1) := by decide +kernel
def gX9_less (F : Nat) (m : Mem) (a1 : Int32) (a2 : Int32) : Option (Int32 × Mem) := (gX9_isLane m a1).bind (fun x1 => (if x1 = true then (gX9_isLane m a2).bind (fun x3 => (if x3 = true then (if a1 = a2 then (gX9_no m (-1)).bind (fun q17 => some (q17.1, q17.2)) else (gX9_findWays F m).bind (fun q5 => (if (q5.1 43 24) = 0 then (gX9_no q5 (-3)).bind (fun q16 => some (q16.1, q16.2)) else (gX9_sumWith F q5 (((1 : Int32) <<< (a1 &&& 31)) ||| ((1 : Int32) <<< (a2 &&& 31))) 0).bind (fun x6 => (gX9_sumWith F q5 0 (((1 : Int32) <<< (a1 &&& 31)) ||| ((1 : Int32) <<< (a2 &&& 31)))).bind (fun x7 => (gX9_sumWith F q5 ((1 : Int32) <<< (a1 &&& 31)) ((1 : Int32) <<< (a2 &&& 31))).bind (fun x8 => (gX9_sumWith F q5 ((1 : Int32) <<< (a2 &&& 31)) ((1 : Int32) <<< (a1 &&& 31))).bind (fun x9 => (gX9_highOf x6 x7).bind (fun x10 => (gX9_highOf x8 x9).bind (fun x11 => lete (x10 - x11) (fun x12 => (gX9_lowOf x6 x7).bind (fun x13 => (gX9_lowOf x8 x9).bind (fun x14 => lete (x13 - x14) (fun x15 => (if (lg_cmp x12 0) = 0 then (if 0 ≤ (lg_cmp x15 0) then (if (lg_cmp x15 0) = 0 then some (0, q5) else some (2, q5)) else some (1, q5)) else (if 0 ≤ (lg_cmp x12 0) then (if (lg_cmp x12 0) = 0 then some (0, q5) else some (2, q5)) else some (1, q5)))))))))))))))) else (gX9_no m (-1)).bind (fun q4 => some (q4.1, q4.2)))) else (gX9_no m (-1)).bind (fun q2 => some (q2.1, q2.2))))
set_option maxHeartbeats 4000000 in
set_option maxRecDepth 20000 in
theorem LX9_less {n : Nat} {F : Nat} {m : Mem} {a1 : Int32} {a2 : Int32} {r : Int32 × Mem} (hn64 : 64 ≤ n) (hg : gX9_less F m a1 a2 = some r) : MX yX9_less cX9_less 17 (some .int) { frames := 4, cells := 0, slots := 0, locals := 90 } n [.ref 43, .int a1, .int a2] m (some (.int r.1)) r.2 := by
  refine MX_of (by decide) (Nat.le_of_ble_eq_true rfl) (Or.inr (Or.inl ⟨rfl, _, rfl⟩)) (fun K hC hk hL hR => ?_)
  replace hn64 : 64 ≤ kn K := hk.symm ▸ hn64
  show RX K 0 [(0, .ref 43), (1, .int a1), (2, .int a2)] [] m
  rw [gX9_less] at hg
  refine R_aload_n (pc := 0) hC 0 dX9_less_0 rfl rfl ?_
  refine R_iload_n (pc := 1) hC 1 dX9_less_1 rfl rfl ?_
  obtain ⟨x1, hx1, hg⟩ := bind_some hg
  refine R_callV (pc := 2) (av := [.int a1]) (rest := []) hC hR 43 (jx hn64 rfl) ly43 rfl mf_X9_isLane wm_X9_122 (LX9_isLane hn64 hx1) rfl rfl rfl (Nat.le_of_ble_eq_true rfl) dX9_less_2 rfl ?_
  show RX K 5 [(0, .ref 43), (1, .int a1), (2, .int a2)] [.int (b2i x1)] m
  refine R_ifB_eq (tgt := 21) (pc := 5) hC dX9_less_5 (by decide) (fun c => ?_) (fun c => ?_)
  · replace hg := (if_neg c).symm.trans hg
    refine R_aload_n (pc := 21) hC 0 dX9_less_21 rfl rfl ?_
    refine R_iconst (pc := 22) hC dX9_less_22 ki_m1 ?_
    obtain ⟨q2, hq2, hg⟩ := bind_some hg
    refine R_callV (pc := 23) (av := [.int (-1)]) (rest := []) hC hR 43 (jx hn64 rfl) ly43 rfl mf_X9_no wm_X9_87 (LX9_no hn64 hq2) rfl rfl rfl (Nat.le_of_ble_eq_true rfl) dX9_less_23 rfl ?_
    show RX K 26 [(0, .ref 43), (1, .int a1), (2, .int a2)] [.int q2.1] q2.2
    have h9 := gxIM hg
    exact R_ireturn (pc := 26) hC dX9_less_26 h9
  · replace hg := (if_pos c).symm.trans hg
    refine R_aload_n (pc := 8) hC 0 dX9_less_8 rfl rfl ?_
    refine R_iload_n (pc := 9) hC 2 dX9_less_9 rfl rfl ?_
    obtain ⟨x3, hx3, hg⟩ := bind_some hg
    refine R_callV (pc := 10) (av := [.int a2]) (rest := []) hC hR 43 (jx hn64 rfl) ly43 rfl mf_X9_isLane wm_X9_122 (LX9_isLane hn64 hx3) rfl rfl rfl (Nat.le_of_ble_eq_true rfl) dX9_less_10 rfl ?_
    show RX K 13 [(0, .ref 43), (1, .int a1), (2, .int a2)] [.int (b2i x3)] m
    refine R_ifB_eq (tgt := 21) (pc := 13) hC dX9_less_13 (by decide) (fun c => ?_) (fun c => ?_)
    · replace hg := (if_neg c).symm.trans hg
      refine R_aload_n (pc := 21) hC 0 dX9_less_21 rfl rfl ?_
      refine R_iconst (pc := 22) hC dX9_less_22 ki_m1 ?_
      obtain ⟨q4, hq4, hg⟩ := bind_some hg
      refine R_callV (pc := 23) (av := [.int (-1)]) (rest := []) hC hR 43 (jx hn64 rfl) ly43 rfl mf_X9_no wm_X9_87 (LX9_no hn64 hq4) rfl rfl rfl (Nat.le_of_ble_eq_true rfl) dX9_less_23 rfl ?_
      show RX K 26 [(0, .ref 43), (1, .int a1), (2, .int a2)] [.int q4.1] q4.2
      have h9 := gxIM hg
      exact R_ireturn (pc := 26) hC dX9_less_26 h9
    · replace hg := (if_pos c).symm.trans hg
      refine R_iload_n (pc := 16) hC 1 dX9_less_16 rfl rfl ?_
      refine R_iload_n (pc := 17) hC 2 dX9_less_17 rfl rfl ?_
      refine R_icmp_ne (tgt := 27) (pc := 18) hC dX9_less_18 (by decide) (fun c => ?_) (fun c => ?_)
      · replace hg := (if_neg c).symm.trans hg
        refine R_aload_n (pc := 27) hC 0 dX9_less_27 rfl rfl ?_
        obtain ⟨q5, hq5, hg⟩ := bind_some hg
        refine R_callV (pc := 28) (av := []) (rest := []) hC hR 43 (jx hn64 rfl) ly43 rfl mf_X9_findWays wm_X9_193 (LX9_findWays hn64 hq5) rfl rfl rfl (Nat.le_of_ble_eq_true rfl) dX9_less_28 rfl ?_
        show RX K 31 [(0, .ref 43), (1, .int a1), (2, .int a2)] [] q5
        refine R_aload_n (pc := 31) hC 0 dX9_less_31 rfl rfl ?_
        refine gf_X9_183 (pc := 32) hC hn64 dX9_less_32 ?_
        refine R_if_ne (tgt := 45) (pc := 35) hC dX9_less_35 (by decide) (fun c => ?_) (fun c => ?_)
        · replace hg := (if_neg c).symm.trans hg
          refine R_aload_n (pc := 45) hC 0 dX9_less_45 rfl rfl ?_
          refine R_iconst (pc := 46) hC dX9_less_46 ki_1 ?_
          refine R_iload_n (pc := 47) hC 1 dX9_less_47 rfl rfl ?_
          refine R_ishl (pc := 48) hC dX9_less_48 ?_
          refine R_iconst (pc := 49) hC dX9_less_49 ki_1 ?_
          refine R_iload_n (pc := 50) hC 2 dX9_less_50 rfl rfl ?_
          refine R_ishl (pc := 51) hC dX9_less_51 ?_
          refine R_ior (pc := 52) hC dX9_less_52 ?_
          refine R_iconst (pc := 53) hC dX9_less_53 ki_0 ?_
          obtain ⟨x6, hx6, hg⟩ := bind_some hg
          refine R_callV (pc := 54) (av := [.int (((1 : Int32) <<< (a1 &&& 31)) ||| ((1 : Int32) <<< (a2 &&& 31))), .int 0]) (rest := []) hC hR 43 (jx hn64 rfl) ly43 rfl mf_X9_sumWith wm_X9_196 (LX9_sumWith hn64 hx6) rfl rfl rfl (Nat.le_of_ble_eq_true rfl) dX9_less_54 rfl ?_
          show RX K 57 [(0, .ref 43), (1, .int a1), (2, .int a2)] [.long x6] q5
          refine R_lstore_n (pc := 57) hC dX9_less_57 rfl hL rfl (show _ = [(3, .long x6), (0, .ref 43), (1, .int a1), (2, .int a2)] from rfl) ?_
          refine R_aload_n (pc := 58) hC 1 dX9_less_58 rfl rfl ?_
          refine R_iconst (pc := 59) hC dX9_less_59 ki_0 ?_
          refine R_iconst (pc := 60) hC dX9_less_60 ki_1 ?_
          refine R_iload_n (pc := 61) hC 2 dX9_less_61 rfl rfl ?_
          refine R_ishl (pc := 62) hC dX9_less_62 ?_
          refine R_iconst (pc := 63) hC dX9_less_63 ki_1 ?_
          refine R_iload_n (pc := 64) hC 3 dX9_less_64 rfl rfl ?_
          refine R_ishl (pc := 65) hC dX9_less_65 ?_
          refine R_ior (pc := 66) hC dX9_less_66 ?_
          obtain ⟨x7, hx7, hg⟩ := bind_some hg
          refine R_callV (pc := 67) (av := [.int 0, .int (((1 : Int32) <<< (a1 &&& 31)) ||| ((1 : Int32) <<< (a2 &&& 31)))]) (rest := []) hC hR 43 (jx hn64 rfl) ly43 rfl mf_X9_sumWith wm_X9_196 (LX9_sumWith hn64 hx7) rfl rfl rfl (Nat.le_of_ble_eq_true rfl) dX9_less_67 rfl ?_
          show RX K 70 [(3, .long x6), (0, .ref 43), (1, .int a1), (2, .int a2)] [.long x7] q5
          refine R_lstore (pc := 70) hC dX9_less_70 hL rfl (show _ = [(5, .long x7), (3, .long x6), (0, .ref 43), (1, .int a1), (2, .int a2)] from rfl) ?_
          refine R_aload_n (pc := 72) hC 2 dX9_less_72 rfl rfl ?_
          refine R_iconst (pc := 73) hC dX9_less_73 ki_1 ?_
          refine R_iload_n (pc := 74) hC 3 dX9_less_74 rfl rfl ?_
          refine R_ishl (pc := 75) hC dX9_less_75 ?_
          refine R_iconst (pc := 76) hC dX9_less_76 ki_1 ?_
          refine R_iload_n (pc := 77) hC 4 dX9_less_77 rfl rfl ?_
          refine R_ishl (pc := 78) hC dX9_less_78 ?_
          obtain ⟨x8, hx8, hg⟩ := bind_some hg
          refine R_callV (pc := 79) (av := [.int ((1 : Int32) <<< (a1 &&& 31)), .int ((1 : Int32) <<< (a2 &&& 31))]) (rest := []) hC hR 43 (jx hn64 rfl) ly43 rfl mf_X9_sumWith wm_X9_196 (LX9_sumWith hn64 hx8) rfl rfl rfl (Nat.le_of_ble_eq_true rfl) dX9_less_79 rfl ?_
          show RX K 82 [(5, .long x7), (3, .long x6), (0, .ref 43), (1, .int a1), (2, .int a2)] [.long x8] q5
          refine R_lstore (pc := 82) hC dX9_less_82 hL rfl (show _ = [(7, .long x8), (5, .long x7), (3, .long x6), (0, .ref 43), (1, .int a1), (2, .int a2)] from rfl) ?_
          refine R_aload_n (pc := 84) hC 3 dX9_less_84 rfl rfl ?_
          refine R_iconst (pc := 85) hC dX9_less_85 ki_1 ?_
          refine R_iload_n (pc := 86) hC 5 dX9_less_86 rfl rfl ?_
          refine R_ishl (pc := 87) hC dX9_less_87 ?_
          refine R_iconst (pc := 88) hC dX9_less_88 ki_1 ?_
          refine R_iload_n (pc := 89) hC 4 dX9_less_89 rfl rfl ?_
          refine R_ishl (pc := 90) hC dX9_less_90 ?_
          obtain ⟨x9, hx9, hg⟩ := bind_some hg
          refine R_callV (pc := 91) (av := [.int ((1 : Int32) <<< (a2 &&& 31)), .int ((1 : Int32) <<< (a1 &&& 31))]) (rest := []) hC hR 43 (jx hn64 rfl) ly43 rfl mf_X9_sumWith wm_X9_196 (LX9_sumWith hn64 hx9) rfl rfl rfl (Nat.le_of_ble_eq_true rfl) dX9_less_91 rfl ?_
          show RX K 94 [(7, .long x8), (5, .long x7), (3, .long x6), (0, .ref 43), (1, .int a1), (2, .int a2)] [.long x9] q5
          refine R_lstore (pc := 94) hC dX9_less_94 hL rfl (show _ = [(9, .long x9), (7, .long x8), (5, .long x7), (3, .long x6), (0, .ref 43), (1, .int a1), (2, .int a2)] from rfl) ?_
          refine R_lload_n (pc := 96) hC 3 dX9_less_96 rfl rfl ?_
          refine R_lload (pc := 97) hC 2 dX9_less_97 rfl ?_
          obtain ⟨x10, hx10, hg⟩ := bind_some hg
          refine R_callS (pc := 99) (av := [.long x6, .long x7]) (rest := []) hC hR mf_X9_highOf wm_X9_216 (LX9_highOf hn64 hx10) rfl rfl rfl (Nat.le_of_ble_eq_true rfl) dX9_less_99 rfl ?_
          show RX K 102 [(9, .long x9), (7, .long x8), (5, .long x7), (3, .long x6), (0, .ref 43), (1, .int a1), (2, .int a2)] [.long x10] q5
          refine R_lload (pc := 102) hC 1 dX9_less_102 rfl ?_
          refine R_lload (pc := 104) hC 0 dX9_less_104 rfl ?_
          obtain ⟨x11, hx11, hg⟩ := bind_some hg
          refine R_callS (pc := 106) (av := [.long x8, .long x9]) (rest := [.long x10]) hC hR mf_X9_highOf wm_X9_216 (LX9_highOf hn64 hx11) rfl rfl rfl (Nat.le_of_ble_eq_true rfl) dX9_less_106 rfl ?_
          show RX K 109 [(9, .long x9), (7, .long x8), (5, .long x7), (3, .long x6), (0, .ref 43), (1, .int a1), (2, .int a2)] [.long x11, .long x10] q5
          refine R_lsub (pc := 109) hC dX9_less_109 ?_
          obtain ⟨x12, hx12, hg⟩ := lete_some hg
          refine R_topL hx12 ?_
          refine R_lstore (pc := 110) hC dX9_less_110 hL rfl (show _ = [(11, .long x12), (9, .long x9), (7, .long x8), (5, .long x7), (3, .long x6), (0, .ref 43), (1, .int a1), (2, .int a2)] from rfl) ?_
          refine R_lload_n (pc := 112) hC 4 dX9_less_112 rfl rfl ?_
          refine R_lload (pc := 113) hC 3 dX9_less_113 rfl ?_
          obtain ⟨x13, hx13, hg⟩ := bind_some hg
          refine R_callS (pc := 115) (av := [.long x6, .long x7]) (rest := []) hC hR mf_X9_lowOf wm_X9_219 (LX9_lowOf hn64 hx13) rfl rfl rfl (Nat.le_of_ble_eq_true rfl) dX9_less_115 rfl ?_
          show RX K 118 [(11, .long x12), (9, .long x9), (7, .long x8), (5, .long x7), (3, .long x6), (0, .ref 43), (1, .int a1), (2, .int a2)] [.long x13] q5
          refine R_lload (pc := 118) hC 2 dX9_less_118 rfl ?_
          refine R_lload (pc := 120) hC 1 dX9_less_120 rfl ?_
          obtain ⟨x14, hx14, hg⟩ := bind_some hg
          refine R_callS (pc := 122) (av := [.long x8, .long x9]) (rest := [.long x13]) hC hR mf_X9_lowOf wm_X9_219 (LX9_lowOf hn64 hx14) rfl rfl rfl (Nat.le_of_ble_eq_true rfl) dX9_less_122 rfl ?_
          show RX K 125 [(11, .long x12), (9, .long x9), (7, .long x8), (5, .long x7), (3, .long x6), (0, .ref 43), (1, .int a1), (2, .int a2)] [.long x14, .long x13] q5
          refine R_lsub (pc := 125) hC dX9_less_125 ?_
          obtain ⟨x15, hx15, hg⟩ := lete_some hg
          refine R_topL hx15 ?_
          refine R_lstore (pc := 126) hC dX9_less_126 hL rfl (show _ = [(13, .long x15), (11, .long x12), (9, .long x9), (7, .long x8), (5, .long x7), (3, .long x6), (0, .ref 43), (1, .int a1), (2, .int a2)] from rfl) ?_
          refine R_lload (pc := 128) hC 1 dX9_less_128 rfl ?_
          refine R_lconst (pc := 130) hC dX9_less_130 kl_0 ?_
          refine R_lcmp (pc := 131) hC dX9_less_131 ?_
          refine R_if_eq (tgt := 140) (pc := 132) hC dX9_less_132 (by decide) (fun c => ?_) (fun c => ?_)
          · replace hg := (if_pos c).symm.trans hg
            refine R_lload (pc := 140) hC 0 dX9_less_140 rfl ?_
            refine R_lstore (pc := 142) hC dX9_less_142 hL rfl (show _ = [(15, .long x15), (13, .long x15), (11, .long x12), (9, .long x9), (7, .long x8), (5, .long x7), (3, .long x6), (0, .ref 43), (1, .int a1), (2, .int a2)] from rfl) ?_
            refine R_lload (pc := 144) hC 0 dX9_less_144 rfl ?_
            refine R_lconst (pc := 146) hC dX9_less_146 kl_0 ?_
            refine R_lcmp (pc := 147) hC dX9_less_147 ?_
            refine R_if_ge (tgt := 155) (pc := 148) hC dX9_less_148 (by decide) (fun c => ?_) (fun c => ?_)
            · replace hg := (if_pos c).symm.trans hg
              refine R_lload (pc := 155) hC 0 dX9_less_155 rfl ?_
              refine R_lconst (pc := 157) hC dX9_less_157 kl_0 ?_
              refine R_lcmp (pc := 158) hC dX9_less_158 ?_
              refine R_if_ne (tgt := 166) (pc := 159) hC dX9_less_159 (by decide) (fun c => ?_) (fun c => ?_)
              · replace hg := (if_neg c).symm.trans hg
                refine R_iconst (pc := 166) hC dX9_less_166 ki_2 ?_
                have h9 := gxIM hg
                exact R_ireturn (pc := 167) hC dX9_less_167 h9
              · replace hg := (if_pos c).symm.trans hg
                refine R_iconst (pc := 162) hC dX9_less_162 ki_0 ?_
                refine R_goto (tgt := 167) (pc := 163) hC dX9_less_163 (by decide) ?_
                have h9 := gxIM hg
                exact R_ireturn (pc := 167) hC dX9_less_167 h9
            · replace hg := (if_neg c).symm.trans hg
              refine R_iconst (pc := 151) hC dX9_less_151 ki_1 ?_
              refine R_goto (tgt := 167) (pc := 152) hC dX9_less_152 (by decide) ?_
              have h9 := gxIM hg
              exact R_ireturn (pc := 167) hC dX9_less_167 h9
          · replace hg := (if_neg c).symm.trans hg
            refine R_lload (pc := 135) hC 1 dX9_less_135 rfl ?_
            refine R_goto (tgt := 142) (pc := 137) hC dX9_less_137 (by decide) ?_
            refine R_lstore (pc := 142) hC dX9_less_142 hL rfl (show _ = [(15, .long x12), (13, .long x15), (11, .long x12), (9, .long x9), (7, .long x8), (5, .long x7), (3, .long x6), (0, .ref 43), (1, .int a1), (2, .int a2)] from rfl) ?_
            refine R_lload (pc := 144) hC 0 dX9_less_144 rfl ?_
            refine R_lconst (pc := 146) hC dX9_less_146 kl_0 ?_
            refine R_lcmp (pc := 147) hC dX9_less_147 ?_
            refine R_if_ge (tgt := 155) (pc := 148) hC dX9_less_148 (by decide) (fun c => ?_) (fun c => ?_)
            · replace hg := (if_pos c).symm.trans hg
              refine R_lload (pc := 155) hC 0 dX9_less_155 rfl ?_
              refine R_lconst (pc := 157) hC dX9_less_157 kl_0 ?_
              refine R_lcmp (pc := 158) hC dX9_less_158 ?_
              refine R_if_ne (tgt := 166) (pc := 159) hC dX9_less_159 (by decide) (fun c => ?_) (fun c => ?_)
              · replace hg := (if_neg c).symm.trans hg
                refine R_iconst (pc := 166) hC dX9_less_166 ki_2 ?_
                have h9 := gxIM hg
                exact R_ireturn (pc := 167) hC dX9_less_167 h9
              · replace hg := (if_pos c).symm.trans hg
                refine R_iconst (pc := 162) hC dX9_less_162 ki_0 ?_
                refine R_goto (tgt := 167) (pc := 163) hC dX9_less_163 (by decide) ?_
                have h9 := gxIM hg
                exact R_ireturn (pc := 167) hC dX9_less_167 h9
            · replace hg := (if_neg c).symm.trans hg
              refine R_iconst (pc := 151) hC dX9_less_151 ki_1 ?_
              refine R_goto (tgt := 167) (pc := 152) hC dX9_less_152 (by decide) ?_
              have h9 := gxIM hg
              exact R_ireturn (pc := 167) hC dX9_less_167 h9
        · replace hg := (if_pos c).symm.trans hg
          refine R_aload_n (pc := 38) hC 0 dX9_less_38 rfl rfl ?_
          refine R_bipush (pc := 39) hC dX9_less_39 kb_m3 ?_
          obtain ⟨q16, hq16, hg⟩ := bind_some hg
          refine R_callV (pc := 41) (av := [.int (-3)]) (rest := []) hC hR 43 (jx hn64 rfl) ly43 rfl mf_X9_no wm_X9_87 (LX9_no hn64 hq16) rfl rfl rfl (Nat.le_of_ble_eq_true rfl) dX9_less_41 rfl ?_
          show RX K 44 [(0, .ref 43), (1, .int a1), (2, .int a2)] [.int q16.1] q16.2
          have h9 := gxIM hg
          exact R_ireturn (pc := 44) hC dX9_less_44 h9
      · replace hg := (if_pos c).symm.trans hg
        refine R_aload_n (pc := 21) hC 0 dX9_less_21 rfl rfl ?_
        refine R_iconst (pc := 22) hC dX9_less_22 ki_m1 ?_
        obtain ⟨q17, hq17, hg⟩ := bind_some hg
        refine R_callV (pc := 23) (av := [.int (-1)]) (rest := []) hC hR 43 (jx hn64 rfl) ly43 rfl mf_X9_no wm_X9_87 (LX9_no hn64 hq17) rfl rfl rfl (Nat.le_of_ble_eq_true rfl) dX9_less_23 rfl ?_
        show RX K 26 [(0, .ref 43), (1, .int a1), (2, .int a2)] [.int q17.1] q17.2
        have h9 := gxIM hg
        exact R_ireturn (pc := 26) hC dX9_less_26 h9
