theorem dX7_copyTo_0 : decode cX7_copyTo 0 = .ok (.iconst 0, 1) := by decide +kernel
theorem dX7_copyTo_1 : decode cX7_copyTo 1 = .ok (.istore_n 3, 1) := by decide +kernel
theorem dX7_copyTo_2 : decode cX7_copyTo 2 = .ok (.iload_n 3, 1) := by decide +kernel
theorem dX7_copyTo_3 : decode cX7_copyTo 3 = .ok (.aload_n 0, 1) := by decide +kernel
theorem dX7_copyTo_4 : decode cX7_copyTo 4 = .ok (.getfield 19, 3) := by decide +kernel
theorem dX7_copyTo_7 : decode cX7_copyTo 7 = .ok (.if_icmp .ge 39, 3) := by decide +kernel
theorem dX7_copyTo_10 : decode cX7_copyTo 10 = .ok (.iload_n 3, 1) := by decide +kernel
theorem dX7_copyTo_11 : decode cX7_copyTo 11 = .ok (.aload_n 1, 1) := by decide +kernel
theorem dX7_copyTo_12 : decode cX7_copyTo 12 = .ok (.arraylength, 1) := by decide +kernel
theorem dX7_copyTo_13 : decode cX7_copyTo 13 = .ok (.if_icmp .ge 33, 3) := by decide +kernel
theorem dX7_copyTo_16 : decode cX7_copyTo 16 = .ok (.iload_n 3, 1) := by decide +kernel
theorem dX7_copyTo_17 : decode cX7_copyTo 17 = .ok (.aload_n 2, 1) := by decide +kernel
theorem dX7_copyTo_18 : decode cX7_copyTo 18 = .ok (.arraylength, 1) := by decide +kernel
theorem dX7_copyTo_19 : decode cX7_copyTo 19 = .ok (.if_icmp .ge 27, 3) := by decide +kernel
theorem dX7_copyTo_22 : decode cX7_copyTo 22 = .ok (.aload_n 1, 1) := by decide +kernel
theorem dX7_copyTo_23 : decode cX7_copyTo 23 = .ok (.iload_n 3, 1) := by decide +kernel
theorem dX7_copyTo_24 : decode cX7_copyTo 24 = .ok (.aload_n 0, 1) := by decide +kernel
theorem dX7_copyTo_25 : decode cX7_copyTo 25 = .ok (.getfield 23, 3) := by decide +kernel
theorem dX7_copyTo_28 : decode cX7_copyTo 28 = .ok (.iload_n 3, 1) := by decide +kernel
theorem dX7_copyTo_29 : decode cX7_copyTo 29 = .ok (.iaload, 1) := by decide +kernel
theorem dX7_copyTo_30 : decode cX7_copyTo 30 = .ok (.iastore, 1) := by decide +kernel
theorem dX7_copyTo_31 : decode cX7_copyTo 31 = .ok (.aload_n 2, 1) := by decide +kernel
theorem dX7_copyTo_32 : decode cX7_copyTo 32 = .ok (.iload_n 3, 1) := by decide +kernel
theorem dX7_copyTo_33 : decode cX7_copyTo 33 = .ok (.aload_n 0, 1) := by decide +kernel
theorem dX7_copyTo_34 : decode cX7_copyTo 34 = .ok (.getfield 27, 3) := by decide +kernel
theorem dX7_copyTo_37 : decode cX7_copyTo 37 = .ok (.iload_n 3, 1) := by decide +kernel
theorem dX7_copyTo_38 : decode cX7_copyTo 38 = .ok (.iaload, 1) := by decide +kernel
theorem dX7_copyTo_39 : decode cX7_copyTo 39 = .ok (.iastore, 1) := by decide +kernel
theorem dX7_copyTo_40 : decode cX7_copyTo 40 = .ok (.iinc 3 1, 3) := by decide +kernel
theorem dX7_copyTo_43 : decode cX7_copyTo 43 = .ok (.goto (-41), 3) := by decide +kernel
theorem dX7_copyTo_46 : decode cX7_copyTo 46 = .ok (.aload_n 0, 1) := by decide +kernel
theorem dX7_copyTo_47 : decode cX7_copyTo 47 = .ok (.getfield 19, 3) := by decide +kernel
theorem dX7_copyTo_50 : decode cX7_copyTo 50 = .ok (.ireturn, 1) := by decide +kernel
def bX7_copyTo_2  : (Int32 × Mem) → Option ((Int32 × Mem) ⊕ (Int32 × Mem))
  | (y1, m2) => (if (m2.1 26 2) ≤ y1 then some (.inr (y1, m2)) else (if 252 ≤ y1 then some (.inr (y1, m2)) else (if 252 ≤ y1 then some (.inr (y1, m2)) else chk (inb y1 252) (chk (inb y1 252) (lete (mu m2 40 (Int32.toNatClampNeg y1) (m2.1 27 (Int32.toNatClampNeg y1))) (fun m5 => chk (inb y1 252) (chk (inb y1 252) (lete (mu m5 41 (Int32.toNatClampNeg y1) (m5.1 28 (Int32.toNatClampNeg y1))) (fun m8 => some (.inl (y1 + 1, m8)))))))))))
def gX7_copyTo (F : Nat) (m : Mem) : Option (Int32 × Mem) := (iter F (bX7_copyTo_2) (0, m)).bind (fun e9 => some (e9.2.1 26 2, e9.2))
set_option maxHeartbeats 4000000 in
set_option maxRecDepth 20000 in
theorem LX7_copyTo {n : Nat} {F : Nat} {m : Mem} {r : Int32 × Mem} (hn : 43 ≤ n) (hg : gX7_copyTo F m  = some r) : MX yX7_copyTo cX7_copyTo 4 (some .int) { frames := 0, cells := 0, slots := 0, locals := 0 } n [.ref 26, .ref 40, .ref 41] m (some (.int r.1)) r.2 := by
  refine MX_of (by decide) (Nat.le_of_ble_eq_true rfl) (Or.inr (Or.inl ⟨rfl, _, rfl⟩)) (fun K hC hk hL hR => ?_)
  replace hn : 43 ≤ kn K := hk.symm ▸ hn
  show RX K 0 [(0, .ref 26), (1, .ref 40), (2, .ref 41)] [] m
  rw [gX7_copyTo] at hg
  refine R_iconst (pc := 0) hC dX7_copyTo_0 ki_0 ?_
  refine R_istore_n (pc := 1) hC dX7_copyTo_1 rfl hL rfl (show _ = [(3, .int 0), (0, .ref 26), (1, .ref 40), (2, .ref 41)] from rfl) ?_
  refine R_pick [1, 2, 3, 0] (ls' := [(0, .ref 26), (1, .ref 40), (2, .ref 41), (3, .int 0)]) rfl ?_
  obtain ⟨e9, he9, hg⟩ := bind_some hg
  refine iter_walk (P := fun s : (Int32 × Mem) => RX K 2 [(0, .ref 26), (1, .ref 40), (2, .ref 41), (3, .int s.1)] [] s.2) (Qe := fun s : (Int32 × Mem) => RX K 46 [(0, .ref 26), (1, .ref 40), (2, .ref 41), (3, .int s.1)] [] s.2) (fun s10 o hg kL2 kE2 => ?_) _ _ _ he9 ?_
  · obtain ⟨y1, m2⟩ := s10
    rw [bX7_copyTo_2] at hg
    show RX K 2 [(0, .ref 26), (1, .ref 40), (2, .ref 41), (3, .int y1)] [] m2
    refine R_iload_n (pc := 2) hC 3 dX7_copyTo_2 rfl rfl ?_
    refine R_aload_n (pc := 3) hC 0 dX7_copyTo_3 rfl rfl ?_
    refine gf_X7_19 (pc := 4) hC hn dX7_copyTo_4 ?_
    refine R_icmp_ge (tgt := 46) (pc := 7) hC dX7_copyTo_7 (by decide) (fun c => ?_) (fun c => ?_)
    · replace hg := (if_pos c).symm.trans hg
      refine R_pick [0, 1, 2, 3] (ls' := [(0, .ref 26), (1, .ref 40), (2, .ref 41), (3, .int y1)]) rfl ?_
      have h9 := kE2 _ (Option.some.inj hg).symm
      exact h9
    · replace hg := (if_neg c).symm.trans hg
      refine R_iload_n (pc := 10) hC 3 dX7_copyTo_10 rfl rfl ?_
      refine R_aload_n (pc := 11) hC 1 dX7_copyTo_11 rfl rfl ?_
      refine R_alen (pc := 12) hC 40 (jx hn rfl) ly40 dX7_copyTo_12 ?_
      show RX K 13 [(0, .ref 26), (1, .ref 40), (2, .ref 41), (3, .int y1)] [.int 252, .int y1] m2
      refine R_icmp_ge (tgt := 46) (pc := 13) hC dX7_copyTo_13 (by decide) (fun c => ?_) (fun c => ?_)
      · replace hg := (if_pos c).symm.trans hg
        refine R_pick [0, 1, 2, 3] (ls' := [(0, .ref 26), (1, .ref 40), (2, .ref 41), (3, .int y1)]) rfl ?_
        have h9 := kE2 _ (Option.some.inj hg).symm
        exact h9
      · replace hg := (if_neg c).symm.trans hg
        refine R_iload_n (pc := 16) hC 3 dX7_copyTo_16 rfl rfl ?_
        refine R_aload_n (pc := 17) hC 2 dX7_copyTo_17 rfl rfl ?_
        refine R_alen (pc := 18) hC 41 (jx hn rfl) ly41 dX7_copyTo_18 ?_
        show RX K 19 [(0, .ref 26), (1, .ref 40), (2, .ref 41), (3, .int y1)] [.int 252, .int y1] m2
        refine R_icmp_ge (tgt := 46) (pc := 19) hC dX7_copyTo_19 (by decide) (fun c => ?_) (fun c => ?_)
        · replace hg := (if_pos c).symm.trans hg
          refine R_pick [0, 1, 2, 3] (ls' := [(0, .ref 26), (1, .ref 40), (2, .ref 41), (3, .int y1)]) rfl ?_
          have h9 := kE2 _ (Option.some.inj hg).symm
          exact h9
        · replace hg := (if_neg c).symm.trans hg
          refine R_aload_n (pc := 22) hC 1 dX7_copyTo_22 rfl rfl ?_
          refine R_iload_n (pc := 23) hC 3 dX7_copyTo_23 rfl rfl ?_
          refine R_aload_n (pc := 24) hC 0 dX7_copyTo_24 rfl rfl ?_
          refine gf_X7_23 (pc := 25) hC hn dX7_copyTo_25 ?_
          refine R_iload_n (pc := 28) hC 3 dX7_copyTo_28 rfl rfl ?_
          obtain ⟨c3, hg⟩ := chk_some hg
          refine R_iaload (pc := 29) hC 27 (jx hn rfl) ly27 (inb_vp c3) dX7_copyTo_29 ?_
          obtain ⟨c4, hg⟩ := chk_some hg
          obtain ⟨m5, hm5, hg⟩ := lete_some hg
          refine R_iastore (pc := 30) hC 40 (jx hn rfl) ly40 (inb_vp c4) dX7_copyTo_30 ?_
          refine R_mem hm5 ?_
          refine R_aload_n (pc := 31) hC 2 dX7_copyTo_31 rfl rfl ?_
          refine R_iload_n (pc := 32) hC 3 dX7_copyTo_32 rfl rfl ?_
          refine R_aload_n (pc := 33) hC 0 dX7_copyTo_33 rfl rfl ?_
          refine gf_X7_27 (pc := 34) hC hn dX7_copyTo_34 ?_
          refine R_iload_n (pc := 37) hC 3 dX7_copyTo_37 rfl rfl ?_
          obtain ⟨c6, hg⟩ := chk_some hg
          refine R_iaload (pc := 38) hC 28 (jx hn rfl) ly28 (inb_vp c6) dX7_copyTo_38 ?_
          obtain ⟨c7, hg⟩ := chk_some hg
          obtain ⟨m8, hm8, hg⟩ := lete_some hg
          refine R_iastore (pc := 39) hC 41 (jx hn rfl) ly41 (inb_vp c7) dX7_copyTo_39 ?_
          refine R_mem hm8 ?_
          refine R_iinc (pc := 40) hC 3 dX7_copyTo_40 rfl (iv ki_1) hL rfl (show _ = [(3, .int (y1 + 1)), (0, .ref 26), (1, .ref 40), (2, .ref 41)] from rfl) ?_
          refine R_goto (tgt := 2) (pc := 43) hC dX7_copyTo_43 (by decide) ?_
          refine R_pick [1, 2, 3, 0] (ls' := [(0, .ref 26), (1, .ref 40), (2, .ref 41), (3, .int (y1 + 1))]) rfl ?_
          have h9 := kL2 _ (Option.some.inj hg).symm
          exact h9
  · show RX K 46 [(0, .ref 26), (1, .ref 40), (2, .ref 41), (3, .int e9.1)] [] e9.2
    refine R_aload_n (pc := 46) hC 0 dX7_copyTo_46 rfl rfl ?_
    refine gf_X7_19 (pc := 47) hC hn dX7_copyTo_47 ?_
    have h9 := gxIM hg
    exact R_ireturn (pc := 50) hC dX7_copyTo_50 h9
theorem dX7_sortEvery_0 : decode cX7_sortEvery 0 = .ok (.iload_n 1, 1) := by decide +kernel
theorem dX7_sortEvery_1 : decode cX7_sortEvery 1 = .ok (.iconst 1, 1) := by decide +kernel
theorem dX7_sortEvery_2 : decode cX7_sortEvery 2 = .ok (.if_icmp .ge 4, 3) := by decide +kernel
theorem dX7_sortEvery_5 : decode cX7_sortEvery 5 = .ok (.return_, 1) := by decide +kernel
theorem dX7_sortEvery_6 : decode cX7_sortEvery 6 = .ok (.iload_n 1, 1) := by decide +kernel
theorem dX7_sortEvery_7 : decode cX7_sortEvery 7 = .ok (.istore_n 2, 1) := by decide +kernel
theorem dX7_sortEvery_8 : decode cX7_sortEvery 8 = .ok (.iload_n 2, 1) := by decide +kernel
theorem dX7_sortEvery_9 : decode cX7_sortEvery 9 = .ok (.aload_n 0, 1) := by decide +kernel
theorem dX7_sortEvery_10 : decode cX7_sortEvery 10 = .ok (.getfield 19, 3) := by decide +kernel
theorem dX7_sortEvery_13 : decode cX7_sortEvery 13 = .ok (.if_icmp .ge 78, 3) := by decide +kernel
theorem dX7_sortEvery_16 : decode cX7_sortEvery 16 = .ok (.iload_n 2, 1) := by decide +kernel
theorem dX7_sortEvery_17 : decode cX7_sortEvery 17 = .ok (.sipush 252, 3) := by decide +kernel
theorem dX7_sortEvery_20 : decode cX7_sortEvery 20 = .ok (.if_icmp .ge 71, 3) := by decide +kernel
theorem dX7_sortEvery_23 : decode cX7_sortEvery 23 = .ok (.aload_n 0, 1) := by decide +kernel
theorem dX7_sortEvery_24 : decode cX7_sortEvery 24 = .ok (.getfield 30, 3) := by decide +kernel
theorem dX7_sortEvery_27 : decode cX7_sortEvery 27 = .ok (.iload_n 2, 1) := by decide +kernel
theorem dX7_sortEvery_28 : decode cX7_sortEvery 28 = .ok (.iaload, 1) := by decide +kernel
theorem dX7_sortEvery_29 : decode cX7_sortEvery 29 = .ok (.istore_n 3, 1) := by decide +kernel
theorem dX7_sortEvery_30 : decode cX7_sortEvery 30 = .ok (.iload_n 2, 1) := by decide +kernel
theorem dX7_sortEvery_31 : decode cX7_sortEvery 31 = .ok (.istore 4, 2) := by decide +kernel
theorem dX7_sortEvery_33 : decode cX7_sortEvery 33 = .ok (.iload 4, 2) := by decide +kernel
theorem dX7_sortEvery_35 : decode cX7_sortEvery 35 = .ok (.iload_n 1, 1) := by decide +kernel
theorem dX7_sortEvery_36 : decode cX7_sortEvery 36 = .ok (.if_icmp .lt 41, 3) := by decide +kernel
theorem dX7_sortEvery_39 : decode cX7_sortEvery 39 = .ok (.aload_n 0, 1) := by decide +kernel
theorem dX7_sortEvery_40 : decode cX7_sortEvery 40 = .ok (.getfield 30, 3) := by decide +kernel
theorem dX7_sortEvery_43 : decode cX7_sortEvery 43 = .ok (.iload 4, 2) := by decide +kernel
theorem dX7_sortEvery_45 : decode cX7_sortEvery 45 = .ok (.iload_n 1, 1) := by decide +kernel
theorem dX7_sortEvery_46 : decode cX7_sortEvery 46 = .ok (.isub, 1) := by decide +kernel
theorem dX7_sortEvery_47 : decode cX7_sortEvery 47 = .ok (.iaload, 1) := by decide +kernel
theorem dX7_sortEvery_48 : decode cX7_sortEvery 48 = .ok (.iload_n 3, 1) := by decide +kernel
theorem dX7_sortEvery_49 : decode cX7_sortEvery 49 = .ok (.if_icmp .le 28, 3) := by decide +kernel
theorem dX7_sortEvery_52 : decode cX7_sortEvery 52 = .ok (.aload_n 0, 1) := by decide +kernel
theorem dX7_sortEvery_53 : decode cX7_sortEvery 53 = .ok (.getfield 30, 3) := by decide +kernel
theorem dX7_sortEvery_56 : decode cX7_sortEvery 56 = .ok (.iload 4, 2) := by decide +kernel
theorem dX7_sortEvery_58 : decode cX7_sortEvery 58 = .ok (.aload_n 0, 1) := by decide +kernel
theorem dX7_sortEvery_59 : decode cX7_sortEvery 59 = .ok (.getfield 30, 3) := by decide +kernel
theorem dX7_sortEvery_62 : decode cX7_sortEvery 62 = .ok (.iload 4, 2) := by decide +kernel
theorem dX7_sortEvery_64 : decode cX7_sortEvery 64 = .ok (.iload_n 1, 1) := by decide +kernel
theorem dX7_sortEvery_65 : decode cX7_sortEvery 65 = .ok (.isub, 1) := by decide +kernel
theorem dX7_sortEvery_66 : decode cX7_sortEvery 66 = .ok (.iaload, 1) := by decide +kernel
theorem dX7_sortEvery_67 : decode cX7_sortEvery 67 = .ok (.iastore, 1) := by decide +kernel
theorem dX7_sortEvery_68 : decode cX7_sortEvery 68 = .ok (.iload 4, 2) := by decide +kernel
theorem dX7_sortEvery_70 : decode cX7_sortEvery 70 = .ok (.iload_n 1, 1) := by decide +kernel
theorem dX7_sortEvery_71 : decode cX7_sortEvery 71 = .ok (.isub, 1) := by decide +kernel
theorem dX7_sortEvery_72 : decode cX7_sortEvery 72 = .ok (.istore 4, 2) := by decide +kernel
theorem dX7_sortEvery_74 : decode cX7_sortEvery 74 = .ok (.goto (-41), 3) := by decide +kernel
theorem dX7_sortEvery_77 : decode cX7_sortEvery 77 = .ok (.aload_n 0, 1) := by decide +kernel
theorem dX7_sortEvery_78 : decode cX7_sortEvery 78 = .ok (.getfield 30, 3) := by decide +kernel
theorem dX7_sortEvery_81 : decode cX7_sortEvery 81 = .ok (.iload 4, 2) := by decide +kernel
theorem dX7_sortEvery_83 : decode cX7_sortEvery 83 = .ok (.iload_n 3, 1) := by decide +kernel
theorem dX7_sortEvery_84 : decode cX7_sortEvery 84 = .ok (.iastore, 1) := by decide +kernel
theorem dX7_sortEvery_85 : decode cX7_sortEvery 85 = .ok (.iinc 2 1, 3) := by decide +kernel
theorem dX7_sortEvery_88 : decode cX7_sortEvery 88 = .ok (.goto (-80), 3) := by decide +kernel
theorem dX7_sortEvery_91 : decode cX7_sortEvery 91 = .ok (.return_, 1) := by decide +kernel
def bX7_sortEvery_33 (a1 : Int32) (x4 : Int32) : (Int32 × Mem) → Option ((Int32 × Mem) ⊕ (Int32 × Mem))
  | (y5, m6) => (if y5 < a1 then some (.inr (y5, m6)) else chk (inb (y5 - a1) 252) ((if (m6.1 29 (Int32.toNatClampNeg (y5 - a1))) ≤ x4 then some (.inr (y5, m6)) else chk (inb (y5 - a1) 252) (chk (inb y5 252) (lete (mu m6 29 (Int32.toNatClampNeg y5) (m6.1 29 (Int32.toNatClampNeg (y5 - a1)))) (fun m10 => lete (y5 - a1) (fun x11 => some (.inl (x11, m10)))))))))
def bX7_sortEvery_8 (F : Nat) (a1 : Int32) : (Int32 × Mem) → Option ((Int32 × Mem) ⊕ (Int32 × Mem))
  | (y1, m2) => (if (m2.1 26 2) ≤ y1 then some (.inr (y1, m2)) else (if 252 ≤ y1 then some (.inr (y1, m2)) else chk (inb y1 252) (lete (m2.1 29 (Int32.toNatClampNeg y1)) (fun x4 => (iter F (bX7_sortEvery_33 a1 x4) (y1, m2)).bind (fun e12 => chk (inb e12.1 252) (lete (mu e12.2 29 (Int32.toNatClampNeg e12.1) x4) (fun m15 => some (.inl (y1 + 1, m15)))))))))
def gX7_sortEvery (F : Nat) (m : Mem) (a1 : Int32) : Option (Mem) := (if 1 ≤ a1 then (iter F (bX7_sortEvery_8 F a1) (a1, m)).bind (fun e16 => some e16.2) else some m)
set_option maxHeartbeats 4000000 in
set_option maxRecDepth 20000 in
theorem LX7_sortEvery {n : Nat} {F : Nat} {m : Mem} {a1 : Int32} {r : Mem} (hn : 43 ≤ n) (hg : gX7_sortEvery F m a1 = some r) : MX yX7_sortEvery cX7_sortEvery 5 none { frames := 0, cells := 0, slots := 0, locals := 0 } n [.ref 26, .int a1] m (none) r := by
  refine MX_of (by decide) (Nat.le_of_ble_eq_true rfl) (Or.inl ⟨rfl, rfl⟩) (fun K hC hk hL hR => ?_)
  replace hn : 43 ≤ kn K := hk.symm ▸ hn
  show RX K 0 [(0, .ref 26), (1, .int a1)] [] m
  rw [gX7_sortEvery] at hg
  refine R_iload_n (pc := 0) hC 1 dX7_sortEvery_0 rfl rfl ?_
  refine R_iconst (pc := 1) hC dX7_sortEvery_1 ki_1 ?_
  refine R_icmp_ge (tgt := 6) (pc := 2) hC dX7_sortEvery_2 (by decide) (fun c => ?_) (fun c => ?_)
  · replace hg := (if_pos c).symm.trans hg
    refine R_iload_n (pc := 6) hC 1 dX7_sortEvery_6 rfl rfl ?_
    refine R_istore_n (pc := 7) hC dX7_sortEvery_7 rfl hL rfl (show _ = [(2, .int a1), (0, .ref 26), (1, .int a1)] from rfl) ?_
    refine R_pick [1, 2, 0] (ls' := [(0, .ref 26), (1, .int a1), (2, .int a1)]) rfl ?_
    obtain ⟨e16, he16, hg⟩ := bind_some hg
    refine iter_walk (P := fun s : (Int32 × Mem) => RX K 8 [(0, .ref 26), (1, .int a1), (2, .int s.1)] [] s.2) (Qe := fun s : (Int32 × Mem) => RX K 91 [(0, .ref 26), (1, .int a1), (2, .int s.1)] [] s.2) (fun s17 o hg kL8 kE8 => ?_) _ _ _ he16 ?_
    · obtain ⟨y1, m2⟩ := s17
      rw [bX7_sortEvery_8] at hg
      show RX K 8 [(0, .ref 26), (1, .int a1), (2, .int y1)] [] m2
      refine R_iload_n (pc := 8) hC 2 dX7_sortEvery_8 rfl rfl ?_
      refine R_aload_n (pc := 9) hC 0 dX7_sortEvery_9 rfl rfl ?_
      refine gf_X7_19 (pc := 10) hC hn dX7_sortEvery_10 ?_
      refine R_icmp_ge (tgt := 91) (pc := 13) hC dX7_sortEvery_13 (by decide) (fun c => ?_) (fun c => ?_)
      · replace hg := (if_pos c).symm.trans hg
        refine R_pick [0, 1, 2] (ls' := [(0, .ref 26), (1, .int a1), (2, .int y1)]) rfl ?_
        have h9 := kE8 _ (Option.some.inj hg).symm
        exact h9
      · replace hg := (if_neg c).symm.trans hg
        refine R_iload_n (pc := 16) hC 2 dX7_sortEvery_16 rfl rfl ?_
        refine R_sipush (pc := 17) hC dX7_sortEvery_17 ks_252 ?_
        refine R_icmp_ge (tgt := 91) (pc := 20) hC dX7_sortEvery_20 (by decide) (fun c => ?_) (fun c => ?_)
        · replace hg := (if_pos c).symm.trans hg
          refine R_pick [0, 1, 2] (ls' := [(0, .ref 26), (1, .int a1), (2, .int y1)]) rfl ?_
          have h9 := kE8 _ (Option.some.inj hg).symm
          exact h9
        · replace hg := (if_neg c).symm.trans hg
          refine R_aload_n (pc := 23) hC 0 dX7_sortEvery_23 rfl rfl ?_
          refine gf_X7_30 (pc := 24) hC hn dX7_sortEvery_24 ?_
          refine R_iload_n (pc := 27) hC 2 dX7_sortEvery_27 rfl rfl ?_
          obtain ⟨c3, hg⟩ := chk_some hg
          refine R_iaload (pc := 28) hC 29 (jx hn rfl) ly29 (inb_vp c3) dX7_sortEvery_28 ?_
          obtain ⟨x4, hx4, hg⟩ := lete_some hg
          refine R_top hx4 ?_
          refine R_istore_n (pc := 29) hC dX7_sortEvery_29 rfl hL rfl (show _ = [(3, .int x4), (0, .ref 26), (1, .int a1), (2, .int y1)] from rfl) ?_
          refine R_iload_n (pc := 30) hC 3 dX7_sortEvery_30 rfl rfl ?_
          refine R_istore (pc := 31) hC dX7_sortEvery_31 hL rfl (show _ = [(4, .int y1), (3, .int x4), (0, .ref 26), (1, .int a1), (2, .int y1)] from rfl) ?_
          refine R_pick [2, 3, 4, 1, 0] (ls' := [(0, .ref 26), (1, .int a1), (2, .int y1), (3, .int x4), (4, .int y1)]) rfl ?_
          obtain ⟨e12, he12, hg⟩ := bind_some hg
          refine iter_walk (P := fun s : (Int32 × Mem) => RX K 33 [(0, .ref 26), (1, .int a1), (2, .int y1), (3, .int x4), (4, .int s.1)] [] s.2) (Qe := fun s : (Int32 × Mem) => RX K 77 [(0, .ref 26), (1, .int a1), (2, .int y1), (3, .int x4), (4, .int s.1)] [] s.2) (fun s13 o hg kL33 kE33 => ?_) _ _ _ he12 ?_
          · obtain ⟨y5, m6⟩ := s13
            rw [bX7_sortEvery_33] at hg
            show RX K 33 [(0, .ref 26), (1, .int a1), (2, .int y1), (3, .int x4), (4, .int y5)] [] m6
            refine R_iload (pc := 33) hC 4 dX7_sortEvery_33 rfl ?_
            refine R_iload_n (pc := 35) hC 1 dX7_sortEvery_35 rfl rfl ?_
            refine R_icmp_lt (tgt := 77) (pc := 36) hC dX7_sortEvery_36 (by decide) (fun c => ?_) (fun c => ?_)
            · replace hg := (if_pos c).symm.trans hg
              refine R_pick [0, 1, 2, 3, 4] (ls' := [(0, .ref 26), (1, .int a1), (2, .int y1), (3, .int x4), (4, .int y5)]) rfl ?_
              have h9 := kE33 _ (Option.some.inj hg).symm
              exact h9
            · replace hg := (if_neg c).symm.trans hg
              refine R_aload_n (pc := 39) hC 0 dX7_sortEvery_39 rfl rfl ?_
              refine gf_X7_30 (pc := 40) hC hn dX7_sortEvery_40 ?_
              refine R_iload (pc := 43) hC 4 dX7_sortEvery_43 rfl ?_
              refine R_iload_n (pc := 45) hC 1 dX7_sortEvery_45 rfl rfl ?_
              refine R_isub (pc := 46) hC dX7_sortEvery_46 ?_
              obtain ⟨c7, hg⟩ := chk_some hg
              refine R_iaload (pc := 47) hC 29 (jx hn rfl) ly29 (inb_vp c7) dX7_sortEvery_47 ?_
              refine R_iload_n (pc := 48) hC 3 dX7_sortEvery_48 rfl rfl ?_
              refine R_icmp_le (tgt := 77) (pc := 49) hC dX7_sortEvery_49 (by decide) (fun c => ?_) (fun c => ?_)
              · replace hg := (if_pos c).symm.trans hg
                refine R_pick [0, 1, 2, 3, 4] (ls' := [(0, .ref 26), (1, .int a1), (2, .int y1), (3, .int x4), (4, .int y5)]) rfl ?_
                have h9 := kE33 _ (Option.some.inj hg).symm
                exact h9
              · replace hg := (if_neg c).symm.trans hg
                refine R_aload_n (pc := 52) hC 0 dX7_sortEvery_52 rfl rfl ?_
                refine gf_X7_30 (pc := 53) hC hn dX7_sortEvery_53 ?_
                refine R_iload (pc := 56) hC 4 dX7_sortEvery_56 rfl ?_
                refine R_aload_n (pc := 58) hC 0 dX7_sortEvery_58 rfl rfl ?_
                refine gf_X7_30 (pc := 59) hC hn dX7_sortEvery_59 ?_
                refine R_iload (pc := 62) hC 4 dX7_sortEvery_62 rfl ?_
                refine R_iload_n (pc := 64) hC 1 dX7_sortEvery_64 rfl rfl ?_
                refine R_isub (pc := 65) hC dX7_sortEvery_65 ?_
                obtain ⟨c8, hg⟩ := chk_some hg
                refine R_iaload (pc := 66) hC 29 (jx hn rfl) ly29 (inb_vp c8) dX7_sortEvery_66 ?_
                obtain ⟨c9, hg⟩ := chk_some hg
                obtain ⟨m10, hm10, hg⟩ := lete_some hg
                refine R_iastore (pc := 67) hC 29 (jx hn rfl) ly29 (inb_vp c9) dX7_sortEvery_67 ?_
                refine R_mem hm10 ?_
                refine R_iload (pc := 68) hC 4 dX7_sortEvery_68 rfl ?_
                refine R_iload_n (pc := 70) hC 1 dX7_sortEvery_70 rfl rfl ?_
                refine R_isub (pc := 71) hC dX7_sortEvery_71 ?_
                obtain ⟨x11, hx11, hg⟩ := lete_some hg
                refine R_top hx11 ?_
                refine R_istore (pc := 72) hC dX7_sortEvery_72 hL rfl (show _ = [(4, .int x11), (0, .ref 26), (1, .int a1), (2, .int y1), (3, .int x4)] from rfl) ?_
                refine R_goto (tgt := 33) (pc := 74) hC dX7_sortEvery_74 (by decide) ?_
                refine R_pick [1, 2, 3, 4, 0] (ls' := [(0, .ref 26), (1, .int a1), (2, .int y1), (3, .int x4), (4, .int x11)]) rfl ?_
                have h9 := kL33 _ (Option.some.inj hg).symm
                exact h9
          · show RX K 77 [(0, .ref 26), (1, .int a1), (2, .int y1), (3, .int x4), (4, .int e12.1)] [] e12.2
            refine R_aload_n (pc := 77) hC 0 dX7_sortEvery_77 rfl rfl ?_
            refine gf_X7_30 (pc := 78) hC hn dX7_sortEvery_78 ?_
            refine R_iload (pc := 81) hC 4 dX7_sortEvery_81 rfl ?_
            refine R_iload_n (pc := 83) hC 3 dX7_sortEvery_83 rfl rfl ?_
            obtain ⟨c14, hg⟩ := chk_some hg
            obtain ⟨m15, hm15, hg⟩ := lete_some hg
            refine R_iastore (pc := 84) hC 29 (jx hn rfl) ly29 (inb_vp c14) dX7_sortEvery_84 ?_
            refine R_mem hm15 ?_
            refine R_iinc (pc := 85) hC 2 dX7_sortEvery_85 rfl (iv ki_1) hL rfl (show _ = [(2, .int (y1 + 1)), (0, .ref 26), (1, .int a1), (3, .int x4), (4, .int e12.1)] from rfl) ?_
            refine R_goto (tgt := 8) (pc := 88) hC dX7_sortEvery_88 (by decide) ?_
            refine R_pick [1, 2, 0] (ls' := [(0, .ref 26), (1, .int a1), (2, .int (y1 + 1))]) rfl ?_
            have h9 := kL8 _ (Option.some.inj hg).symm
            exact h9
    · show RX K 91 [(0, .ref 26), (1, .int a1), (2, .int e16.1)] [] e16.2
      have h9 := gxV hg
      exact R_return (pc := 91) hC dX7_sortEvery_91 h9
  · replace hg := (if_neg c).symm.trans hg
    have h9 := gxV hg
    exact R_return (pc := 5) hC dX7_sortEvery_5 h9
theorem dX7_sortByCost_0 : decode cX7_sortByCost 0 = .ok (.aload_n 0, 1) := by decide +kernel
theorem dX7_sortByCost_1 : decode cX7_sortByCost 1 = .ok (.getfield 33, 3) := by decide +kernel
theorem dX7_sortByCost_4 : decode cX7_sortByCost 4 = .ok (.ifCond .eq 4, 3) := by decide +kernel
theorem dX7_sortByCost_7 : decode cX7_sortByCost 7 = .ok (.return_, 1) := by decide +kernel
theorem dX7_sortByCost_8 : decode cX7_sortByCost 8 = .ok (.iconst 0, 1) := by decide +kernel
theorem dX7_sortByCost_9 : decode cX7_sortByCost 9 = .ok (.istore_n 1, 1) := by decide +kernel
theorem dX7_sortByCost_10 : decode cX7_sortByCost 10 = .ok (.iload_n 1, 1) := by decide +kernel
theorem dX7_sortByCost_11 : decode cX7_sortByCost 11 = .ok (.aload_n 0, 1) := by decide +kernel
theorem dX7_sortByCost_12 : decode cX7_sortByCost 12 = .ok (.getfield 19, 3) := by decide +kernel
theorem dX7_sortByCost_15 : decode cX7_sortByCost 15 = .ok (.if_icmp .ge 46, 3) := by decide +kernel
theorem dX7_sortByCost_18 : decode cX7_sortByCost 18 = .ok (.iload_n 1, 1) := by decide +kernel
theorem dX7_sortByCost_19 : decode cX7_sortByCost 19 = .ok (.sipush 252, 3) := by decide +kernel
theorem dX7_sortByCost_22 : decode cX7_sortByCost 22 = .ok (.if_icmp .ge 39, 3) := by decide +kernel
theorem dX7_sortByCost_25 : decode cX7_sortByCost 25 = .ok (.aload_n 0, 1) := by decide +kernel
theorem dX7_sortByCost_26 : decode cX7_sortByCost 26 = .ok (.getfield 30, 3) := by decide +kernel
theorem dX7_sortByCost_29 : decode cX7_sortByCost 29 = .ok (.iload_n 1, 1) := by decide +kernel
theorem dX7_sortByCost_30 : decode cX7_sortByCost 30 = .ok (.aload_n 0, 1) := by decide +kernel
theorem dX7_sortByCost_31 : decode cX7_sortByCost 31 = .ok (.getfield 9, 3) := by decide +kernel
theorem dX7_sortByCost_34 : decode cX7_sortByCost 34 = .ok (.aload_n 0, 1) := by decide +kernel
theorem dX7_sortByCost_35 : decode cX7_sortByCost 35 = .ok (.getfield 23, 3) := by decide +kernel
theorem dX7_sortByCost_38 : decode cX7_sortByCost 38 = .ok (.iload_n 1, 1) := by decide +kernel
theorem dX7_sortByCost_39 : decode cX7_sortByCost 39 = .ok (.iaload, 1) := by decide +kernel
theorem dX7_sortByCost_40 : decode cX7_sortByCost 40 = .ok (.invokevirtual 66, 3) := by decide +kernel
theorem dX7_sortByCost_43 : decode cX7_sortByCost 43 = .ok (.sipush 1024, 3) := by decide +kernel
theorem dX7_sortByCost_46 : decode cX7_sortByCost 46 = .ok (.imul, 1) := by decide +kernel
theorem dX7_sortByCost_47 : decode cX7_sortByCost 47 = .ok (.aload_n 0, 1) := by decide +kernel
theorem dX7_sortByCost_48 : decode cX7_sortByCost 48 = .ok (.getfield 23, 3) := by decide +kernel
theorem dX7_sortByCost_51 : decode cX7_sortByCost 51 = .ok (.iload_n 1, 1) := by decide +kernel
theorem dX7_sortByCost_52 : decode cX7_sortByCost 52 = .ok (.iaload, 1) := by decide +kernel
theorem dX7_sortByCost_53 : decode cX7_sortByCost 53 = .ok (.iadd, 1) := by decide +kernel
theorem dX7_sortByCost_54 : decode cX7_sortByCost 54 = .ok (.iastore, 1) := by decide +kernel
theorem dX7_sortByCost_55 : decode cX7_sortByCost 55 = .ok (.iinc 1 1, 3) := by decide +kernel
theorem dX7_sortByCost_58 : decode cX7_sortByCost 58 = .ok (.goto (-48), 3) := by decide +kernel
theorem dX7_sortByCost_61 : decode cX7_sortByCost 61 = .ok (.aload_n 0, 1) := by decide +kernel
theorem dX7_sortByCost_62 : decode cX7_sortByCost 62 = .ok (.bipush 40, 2) := by decide +kernel
theorem dX7_sortByCost_64 : decode cX7_sortByCost 64 = .ok (.invokevirtual 69, 3) := by decide +kernel
theorem dX7_sortByCost_67 : decode cX7_sortByCost 67 = .ok (.aload_n 0, 1) := by decide +kernel
theorem dX7_sortByCost_68 : decode cX7_sortByCost 68 = .ok (.bipush 13, 2) := by decide +kernel
theorem dX7_sortByCost_70 : decode cX7_sortByCost 70 = .ok (.invokevirtual 69, 3) := by decide +kernel
theorem dX7_sortByCost_73 : decode cX7_sortByCost 73 = .ok (.aload_n 0, 1) := by decide +kernel
theorem dX7_sortByCost_74 : decode cX7_sortByCost 74 = .ok (.iconst 4, 1) := by decide +kernel
theorem dX7_sortByCost_75 : decode cX7_sortByCost 75 = .ok (.invokevirtual 69, 3) := by decide +kernel
theorem dX7_sortByCost_78 : decode cX7_sortByCost 78 = .ok (.aload_n 0, 1) := by decide +kernel
theorem dX7_sortByCost_79 : decode cX7_sortByCost 79 = .ok (.iconst 1, 1) := by decide +kernel
theorem dX7_sortByCost_80 : decode cX7_sortByCost 80 = .ok (.invokevirtual 69, 3) := by decide +kernel
theorem dX7_sortByCost_83 : decode cX7_sortByCost 83 = .ok (.aload_n 0, 1) := by decide +kernel
theorem dX7_sortByCost_84 : decode cX7_sortByCost 84 = .ok (.iconst 1, 1) := by decide +kernel
theorem dX7_sortByCost_85 : decode cX7_sortByCost 85 = .ok (.putfield 33, 3) := by decide +kernel
theorem dX7_sortByCost_88 : decode cX7_sortByCost 88 = .ok (.return_, 1) := by decide +kernel
def bX7_sortByCost_10 (F : Nat) : (Int32 × Mem) → Option ((Int32 × Mem) ⊕ (Int32 × Mem))
  | (y1, m2) => (if (m2.1 26 2) ≤ y1 then some (.inr (y1, m2)) else (if 252 ≤ y1 then some (.inr (y1, m2)) else chk (inb y1 252) ((gX6_costOf F m2 1 (m2.1 27 (Int32.toNatClampNeg y1))).bind (fun x4 => chk (inb y1 252) (chk (inb y1 252) (lete (mu m2 29 (Int32.toNatClampNeg y1) ((x4 * 1024) + (m2.1 27 (Int32.toNatClampNeg y1)))) (fun m7 => some (.inl (y1 + 1, m7)))))))))
def gX7_sortByCost (F : Nat) (m : Mem) : Option (Mem) := (if (m.1 26 6) = 0 then (iter F (bX7_sortByCost_10 F) (0, m)).bind (fun e8 => (gX7_sortEvery F e8.2 40).bind (fun q10 => (gX7_sortEvery F q10 13).bind (fun q11 => (gX7_sortEvery F q11 4).bind (fun q12 => (gX7_sortEvery F q12 1).bind (fun q13 => lete (mu q13 26 6 1) (fun m14 => some m14)))))) else some m)
set_option maxHeartbeats 4000000 in
set_option maxRecDepth 20000 in
theorem LX7_sortByCost {n : Nat} {F : Nat} {m : Mem} {r : Mem} (hn : 43 ≤ n) (hg : gX7_sortByCost F m  = some r) : MX yX7_sortByCost cX7_sortByCost 2 none { frames := 1, cells := 0, slots := 0, locals := 24 } n [.ref 26] m (none) r := by
  refine MX_of (by decide) (Nat.le_of_ble_eq_true rfl) (Or.inl ⟨rfl, rfl⟩) (fun K hC hk hL hR => ?_)
  replace hn : 43 ≤ kn K := hk.symm ▸ hn
  show RX K 0 [(0, .ref 26)] [] m
  rw [gX7_sortByCost] at hg
  refine R_aload_n (pc := 0) hC 0 dX7_sortByCost_0 rfl rfl ?_
  refine gf_X7_33 (pc := 1) hC hn dX7_sortByCost_1 ?_
  refine R_if_eq (tgt := 8) (pc := 4) hC dX7_sortByCost_4 (by decide) (fun c => ?_) (fun c => ?_)
  · replace hg := (if_pos c).symm.trans hg
    refine R_iconst (pc := 8) hC dX7_sortByCost_8 ki_0 ?_
    refine R_istore_n (pc := 9) hC dX7_sortByCost_9 rfl hL rfl (show _ = [(1, .int 0), (0, .ref 26)] from rfl) ?_
    refine R_pick [1, 0] (ls' := [(0, .ref 26), (1, .int 0)]) rfl ?_
    obtain ⟨e8, he8, hg⟩ := bind_some hg
    refine iter_walk (P := fun s : (Int32 × Mem) => RX K 10 [(0, .ref 26), (1, .int s.1)] [] s.2) (Qe := fun s : (Int32 × Mem) => RX K 61 [(0, .ref 26), (1, .int s.1)] [] s.2) (fun s9 o hg kL10 kE10 => ?_) _ _ _ he8 ?_
    · obtain ⟨y1, m2⟩ := s9
      rw [bX7_sortByCost_10] at hg
      show RX K 10 [(0, .ref 26), (1, .int y1)] [] m2
      refine R_iload_n (pc := 10) hC 1 dX7_sortByCost_10 rfl rfl ?_
      refine R_aload_n (pc := 11) hC 0 dX7_sortByCost_11 rfl rfl ?_
      refine gf_X7_19 (pc := 12) hC hn dX7_sortByCost_12 ?_
      refine R_icmp_ge (tgt := 61) (pc := 15) hC dX7_sortByCost_15 (by decide) (fun c => ?_) (fun c => ?_)
      · replace hg := (if_pos c).symm.trans hg
        refine R_pick [0, 1] (ls' := [(0, .ref 26), (1, .int y1)]) rfl ?_
        have h9 := kE10 _ (Option.some.inj hg).symm
        exact h9
      · replace hg := (if_neg c).symm.trans hg
        refine R_iload_n (pc := 18) hC 1 dX7_sortByCost_18 rfl rfl ?_
        refine R_sipush (pc := 19) hC dX7_sortByCost_19 ks_252 ?_
        refine R_icmp_ge (tgt := 61) (pc := 22) hC dX7_sortByCost_22 (by decide) (fun c => ?_) (fun c => ?_)
        · replace hg := (if_pos c).symm.trans hg
          refine R_pick [0, 1] (ls' := [(0, .ref 26), (1, .int y1)]) rfl ?_
          have h9 := kE10 _ (Option.some.inj hg).symm
          exact h9
        · replace hg := (if_neg c).symm.trans hg
          refine R_aload_n (pc := 25) hC 0 dX7_sortByCost_25 rfl rfl ?_
          refine gf_X7_30 (pc := 26) hC hn dX7_sortByCost_26 ?_
          refine R_iload_n (pc := 29) hC 1 dX7_sortByCost_29 rfl rfl ?_
          refine R_aload_n (pc := 30) hC 0 dX7_sortByCost_30 rfl rfl ?_
          refine gf_X7_9 (pc := 31) hC hn dX7_sortByCost_31 ?_
          refine R_aload_n (pc := 34) hC 0 dX7_sortByCost_34 rfl rfl ?_
          refine gf_X7_23 (pc := 35) hC hn dX7_sortByCost_35 ?_
          refine R_iload_n (pc := 38) hC 1 dX7_sortByCost_38 rfl rfl ?_
          obtain ⟨c3, hg⟩ := chk_some hg
          refine R_iaload (pc := 39) hC 27 (jx hn rfl) ly27 (inb_vp c3) dX7_sortByCost_39 ?_
          obtain ⟨x4, hx4, hg⟩ := bind_some hg
          refine R_callVN (pc := 40) (av := [.int (m2.1 27 (Int32.toNatClampNeg y1))]) (rest := [.int y1, .ref 29]) hC hR 1 (jx hn rfl) ly1 rfl mf_X6_costOf wm_X7_66 (LX6_costOf hn isv1 hx4) rfl rfl rfl (Nat.le_of_ble_eq_true rfl) dX7_sortByCost_40 rfl ?_
          show RX K 43 [(0, .ref 26), (1, .int y1)] [.int x4, .int y1, .ref 29] m2
          refine R_sipush (pc := 43) hC dX7_sortByCost_43 ks_1024 ?_
          refine R_imul (pc := 46) hC dX7_sortByCost_46 ?_
          refine R_aload_n (pc := 47) hC 0 dX7_sortByCost_47 rfl rfl ?_
          refine gf_X7_23 (pc := 48) hC hn dX7_sortByCost_48 ?_
          refine R_iload_n (pc := 51) hC 1 dX7_sortByCost_51 rfl rfl ?_
          obtain ⟨c5, hg⟩ := chk_some hg
          refine R_iaload (pc := 52) hC 27 (jx hn rfl) ly27 (inb_vp c5) dX7_sortByCost_52 ?_
          refine R_iadd (pc := 53) hC dX7_sortByCost_53 ?_
          obtain ⟨c6, hg⟩ := chk_some hg
          obtain ⟨m7, hm7, hg⟩ := lete_some hg
          refine R_iastore (pc := 54) hC 29 (jx hn rfl) ly29 (inb_vp c6) dX7_sortByCost_54 ?_
          refine R_mem hm7 ?_
          refine R_iinc (pc := 55) hC 1 dX7_sortByCost_55 rfl (iv ki_1) hL rfl (show _ = [(1, .int (y1 + 1)), (0, .ref 26)] from rfl) ?_
          refine R_goto (tgt := 10) (pc := 58) hC dX7_sortByCost_58 (by decide) ?_
          refine R_pick [1, 0] (ls' := [(0, .ref 26), (1, .int (y1 + 1))]) rfl ?_
          have h9 := kL10 _ (Option.some.inj hg).symm
          exact h9
    · show RX K 61 [(0, .ref 26), (1, .int e8.1)] [] e8.2
      refine R_aload_n (pc := 61) hC 0 dX7_sortByCost_61 rfl rfl ?_
      refine R_bipush (pc := 62) hC dX7_sortByCost_62 kb_40 ?_
      obtain ⟨q10, hq10, hg⟩ := bind_some hg
      refine R_callV (pc := 64) (av := [.int 40]) (rest := []) hC hR 26 (jx hn rfl) ly26 rfl mf_X7_sortEvery wm_X7_69 (LX7_sortEvery hn hq10) rfl rfl rfl (Nat.le_of_ble_eq_true rfl) dX7_sortByCost_64 rfl ?_
      show RX K 67 [(0, .ref 26), (1, .int e8.1)] [] q10
      refine R_aload_n (pc := 67) hC 0 dX7_sortByCost_67 rfl rfl ?_
      refine R_bipush (pc := 68) hC dX7_sortByCost_68 kb_13 ?_
      obtain ⟨q11, hq11, hg⟩ := bind_some hg
      refine R_callV (pc := 70) (av := [.int 13]) (rest := []) hC hR 26 (jx hn rfl) ly26 rfl mf_X7_sortEvery wm_X7_69 (LX7_sortEvery hn hq11) rfl rfl rfl (Nat.le_of_ble_eq_true rfl) dX7_sortByCost_70 rfl ?_
      show RX K 73 [(0, .ref 26), (1, .int e8.1)] [] q11
      refine R_aload_n (pc := 73) hC 0 dX7_sortByCost_73 rfl rfl ?_
      refine R_iconst (pc := 74) hC dX7_sortByCost_74 ki_4 ?_
      obtain ⟨q12, hq12, hg⟩ := bind_some hg
      refine R_callV (pc := 75) (av := [.int 4]) (rest := []) hC hR 26 (jx hn rfl) ly26 rfl mf_X7_sortEvery wm_X7_69 (LX7_sortEvery hn hq12) rfl rfl rfl (Nat.le_of_ble_eq_true rfl) dX7_sortByCost_75 rfl ?_
      show RX K 78 [(0, .ref 26), (1, .int e8.1)] [] q12
      refine R_aload_n (pc := 78) hC 0 dX7_sortByCost_78 rfl rfl ?_
      refine R_iconst (pc := 79) hC dX7_sortByCost_79 ki_1 ?_
      obtain ⟨q13, hq13, hg⟩ := bind_some hg
      refine R_callV (pc := 80) (av := [.int 1]) (rest := []) hC hR 26 (jx hn rfl) ly26 rfl mf_X7_sortEvery wm_X7_69 (LX7_sortEvery hn hq13) rfl rfl rfl (Nat.le_of_ble_eq_true rfl) dX7_sortByCost_80 rfl ?_
      show RX K 83 [(0, .ref 26), (1, .int e8.1)] [] q13
      refine R_aload_n (pc := 83) hC 0 dX7_sortByCost_83 rfl rfl ?_
      refine R_iconst (pc := 84) hC dX7_sortByCost_84 ki_1 ?_
      obtain ⟨m14, hm14, hg⟩ := lete_some hg
      refine pf_X7_33 (pc := 85) hC hn rfl rfl dX7_sortByCost_85 ?_
      refine R_mem hm14 ?_
      have h9 := gxV hg
      exact R_return (pc := 88) hC dX7_sortByCost_88 h9
  · replace hg := (if_neg c).symm.trans hg
    have h9 := gxV hg
    exact R_return (pc := 7) hC dX7_sortByCost_7 h9
theorem dX7_has_0 : decode cX7_has 0 = .ok (.iload_n 1, 1) := by decide +kernel
theorem dX7_has_1 : decode cX7_has 1 = .ok (.ifCond .lt 22, 3) := by decide +kernel
theorem dX7_has_4 : decode cX7_has 4 = .ok (.iload_n 1, 1) := by decide +kernel
theorem dX7_has_5 : decode cX7_has 5 = .ok (.aload_n 0, 1) := by decide +kernel
theorem dX7_has_6 : decode cX7_has 6 = .ok (.getfield 19, 3) := by decide +kernel
theorem dX7_has_9 : decode cX7_has 9 = .ok (.if_icmp .ge 14, 3) := by decide +kernel
theorem dX7_has_12 : decode cX7_has 12 = .ok (.iload_n 1, 1) := by decide +kernel
theorem dX7_has_13 : decode cX7_has 13 = .ok (.sipush 252, 3) := by decide +kernel
theorem dX7_has_16 : decode cX7_has 16 = .ok (.if_icmp .ge 7, 3) := by decide +kernel
theorem dX7_has_19 : decode cX7_has 19 = .ok (.iconst 1, 1) := by decide +kernel
theorem dX7_has_20 : decode cX7_has 20 = .ok (.goto 4, 3) := by decide +kernel
theorem dX7_has_23 : decode cX7_has 23 = .ok (.iconst 0, 1) := by decide +kernel
theorem dX7_has_24 : decode cX7_has 24 = .ok (.ireturn, 1) := by decide +kernel
def gX7_has (m : Mem) (a1 : Int32) : Option (Bool) := (if a1 < 0 then some false else (if (m.1 26 2) ≤ a1 then some false else (if 252 ≤ a1 then some false else some true)))
set_option maxHeartbeats 4000000 in
set_option maxRecDepth 20000 in
theorem LX7_has {n : Nat} {m : Mem} {a1 : Int32} {r : Bool} (hn : 43 ≤ n) (hg : gX7_has m a1 = some r) : MX yX7_has cX7_has 2 (some .boolean) { frames := 0, cells := 0, slots := 0, locals := 0 } n [.ref 26, .int a1] m (some (.int (b2i r))) m := by
  refine MX_of (by decide) (Nat.le_of_ble_eq_true rfl) (Or.inr (Or.inr (Or.inr ⟨rfl, _, rfl⟩))) (fun K hC hk hL hR => ?_)
  replace hn : 43 ≤ kn K := hk.symm ▸ hn
  show RX K 0 [(0, .ref 26), (1, .int a1)] [] m
  rw [gX7_has] at hg
  refine R_iload_n (pc := 0) hC 1 dX7_has_0 rfl rfl ?_
  refine R_if_lt (tgt := 23) (pc := 1) hC dX7_has_1 (by decide) (fun c => ?_) (fun c => ?_)
  · replace hg := (if_pos c).symm.trans hg
    refine R_iconst (pc := 23) hC dX7_has_23 ki_0 ?_
    have h9 := gxZ (m := m) hg
    exact R_ireturn (pc := 24) hC dX7_has_24 h9
  · replace hg := (if_neg c).symm.trans hg
    refine R_iload_n (pc := 4) hC 1 dX7_has_4 rfl rfl ?_
    refine R_aload_n (pc := 5) hC 0 dX7_has_5 rfl rfl ?_
    refine gf_X7_19 (pc := 6) hC hn dX7_has_6 ?_
    refine R_icmp_ge (tgt := 23) (pc := 9) hC dX7_has_9 (by decide) (fun c => ?_) (fun c => ?_)
    · replace hg := (if_pos c).symm.trans hg
      refine R_iconst (pc := 23) hC dX7_has_23 ki_0 ?_
      have h9 := gxZ (m := m) hg
      exact R_ireturn (pc := 24) hC dX7_has_24 h9
    · replace hg := (if_neg c).symm.trans hg
      refine R_iload_n (pc := 12) hC 1 dX7_has_12 rfl rfl ?_
      refine R_sipush (pc := 13) hC dX7_has_13 ks_252 ?_
      refine R_icmp_ge (tgt := 23) (pc := 16) hC dX7_has_16 (by decide) (fun c => ?_) (fun c => ?_)
      · replace hg := (if_pos c).symm.trans hg
        refine R_iconst (pc := 23) hC dX7_has_23 ki_0 ?_
        have h9 := gxZ (m := m) hg
        exact R_ireturn (pc := 24) hC dX7_has_24 h9
      · replace hg := (if_neg c).symm.trans hg
        refine R_iconst (pc := 19) hC dX7_has_19 ki_1 ?_
        refine R_goto (tgt := 24) (pc := 20) hC dX7_has_20 (by decide) ?_
        have h9 := gxZ (m := m) hg
        exact R_ireturn (pc := 24) hC dX7_has_24 h9
theorem dX7_bitsByCost_0 : decode cX7_bitsByCost 0 = .ok (.aload_n 0, 1) := by decide +kernel
theorem dX7_bitsByCost_1 : decode cX7_bitsByCost 1 = .ok (.invokevirtual 63, 3) := by decide +kernel
theorem dX7_bitsByCost_4 : decode cX7_bitsByCost 4 = .ok (.aload_n 0, 1) := by decide +kernel
theorem dX7_bitsByCost_5 : decode cX7_bitsByCost 5 = .ok (.iload_n 1, 1) := by decide +kernel
theorem dX7_bitsByCost_6 : decode cX7_bitsByCost 6 = .ok (.invokevirtual 57, 3) := by decide +kernel
theorem dX7_bitsByCost_9 : decode cX7_bitsByCost 9 = .ok (.ifCond .eq 16, 3) := by decide +kernel
theorem dX7_bitsByCost_12 : decode cX7_bitsByCost 12 = .ok (.aload_n 0, 1) := by decide +kernel
theorem dX7_bitsByCost_13 : decode cX7_bitsByCost 13 = .ok (.getfield 30, 3) := by decide +kernel
theorem dX7_bitsByCost_16 : decode cX7_bitsByCost 16 = .ok (.iload_n 1, 1) := by decide +kernel
theorem dX7_bitsByCost_17 : decode cX7_bitsByCost 17 = .ok (.iaload, 1) := by decide +kernel
theorem dX7_bitsByCost_18 : decode cX7_bitsByCost 18 = .ok (.sipush 1024, 3) := by decide +kernel
theorem dX7_bitsByCost_21 : decode cX7_bitsByCost 21 = .ok (.irem, 1) := by decide +kernel
theorem dX7_bitsByCost_22 : decode cX7_bitsByCost 22 = .ok (.goto 5, 3) := by decide +kernel
theorem dX7_bitsByCost_25 : decode cX7_bitsByCost 25 = .ok (.bipush (-9), 2) := by decide +kernel
theorem dX7_bitsByCost_27 : decode cX7_bitsByCost 27 = .ok (.ireturn, 1) := by decide +kernel
def gX7_bitsByCost (F : Nat) (m : Mem) (a1 : Int32) : Option (Int32 × Mem) := (gX7_sortByCost F m).bind (fun q1 => (gX7_has q1 a1).bind (fun x2 => (if x2 = true then chk (inb a1 252) (some ((q1.1 29 (Int32.toNatClampNeg a1)) - (q1.1 29 (Int32.toNatClampNeg a1)) / 1024 * 1024, q1)) else some ((-9), q1))))
set_option maxHeartbeats 4000000 in
set_option maxRecDepth 20000 in
theorem LX7_bitsByCost {n : Nat} {F : Nat} {m : Mem} {a1 : Int32} {r : Int32 × Mem} (hn : 43 ≤ n) (hg : gX7_bitsByCost F m a1 = some r) : MX yX7_bitsByCost cX7_bitsByCost 2 (some .int) { frames := 2, cells := 0, slots := 0, locals := 45 } n [.ref 26, .int a1] m (some (.int r.1)) r.2 := by
  refine MX_of (by decide) (Nat.le_of_ble_eq_true rfl) (Or.inr (Or.inl ⟨rfl, _, rfl⟩)) (fun K hC hk hL hR => ?_)
  replace hn : 43 ≤ kn K := hk.symm ▸ hn
  show RX K 0 [(0, .ref 26), (1, .int a1)] [] m
  rw [gX7_bitsByCost] at hg
  refine R_aload_n (pc := 0) hC 0 dX7_bitsByCost_0 rfl rfl ?_
  obtain ⟨q1, hq1, hg⟩ := bind_some hg
  refine R_callV (pc := 1) (av := []) (rest := []) hC hR 26 (jx hn rfl) ly26 rfl mf_X7_sortByCost wm_X7_63 (LX7_sortByCost hn hq1) rfl rfl rfl (Nat.le_of_ble_eq_true rfl) dX7_bitsByCost_1 rfl ?_
  show RX K 4 [(0, .ref 26), (1, .int a1)] [] q1
  refine R_aload_n (pc := 4) hC 0 dX7_bitsByCost_4 rfl rfl ?_
  refine R_iload_n (pc := 5) hC 1 dX7_bitsByCost_5 rfl rfl ?_
  obtain ⟨x2, hx2, hg⟩ := bind_some hg
  refine R_callV (pc := 6) (av := [.int a1]) (rest := []) hC hR 26 (jx hn rfl) ly26 rfl mf_X7_has wm_X7_57 (LX7_has hn hx2) rfl rfl rfl (Nat.le_of_ble_eq_true rfl) dX7_bitsByCost_6 rfl ?_
  show RX K 9 [(0, .ref 26), (1, .int a1)] [.int (b2i x2)] q1
  refine R_ifB_eq (tgt := 25) (pc := 9) hC dX7_bitsByCost_9 (by decide) (fun c => ?_) (fun c => ?_)
  · replace hg := (if_neg c).symm.trans hg
    refine R_bipush (pc := 25) hC dX7_bitsByCost_25 kb_m9 ?_
    have h9 := gxIM hg
    exact R_ireturn (pc := 27) hC dX7_bitsByCost_27 h9
  · replace hg := (if_pos c).symm.trans hg
    refine R_aload_n (pc := 12) hC 0 dX7_bitsByCost_12 rfl rfl ?_
    refine gf_X7_30 (pc := 13) hC hn dX7_bitsByCost_13 ?_
    refine R_iload_n (pc := 16) hC 1 dX7_bitsByCost_16 rfl rfl ?_
    obtain ⟨c3, hg⟩ := chk_some hg
    refine R_iaload (pc := 17) hC 29 (jx hn rfl) ly29 (inb_vp c3) dX7_bitsByCost_17 ?_
    refine R_sipush (pc := 18) hC dX7_bitsByCost_18 ks_1024 ?_
    refine R_irem (pc := 21) hC dX7_bitsByCost_21 (by decide) ?_
    refine R_goto (tgt := 27) (pc := 22) hC dX7_bitsByCost_22 (by decide) ?_
    have h9 := gxIM hg
    exact R_ireturn (pc := 27) hC dX7_bitsByCost_27 h9
theorem dX7_dearest_0 : decode cX7_dearest 0 = .ok (.aload_n 0, 1) := by decide +kernel
theorem dX7_dearest_1 : decode cX7_dearest 1 = .ok (.invokevirtual 63, 3) := by decide +kernel
theorem dX7_dearest_4 : decode cX7_dearest 4 = .ok (.bipush (-9), 2) := by decide +kernel
theorem dX7_dearest_6 : decode cX7_dearest 6 = .ok (.istore_n 1, 1) := by decide +kernel
theorem dX7_dearest_7 : decode cX7_dearest 7 = .ok (.iconst (-1), 1) := by decide +kernel
theorem dX7_dearest_8 : decode cX7_dearest 8 = .ok (.istore_n 2, 1) := by decide +kernel
theorem dX7_dearest_9 : decode cX7_dearest 9 = .ok (.iconst 0, 1) := by decide +kernel
theorem dX7_dearest_10 : decode cX7_dearest 10 = .ok (.istore_n 3, 1) := by decide +kernel
theorem dX7_dearest_11 : decode cX7_dearest 11 = .ok (.iload_n 3, 1) := by decide +kernel
theorem dX7_dearest_12 : decode cX7_dearest 12 = .ok (.aload_n 0, 1) := by decide +kernel
theorem dX7_dearest_13 : decode cX7_dearest 13 = .ok (.getfield 19, 3) := by decide +kernel
theorem dX7_dearest_16 : decode cX7_dearest 16 = .ok (.if_icmp .ge 52, 3) := by decide +kernel
theorem dX7_dearest_19 : decode cX7_dearest 19 = .ok (.iload_n 3, 1) := by decide +kernel
theorem dX7_dearest_20 : decode cX7_dearest 20 = .ok (.sipush 252, 3) := by decide +kernel
theorem dX7_dearest_23 : decode cX7_dearest 23 = .ok (.if_icmp .ge 45, 3) := by decide +kernel
theorem dX7_dearest_26 : decode cX7_dearest 26 = .ok (.aload_n 0, 1) := by decide +kernel
theorem dX7_dearest_27 : decode cX7_dearest 27 = .ok (.getfield 30, 3) := by decide +kernel
theorem dX7_dearest_30 : decode cX7_dearest 30 = .ok (.iload_n 3, 1) := by decide +kernel
theorem dX7_dearest_31 : decode cX7_dearest 31 = .ok (.iaload, 1) := by decide +kernel
theorem dX7_dearest_32 : decode cX7_dearest 32 = .ok (.sipush 1024, 3) := by decide +kernel
theorem dX7_dearest_35 : decode cX7_dearest 35 = .ok (.idiv, 1) := by decide +kernel
theorem dX7_dearest_36 : decode cX7_dearest 36 = .ok (.iload_n 2, 1) := by decide +kernel
theorem dX7_dearest_37 : decode cX7_dearest 37 = .ok (.if_icmp .le 25, 3) := by decide +kernel
theorem dX7_dearest_40 : decode cX7_dearest 40 = .ok (.aload_n 0, 1) := by decide +kernel
theorem dX7_dearest_41 : decode cX7_dearest 41 = .ok (.getfield 30, 3) := by decide +kernel
theorem dX7_dearest_44 : decode cX7_dearest 44 = .ok (.iload_n 3, 1) := by decide +kernel
theorem dX7_dearest_45 : decode cX7_dearest 45 = .ok (.iaload, 1) := by decide +kernel
theorem dX7_dearest_46 : decode cX7_dearest 46 = .ok (.sipush 1024, 3) := by decide +kernel
theorem dX7_dearest_49 : decode cX7_dearest 49 = .ok (.idiv, 1) := by decide +kernel
theorem dX7_dearest_50 : decode cX7_dearest 50 = .ok (.istore_n 2, 1) := by decide +kernel
theorem dX7_dearest_51 : decode cX7_dearest 51 = .ok (.aload_n 0, 1) := by decide +kernel
theorem dX7_dearest_52 : decode cX7_dearest 52 = .ok (.getfield 30, 3) := by decide +kernel
theorem dX7_dearest_55 : decode cX7_dearest 55 = .ok (.iload_n 3, 1) := by decide +kernel
theorem dX7_dearest_56 : decode cX7_dearest 56 = .ok (.iaload, 1) := by decide +kernel
theorem dX7_dearest_57 : decode cX7_dearest 57 = .ok (.sipush 1024, 3) := by decide +kernel
theorem dX7_dearest_60 : decode cX7_dearest 60 = .ok (.irem, 1) := by decide +kernel
theorem dX7_dearest_61 : decode cX7_dearest 61 = .ok (.istore_n 1, 1) := by decide +kernel
theorem dX7_dearest_62 : decode cX7_dearest 62 = .ok (.iinc 3 1, 3) := by decide +kernel
theorem dX7_dearest_65 : decode cX7_dearest 65 = .ok (.goto (-54), 3) := by decide +kernel
theorem dX7_dearest_68 : decode cX7_dearest 68 = .ok (.iload_n 1, 1) := by decide +kernel
theorem dX7_dearest_69 : decode cX7_dearest 69 = .ok (.ireturn, 1) := by decide +kernel
def bX7_dearest_11 (q1 : Mem) : (Int32 × Int32 × Int32) → Option ((Int32 × Int32 × Int32) ⊕ (Int32 × Int32 × Int32))
  | (y2, y3, y4) => (if (q1.1 26 2) ≤ y4 then some (.inr (y2, y3, y4)) else (if 252 ≤ y4 then some (.inr (y2, y3, y4)) else chk (inb y4 252) ((if ((q1.1 29 (Int32.toNatClampNeg y4)) / 1024) ≤ y3 then some (.inl (y2, y3, y4 + 1)) else chk (inb y4 252) (lete ((q1.1 29 (Int32.toNatClampNeg y4)) / 1024) (fun x7 => chk (inb y4 252) (lete ((q1.1 29 (Int32.toNatClampNeg y4)) - (q1.1 29 (Int32.toNatClampNeg y4)) / 1024 * 1024) (fun x9 => some (.inl (x9, x7, y4 + 1))))))))))
def gX7_dearest (F : Nat) (m : Mem) : Option (Int32 × Mem) := (gX7_sortByCost F m).bind (fun q1 => (iter F (bX7_dearest_11 q1) ((-9), (-1), 0)).bind (fun e10 => some (e10.1, q1)))
set_option maxHeartbeats 4000000 in
set_option maxRecDepth 20000 in
theorem LX7_dearest {n : Nat} {F : Nat} {m : Mem} {r : Int32 × Mem} (hn : 43 ≤ n) (hg : gX7_dearest F m  = some r) : MX yX7_dearest cX7_dearest 4 (some .int) { frames := 2, cells := 0, slots := 0, locals := 45 } n [.ref 26] m (some (.int r.1)) r.2 := by
  refine MX_of (by decide) (Nat.le_of_ble_eq_true rfl) (Or.inr (Or.inl ⟨rfl, _, rfl⟩)) (fun K hC hk hL hR => ?_)
  replace hn : 43 ≤ kn K := hk.symm ▸ hn
  show RX K 0 [(0, .ref 26)] [] m
  rw [gX7_dearest] at hg
  refine R_aload_n (pc := 0) hC 0 dX7_dearest_0 rfl rfl ?_
  obtain ⟨q1, hq1, hg⟩ := bind_some hg
  refine R_callV (pc := 1) (av := []) (rest := []) hC hR 26 (jx hn rfl) ly26 rfl mf_X7_sortByCost wm_X7_63 (LX7_sortByCost hn hq1) rfl rfl rfl (Nat.le_of_ble_eq_true rfl) dX7_dearest_1 rfl ?_
  show RX K 4 [(0, .ref 26)] [] q1
  refine R_bipush (pc := 4) hC dX7_dearest_4 kb_m9 ?_
  refine R_istore_n (pc := 6) hC dX7_dearest_6 rfl hL rfl (show _ = [(1, .int (-9)), (0, .ref 26)] from rfl) ?_
  refine R_iconst (pc := 7) hC dX7_dearest_7 ki_m1 ?_
  refine R_istore_n (pc := 8) hC dX7_dearest_8 rfl hL rfl (show _ = [(2, .int (-1)), (1, .int (-9)), (0, .ref 26)] from rfl) ?_
  refine R_iconst (pc := 9) hC dX7_dearest_9 ki_0 ?_
  refine R_istore_n (pc := 10) hC dX7_dearest_10 rfl hL rfl (show _ = [(3, .int 0), (2, .int (-1)), (1, .int (-9)), (0, .ref 26)] from rfl) ?_
  refine R_pick [3, 2, 1, 0] (ls' := [(0, .ref 26), (1, .int (-9)), (2, .int (-1)), (3, .int 0)]) rfl ?_
  obtain ⟨e10, he10, hg⟩ := bind_some hg
  refine iter_walk (P := fun s : (Int32 × Int32 × Int32) => RX K 11 [(0, .ref 26), (1, .int s.1), (2, .int s.2.1), (3, .int s.2.2)] [] q1) (Qe := fun s : (Int32 × Int32 × Int32) => RX K 68 [(0, .ref 26), (1, .int s.1), (2, .int s.2.1), (3, .int s.2.2)] [] q1) (fun s11 o hg kL11 kE11 => ?_) _ _ _ he10 ?_
  · obtain ⟨y2, y3, y4⟩ := s11
    rw [bX7_dearest_11] at hg
    show RX K 11 [(0, .ref 26), (1, .int y2), (2, .int y3), (3, .int y4)] [] q1
    refine R_iload_n (pc := 11) hC 3 dX7_dearest_11 rfl rfl ?_
    refine R_aload_n (pc := 12) hC 0 dX7_dearest_12 rfl rfl ?_
    refine gf_X7_19 (pc := 13) hC hn dX7_dearest_13 ?_
    refine R_icmp_ge (tgt := 68) (pc := 16) hC dX7_dearest_16 (by decide) (fun c => ?_) (fun c => ?_)
    · replace hg := (if_pos c).symm.trans hg
      refine R_pick [0, 1, 2, 3] (ls' := [(0, .ref 26), (1, .int y2), (2, .int y3), (3, .int y4)]) rfl ?_
      have h9 := kE11 _ (Option.some.inj hg).symm
      exact h9
    · replace hg := (if_neg c).symm.trans hg
      refine R_iload_n (pc := 19) hC 3 dX7_dearest_19 rfl rfl ?_
      refine R_sipush (pc := 20) hC dX7_dearest_20 ks_252 ?_
      refine R_icmp_ge (tgt := 68) (pc := 23) hC dX7_dearest_23 (by decide) (fun c => ?_) (fun c => ?_)
      · replace hg := (if_pos c).symm.trans hg
        refine R_pick [0, 1, 2, 3] (ls' := [(0, .ref 26), (1, .int y2), (2, .int y3), (3, .int y4)]) rfl ?_
        have h9 := kE11 _ (Option.some.inj hg).symm
        exact h9
      · replace hg := (if_neg c).symm.trans hg
        refine R_aload_n (pc := 26) hC 0 dX7_dearest_26 rfl rfl ?_
        refine gf_X7_30 (pc := 27) hC hn dX7_dearest_27 ?_
        refine R_iload_n (pc := 30) hC 3 dX7_dearest_30 rfl rfl ?_
        obtain ⟨c5, hg⟩ := chk_some hg
        refine R_iaload (pc := 31) hC 29 (jx hn rfl) ly29 (inb_vp c5) dX7_dearest_31 ?_
        refine R_sipush (pc := 32) hC dX7_dearest_32 ks_1024 ?_
        refine R_idiv (pc := 35) hC dX7_dearest_35 (by decide) ?_
        refine R_iload_n (pc := 36) hC 2 dX7_dearest_36 rfl rfl ?_
        refine R_icmp_le (tgt := 62) (pc := 37) hC dX7_dearest_37 (by decide) (fun c => ?_) (fun c => ?_)
        · replace hg := (if_pos c).symm.trans hg
          refine R_iinc (pc := 62) hC 3 dX7_dearest_62 rfl (iv ki_1) hL rfl (show _ = [(3, .int (y4 + 1)), (0, .ref 26), (1, .int y2), (2, .int y3)] from rfl) ?_
          refine R_goto (tgt := 11) (pc := 65) hC dX7_dearest_65 (by decide) ?_
          refine R_pick [1, 2, 3, 0] (ls' := [(0, .ref 26), (1, .int y2), (2, .int y3), (3, .int (y4 + 1))]) rfl ?_
          have h9 := kL11 _ (Option.some.inj hg).symm
          exact h9
        · replace hg := (if_neg c).symm.trans hg
          refine R_aload_n (pc := 40) hC 0 dX7_dearest_40 rfl rfl ?_
          refine gf_X7_30 (pc := 41) hC hn dX7_dearest_41 ?_
          refine R_iload_n (pc := 44) hC 3 dX7_dearest_44 rfl rfl ?_
          obtain ⟨c6, hg⟩ := chk_some hg
          refine R_iaload (pc := 45) hC 29 (jx hn rfl) ly29 (inb_vp c6) dX7_dearest_45 ?_
          refine R_sipush (pc := 46) hC dX7_dearest_46 ks_1024 ?_
          refine R_idiv (pc := 49) hC dX7_dearest_49 (by decide) ?_
          obtain ⟨x7, hx7, hg⟩ := lete_some hg
          refine R_top hx7 ?_
          refine R_istore_n (pc := 50) hC dX7_dearest_50 rfl hL rfl (show _ = [(2, .int x7), (0, .ref 26), (1, .int y2), (3, .int y4)] from rfl) ?_
          refine R_aload_n (pc := 51) hC 1 dX7_dearest_51 rfl rfl ?_
          refine gf_X7_30 (pc := 52) hC hn dX7_dearest_52 ?_
          refine R_iload_n (pc := 55) hC 3 dX7_dearest_55 rfl rfl ?_
          obtain ⟨c8, hg⟩ := chk_some hg
          refine R_iaload (pc := 56) hC 29 (jx hn rfl) ly29 (inb_vp c8) dX7_dearest_56 ?_
          refine R_sipush (pc := 57) hC dX7_dearest_57 ks_1024 ?_
          refine R_irem (pc := 60) hC dX7_dearest_60 (by decide) ?_
          obtain ⟨x9, hx9, hg⟩ := lete_some hg
          refine R_top hx9 ?_
          refine R_istore_n (pc := 61) hC dX7_dearest_61 rfl hL rfl (show _ = [(1, .int x9), (2, .int x7), (0, .ref 26), (3, .int y4)] from rfl) ?_
          refine R_iinc (pc := 62) hC 3 dX7_dearest_62 rfl (iv ki_1) hL rfl (show _ = [(3, .int (y4 + 1)), (1, .int x9), (2, .int x7), (0, .ref 26)] from rfl) ?_
          refine R_goto (tgt := 11) (pc := 65) hC dX7_dearest_65 (by decide) ?_
          refine R_pick [3, 1, 2, 0] (ls' := [(0, .ref 26), (1, .int x9), (2, .int x7), (3, .int (y4 + 1))]) rfl ?_
          have h9 := kL11 _ (Option.some.inj hg).symm
          exact h9
  · show RX K 68 [(0, .ref 26), (1, .int e10.1), (2, .int e10.2.1), (3, .int e10.2.2)] [] q1
    refine R_iload_n (pc := 68) hC 1 dX7_dearest_68 rfl rfl ?_
    have h9 := gxIM hg
    exact R_ireturn (pc := 69) hC dX7_dearest_69 h9
theorem dX7_at_0 : decode cX7_at 0 = .ok (.aload_n 0, 1) := by decide +kernel
theorem dX7_at_1 : decode cX7_at 1 = .ok (.iload_n 1, 1) := by decide +kernel
theorem dX7_at_2 : decode cX7_at 2 = .ok (.invokevirtual 57, 3) := by decide +kernel
theorem dX7_at_5 : decode cX7_at 5 = .ok (.ifCond .eq 12, 3) := by decide +kernel
theorem dX7_at_8 : decode cX7_at 8 = .ok (.aload_n 0, 1) := by decide +kernel
theorem dX7_at_9 : decode cX7_at 9 = .ok (.getfield 23, 3) := by decide +kernel
theorem dX7_at_12 : decode cX7_at 12 = .ok (.iload_n 1, 1) := by decide +kernel
theorem dX7_at_13 : decode cX7_at 13 = .ok (.iaload, 1) := by decide +kernel
theorem dX7_at_14 : decode cX7_at 14 = .ok (.goto 5, 3) := by decide +kernel
theorem dX7_at_17 : decode cX7_at 17 = .ok (.bipush (-9), 2) := by decide +kernel
theorem dX7_at_19 : decode cX7_at 19 = .ok (.ireturn, 1) := by decide +kernel
def gX7_at (m : Mem) (a1 : Int32) : Option (Int32) := (gX7_has m a1).bind (fun x1 => (if x1 = true then chk (inb a1 252) (some (m.1 27 (Int32.toNatClampNeg a1))) else some (-9)))
set_option maxHeartbeats 4000000 in
set_option maxRecDepth 20000 in
theorem LX7_at {n : Nat} {m : Mem} {a1 : Int32} {r : Int32} (hn : 43 ≤ n) (hg : gX7_at m a1 = some r) : MX yX7_at cX7_at 2 (some .int) { frames := 1, cells := 0, slots := 0, locals := 21 } n [.ref 26, .int a1] m (some (.int r)) m := by
  refine MX_of (by decide) (Nat.le_of_ble_eq_true rfl) (Or.inr (Or.inl ⟨rfl, _, rfl⟩)) (fun K hC hk hL hR => ?_)
  replace hn : 43 ≤ kn K := hk.symm ▸ hn
  show RX K 0 [(0, .ref 26), (1, .int a1)] [] m
  rw [gX7_at] at hg
  refine R_aload_n (pc := 0) hC 0 dX7_at_0 rfl rfl ?_
  refine R_iload_n (pc := 1) hC 1 dX7_at_1 rfl rfl ?_
  obtain ⟨x1, hx1, hg⟩ := bind_some hg
  refine R_callV (pc := 2) (av := [.int a1]) (rest := []) hC hR 26 (jx hn rfl) ly26 rfl mf_X7_has wm_X7_57 (LX7_has hn hx1) rfl rfl rfl (Nat.le_of_ble_eq_true rfl) dX7_at_2 rfl ?_
  show RX K 5 [(0, .ref 26), (1, .int a1)] [.int (b2i x1)] m
  refine R_ifB_eq (tgt := 17) (pc := 5) hC dX7_at_5 (by decide) (fun c => ?_) (fun c => ?_)
  · replace hg := (if_neg c).symm.trans hg
    refine R_bipush (pc := 17) hC dX7_at_17 kb_m9 ?_
    have h9 := gxI (m := m) hg
    exact R_ireturn (pc := 19) hC dX7_at_19 h9
  · replace hg := (if_pos c).symm.trans hg
    refine R_aload_n (pc := 8) hC 0 dX7_at_8 rfl rfl ?_
    refine gf_X7_23 (pc := 9) hC hn dX7_at_9 ?_
    refine R_iload_n (pc := 12) hC 1 dX7_at_12 rfl rfl ?_
    obtain ⟨c2, hg⟩ := chk_some hg
    refine R_iaload (pc := 13) hC 27 (jx hn rfl) ly27 (inb_vp c2) dX7_at_13 ?_
    refine R_goto (tgt := 19) (pc := 14) hC dX7_at_14 (by decide) ?_
    have h9 := gxI (m := m) hg
    exact R_ireturn (pc := 19) hC dX7_at_19 h9
theorem dX7_list_0 : decode cX7_list 0 = .ok (.aload_n 0, 1) := by decide +kernel
theorem dX7_list_1 : decode cX7_list 1 = .ok (.iconst 0, 1) := by decide +kernel
theorem dX7_list_2 : decode cX7_list 2 = .ok (.putfield 19, 3) := by decide +kernel
theorem dX7_list_5 : decode cX7_list 5 = .ok (.aload_n 0, 1) := by decide +kernel
theorem dX7_list_6 : decode cX7_list 6 = .ok (.iconst 0, 1) := by decide +kernel
theorem dX7_list_7 : decode cX7_list 7 = .ok (.putfield 33, 3) := by decide +kernel
theorem dX7_list_10 : decode cX7_list 10 = .ok (.aload_n 0, 1) := by decide +kernel
theorem dX7_list_11 : decode cX7_list 11 = .ok (.getfield 9, 3) := by decide +kernel
theorem dX7_list_14 : decode cX7_list 14 = .ok (.invokevirtual 37, 3) := by decide +kernel
theorem dX7_list_17 : decode cX7_list 17 = .ok (.istore_n 1, 1) := by decide +kernel
theorem dX7_list_18 : decode cX7_list 18 = .ok (.iconst 0, 1) := by decide +kernel
theorem dX7_list_19 : decode cX7_list 19 = .ok (.istore_n 2, 1) := by decide +kernel
theorem dX7_list_20 : decode cX7_list 20 = .ok (.iload_n 2, 1) := by decide +kernel
theorem dX7_list_21 : decode cX7_list 21 = .ok (.iload_n 1, 1) := by decide +kernel
theorem dX7_list_22 : decode cX7_list 22 = .ok (.if_icmp .ge 79, 3) := by decide +kernel
theorem dX7_list_25 : decode cX7_list 25 = .ok (.aload_n 0, 1) := by decide +kernel
theorem dX7_list_26 : decode cX7_list 26 = .ok (.getfield 19, 3) := by decide +kernel
theorem dX7_list_29 : decode cX7_list 29 = .ok (.sipush 252, 3) := by decide +kernel
theorem dX7_list_32 : decode cX7_list 32 = .ok (.if_icmp .ge 69, 3) := by decide +kernel
theorem dX7_list_35 : decode cX7_list 35 = .ok (.aload_n 0, 1) := by decide +kernel
theorem dX7_list_36 : decode cX7_list 36 = .ok (.getfield 9, 3) := by decide +kernel
theorem dX7_list_39 : decode cX7_list 39 = .ok (.iload_n 2, 1) := by decide +kernel
theorem dX7_list_40 : decode cX7_list 40 = .ok (.invokevirtual 43, 3) := by decide +kernel
theorem dX7_list_43 : decode cX7_list 43 = .ok (.ifCond .eq 52, 3) := by decide +kernel
theorem dX7_list_46 : decode cX7_list 46 = .ok (.aload_n 0, 1) := by decide +kernel
theorem dX7_list_47 : decode cX7_list 47 = .ok (.getfield 15, 3) := by decide +kernel
theorem dX7_list_50 : decode cX7_list 50 = .ok (.iload_n 2, 1) := by decide +kernel
theorem dX7_list_51 : decode cX7_list 51 = .ok (.iconst 1, 1) := by decide +kernel
theorem dX7_list_52 : decode cX7_list 52 = .ok (.invokevirtual 47, 3) := by decide +kernel
theorem dX7_list_55 : decode cX7_list 55 = .ok (.ifCond .eq 40, 3) := by decide +kernel
theorem dX7_list_58 : decode cX7_list 58 = .ok (.aload_n 0, 1) := by decide +kernel
theorem dX7_list_59 : decode cX7_list 59 = .ok (.getfield 23, 3) := by decide +kernel
theorem dX7_list_62 : decode cX7_list 62 = .ok (.aload_n 0, 1) := by decide +kernel
theorem dX7_list_63 : decode cX7_list 63 = .ok (.getfield 19, 3) := by decide +kernel
theorem dX7_list_66 : decode cX7_list 66 = .ok (.iload_n 2, 1) := by decide +kernel
theorem dX7_list_67 : decode cX7_list 67 = .ok (.iastore, 1) := by decide +kernel
theorem dX7_list_68 : decode cX7_list 68 = .ok (.aload_n 0, 1) := by decide +kernel
theorem dX7_list_69 : decode cX7_list 69 = .ok (.getfield 27, 3) := by decide +kernel
theorem dX7_list_72 : decode cX7_list 72 = .ok (.aload_n 0, 1) := by decide +kernel
theorem dX7_list_73 : decode cX7_list 73 = .ok (.getfield 19, 3) := by decide +kernel
theorem dX7_list_76 : decode cX7_list 76 = .ok (.aload_n 0, 1) := by decide +kernel
theorem dX7_list_77 : decode cX7_list 77 = .ok (.getfield 9, 3) := by decide +kernel
theorem dX7_list_80 : decode cX7_list 80 = .ok (.iload_n 2, 1) := by decide +kernel
theorem dX7_list_81 : decode cX7_list 81 = .ok (.invokevirtual 53, 3) := by decide +kernel
theorem dX7_list_84 : decode cX7_list 84 = .ok (.iastore, 1) := by decide +kernel
theorem dX7_list_85 : decode cX7_list 85 = .ok (.aload_n 0, 1) := by decide +kernel
theorem dX7_list_86 : decode cX7_list 86 = .ok (.dup, 1) := by decide +kernel
theorem dX7_list_87 : decode cX7_list 87 = .ok (.getfield 19, 3) := by decide +kernel
theorem dX7_list_90 : decode cX7_list 90 = .ok (.iconst 1, 1) := by decide +kernel
theorem dX7_list_91 : decode cX7_list 91 = .ok (.iadd, 1) := by decide +kernel
theorem dX7_list_92 : decode cX7_list 92 = .ok (.putfield 19, 3) := by decide +kernel
theorem dX7_list_95 : decode cX7_list 95 = .ok (.iinc 2 1, 3) := by decide +kernel
theorem dX7_list_98 : decode cX7_list 98 = .ok (.goto (-78), 3) := by decide +kernel
theorem dX7_list_101 : decode cX7_list 101 = .ok (.return_, 1) := by decide +kernel
def bX7_list_20 (F : Nat) (x3 : Int32) : (Int32 × Mem) → Option ((Int32 × Mem) ⊕ (Int32 × Mem))
  | (y4, m5) => (if x3 ≤ y4 then some (.inr (y4, m5)) else (if 252 ≤ (m5.1 26 2) then some (.inr (y4, m5)) else (gX6_allows m5 1 y4).bind (fun x6 => (if x6 = true then (gX2_leavesForest m5 y4 1).bind (fun x7 => (if x7 = true then chk (inb (m5.1 26 2) 252) (lete (mu m5 27 (Int32.toNatClampNeg (m5.1 26 2)) y4) (fun m9 => (gX6_worthOf F m9 1 y4).bind (fun x10 => chk (inb (m9.1 26 2) 252) (lete (mu m9 28 (Int32.toNatClampNeg (m9.1 26 2)) x10) (fun m12 => lete (mu m12 26 2 ((m12.1 26 2) + 1)) (fun m13 => some (.inl (y4 + 1, m13)))))))) else some (.inl (y4 + 1, m5)))) else some (.inl (y4 + 1, m5))))))
def gX7_list (F : Nat) (m : Mem) : Option (Mem) := lete (mu m 26 2 0) (fun m1 => lete (mu m1 26 6 0) (fun m2 => (gX6_sets m2 1).bind (fun x3 => (iter F (bX7_list_20 F x3) (0, m2)).bind (fun e14 => some e14.2))))
set_option maxHeartbeats 4000000 in
set_option maxRecDepth 20000 in
theorem LX7_list {n : Nat} {F : Nat} {m : Mem} {r : Mem} (hn : 43 ≤ n) (hg : gX7_list F m  = some r) : MX yX7_list cX7_list 3 none { frames := 2, cells := 0, slots := 0, locals := 43 } n [.ref 26] m (none) r := by
  refine MX_of (by decide) (Nat.le_of_ble_eq_true rfl) (Or.inl ⟨rfl, rfl⟩) (fun K hC hk hL hR => ?_)
  replace hn : 43 ≤ kn K := hk.symm ▸ hn
  show RX K 0 [(0, .ref 26)] [] m
  rw [gX7_list] at hg
  refine R_aload_n (pc := 0) hC 0 dX7_list_0 rfl rfl ?_
  refine R_iconst (pc := 1) hC dX7_list_1 ki_0 ?_
  obtain ⟨m1, hm1, hg⟩ := lete_some hg
  refine pf_X7_19 (pc := 2) hC hn dX7_list_2 ?_
  refine R_mem hm1 ?_
  refine R_aload_n (pc := 5) hC 0 dX7_list_5 rfl rfl ?_
  refine R_iconst (pc := 6) hC dX7_list_6 ki_0 ?_
  obtain ⟨m2, hm2, hg⟩ := lete_some hg
  refine pf_X7_33 (pc := 7) hC hn rfl rfl dX7_list_7 ?_
  refine R_mem hm2 ?_
  refine R_aload_n (pc := 10) hC 0 dX7_list_10 rfl rfl ?_
  refine gf_X7_9 (pc := 11) hC hn dX7_list_11 ?_
  obtain ⟨x3, hx3, hg⟩ := bind_some hg
  refine R_callVN (pc := 14) (av := []) (rest := []) hC hR 1 (jx hn rfl) ly1 rfl mf_X6_sets wm_X7_37 (LX6_sets hn isv1 hx3) rfl rfl rfl (Nat.le_of_ble_eq_true rfl) dX7_list_14 rfl ?_
  show RX K 17 [(0, .ref 26)] [.int x3] m2
  refine R_istore_n (pc := 17) hC dX7_list_17 rfl hL rfl (show _ = [(1, .int x3), (0, .ref 26)] from rfl) ?_
  refine R_iconst (pc := 18) hC dX7_list_18 ki_0 ?_
  refine R_istore_n (pc := 19) hC dX7_list_19 rfl hL rfl (show _ = [(2, .int 0), (1, .int x3), (0, .ref 26)] from rfl) ?_
  refine R_pick [2, 1, 0] (ls' := [(0, .ref 26), (1, .int x3), (2, .int 0)]) rfl ?_
  obtain ⟨e14, he14, hg⟩ := bind_some hg
  refine iter_walk (P := fun s : (Int32 × Mem) => RX K 20 [(0, .ref 26), (1, .int x3), (2, .int s.1)] [] s.2) (Qe := fun s : (Int32 × Mem) => RX K 101 [(0, .ref 26), (1, .int x3), (2, .int s.1)] [] s.2) (fun s15 o hg kL20 kE20 => ?_) _ _ _ he14 ?_
  · obtain ⟨y4, m5⟩ := s15
    rw [bX7_list_20] at hg
    show RX K 20 [(0, .ref 26), (1, .int x3), (2, .int y4)] [] m5
    refine R_iload_n (pc := 20) hC 2 dX7_list_20 rfl rfl ?_
    refine R_iload_n (pc := 21) hC 1 dX7_list_21 rfl rfl ?_
    refine R_icmp_ge (tgt := 101) (pc := 22) hC dX7_list_22 (by decide) (fun c => ?_) (fun c => ?_)
    · replace hg := (if_pos c).symm.trans hg
      refine R_pick [0, 1, 2] (ls' := [(0, .ref 26), (1, .int x3), (2, .int y4)]) rfl ?_
      have h9 := kE20 _ (Option.some.inj hg).symm
      exact h9
    · replace hg := (if_neg c).symm.trans hg
      refine R_aload_n (pc := 25) hC 0 dX7_list_25 rfl rfl ?_
      refine gf_X7_19 (pc := 26) hC hn dX7_list_26 ?_
      refine R_sipush (pc := 29) hC dX7_list_29 ks_252 ?_
      refine R_icmp_ge (tgt := 101) (pc := 32) hC dX7_list_32 (by decide) (fun c => ?_) (fun c => ?_)
      · replace hg := (if_pos c).symm.trans hg
        refine R_pick [0, 1, 2] (ls' := [(0, .ref 26), (1, .int x3), (2, .int y4)]) rfl ?_
        have h9 := kE20 _ (Option.some.inj hg).symm
        exact h9
      · replace hg := (if_neg c).symm.trans hg
        refine R_aload_n (pc := 35) hC 0 dX7_list_35 rfl rfl ?_
        refine gf_X7_9 (pc := 36) hC hn dX7_list_36 ?_
        refine R_iload_n (pc := 39) hC 2 dX7_list_39 rfl rfl ?_
        obtain ⟨x6, hx6, hg⟩ := bind_some hg
        refine R_callVN (pc := 40) (av := [.int y4]) (rest := []) hC hR 1 (jx hn rfl) ly1 rfl mf_X6_allows wm_X7_43 (LX6_allows hn isv1 hx6) rfl rfl rfl (Nat.le_of_ble_eq_true rfl) dX7_list_40 rfl ?_
        show RX K 43 [(0, .ref 26), (1, .int x3), (2, .int y4)] [.int (b2i x6)] m5
        refine R_ifB_eq (tgt := 95) (pc := 43) hC dX7_list_43 (by decide) (fun c => ?_) (fun c => ?_)
        · replace hg := (if_neg c).symm.trans hg
          refine R_iinc (pc := 95) hC 2 dX7_list_95 rfl (iv ki_1) hL rfl (show _ = [(2, .int (y4 + 1)), (0, .ref 26), (1, .int x3)] from rfl) ?_
          refine R_goto (tgt := 20) (pc := 98) hC dX7_list_98 (by decide) ?_
          refine R_pick [1, 2, 0] (ls' := [(0, .ref 26), (1, .int x3), (2, .int (y4 + 1))]) rfl ?_
          have h9 := kL20 _ (Option.some.inj hg).symm
          exact h9
        · replace hg := (if_pos c).symm.trans hg
          refine R_aload_n (pc := 46) hC 0 dX7_list_46 rfl rfl ?_
          refine gf_X7_15 (pc := 47) hC hn dX7_list_47 ?_
          refine R_iload_n (pc := 50) hC 2 dX7_list_50 rfl rfl ?_
          refine R_iconst (pc := 51) hC dX7_list_51 ki_1 ?_
          obtain ⟨x7, hx7, hg⟩ := bind_some hg
          refine R_callVN (pc := 52) (av := [.int y4, .int 1]) (rest := []) hC hR 24 (jx hn rfl) ly24 rfl mf_X2_leavesForest wm_X7_47 (LX2_leavesForest hn hx7) rfl rfl rfl (Nat.le_of_ble_eq_true rfl) dX7_list_52 rfl ?_
          show RX K 55 [(0, .ref 26), (1, .int x3), (2, .int y4)] [.int (b2i x7)] m5
          refine R_ifB_eq (tgt := 95) (pc := 55) hC dX7_list_55 (by decide) (fun c => ?_) (fun c => ?_)
          · replace hg := (if_neg c).symm.trans hg
            refine R_iinc (pc := 95) hC 2 dX7_list_95 rfl (iv ki_1) hL rfl (show _ = [(2, .int (y4 + 1)), (0, .ref 26), (1, .int x3)] from rfl) ?_
            refine R_goto (tgt := 20) (pc := 98) hC dX7_list_98 (by decide) ?_
            refine R_pick [1, 2, 0] (ls' := [(0, .ref 26), (1, .int x3), (2, .int (y4 + 1))]) rfl ?_
            have h9 := kL20 _ (Option.some.inj hg).symm
            exact h9
          · replace hg := (if_pos c).symm.trans hg
            refine R_aload_n (pc := 58) hC 0 dX7_list_58 rfl rfl ?_
            refine gf_X7_23 (pc := 59) hC hn dX7_list_59 ?_
            refine R_aload_n (pc := 62) hC 0 dX7_list_62 rfl rfl ?_
            refine gf_X7_19 (pc := 63) hC hn dX7_list_63 ?_
            refine R_iload_n (pc := 66) hC 2 dX7_list_66 rfl rfl ?_
            obtain ⟨c8, hg⟩ := chk_some hg
            obtain ⟨m9, hm9, hg⟩ := lete_some hg
            refine R_iastore (pc := 67) hC 27 (jx hn rfl) ly27 (inb_vp c8) dX7_list_67 ?_
            refine R_mem hm9 ?_
            refine R_aload_n (pc := 68) hC 0 dX7_list_68 rfl rfl ?_
            refine gf_X7_27 (pc := 69) hC hn dX7_list_69 ?_
            refine R_aload_n (pc := 72) hC 0 dX7_list_72 rfl rfl ?_
            refine gf_X7_19 (pc := 73) hC hn dX7_list_73 ?_
            refine R_aload_n (pc := 76) hC 0 dX7_list_76 rfl rfl ?_
            refine gf_X7_9 (pc := 77) hC hn dX7_list_77 ?_
            refine R_iload_n (pc := 80) hC 2 dX7_list_80 rfl rfl ?_
            obtain ⟨x10, hx10, hg⟩ := bind_some hg
            refine R_callVN (pc := 81) (av := [.int y4]) (rest := [.int (m9.1 26 2), .ref 28]) hC hR 1 (jx hn rfl) ly1 rfl mf_X6_worthOf wm_X7_53 (LX6_worthOf hn isv1 hx10) rfl rfl rfl (Nat.le_of_ble_eq_true rfl) dX7_list_81 rfl ?_
            show RX K 84 [(0, .ref 26), (1, .int x3), (2, .int y4)] [.int x10, .int (m9.1 26 2), .ref 28] m9
            obtain ⟨c11, hg⟩ := chk_some hg
            obtain ⟨m12, hm12, hg⟩ := lete_some hg
            refine R_iastore (pc := 84) hC 28 (jx hn rfl) ly28 (inb_vp c11) dX7_list_84 ?_
            refine R_mem hm12 ?_
            refine R_aload_n (pc := 85) hC 0 dX7_list_85 rfl rfl ?_
            refine R_dup (pc := 86) hC dX7_list_86 rfl ?_
            refine gf_X7_19 (pc := 87) hC hn dX7_list_87 ?_
            refine R_iconst (pc := 90) hC dX7_list_90 ki_1 ?_
            refine R_iadd (pc := 91) hC dX7_list_91 ?_
            obtain ⟨m13, hm13, hg⟩ := lete_some hg
            refine pf_X7_19 (pc := 92) hC hn dX7_list_92 ?_
            refine R_mem hm13 ?_
            refine R_iinc (pc := 95) hC 2 dX7_list_95 rfl (iv ki_1) hL rfl (show _ = [(2, .int (y4 + 1)), (0, .ref 26), (1, .int x3)] from rfl) ?_
            refine R_goto (tgt := 20) (pc := 98) hC dX7_list_98 (by decide) ?_
            refine R_pick [1, 2, 0] (ls' := [(0, .ref 26), (1, .int x3), (2, .int (y4 + 1))]) rfl ?_
            have h9 := kL20 _ (Option.some.inj hg).symm
            exact h9
  · show RX K 101 [(0, .ref 26), (1, .int x3), (2, .int e14.1)] [] e14.2
    have h9 := gxV hg
    exact R_return (pc := 101) hC dX7_list_101 h9
theorem dX7_worthWith_0 : decode cX7_worthWith 0 = .ok (.lconst 0, 1) := by decide +kernel
theorem dX7_worthWith_1 : decode cX7_worthWith 1 = .ok (.lstore_n 2, 1) := by decide +kernel
theorem dX7_worthWith_2 : decode cX7_worthWith 2 = .ok (.iconst 0, 1) := by decide +kernel
theorem dX7_worthWith_3 : decode cX7_worthWith 3 = .ok (.istore 4, 2) := by decide +kernel
theorem dX7_worthWith_5 : decode cX7_worthWith 5 = .ok (.iload 4, 2) := by decide +kernel
theorem dX7_worthWith_7 : decode cX7_worthWith 7 = .ok (.aload_n 0, 1) := by decide +kernel
theorem dX7_worthWith_8 : decode cX7_worthWith 8 = .ok (.getfield 19, 3) := by decide +kernel
theorem dX7_worthWith_11 : decode cX7_worthWith 11 = .ok (.if_icmp .ge 41, 3) := by decide +kernel
theorem dX7_worthWith_14 : decode cX7_worthWith 14 = .ok (.iload 4, 2) := by decide +kernel
theorem dX7_worthWith_16 : decode cX7_worthWith 16 = .ok (.sipush 252, 3) := by decide +kernel
theorem dX7_worthWith_19 : decode cX7_worthWith 19 = .ok (.if_icmp .ge 33, 3) := by decide +kernel
theorem dX7_worthWith_22 : decode cX7_worthWith 22 = .ok (.aload_n 0, 1) := by decide +kernel
theorem dX7_worthWith_23 : decode cX7_worthWith 23 = .ok (.getfield 23, 3) := by decide +kernel
theorem dX7_worthWith_26 : decode cX7_worthWith 26 = .ok (.iload 4, 2) := by decide +kernel
theorem dX7_worthWith_28 : decode cX7_worthWith 28 = .ok (.iaload, 1) := by decide +kernel
theorem dX7_worthWith_29 : decode cX7_worthWith 29 = .ok (.iload_n 1, 1) := by decide +kernel
theorem dX7_worthWith_30 : decode cX7_worthWith 30 = .ok (.iand, 1) := by decide +kernel
theorem dX7_worthWith_31 : decode cX7_worthWith 31 = .ok (.iload_n 1, 1) := by decide +kernel
theorem dX7_worthWith_32 : decode cX7_worthWith 32 = .ok (.if_icmp .ne 14, 3) := by decide +kernel
theorem dX7_worthWith_35 : decode cX7_worthWith 35 = .ok (.lload_n 2, 1) := by decide +kernel
theorem dX7_worthWith_36 : decode cX7_worthWith 36 = .ok (.aload_n 0, 1) := by decide +kernel
theorem dX7_worthWith_37 : decode cX7_worthWith 37 = .ok (.getfield 27, 3) := by decide +kernel
theorem dX7_worthWith_40 : decode cX7_worthWith 40 = .ok (.iload 4, 2) := by decide +kernel
theorem dX7_worthWith_42 : decode cX7_worthWith 42 = .ok (.iaload, 1) := by decide +kernel
theorem dX7_worthWith_43 : decode cX7_worthWith 43 = .ok (.i2l, 1) := by decide +kernel
theorem dX7_worthWith_44 : decode cX7_worthWith 44 = .ok (.ladd, 1) := by decide +kernel
theorem dX7_worthWith_45 : decode cX7_worthWith 45 = .ok (.lstore_n 2, 1) := by decide +kernel
theorem dX7_worthWith_46 : decode cX7_worthWith 46 = .ok (.iinc 4 1, 3) := by decide +kernel
theorem dX7_worthWith_49 : decode cX7_worthWith 49 = .ok (.goto (-44), 3) := by decide +kernel
theorem dX7_worthWith_52 : decode cX7_worthWith 52 = .ok (.lload_n 2, 1) := by decide +kernel
theorem dX7_worthWith_53 : decode cX7_worthWith 53 = .ok (.lreturn, 1) := by decide +kernel
def bX7_worthWith_5 (m : Mem) (a1 : Int32) : (Int64 × Int32) → Option ((Int64 × Int32) ⊕ (Int64 × Int32))
  | (y1, y2) => (if (m.1 26 2) ≤ y2 then some (.inr (y1, y2)) else (if 252 ≤ y2 then some (.inr (y1, y2)) else chk (inb y2 252) ((if ((m.1 27 (Int32.toNatClampNeg y2)) &&& a1) = a1 then chk (inb y2 252) (lete (y1 + ((m.1 28 (Int32.toNatClampNeg y2)).toInt64)) (fun x5 => some (.inl (x5, y2 + 1)))) else some (.inl (y1, y2 + 1))))))
def gX7_worthWith (F : Nat) (m : Mem) (a1 : Int32) : Option (Int64) := (iter F (bX7_worthWith_5 m a1) (0, 0)).bind (fun e6 => some e6.1)
set_option maxHeartbeats 4000000 in
set_option maxRecDepth 20000 in
theorem LX7_worthWith {n : Nat} {F : Nat} {m : Mem} {a1 : Int32} {r : Int64} (hn : 43 ≤ n) (hg : gX7_worthWith F m a1 = some r) : MX yX7_worthWith cX7_worthWith 5 (some .long) { frames := 0, cells := 0, slots := 0, locals := 0 } n [.ref 26, .int a1] m (some (.long r)) m := by
  refine MX_of (by decide) (Nat.le_of_ble_eq_true rfl) (Or.inr (Or.inr (Or.inl ⟨rfl, _, rfl⟩))) (fun K hC hk hL hR => ?_)
  replace hn : 43 ≤ kn K := hk.symm ▸ hn
  show RX K 0 [(0, .ref 26), (1, .int a1)] [] m
  rw [gX7_worthWith] at hg
  refine R_lconst (pc := 0) hC dX7_worthWith_0 kl_0 ?_
  refine R_lstore_n (pc := 1) hC dX7_worthWith_1 rfl hL rfl (show _ = [(2, .long 0), (0, .ref 26), (1, .int a1)] from rfl) ?_
  refine R_iconst (pc := 2) hC dX7_worthWith_2 ki_0 ?_
  refine R_istore (pc := 3) hC dX7_worthWith_3 hL rfl (show _ = [(4, .int 0), (2, .long 0), (0, .ref 26), (1, .int a1)] from rfl) ?_
  refine R_pick [2, 3, 1, 0] (ls' := [(0, .ref 26), (1, .int a1), (2, .long 0), (4, .int 0)]) rfl ?_
  obtain ⟨e6, he6, hg⟩ := bind_some hg
  refine iter_walk (P := fun s : (Int64 × Int32) => RX K 5 [(0, .ref 26), (1, .int a1), (2, .long s.1), (4, .int s.2)] [] m) (Qe := fun s : (Int64 × Int32) => RX K 52 [(0, .ref 26), (1, .int a1), (2, .long s.1), (4, .int s.2)] [] m) (fun s7 o hg kL5 kE5 => ?_) _ _ _ he6 ?_
  · obtain ⟨y1, y2⟩ := s7
    rw [bX7_worthWith_5] at hg
    show RX K 5 [(0, .ref 26), (1, .int a1), (2, .long y1), (4, .int y2)] [] m
    refine R_iload (pc := 5) hC 3 dX7_worthWith_5 rfl ?_
    refine R_aload_n (pc := 7) hC 0 dX7_worthWith_7 rfl rfl ?_
    refine gf_X7_19 (pc := 8) hC hn dX7_worthWith_8 ?_
    refine R_icmp_ge (tgt := 52) (pc := 11) hC dX7_worthWith_11 (by decide) (fun c => ?_) (fun c => ?_)
    · replace hg := (if_pos c).symm.trans hg
      refine R_pick [0, 1, 2, 3] (ls' := [(0, .ref 26), (1, .int a1), (2, .long y1), (4, .int y2)]) rfl ?_
      have h9 := kE5 _ (Option.some.inj hg).symm
      exact h9
    · replace hg := (if_neg c).symm.trans hg
      refine R_iload (pc := 14) hC 3 dX7_worthWith_14 rfl ?_
      refine R_sipush (pc := 16) hC dX7_worthWith_16 ks_252 ?_
      refine R_icmp_ge (tgt := 52) (pc := 19) hC dX7_worthWith_19 (by decide) (fun c => ?_) (fun c => ?_)
      · replace hg := (if_pos c).symm.trans hg
        refine R_pick [0, 1, 2, 3] (ls' := [(0, .ref 26), (1, .int a1), (2, .long y1), (4, .int y2)]) rfl ?_
        have h9 := kE5 _ (Option.some.inj hg).symm
        exact h9
      · replace hg := (if_neg c).symm.trans hg
        refine R_aload_n (pc := 22) hC 0 dX7_worthWith_22 rfl rfl ?_
        refine gf_X7_23 (pc := 23) hC hn dX7_worthWith_23 ?_
        refine R_iload (pc := 26) hC 3 dX7_worthWith_26 rfl ?_
        obtain ⟨c3, hg⟩ := chk_some hg
        refine R_iaload (pc := 28) hC 27 (jx hn rfl) ly27 (inb_vp c3) dX7_worthWith_28 ?_
        refine R_iload_n (pc := 29) hC 1 dX7_worthWith_29 rfl rfl ?_
        refine R_iand (pc := 30) hC dX7_worthWith_30 ?_
        refine R_iload_n (pc := 31) hC 1 dX7_worthWith_31 rfl rfl ?_
        refine R_icmp_ne (tgt := 46) (pc := 32) hC dX7_worthWith_32 (by decide) (fun c => ?_) (fun c => ?_)
        · replace hg := (if_neg c).symm.trans hg
          refine R_iinc (pc := 46) hC 3 dX7_worthWith_46 rfl (iv ki_1) hL rfl (show _ = [(4, .int (y2 + 1)), (0, .ref 26), (1, .int a1), (2, .long y1)] from rfl) ?_
          refine R_goto (tgt := 5) (pc := 49) hC dX7_worthWith_49 (by decide) ?_
          refine R_pick [1, 2, 3, 0] (ls' := [(0, .ref 26), (1, .int a1), (2, .long y1), (4, .int (y2 + 1))]) rfl ?_
          have h9 := kL5 _ (Option.some.inj hg).symm
          exact h9
        · replace hg := (if_pos c).symm.trans hg
          refine R_lload_n (pc := 35) hC 2 dX7_worthWith_35 rfl rfl ?_
          refine R_aload_n (pc := 36) hC 0 dX7_worthWith_36 rfl rfl ?_
          refine gf_X7_27 (pc := 37) hC hn dX7_worthWith_37 ?_
          refine R_iload (pc := 40) hC 3 dX7_worthWith_40 rfl ?_
          obtain ⟨c4, hg⟩ := chk_some hg
          refine R_iaload (pc := 42) hC 28 (jx hn rfl) ly28 (inb_vp c4) dX7_worthWith_42 ?_
          refine R_i2l (pc := 43) hC dX7_worthWith_43 ?_
          refine R_ladd (pc := 44) hC dX7_worthWith_44 ?_
          obtain ⟨x5, hx5, hg⟩ := lete_some hg
          refine R_topL hx5 ?_
          refine R_lstore_n (pc := 45) hC dX7_worthWith_45 rfl hL rfl (show _ = [(2, .long x5), (0, .ref 26), (1, .int a1), (4, .int y2)] from rfl) ?_
          refine R_iinc (pc := 46) hC 3 dX7_worthWith_46 rfl (iv ki_1) hL rfl (show _ = [(4, .int (y2 + 1)), (2, .long x5), (0, .ref 26), (1, .int a1)] from rfl) ?_
          refine R_goto (tgt := 5) (pc := 49) hC dX7_worthWith_49 (by decide) ?_
          refine R_pick [2, 3, 1, 0] (ls' := [(0, .ref 26), (1, .int a1), (2, .long x5), (4, .int (y2 + 1))]) rfl ?_
          have h9 := kL5 _ (Option.some.inj hg).symm
          exact h9
  · show RX K 52 [(0, .ref 26), (1, .int a1), (2, .long e6.1), (4, .int e6.2)] [] m
    refine R_lload_n (pc := 52) hC 2 dX7_worthWith_52 rfl rfl ?_
    have h9 := gxJ (m := m) hg
    exact R_lreturn (pc := 53) hC dX7_worthWith_53 h9
theorem dX7_lanesInAll_0 : decode cX7_lanesInAll 0 = .ok (.aload_n 0, 1) := by decide +kernel
theorem dX7_lanesInAll_1 : decode cX7_lanesInAll 1 = .ok (.getfield 19, 3) := by decide +kernel
theorem dX7_lanesInAll_4 : decode cX7_lanesInAll 4 = .ok (.ifCond .ne 7, 3) := by decide +kernel
theorem dX7_lanesInAll_7 : decode cX7_lanesInAll 7 = .ok (.iconst 0, 1) := by decide +kernel
theorem dX7_lanesInAll_8 : decode cX7_lanesInAll 8 = .ok (.goto 10, 3) := by decide +kernel
theorem dX7_lanesInAll_11 : decode cX7_lanesInAll 11 = .ok (.aload_n 0, 1) := by decide +kernel
theorem dX7_lanesInAll_12 : decode cX7_lanesInAll 12 = .ok (.getfield 9, 3) := by decide +kernel
theorem dX7_lanesInAll_15 : decode cX7_lanesInAll 15 = .ok (.invokevirtual 60, 3) := by decide +kernel
theorem dX7_lanesInAll_18 : decode cX7_lanesInAll 18 = .ok (.istore_n 1, 1) := by decide +kernel
theorem dX7_lanesInAll_19 : decode cX7_lanesInAll 19 = .ok (.iconst 0, 1) := by decide +kernel
theorem dX7_lanesInAll_20 : decode cX7_lanesInAll 20 = .ok (.istore_n 2, 1) := by decide +kernel
theorem dX7_lanesInAll_21 : decode cX7_lanesInAll 21 = .ok (.iload_n 2, 1) := by decide +kernel
theorem dX7_lanesInAll_22 : decode cX7_lanesInAll 22 = .ok (.aload_n 0, 1) := by decide +kernel
theorem dX7_lanesInAll_23 : decode cX7_lanesInAll 23 = .ok (.getfield 19, 3) := by decide +kernel
theorem dX7_lanesInAll_26 : decode cX7_lanesInAll 26 = .ok (.if_icmp .ge 25, 3) := by decide +kernel
theorem dX7_lanesInAll_29 : decode cX7_lanesInAll 29 = .ok (.iload_n 2, 1) := by decide +kernel
theorem dX7_lanesInAll_30 : decode cX7_lanesInAll 30 = .ok (.sipush 252, 3) := by decide +kernel
theorem dX7_lanesInAll_33 : decode cX7_lanesInAll 33 = .ok (.if_icmp .ge 18, 3) := by decide +kernel
theorem dX7_lanesInAll_36 : decode cX7_lanesInAll 36 = .ok (.iload_n 1, 1) := by decide +kernel
theorem dX7_lanesInAll_37 : decode cX7_lanesInAll 37 = .ok (.aload_n 0, 1) := by decide +kernel
theorem dX7_lanesInAll_38 : decode cX7_lanesInAll 38 = .ok (.getfield 23, 3) := by decide +kernel
theorem dX7_lanesInAll_41 : decode cX7_lanesInAll 41 = .ok (.iload_n 2, 1) := by decide +kernel
theorem dX7_lanesInAll_42 : decode cX7_lanesInAll 42 = .ok (.iaload, 1) := by decide +kernel
theorem dX7_lanesInAll_43 : decode cX7_lanesInAll 43 = .ok (.iand, 1) := by decide +kernel
theorem dX7_lanesInAll_44 : decode cX7_lanesInAll 44 = .ok (.istore_n 1, 1) := by decide +kernel
theorem dX7_lanesInAll_45 : decode cX7_lanesInAll 45 = .ok (.iinc 2 1, 3) := by decide +kernel
theorem dX7_lanesInAll_48 : decode cX7_lanesInAll 48 = .ok (.goto (-27), 3) := by decide +kernel
theorem dX7_lanesInAll_51 : decode cX7_lanesInAll 51 = .ok (.iload_n 1, 1) := by decide +kernel
theorem dX7_lanesInAll_52 : decode cX7_lanesInAll 52 = .ok (.ireturn, 1) := by decide +kernel
def bX7_lanesInAll_21 (m : Mem) : (Int32 × Int32) → Option ((Int32 × Int32) ⊕ (Int32 × Int32))
  | (y2, y3) => (if (m.1 26 2) ≤ y3 then some (.inr (y2, y3)) else (if 252 ≤ y3 then some (.inr (y2, y3)) else chk (inb y3 252) (lete (y2 &&& (m.1 27 (Int32.toNatClampNeg y3))) (fun x5 => some (.inl (x5, y3 + 1))))))
def bX7_lanesInAll_21_11 (m : Mem) : (Int32 × Int32) → Option ((Int32 × Int32) ⊕ (Int32 × Int32))
  | (y8, y9) => (if (m.1 26 2) ≤ y9 then some (.inr (y8, y9)) else (if 252 ≤ y9 then some (.inr (y8, y9)) else chk (inb y9 252) (lete (y8 &&& (m.1 27 (Int32.toNatClampNeg y9))) (fun x11 => some (.inl (x11, y9 + 1))))))
def gX7_lanesInAll (F : Nat) (m : Mem) : Option (Int32) := (if (m.1 26 2) = 0 then (iter F (bX7_lanesInAll_21_11 m) (0, 0)).bind (fun e12 => some e12.1) else (gX6_allLanes m 1).bind (fun x1 => (iter F (bX7_lanesInAll_21 m) (x1, 0)).bind (fun e6 => some e6.1)))
set_option maxHeartbeats 4000000 in
set_option maxRecDepth 20000 in
theorem LX7_lanesInAll {n : Nat} {F : Nat} {m : Mem} {r : Int32} (hn : 43 ≤ n) (hg : gX7_lanesInAll F m  = some r) : MX yX7_lanesInAll cX7_lanesInAll 3 (some .int) { frames := 1, cells := 0, slots := 0, locals := 20 } n [.ref 26] m (some (.int r)) m := by
  refine MX_of (by decide) (Nat.le_of_ble_eq_true rfl) (Or.inr (Or.inl ⟨rfl, _, rfl⟩)) (fun K hC hk hL hR => ?_)
  replace hn : 43 ≤ kn K := hk.symm ▸ hn
  show RX K 0 [(0, .ref 26)] [] m
  rw [gX7_lanesInAll] at hg
  refine R_aload_n (pc := 0) hC 0 dX7_lanesInAll_0 rfl rfl ?_
  refine gf_X7_19 (pc := 1) hC hn dX7_lanesInAll_1 ?_
  refine R_if_ne (tgt := 11) (pc := 4) hC dX7_lanesInAll_4 (by decide) (fun c => ?_) (fun c => ?_)
  · replace hg := (if_neg c).symm.trans hg
    refine R_aload_n (pc := 11) hC 0 dX7_lanesInAll_11 rfl rfl ?_
    refine gf_X7_9 (pc := 12) hC hn dX7_lanesInAll_12 ?_
    obtain ⟨x1, hx1, hg⟩ := bind_some hg
    refine R_callVN (pc := 15) (av := []) (rest := []) hC hR 1 (jx hn rfl) ly1 rfl mf_X6_allLanes wm_X7_60 (LX6_allLanes hn isv1 hx1) rfl rfl rfl (Nat.le_of_ble_eq_true rfl) dX7_lanesInAll_15 rfl ?_
    show RX K 18 [(0, .ref 26)] [.int x1] m
    refine R_istore_n (pc := 18) hC dX7_lanesInAll_18 rfl hL rfl (show _ = [(1, .int x1), (0, .ref 26)] from rfl) ?_
    refine R_iconst (pc := 19) hC dX7_lanesInAll_19 ki_0 ?_
    refine R_istore_n (pc := 20) hC dX7_lanesInAll_20 rfl hL rfl (show _ = [(2, .int 0), (1, .int x1), (0, .ref 26)] from rfl) ?_
    refine R_pick [2, 1, 0] (ls' := [(0, .ref 26), (1, .int x1), (2, .int 0)]) rfl ?_
    obtain ⟨e6, he6, hg⟩ := bind_some hg
    refine iter_walk (P := fun s : (Int32 × Int32) => RX K 21 [(0, .ref 26), (1, .int s.1), (2, .int s.2)] [] m) (Qe := fun s : (Int32 × Int32) => RX K 51 [(0, .ref 26), (1, .int s.1), (2, .int s.2)] [] m) (fun s7 o hg kL21 kE21 => ?_) _ _ _ he6 ?_
    · obtain ⟨y2, y3⟩ := s7
      rw [bX7_lanesInAll_21] at hg
      show RX K 21 [(0, .ref 26), (1, .int y2), (2, .int y3)] [] m
      refine R_iload_n (pc := 21) hC 2 dX7_lanesInAll_21 rfl rfl ?_
      refine R_aload_n (pc := 22) hC 0 dX7_lanesInAll_22 rfl rfl ?_
      refine gf_X7_19 (pc := 23) hC hn dX7_lanesInAll_23 ?_
      refine R_icmp_ge (tgt := 51) (pc := 26) hC dX7_lanesInAll_26 (by decide) (fun c => ?_) (fun c => ?_)
      · replace hg := (if_pos c).symm.trans hg
        refine R_pick [0, 1, 2] (ls' := [(0, .ref 26), (1, .int y2), (2, .int y3)]) rfl ?_
        have h9 := kE21 _ (Option.some.inj hg).symm
        exact h9
      · replace hg := (if_neg c).symm.trans hg
        refine R_iload_n (pc := 29) hC 2 dX7_lanesInAll_29 rfl rfl ?_
        refine R_sipush (pc := 30) hC dX7_lanesInAll_30 ks_252 ?_
        refine R_icmp_ge (tgt := 51) (pc := 33) hC dX7_lanesInAll_33 (by decide) (fun c => ?_) (fun c => ?_)
        · replace hg := (if_pos c).symm.trans hg
          refine R_pick [0, 1, 2] (ls' := [(0, .ref 26), (1, .int y2), (2, .int y3)]) rfl ?_
          have h9 := kE21 _ (Option.some.inj hg).symm
          exact h9
        · replace hg := (if_neg c).symm.trans hg
          refine R_iload_n (pc := 36) hC 1 dX7_lanesInAll_36 rfl rfl ?_
          refine R_aload_n (pc := 37) hC 0 dX7_lanesInAll_37 rfl rfl ?_
          refine gf_X7_23 (pc := 38) hC hn dX7_lanesInAll_38 ?_
          refine R_iload_n (pc := 41) hC 2 dX7_lanesInAll_41 rfl rfl ?_
          obtain ⟨c4, hg⟩ := chk_some hg
          refine R_iaload (pc := 42) hC 27 (jx hn rfl) ly27 (inb_vp c4) dX7_lanesInAll_42 ?_
          refine R_iand (pc := 43) hC dX7_lanesInAll_43 ?_
          obtain ⟨x5, hx5, hg⟩ := lete_some hg
          refine R_top hx5 ?_
          refine R_istore_n (pc := 44) hC dX7_lanesInAll_44 rfl hL rfl (show _ = [(1, .int x5), (0, .ref 26), (2, .int y3)] from rfl) ?_
          refine R_iinc (pc := 45) hC 2 dX7_lanesInAll_45 rfl (iv ki_1) hL rfl (show _ = [(2, .int (y3 + 1)), (1, .int x5), (0, .ref 26)] from rfl) ?_
          refine R_goto (tgt := 21) (pc := 48) hC dX7_lanesInAll_48 (by decide) ?_
          refine R_pick [2, 1, 0] (ls' := [(0, .ref 26), (1, .int x5), (2, .int (y3 + 1))]) rfl ?_
          have h9 := kL21 _ (Option.some.inj hg).symm
          exact h9
    · show RX K 51 [(0, .ref 26), (1, .int e6.1), (2, .int e6.2)] [] m
      refine R_iload_n (pc := 51) hC 1 dX7_lanesInAll_51 rfl rfl ?_
      have h9 := gxI (m := m) hg
      exact R_ireturn (pc := 52) hC dX7_lanesInAll_52 h9
  · replace hg := (if_pos c).symm.trans hg
    refine R_iconst (pc := 7) hC dX7_lanesInAll_7 ki_0 ?_
    refine R_goto (tgt := 18) (pc := 8) hC dX7_lanesInAll_8 (by decide) ?_
    refine R_istore_n (pc := 18) hC dX7_lanesInAll_18 rfl hL rfl (show _ = [(1, .int 0), (0, .ref 26)] from rfl) ?_
    refine R_iconst (pc := 19) hC dX7_lanesInAll_19 ki_0 ?_
    refine R_istore_n (pc := 20) hC dX7_lanesInAll_20 rfl hL rfl (show _ = [(2, .int 0), (1, .int 0), (0, .ref 26)] from rfl) ?_
    refine R_pick [2, 1, 0] (ls' := [(0, .ref 26), (1, .int 0), (2, .int 0)]) rfl ?_
    obtain ⟨e12, he12, hg⟩ := bind_some hg
    refine iter_walk (P := fun s : (Int32 × Int32) => RX K 21 [(0, .ref 26), (1, .int s.1), (2, .int s.2)] [] m) (Qe := fun s : (Int32 × Int32) => RX K 51 [(0, .ref 26), (1, .int s.1), (2, .int s.2)] [] m) (fun s13 o hg kL21 kE21 => ?_) _ _ _ he12 ?_
    · obtain ⟨y8, y9⟩ := s13
      rw [bX7_lanesInAll_21_11] at hg
      show RX K 21 [(0, .ref 26), (1, .int y8), (2, .int y9)] [] m
      refine R_iload_n (pc := 21) hC 2 dX7_lanesInAll_21 rfl rfl ?_
      refine R_aload_n (pc := 22) hC 0 dX7_lanesInAll_22 rfl rfl ?_
      refine gf_X7_19 (pc := 23) hC hn dX7_lanesInAll_23 ?_
      refine R_icmp_ge (tgt := 51) (pc := 26) hC dX7_lanesInAll_26 (by decide) (fun c => ?_) (fun c => ?_)
      · replace hg := (if_pos c).symm.trans hg
        refine R_pick [0, 1, 2] (ls' := [(0, .ref 26), (1, .int y8), (2, .int y9)]) rfl ?_
        have h9 := kE21 _ (Option.some.inj hg).symm
        exact h9
      · replace hg := (if_neg c).symm.trans hg
        refine R_iload_n (pc := 29) hC 2 dX7_lanesInAll_29 rfl rfl ?_
        refine R_sipush (pc := 30) hC dX7_lanesInAll_30 ks_252 ?_
        refine R_icmp_ge (tgt := 51) (pc := 33) hC dX7_lanesInAll_33 (by decide) (fun c => ?_) (fun c => ?_)
        · replace hg := (if_pos c).symm.trans hg
          refine R_pick [0, 1, 2] (ls' := [(0, .ref 26), (1, .int y8), (2, .int y9)]) rfl ?_
          have h9 := kE21 _ (Option.some.inj hg).symm
          exact h9
        · replace hg := (if_neg c).symm.trans hg
          refine R_iload_n (pc := 36) hC 1 dX7_lanesInAll_36 rfl rfl ?_
          refine R_aload_n (pc := 37) hC 0 dX7_lanesInAll_37 rfl rfl ?_
          refine gf_X7_23 (pc := 38) hC hn dX7_lanesInAll_38 ?_
          refine R_iload_n (pc := 41) hC 2 dX7_lanesInAll_41 rfl rfl ?_
          obtain ⟨c10, hg⟩ := chk_some hg
          refine R_iaload (pc := 42) hC 27 (jx hn rfl) ly27 (inb_vp c10) dX7_lanesInAll_42 ?_
          refine R_iand (pc := 43) hC dX7_lanesInAll_43 ?_
          obtain ⟨x11, hx11, hg⟩ := lete_some hg
          refine R_top hx11 ?_
          refine R_istore_n (pc := 44) hC dX7_lanesInAll_44 rfl hL rfl (show _ = [(1, .int x11), (0, .ref 26), (2, .int y9)] from rfl) ?_
          refine R_iinc (pc := 45) hC 2 dX7_lanesInAll_45 rfl (iv ki_1) hL rfl (show _ = [(2, .int (y9 + 1)), (1, .int x11), (0, .ref 26)] from rfl) ?_
          refine R_goto (tgt := 21) (pc := 48) hC dX7_lanesInAll_48 (by decide) ?_
          refine R_pick [2, 1, 0] (ls' := [(0, .ref 26), (1, .int x11), (2, .int (y9 + 1))]) rfl ?_
          have h9 := kL21 _ (Option.some.inj hg).symm
          exact h9
    · show RX K 51 [(0, .ref 26), (1, .int e12.1), (2, .int e12.2)] [] m
      refine R_iload_n (pc := 51) hC 1 dX7_lanesInAll_51 rfl rfl ?_
      have h9 := gxI (m := m) hg
      exact R_ireturn (pc := 52) hC dX7_lanesInAll_52 h9
theorem dX7_lanesInNone_0 : decode cX7_lanesInNone 0 = .ok (.aload_n 0, 1) := by decide +kernel
theorem dX7_lanesInNone_1 : decode cX7_lanesInNone 1 = .ok (.getfield 9, 3) := by decide +kernel
theorem dX7_lanesInNone_4 : decode cX7_lanesInNone 4 = .ok (.invokevirtual 60, 3) := by decide +kernel
theorem dX7_lanesInNone_7 : decode cX7_lanesInNone 7 = .ok (.istore_n 1, 1) := by decide +kernel
theorem dX7_lanesInNone_8 : decode cX7_lanesInNone 8 = .ok (.iconst 0, 1) := by decide +kernel
theorem dX7_lanesInNone_9 : decode cX7_lanesInNone 9 = .ok (.istore_n 2, 1) := by decide +kernel
theorem dX7_lanesInNone_10 : decode cX7_lanesInNone 10 = .ok (.iload_n 2, 1) := by decide +kernel
theorem dX7_lanesInNone_11 : decode cX7_lanesInNone 11 = .ok (.aload_n 0, 1) := by decide +kernel
theorem dX7_lanesInNone_12 : decode cX7_lanesInNone 12 = .ok (.getfield 19, 3) := by decide +kernel
theorem dX7_lanesInNone_15 : decode cX7_lanesInNone 15 = .ok (.if_icmp .ge 27, 3) := by decide +kernel
theorem dX7_lanesInNone_18 : decode cX7_lanesInNone 18 = .ok (.iload_n 2, 1) := by decide +kernel
theorem dX7_lanesInNone_19 : decode cX7_lanesInNone 19 = .ok (.sipush 252, 3) := by decide +kernel
theorem dX7_lanesInNone_22 : decode cX7_lanesInNone 22 = .ok (.if_icmp .ge 20, 3) := by decide +kernel
theorem dX7_lanesInNone_25 : decode cX7_lanesInNone 25 = .ok (.iload_n 1, 1) := by decide +kernel
theorem dX7_lanesInNone_26 : decode cX7_lanesInNone 26 = .ok (.aload_n 0, 1) := by decide +kernel
theorem dX7_lanesInNone_27 : decode cX7_lanesInNone 27 = .ok (.getfield 23, 3) := by decide +kernel
theorem dX7_lanesInNone_30 : decode cX7_lanesInNone 30 = .ok (.iload_n 2, 1) := by decide +kernel
theorem dX7_lanesInNone_31 : decode cX7_lanesInNone 31 = .ok (.iaload, 1) := by decide +kernel
theorem dX7_lanesInNone_32 : decode cX7_lanesInNone 32 = .ok (.iconst (-1), 1) := by decide +kernel
theorem dX7_lanesInNone_33 : decode cX7_lanesInNone 33 = .ok (.ixor, 1) := by decide +kernel
theorem dX7_lanesInNone_34 : decode cX7_lanesInNone 34 = .ok (.iand, 1) := by decide +kernel
theorem dX7_lanesInNone_35 : decode cX7_lanesInNone 35 = .ok (.istore_n 1, 1) := by decide +kernel
theorem dX7_lanesInNone_36 : decode cX7_lanesInNone 36 = .ok (.iinc 2 1, 3) := by decide +kernel
theorem dX7_lanesInNone_39 : decode cX7_lanesInNone 39 = .ok (.goto (-29), 3) := by decide +kernel
theorem dX7_lanesInNone_42 : decode cX7_lanesInNone 42 = .ok (.iload_n 1, 1) := by decide +kernel
theorem dX7_lanesInNone_43 : decode cX7_lanesInNone 43 = .ok (.ireturn, 1) := by decide +kernel
def bX7_lanesInNone_10 (m : Mem) : (Int32 × Int32) → Option ((Int32 × Int32) ⊕ (Int32 × Int32))
  | (y2, y3) => (if (m.1 26 2) ≤ y3 then some (.inr (y2, y3)) else (if 252 ≤ y3 then some (.inr (y2, y3)) else chk (inb y3 252) (lete (y2 &&& ((m.1 27 (Int32.toNatClampNeg y3)) ^^^ (-1))) (fun x5 => some (.inl (x5, y3 + 1))))))
def gX7_lanesInNone (F : Nat) (m : Mem) : Option (Int32) := (gX6_allLanes m 1).bind (fun x1 => (iter F (bX7_lanesInNone_10 m) (x1, 0)).bind (fun e6 => some e6.1))
set_option maxHeartbeats 4000000 in
set_option maxRecDepth 20000 in
theorem LX7_lanesInNone {n : Nat} {F : Nat} {m : Mem} {r : Int32} (hn : 43 ≤ n) (hg : gX7_lanesInNone F m  = some r) : MX yX7_lanesInNone cX7_lanesInNone 3 (some .int) { frames := 1, cells := 0, slots := 0, locals := 20 } n [.ref 26] m (some (.int r)) m := by
  refine MX_of (by decide) (Nat.le_of_ble_eq_true rfl) (Or.inr (Or.inl ⟨rfl, _, rfl⟩)) (fun K hC hk hL hR => ?_)
  replace hn : 43 ≤ kn K := hk.symm ▸ hn
  show RX K 0 [(0, .ref 26)] [] m
  rw [gX7_lanesInNone] at hg
  refine R_aload_n (pc := 0) hC 0 dX7_lanesInNone_0 rfl rfl ?_
  refine gf_X7_9 (pc := 1) hC hn dX7_lanesInNone_1 ?_
  obtain ⟨x1, hx1, hg⟩ := bind_some hg
  refine R_callVN (pc := 4) (av := []) (rest := []) hC hR 1 (jx hn rfl) ly1 rfl mf_X6_allLanes wm_X7_60 (LX6_allLanes hn isv1 hx1) rfl rfl rfl (Nat.le_of_ble_eq_true rfl) dX7_lanesInNone_4 rfl ?_
  show RX K 7 [(0, .ref 26)] [.int x1] m
  refine R_istore_n (pc := 7) hC dX7_lanesInNone_7 rfl hL rfl (show _ = [(1, .int x1), (0, .ref 26)] from rfl) ?_
  refine R_iconst (pc := 8) hC dX7_lanesInNone_8 ki_0 ?_
  refine R_istore_n (pc := 9) hC dX7_lanesInNone_9 rfl hL rfl (show _ = [(2, .int 0), (1, .int x1), (0, .ref 26)] from rfl) ?_
  refine R_pick [2, 1, 0] (ls' := [(0, .ref 26), (1, .int x1), (2, .int 0)]) rfl ?_
  obtain ⟨e6, he6, hg⟩ := bind_some hg
  refine iter_walk (P := fun s : (Int32 × Int32) => RX K 10 [(0, .ref 26), (1, .int s.1), (2, .int s.2)] [] m) (Qe := fun s : (Int32 × Int32) => RX K 42 [(0, .ref 26), (1, .int s.1), (2, .int s.2)] [] m) (fun s7 o hg kL10 kE10 => ?_) _ _ _ he6 ?_
  · obtain ⟨y2, y3⟩ := s7
    rw [bX7_lanesInNone_10] at hg
    show RX K 10 [(0, .ref 26), (1, .int y2), (2, .int y3)] [] m
    refine R_iload_n (pc := 10) hC 2 dX7_lanesInNone_10 rfl rfl ?_
    refine R_aload_n (pc := 11) hC 0 dX7_lanesInNone_11 rfl rfl ?_
    refine gf_X7_19 (pc := 12) hC hn dX7_lanesInNone_12 ?_
    refine R_icmp_ge (tgt := 42) (pc := 15) hC dX7_lanesInNone_15 (by decide) (fun c => ?_) (fun c => ?_)
    · replace hg := (if_pos c).symm.trans hg
      refine R_pick [0, 1, 2] (ls' := [(0, .ref 26), (1, .int y2), (2, .int y3)]) rfl ?_
      have h9 := kE10 _ (Option.some.inj hg).symm
      exact h9
    · replace hg := (if_neg c).symm.trans hg
      refine R_iload_n (pc := 18) hC 2 dX7_lanesInNone_18 rfl rfl ?_
      refine R_sipush (pc := 19) hC dX7_lanesInNone_19 ks_252 ?_
      refine R_icmp_ge (tgt := 42) (pc := 22) hC dX7_lanesInNone_22 (by decide) (fun c => ?_) (fun c => ?_)
      · replace hg := (if_pos c).symm.trans hg
        refine R_pick [0, 1, 2] (ls' := [(0, .ref 26), (1, .int y2), (2, .int y3)]) rfl ?_
        have h9 := kE10 _ (Option.some.inj hg).symm
        exact h9
      · replace hg := (if_neg c).symm.trans hg
        refine R_iload_n (pc := 25) hC 1 dX7_lanesInNone_25 rfl rfl ?_
        refine R_aload_n (pc := 26) hC 0 dX7_lanesInNone_26 rfl rfl ?_
        refine gf_X7_23 (pc := 27) hC hn dX7_lanesInNone_27 ?_
        refine R_iload_n (pc := 30) hC 2 dX7_lanesInNone_30 rfl rfl ?_
        obtain ⟨c4, hg⟩ := chk_some hg
        refine R_iaload (pc := 31) hC 27 (jx hn rfl) ly27 (inb_vp c4) dX7_lanesInNone_31 ?_
        refine R_iconst (pc := 32) hC dX7_lanesInNone_32 ki_m1 ?_
        refine R_ixor (pc := 33) hC dX7_lanesInNone_33 ?_
        refine R_iand (pc := 34) hC dX7_lanesInNone_34 ?_
        obtain ⟨x5, hx5, hg⟩ := lete_some hg
        refine R_top hx5 ?_
        refine R_istore_n (pc := 35) hC dX7_lanesInNone_35 rfl hL rfl (show _ = [(1, .int x5), (0, .ref 26), (2, .int y3)] from rfl) ?_
        refine R_iinc (pc := 36) hC 2 dX7_lanesInNone_36 rfl (iv ki_1) hL rfl (show _ = [(2, .int (y3 + 1)), (1, .int x5), (0, .ref 26)] from rfl) ?_
        refine R_goto (tgt := 10) (pc := 39) hC dX7_lanesInNone_39 (by decide) ?_
        refine R_pick [2, 1, 0] (ls' := [(0, .ref 26), (1, .int x5), (2, .int (y3 + 1))]) rfl ?_
        have h9 := kL10 _ (Option.some.inj hg).symm
        exact h9
  · show RX K 42 [(0, .ref 26), (1, .int e6.1), (2, .int e6.2)] [] m
    refine R_iload_n (pc := 42) hC 1 dX7_lanesInNone_42 rfl rfl ?_
    have h9 := gxI (m := m) hg
    exact R_ireturn (pc := 43) hC dX7_lanesInNone_43 h9
theorem dX7_costByCost_0 : decode cX7_costByCost 0 = .ok (.aload_n 0, 1) := by decide +kernel
theorem dX7_costByCost_1 : decode cX7_costByCost 1 = .ok (.invokevirtual 63, 3) := by decide +kernel
theorem dX7_costByCost_4 : decode cX7_costByCost 4 = .ok (.aload_n 0, 1) := by decide +kernel
theorem dX7_costByCost_5 : decode cX7_costByCost 5 = .ok (.iload_n 1, 1) := by decide +kernel
theorem dX7_costByCost_6 : decode cX7_costByCost 6 = .ok (.invokevirtual 57, 3) := by decide +kernel
theorem dX7_costByCost_9 : decode cX7_costByCost 9 = .ok (.ifCond .eq 16, 3) := by decide +kernel
theorem dX7_costByCost_12 : decode cX7_costByCost 12 = .ok (.aload_n 0, 1) := by decide +kernel
theorem dX7_costByCost_13 : decode cX7_costByCost 13 = .ok (.getfield 30, 3) := by decide +kernel
theorem dX7_costByCost_16 : decode cX7_costByCost 16 = .ok (.iload_n 1, 1) := by decide +kernel
theorem dX7_costByCost_17 : decode cX7_costByCost 17 = .ok (.iaload, 1) := by decide +kernel
theorem dX7_costByCost_18 : decode cX7_costByCost 18 = .ok (.sipush 1024, 3) := by decide +kernel
theorem dX7_costByCost_21 : decode cX7_costByCost 21 = .ok (.idiv, 1) := by decide +kernel
theorem dX7_costByCost_22 : decode cX7_costByCost 22 = .ok (.goto 5, 3) := by decide +kernel
theorem dX7_costByCost_25 : decode cX7_costByCost 25 = .ok (.bipush (-9), 2) := by decide +kernel
theorem dX7_costByCost_27 : decode cX7_costByCost 27 = .ok (.ireturn, 1) := by decide +kernel
def gX7_costByCost (F : Nat) (m : Mem) (a1 : Int32) : Option (Int32 × Mem) := (gX7_sortByCost F m).bind (fun q1 => (gX7_has q1 a1).bind (fun x2 => (if x2 = true then chk (inb a1 252) (some ((q1.1 29 (Int32.toNatClampNeg a1)) / 1024, q1)) else some ((-9), q1))))
set_option maxHeartbeats 4000000 in
set_option maxRecDepth 20000 in
theorem LX7_costByCost {n : Nat} {F : Nat} {m : Mem} {a1 : Int32} {r : Int32 × Mem} (hn : 43 ≤ n) (hg : gX7_costByCost F m a1 = some r) : MX yX7_costByCost cX7_costByCost 2 (some .int) { frames := 2, cells := 0, slots := 0, locals := 45 } n [.ref 26, .int a1] m (some (.int r.1)) r.2 := by
  refine MX_of (by decide) (Nat.le_of_ble_eq_true rfl) (Or.inr (Or.inl ⟨rfl, _, rfl⟩)) (fun K hC hk hL hR => ?_)
  replace hn : 43 ≤ kn K := hk.symm ▸ hn
  show RX K 0 [(0, .ref 26), (1, .int a1)] [] m
  rw [gX7_costByCost] at hg
  refine R_aload_n (pc := 0) hC 0 dX7_costByCost_0 rfl rfl ?_
  obtain ⟨q1, hq1, hg⟩ := bind_some hg
  refine R_callV (pc := 1) (av := []) (rest := []) hC hR 26 (jx hn rfl) ly26 rfl mf_X7_sortByCost wm_X7_63 (LX7_sortByCost hn hq1) rfl rfl rfl (Nat.le_of_ble_eq_true rfl) dX7_costByCost_1 rfl ?_
  show RX K 4 [(0, .ref 26), (1, .int a1)] [] q1
  refine R_aload_n (pc := 4) hC 0 dX7_costByCost_4 rfl rfl ?_
  refine R_iload_n (pc := 5) hC 1 dX7_costByCost_5 rfl rfl ?_
  obtain ⟨x2, hx2, hg⟩ := bind_some hg
  refine R_callV (pc := 6) (av := [.int a1]) (rest := []) hC hR 26 (jx hn rfl) ly26 rfl mf_X7_has wm_X7_57 (LX7_has hn hx2) rfl rfl rfl (Nat.le_of_ble_eq_true rfl) dX7_costByCost_6 rfl ?_
  show RX K 9 [(0, .ref 26), (1, .int a1)] [.int (b2i x2)] q1
  refine R_ifB_eq (tgt := 25) (pc := 9) hC dX7_costByCost_9 (by decide) (fun c => ?_) (fun c => ?_)
  · replace hg := (if_neg c).symm.trans hg
    refine R_bipush (pc := 25) hC dX7_costByCost_25 kb_m9 ?_
    have h9 := gxIM hg
    exact R_ireturn (pc := 27) hC dX7_costByCost_27 h9
  · replace hg := (if_pos c).symm.trans hg
    refine R_aload_n (pc := 12) hC 0 dX7_costByCost_12 rfl rfl ?_
    refine gf_X7_30 (pc := 13) hC hn dX7_costByCost_13 ?_
    refine R_iload_n (pc := 16) hC 1 dX7_costByCost_16 rfl rfl ?_
    obtain ⟨c3, hg⟩ := chk_some hg
    refine R_iaload (pc := 17) hC 29 (jx hn rfl) ly29 (inb_vp c3) dX7_costByCost_17 ?_
    refine R_sipush (pc := 18) hC dX7_costByCost_18 ks_1024 ?_
    refine R_idiv (pc := 21) hC dX7_costByCost_21 (by decide) ?_
    refine R_goto (tgt := 27) (pc := 22) hC dX7_costByCost_22 (by decide) ?_
    have h9 := gxIM hg
    exact R_ireturn (pc := 27) hC dX7_costByCost_27 h9
theorem dX7_stepBetween_0 : decode cX7_stepBetween 0 = .ok (.iconst 0, 1) := by decide +kernel
theorem dX7_stepBetween_1 : decode cX7_stepBetween 1 = .ok (.istore_n 3, 1) := by decide +kernel
theorem dX7_stepBetween_2 : decode cX7_stepBetween 2 = .ok (.iload_n 3, 1) := by decide +kernel
theorem dX7_stepBetween_3 : decode cX7_stepBetween 3 = .ok (.aload_n 0, 1) := by decide +kernel
theorem dX7_stepBetween_4 : decode cX7_stepBetween 4 = .ok (.getfield 19, 3) := by decide +kernel
theorem dX7_stepBetween_7 : decode cX7_stepBetween 7 = .ok (.if_icmp .ge 77, 3) := by decide +kernel
theorem dX7_stepBetween_10 : decode cX7_stepBetween 10 = .ok (.iload_n 3, 1) := by decide +kernel
theorem dX7_stepBetween_11 : decode cX7_stepBetween 11 = .ok (.sipush 252, 3) := by decide +kernel
theorem dX7_stepBetween_14 : decode cX7_stepBetween 14 = .ok (.if_icmp .ge 70, 3) := by decide +kernel
theorem dX7_stepBetween_17 : decode cX7_stepBetween 17 = .ok (.iload_n 1, 1) := by decide +kernel
theorem dX7_stepBetween_18 : decode cX7_stepBetween 18 = .ok (.iload_n 2, 1) := by decide +kernel
theorem dX7_stepBetween_19 : decode cX7_stepBetween 19 = .ok (.if_icmp .eq 65, 3) := by decide +kernel
theorem dX7_stepBetween_22 : decode cX7_stepBetween 22 = .ok (.iload_n 1, 1) := by decide +kernel
theorem dX7_stepBetween_23 : decode cX7_stepBetween 23 = .ok (.aload_n 0, 1) := by decide +kernel
theorem dX7_stepBetween_24 : decode cX7_stepBetween 24 = .ok (.getfield 23, 3) := by decide +kernel
theorem dX7_stepBetween_27 : decode cX7_stepBetween 27 = .ok (.iload_n 3, 1) := by decide +kernel
theorem dX7_stepBetween_28 : decode cX7_stepBetween 28 = .ok (.iaload, 1) := by decide +kernel
theorem dX7_stepBetween_29 : decode cX7_stepBetween 29 = .ok (.iconst (-1), 1) := by decide +kernel
theorem dX7_stepBetween_30 : decode cX7_stepBetween 30 = .ok (.ixor, 1) := by decide +kernel
theorem dX7_stepBetween_31 : decode cX7_stepBetween 31 = .ok (.iand, 1) := by decide +kernel
theorem dX7_stepBetween_32 : decode cX7_stepBetween 32 = .ok (.istore 4, 2) := by decide +kernel
theorem dX7_stepBetween_34 : decode cX7_stepBetween 34 = .ok (.aload_n 0, 1) := by decide +kernel
theorem dX7_stepBetween_35 : decode cX7_stepBetween 35 = .ok (.getfield 23, 3) := by decide +kernel
theorem dX7_stepBetween_38 : decode cX7_stepBetween 38 = .ok (.iload_n 3, 1) := by decide +kernel
theorem dX7_stepBetween_39 : decode cX7_stepBetween 39 = .ok (.iaload, 1) := by decide +kernel
theorem dX7_stepBetween_40 : decode cX7_stepBetween 40 = .ok (.iload_n 1, 1) := by decide +kernel
theorem dX7_stepBetween_41 : decode cX7_stepBetween 41 = .ok (.iconst (-1), 1) := by decide +kernel
theorem dX7_stepBetween_42 : decode cX7_stepBetween 42 = .ok (.ixor, 1) := by decide +kernel
theorem dX7_stepBetween_43 : decode cX7_stepBetween 43 = .ok (.iand, 1) := by decide +kernel
theorem dX7_stepBetween_44 : decode cX7_stepBetween 44 = .ok (.istore 5, 2) := by decide +kernel
theorem dX7_stepBetween_46 : decode cX7_stepBetween 46 = .ok (.iload 4, 2) := by decide +kernel
theorem dX7_stepBetween_48 : decode cX7_stepBetween 48 = .ok (.invokestatic 73, 3) := by decide +kernel
theorem dX7_stepBetween_51 : decode cX7_stepBetween 51 = .ok (.iconst 1, 1) := by decide +kernel
theorem dX7_stepBetween_52 : decode cX7_stepBetween 52 = .ok (.if_icmp .ne 26, 3) := by decide +kernel
theorem dX7_stepBetween_55 : decode cX7_stepBetween 55 = .ok (.iload 4, 2) := by decide +kernel
theorem dX7_stepBetween_57 : decode cX7_stepBetween 57 = .ok (.iload_n 2, 1) := by decide +kernel
theorem dX7_stepBetween_58 : decode cX7_stepBetween 58 = .ok (.iand, 1) := by decide +kernel
theorem dX7_stepBetween_59 : decode cX7_stepBetween 59 = .ok (.ifCond .ne 19, 3) := by decide +kernel
theorem dX7_stepBetween_62 : decode cX7_stepBetween 62 = .ok (.iload 5, 2) := by decide +kernel
theorem dX7_stepBetween_64 : decode cX7_stepBetween 64 = .ok (.iload_n 2, 1) := by decide +kernel
theorem dX7_stepBetween_65 : decode cX7_stepBetween 65 = .ok (.iconst (-1), 1) := by decide +kernel
theorem dX7_stepBetween_66 : decode cX7_stepBetween 66 = .ok (.ixor, 1) := by decide +kernel
theorem dX7_stepBetween_67 : decode cX7_stepBetween 67 = .ok (.iand, 1) := by decide +kernel
theorem dX7_stepBetween_68 : decode cX7_stepBetween 68 = .ok (.ifCond .ne 10, 3) := by decide +kernel
theorem dX7_stepBetween_71 : decode cX7_stepBetween 71 = .ok (.aload_n 0, 1) := by decide +kernel
theorem dX7_stepBetween_72 : decode cX7_stepBetween 72 = .ok (.getfield 23, 3) := by decide +kernel
theorem dX7_stepBetween_75 : decode cX7_stepBetween 75 = .ok (.iload_n 3, 1) := by decide +kernel
theorem dX7_stepBetween_76 : decode cX7_stepBetween 76 = .ok (.iaload, 1) := by decide +kernel
theorem dX7_stepBetween_77 : decode cX7_stepBetween 77 = .ok (.ireturn, 1) := by decide +kernel
theorem dX7_stepBetween_78 : decode cX7_stepBetween 78 = .ok (.iinc 3 1, 3) := by decide +kernel
theorem dX7_stepBetween_81 : decode cX7_stepBetween 81 = .ok (.goto (-79), 3) := by decide +kernel
theorem dX7_stepBetween_84 : decode cX7_stepBetween 84 = .ok (.iload_n 1, 1) := by decide +kernel
theorem dX7_stepBetween_85 : decode cX7_stepBetween 85 = .ok (.ireturn, 1) := by decide +kernel
def bX7_stepBetween_2 (m : Mem) (a1 : Int32) (a2 : Int32) : Int32 → Option (Int32 ⊕ (Int32 ⊕ (Int32)))
  | y1 => (if (m.1 26 2) ≤ y1 then some (.inr (.inl y1)) else (if 252 ≤ y1 then some (.inr (.inl y1)) else (if a1 = a2 then some (.inr (.inl y1)) else chk (inb y1 252) (lete (a1 &&& ((m.1 27 (Int32.toNatClampNeg y1)) ^^^ (-1))) (fun x3 => chk (inb y1 252) (lete ((m.1 27 (Int32.toNatClampNeg y1)) &&& (a1 ^^^ (-1))) (fun x5 => (gJ6_bitCount x3).bind (fun x6 => (if x6 = 1 then (if (x3 &&& a2) = 0 then (if (x5 &&& (a2 ^^^ (-1))) = 0 then chk (inb y1 252) (some (.inr (.inr (m.1 27 (Int32.toNatClampNeg y1))))) else some (.inl (y1 + 1))) else some (.inl (y1 + 1))) else some (.inl (y1 + 1)))))))))))
def gX7_stepBetween (F : Nat) (m : Mem) (a1 : Int32) (a2 : Int32) : Option (Int32) := (iter F (bX7_stepBetween_2 m a1 a2) 0).bind (fun e8 => Sum.elim (fun s10 => some a1) (fun q => some q) e8)
set_option maxHeartbeats 4000000 in
set_option maxRecDepth 20000 in
theorem LX7_stepBetween {n : Nat} {F : Nat} {m : Mem} {a1 : Int32} {a2 : Int32} {r : Int32} (hn : 43 ≤ n) (hg : gX7_stepBetween F m a1 a2 = some r) : MX yX7_stepBetween cX7_stepBetween 6 (some .int) { frames := 1, cells := 0, slots := 0, locals := 20 } n [.ref 26, .int a1, .int a2] m (some (.int r)) m := by
  refine MX_of (by decide) (Nat.le_of_ble_eq_true rfl) (Or.inr (Or.inl ⟨rfl, _, rfl⟩)) (fun K hC hk hL hR => ?_)
  replace hn : 43 ≤ kn K := hk.symm ▸ hn
  show RX K 0 [(0, .ref 26), (1, .int a1), (2, .int a2)] [] m
  rw [gX7_stepBetween] at hg
  refine R_iconst (pc := 0) hC dX7_stepBetween_0 ki_0 ?_
  refine R_istore_n (pc := 1) hC dX7_stepBetween_1 rfl hL rfl (show _ = [(3, .int 0), (0, .ref 26), (1, .int a1), (2, .int a2)] from rfl) ?_
  refine R_pick [1, 2, 3, 0] (ls' := [(0, .ref 26), (1, .int a1), (2, .int a2), (3, .int 0)]) rfl ?_
  obtain ⟨e8, he8, hg⟩ := bind_some hg
  refine iter_walk (P := fun s : Int32 => RX K 2 [(0, .ref 26), (1, .int a1), (2, .int a2), (3, .int s)] [] m) (Qe := Sum.elim (fun s : Int32 => RX K 84 [(0, .ref 26), (1, .int a1), (2, .int a2), (3, .int s)] [] m) (fun q : Int32 => GX (some (.int r)) m (some (.int q)) m)) (fun y1 o hg kL2 kE2 => ?_) _ _ _ he8 ?_
  · skip
    rw [bX7_stepBetween_2] at hg
    show RX K 2 [(0, .ref 26), (1, .int a1), (2, .int a2), (3, .int y1)] [] m
    refine R_iload_n (pc := 2) hC 3 dX7_stepBetween_2 rfl rfl ?_
    refine R_aload_n (pc := 3) hC 0 dX7_stepBetween_3 rfl rfl ?_
    refine gf_X7_19 (pc := 4) hC hn dX7_stepBetween_4 ?_
    refine R_icmp_ge (tgt := 84) (pc := 7) hC dX7_stepBetween_7 (by decide) (fun c => ?_) (fun c => ?_)
    · replace hg := (if_pos c).symm.trans hg
      refine R_pick [0, 1, 2, 3] (ls' := [(0, .ref 26), (1, .int a1), (2, .int a2), (3, .int y1)]) rfl ?_
      have h9 := kE2 _ (Option.some.inj hg).symm
      exact h9
    · replace hg := (if_neg c).symm.trans hg
      refine R_iload_n (pc := 10) hC 3 dX7_stepBetween_10 rfl rfl ?_
      refine R_sipush (pc := 11) hC dX7_stepBetween_11 ks_252 ?_
      refine R_icmp_ge (tgt := 84) (pc := 14) hC dX7_stepBetween_14 (by decide) (fun c => ?_) (fun c => ?_)
      · replace hg := (if_pos c).symm.trans hg
        refine R_pick [0, 1, 2, 3] (ls' := [(0, .ref 26), (1, .int a1), (2, .int a2), (3, .int y1)]) rfl ?_
        have h9 := kE2 _ (Option.some.inj hg).symm
        exact h9
      · replace hg := (if_neg c).symm.trans hg
        refine R_iload_n (pc := 17) hC 1 dX7_stepBetween_17 rfl rfl ?_
        refine R_iload_n (pc := 18) hC 2 dX7_stepBetween_18 rfl rfl ?_
        refine R_icmp_eq (tgt := 84) (pc := 19) hC dX7_stepBetween_19 (by decide) (fun c => ?_) (fun c => ?_)
        · replace hg := (if_pos c).symm.trans hg
          refine R_pick [0, 1, 2, 3] (ls' := [(0, .ref 26), (1, .int a1), (2, .int a2), (3, .int y1)]) rfl ?_
          have h9 := kE2 _ (Option.some.inj hg).symm
          exact h9
        · replace hg := (if_neg c).symm.trans hg
          refine R_iload_n (pc := 22) hC 1 dX7_stepBetween_22 rfl rfl ?_
          refine R_aload_n (pc := 23) hC 0 dX7_stepBetween_23 rfl rfl ?_
          refine gf_X7_23 (pc := 24) hC hn dX7_stepBetween_24 ?_
          refine R_iload_n (pc := 27) hC 3 dX7_stepBetween_27 rfl rfl ?_
          obtain ⟨c2, hg⟩ := chk_some hg
          refine R_iaload (pc := 28) hC 27 (jx hn rfl) ly27 (inb_vp c2) dX7_stepBetween_28 ?_
          refine R_iconst (pc := 29) hC dX7_stepBetween_29 ki_m1 ?_
          refine R_ixor (pc := 30) hC dX7_stepBetween_30 ?_
          refine R_iand (pc := 31) hC dX7_stepBetween_31 ?_
          obtain ⟨x3, hx3, hg⟩ := lete_some hg
          refine R_top hx3 ?_
          refine R_istore (pc := 32) hC dX7_stepBetween_32 hL rfl (show _ = [(4, .int x3), (0, .ref 26), (1, .int a1), (2, .int a2), (3, .int y1)] from rfl) ?_
          refine R_aload_n (pc := 34) hC 1 dX7_stepBetween_34 rfl rfl ?_
          refine gf_X7_23 (pc := 35) hC hn dX7_stepBetween_35 ?_
          refine R_iload_n (pc := 38) hC 4 dX7_stepBetween_38 rfl rfl ?_
          obtain ⟨c4, hg⟩ := chk_some hg
          refine R_iaload (pc := 39) hC 27 (jx hn rfl) ly27 (inb_vp c4) dX7_stepBetween_39 ?_
          refine R_iload_n (pc := 40) hC 2 dX7_stepBetween_40 rfl rfl ?_
          refine R_iconst (pc := 41) hC dX7_stepBetween_41 ki_m1 ?_
          refine R_ixor (pc := 42) hC dX7_stepBetween_42 ?_
          refine R_iand (pc := 43) hC dX7_stepBetween_43 ?_
          obtain ⟨x5, hx5, hg⟩ := lete_some hg
          refine R_top hx5 ?_
          refine R_istore (pc := 44) hC dX7_stepBetween_44 hL rfl (show _ = [(5, .int x5), (4, .int x3), (0, .ref 26), (1, .int a1), (2, .int a2), (3, .int y1)] from rfl) ?_
          refine R_iload (pc := 46) hC 1 dX7_stepBetween_46 rfl ?_
          obtain ⟨x6, hx6, hg⟩ := bind_some hg
          refine R_callS (pc := 48) (av := [.int x3]) (rest := []) hC hR mf_J6_bitCount wm_X7_73 (LJ6_bitCount hx6) rfl rfl rfl (Nat.le_of_ble_eq_true rfl) dX7_stepBetween_48 rfl ?_
          show RX K 51 [(5, .int x5), (4, .int x3), (0, .ref 26), (1, .int a1), (2, .int a2), (3, .int y1)] [.int x6] m
          refine R_iconst (pc := 51) hC dX7_stepBetween_51 ki_1 ?_
          refine R_icmp_ne (tgt := 78) (pc := 52) hC dX7_stepBetween_52 (by decide) (fun c => ?_) (fun c => ?_)
          · replace hg := (if_neg c).symm.trans hg
            refine R_iinc (pc := 78) hC 5 dX7_stepBetween_78 rfl (iv ki_1) hL rfl (show _ = [(3, .int (y1 + 1)), (5, .int x5), (4, .int x3), (0, .ref 26), (1, .int a1), (2, .int a2)] from rfl) ?_
            refine R_goto (tgt := 2) (pc := 81) hC dX7_stepBetween_81 (by decide) ?_
            refine R_pick [3, 4, 5, 0] (ls' := [(0, .ref 26), (1, .int a1), (2, .int a2), (3, .int (y1 + 1))]) rfl ?_
            have h9 := kL2 _ (Option.some.inj hg).symm
            exact h9
          · replace hg := (if_pos c).symm.trans hg
            refine R_iload (pc := 55) hC 1 dX7_stepBetween_55 rfl ?_
            refine R_iload_n (pc := 57) hC 4 dX7_stepBetween_57 rfl rfl ?_
            refine R_iand (pc := 58) hC dX7_stepBetween_58 ?_
            refine R_if_ne (tgt := 78) (pc := 59) hC dX7_stepBetween_59 (by decide) (fun c => ?_) (fun c => ?_)
            · replace hg := (if_neg c).symm.trans hg
              refine R_iinc (pc := 78) hC 5 dX7_stepBetween_78 rfl (iv ki_1) hL rfl (show _ = [(3, .int (y1 + 1)), (5, .int x5), (4, .int x3), (0, .ref 26), (1, .int a1), (2, .int a2)] from rfl) ?_
              refine R_goto (tgt := 2) (pc := 81) hC dX7_stepBetween_81 (by decide) ?_
              refine R_pick [3, 4, 5, 0] (ls' := [(0, .ref 26), (1, .int a1), (2, .int a2), (3, .int (y1 + 1))]) rfl ?_
              have h9 := kL2 _ (Option.some.inj hg).symm
              exact h9
            · replace hg := (if_pos c).symm.trans hg
              refine R_iload (pc := 62) hC 0 dX7_stepBetween_62 rfl ?_
              refine R_iload_n (pc := 64) hC 4 dX7_stepBetween_64 rfl rfl ?_
              refine R_iconst (pc := 65) hC dX7_stepBetween_65 ki_m1 ?_
              refine R_ixor (pc := 66) hC dX7_stepBetween_66 ?_
              refine R_iand (pc := 67) hC dX7_stepBetween_67 ?_
              refine R_if_ne (tgt := 78) (pc := 68) hC dX7_stepBetween_68 (by decide) (fun c => ?_) (fun c => ?_)
              · replace hg := (if_neg c).symm.trans hg
                refine R_iinc (pc := 78) hC 5 dX7_stepBetween_78 rfl (iv ki_1) hL rfl (show _ = [(3, .int (y1 + 1)), (5, .int x5), (4, .int x3), (0, .ref 26), (1, .int a1), (2, .int a2)] from rfl) ?_
                refine R_goto (tgt := 2) (pc := 81) hC dX7_stepBetween_81 (by decide) ?_
                refine R_pick [3, 4, 5, 0] (ls' := [(0, .ref 26), (1, .int a1), (2, .int a2), (3, .int (y1 + 1))]) rfl ?_
                have h9 := kL2 _ (Option.some.inj hg).symm
                exact h9
              · replace hg := (if_pos c).symm.trans hg
                refine R_aload_n (pc := 71) hC 2 dX7_stepBetween_71 rfl rfl ?_
                refine gf_X7_23 (pc := 72) hC hn dX7_stepBetween_72 ?_
                refine R_iload_n (pc := 75) hC 5 dX7_stepBetween_75 rfl rfl ?_
                obtain ⟨c7, hg⟩ := chk_some hg
                refine R_iaload (pc := 76) hC 27 (jx hn rfl) ly27 (inb_vp c7) dX7_stepBetween_76 ?_
                have h9 := kE2 _ (Option.some.inj hg).symm
                exact R_ireturn (pc := 77) hC dX7_stepBetween_77 h9
  · rcases e8 with s10 | q
    · replace hg := (Sum.elim_inl _ _ _).symm.trans hg
      show RX K 84 [(0, .ref 26), (1, .int a1), (2, .int a2), (3, .int s10)] [] m
      refine R_iload_n (pc := 84) hC 1 dX7_stepBetween_84 rfl rfl ?_
      have h9 := gxI (m := m) hg
      exact R_ireturn (pc := 85) hC dX7_stepBetween_85 h9
    · replace hg := (Sum.elim_inr _ _ _).symm.trans hg
      exact gxI hg
theorem dX7_leadsTo_0 : decode cX7_leadsTo 0 = .ok (.iconst 0, 1) := by decide +kernel
theorem dX7_leadsTo_1 : decode cX7_leadsTo 1 = .ok (.istore_n 3, 1) := by decide +kernel
theorem dX7_leadsTo_2 : decode cX7_leadsTo 2 = .ok (.iload_n 3, 1) := by decide +kernel
theorem dX7_leadsTo_3 : decode cX7_leadsTo 3 = .ok (.aload_n 0, 1) := by decide +kernel
theorem dX7_leadsTo_4 : decode cX7_leadsTo 4 = .ok (.getfield 9, 3) := by decide +kernel
theorem dX7_leadsTo_7 : decode cX7_leadsTo 7 = .ok (.getfield 81, 3) := by decide +kernel
theorem dX7_leadsTo_10 : decode cX7_leadsTo 10 = .ok (.if_icmp .ge 67, 3) := by decide +kernel
theorem dX7_leadsTo_13 : decode cX7_leadsTo 13 = .ok (.iload_n 3, 1) := by decide +kernel
theorem dX7_leadsTo_14 : decode cX7_leadsTo 14 = .ok (.bipush 10, 2) := by decide +kernel
theorem dX7_leadsTo_16 : decode cX7_leadsTo 16 = .ok (.if_icmp .ge 61, 3) := by decide +kernel
theorem dX7_leadsTo_19 : decode cX7_leadsTo 19 = .ok (.iload_n 2, 1) := by decide +kernel
theorem dX7_leadsTo_20 : decode cX7_leadsTo 20 = .ok (.iconst 1, 1) := by decide +kernel
theorem dX7_leadsTo_21 : decode cX7_leadsTo 21 = .ok (.iload_n 3, 1) := by decide +kernel
theorem dX7_leadsTo_22 : decode cX7_leadsTo 22 = .ok (.ishl, 1) := by decide +kernel
theorem dX7_leadsTo_23 : decode cX7_leadsTo 23 = .ok (.iconst (-1), 1) := by decide +kernel
theorem dX7_leadsTo_24 : decode cX7_leadsTo 24 = .ok (.ixor, 1) := by decide +kernel
theorem dX7_leadsTo_25 : decode cX7_leadsTo 25 = .ok (.iand, 1) := by decide +kernel
theorem dX7_leadsTo_26 : decode cX7_leadsTo 26 = .ok (.istore 4, 2) := by decide +kernel
theorem dX7_leadsTo_28 : decode cX7_leadsTo 28 = .ok (.aload_n 0, 1) := by decide +kernel
theorem dX7_leadsTo_29 : decode cX7_leadsTo 29 = .ok (.getfield 9, 3) := by decide +kernel
theorem dX7_leadsTo_32 : decode cX7_leadsTo 32 = .ok (.getfield 84, 3) := by decide +kernel
theorem dX7_leadsTo_35 : decode cX7_leadsTo 35 = .ok (.iload_n 3, 1) := by decide +kernel
theorem dX7_leadsTo_36 : decode cX7_leadsTo 36 = .ok (.iaload, 1) := by decide +kernel
theorem dX7_leadsTo_37 : decode cX7_leadsTo 37 = .ok (.iconst 3, 1) := by decide +kernel
theorem dX7_leadsTo_38 : decode cX7_leadsTo 38 = .ok (.if_icmp .ne 33, 3) := by decide +kernel
theorem dX7_leadsTo_41 : decode cX7_leadsTo 41 = .ok (.iload 4, 2) := by decide +kernel
theorem dX7_leadsTo_43 : decode cX7_leadsTo 43 = .ok (.iload_n 2, 1) := by decide +kernel
theorem dX7_leadsTo_44 : decode cX7_leadsTo 44 = .ok (.if_icmp .eq 27, 3) := by decide +kernel
theorem dX7_leadsTo_47 : decode cX7_leadsTo 47 = .ok (.aload_n 0, 1) := by decide +kernel
theorem dX7_leadsTo_48 : decode cX7_leadsTo 48 = .ok (.getfield 15, 3) := by decide +kernel
theorem dX7_leadsTo_51 : decode cX7_leadsTo 51 = .ok (.iload 4, 2) := by decide +kernel
theorem dX7_leadsTo_53 : decode cX7_leadsTo 53 = .ok (.aload_n 0, 1) := by decide +kernel
theorem dX7_leadsTo_54 : decode cX7_leadsTo 54 = .ok (.getfield 9, 3) := by decide +kernel
theorem dX7_leadsTo_57 : decode cX7_leadsTo 57 = .ok (.getfield 87, 3) := by decide +kernel
theorem dX7_leadsTo_60 : decode cX7_leadsTo 60 = .ok (.iload_n 3, 1) := by decide +kernel
theorem dX7_leadsTo_61 : decode cX7_leadsTo 61 = .ok (.iaload, 1) := by decide +kernel
theorem dX7_leadsTo_62 : decode cX7_leadsTo 62 = .ok (.iload_n 1, 1) := by decide +kernel
theorem dX7_leadsTo_63 : decode cX7_leadsTo 63 = .ok (.invokevirtual 90, 3) := by decide +kernel
theorem dX7_leadsTo_66 : decode cX7_leadsTo 66 = .ok (.ifCond .ne 5, 3) := by decide +kernel
theorem dX7_leadsTo_69 : decode cX7_leadsTo 69 = .ok (.iconst 0, 1) := by decide +kernel
theorem dX7_leadsTo_70 : decode cX7_leadsTo 70 = .ok (.ireturn, 1) := by decide +kernel
theorem dX7_leadsTo_71 : decode cX7_leadsTo 71 = .ok (.iinc 3 1, 3) := by decide +kernel
theorem dX7_leadsTo_74 : decode cX7_leadsTo 74 = .ok (.goto (-72), 3) := by decide +kernel
theorem dX7_leadsTo_77 : decode cX7_leadsTo 77 = .ok (.iconst 1, 1) := by decide +kernel
theorem dX7_leadsTo_78 : decode cX7_leadsTo 78 = .ok (.ireturn, 1) := by decide +kernel
def bX7_leadsTo_2 (m : Mem) (a1 : Int32) (a2 : Int32) : Int32 → Option (Int32 ⊕ (Int32 ⊕ (Bool)))
  | y1 => (if (m.1 1 1) ≤ y1 then some (.inr (.inl y1)) else (if 10 ≤ y1 then some (.inr (.inl y1)) else lete (a2 &&& (((1 : Int32) <<< (y1 &&& 31)) ^^^ (-1))) (fun x2 => chk (inb y1 10) ((if (m.1 2 (Int32.toNatClampNeg y1)) = 3 then (if x2 = a2 then some (.inl (y1 + 1)) else chk (inb y1 10) ((gX2_areTogether m x2 (m.1 4 (Int32.toNatClampNeg y1)) a1).bind (fun x5 => (if x5 = true then some (.inl (y1 + 1)) else some (.inr (.inr false)))))) else some (.inl (y1 + 1)))))))
def gX7_leadsTo (F : Nat) (m : Mem) (a1 : Int32) (a2 : Int32) : Option (Bool) := (iter F (bX7_leadsTo_2 m a1 a2) 0).bind (fun e6 => Sum.elim (fun s8 => some true) (fun q => some q) e6)
set_option maxHeartbeats 4000000 in
set_option maxRecDepth 20000 in
theorem LX7_leadsTo {n : Nat} {F : Nat} {m : Mem} {a1 : Int32} {a2 : Int32} {r : Bool} (hn : 43 ≤ n) (hg : gX7_leadsTo F m a1 a2 = some r) : MX yX7_leadsTo cX7_leadsTo 5 (some .boolean) { frames := 2, cells := 0, slots := 0, locals := 45 } n [.ref 26, .int a1, .int a2] m (some (.int (b2i r))) m := by
  refine MX_of (by decide) (Nat.le_of_ble_eq_true rfl) (Or.inr (Or.inr (Or.inr ⟨rfl, _, rfl⟩))) (fun K hC hk hL hR => ?_)
  replace hn : 43 ≤ kn K := hk.symm ▸ hn
  show RX K 0 [(0, .ref 26), (1, .int a1), (2, .int a2)] [] m
  rw [gX7_leadsTo] at hg
  refine R_iconst (pc := 0) hC dX7_leadsTo_0 ki_0 ?_
  refine R_istore_n (pc := 1) hC dX7_leadsTo_1 rfl hL rfl (show _ = [(3, .int 0), (0, .ref 26), (1, .int a1), (2, .int a2)] from rfl) ?_
  refine R_pick [1, 2, 3, 0] (ls' := [(0, .ref 26), (1, .int a1), (2, .int a2), (3, .int 0)]) rfl ?_
  obtain ⟨e6, he6, hg⟩ := bind_some hg
  refine iter_walk (P := fun s : Int32 => RX K 2 [(0, .ref 26), (1, .int a1), (2, .int a2), (3, .int s)] [] m) (Qe := Sum.elim (fun s : Int32 => RX K 77 [(0, .ref 26), (1, .int a1), (2, .int a2), (3, .int s)] [] m) (fun q : Bool => GX (some (.int (b2i r))) m (some (.int (b2i q))) m)) (fun y1 o hg kL2 kE2 => ?_) _ _ _ he6 ?_
  · skip
    rw [bX7_leadsTo_2] at hg
    show RX K 2 [(0, .ref 26), (1, .int a1), (2, .int a2), (3, .int y1)] [] m
    refine R_iload_n (pc := 2) hC 3 dX7_leadsTo_2 rfl rfl ?_
    refine R_aload_n (pc := 3) hC 0 dX7_leadsTo_3 rfl rfl ?_
    refine gf_X7_9 (pc := 4) hC hn dX7_leadsTo_4 ?_
    refine gf_X7_81 (pc := 7) hC hn isv1 dX7_leadsTo_7 ?_
    refine R_icmp_ge (tgt := 77) (pc := 10) hC dX7_leadsTo_10 (by decide) (fun c => ?_) (fun c => ?_)
    · replace hg := (if_pos c).symm.trans hg
      refine R_pick [0, 1, 2, 3] (ls' := [(0, .ref 26), (1, .int a1), (2, .int a2), (3, .int y1)]) rfl ?_
      have h9 := kE2 _ (Option.some.inj hg).symm
      exact h9
    · replace hg := (if_neg c).symm.trans hg
      refine R_iload_n (pc := 13) hC 3 dX7_leadsTo_13 rfl rfl ?_
      refine R_bipush (pc := 14) hC dX7_leadsTo_14 kb_10 ?_
      refine R_icmp_ge (tgt := 77) (pc := 16) hC dX7_leadsTo_16 (by decide) (fun c => ?_) (fun c => ?_)
      · replace hg := (if_pos c).symm.trans hg
        refine R_pick [0, 1, 2, 3] (ls' := [(0, .ref 26), (1, .int a1), (2, .int a2), (3, .int y1)]) rfl ?_
        have h9 := kE2 _ (Option.some.inj hg).symm
        exact h9
      · replace hg := (if_neg c).symm.trans hg
        refine R_iload_n (pc := 19) hC 2 dX7_leadsTo_19 rfl rfl ?_
        refine R_iconst (pc := 20) hC dX7_leadsTo_20 ki_1 ?_
        refine R_iload_n (pc := 21) hC 3 dX7_leadsTo_21 rfl rfl ?_
        refine R_ishl (pc := 22) hC dX7_leadsTo_22 ?_
        refine R_iconst (pc := 23) hC dX7_leadsTo_23 ki_m1 ?_
        refine R_ixor (pc := 24) hC dX7_leadsTo_24 ?_
        refine R_iand (pc := 25) hC dX7_leadsTo_25 ?_
        obtain ⟨x2, hx2, hg⟩ := lete_some hg
        refine R_top hx2 ?_
        refine R_istore (pc := 26) hC dX7_leadsTo_26 hL rfl (show _ = [(4, .int x2), (0, .ref 26), (1, .int a1), (2, .int a2), (3, .int y1)] from rfl) ?_
        refine R_aload_n (pc := 28) hC 1 dX7_leadsTo_28 rfl rfl ?_
        refine gf_X7_9 (pc := 29) hC hn dX7_leadsTo_29 ?_
        refine gf_X7_84 (pc := 32) hC hn isv1 dX7_leadsTo_32 ?_
        refine R_iload_n (pc := 35) hC 4 dX7_leadsTo_35 rfl rfl ?_
        obtain ⟨c3, hg⟩ := chk_some hg
        refine R_iaload (pc := 36) hC 2 (jx hn rfl) ly2 (inb_vp c3) dX7_leadsTo_36 ?_
        refine R_iconst (pc := 37) hC dX7_leadsTo_37 ki_3 ?_
        refine R_icmp_ne (tgt := 71) (pc := 38) hC dX7_leadsTo_38 (by decide) (fun c => ?_) (fun c => ?_)
        · replace hg := (if_neg c).symm.trans hg
          refine R_iinc (pc := 71) hC 4 dX7_leadsTo_71 rfl (iv ki_1) hL rfl (show _ = [(3, .int (y1 + 1)), (4, .int x2), (0, .ref 26), (1, .int a1), (2, .int a2)] from rfl) ?_
          refine R_goto (tgt := 2) (pc := 74) hC dX7_leadsTo_74 (by decide) ?_
          refine R_pick [2, 3, 4, 0] (ls' := [(0, .ref 26), (1, .int a1), (2, .int a2), (3, .int (y1 + 1))]) rfl ?_
          have h9 := kL2 _ (Option.some.inj hg).symm
          exact h9
        · replace hg := (if_pos c).symm.trans hg
          refine R_iload (pc := 41) hC 0 dX7_leadsTo_41 rfl ?_
          refine R_iload_n (pc := 43) hC 3 dX7_leadsTo_43 rfl rfl ?_
          refine R_icmp_eq (tgt := 71) (pc := 44) hC dX7_leadsTo_44 (by decide) (fun c => ?_) (fun c => ?_)
          · replace hg := (if_pos c).symm.trans hg
            refine R_iinc (pc := 71) hC 4 dX7_leadsTo_71 rfl (iv ki_1) hL rfl (show _ = [(3, .int (y1 + 1)), (4, .int x2), (0, .ref 26), (1, .int a1), (2, .int a2)] from rfl) ?_
            refine R_goto (tgt := 2) (pc := 74) hC dX7_leadsTo_74 (by decide) ?_
            refine R_pick [2, 3, 4, 0] (ls' := [(0, .ref 26), (1, .int a1), (2, .int a2), (3, .int (y1 + 1))]) rfl ?_
            have h9 := kL2 _ (Option.some.inj hg).symm
            exact h9
          · replace hg := (if_neg c).symm.trans hg
            refine R_aload_n (pc := 47) hC 1 dX7_leadsTo_47 rfl rfl ?_
            refine gf_X7_15 (pc := 48) hC hn dX7_leadsTo_48 ?_
            refine R_iload (pc := 51) hC 0 dX7_leadsTo_51 rfl ?_
            refine R_aload_n (pc := 53) hC 1 dX7_leadsTo_53 rfl rfl ?_
            refine gf_X7_9 (pc := 54) hC hn dX7_leadsTo_54 ?_
            refine gf_X7_87 (pc := 57) hC hn isv1 dX7_leadsTo_57 ?_
            refine R_iload_n (pc := 60) hC 4 dX7_leadsTo_60 rfl rfl ?_
            obtain ⟨c4, hg⟩ := chk_some hg
            refine R_iaload (pc := 61) hC 4 (jx hn rfl) ly4 (inb_vp c4) dX7_leadsTo_61 ?_
            refine R_iload_n (pc := 62) hC 2 dX7_leadsTo_62 rfl rfl ?_
            obtain ⟨x5, hx5, hg⟩ := bind_some hg
            refine R_callVN (pc := 63) (av := [.int x2, .int (m.1 4 (Int32.toNatClampNeg y1)), .int a1]) (rest := []) hC hR 24 (jx hn rfl) ly24 rfl mf_X2_areTogether wm_X7_90 (LX2_areTogether hn hx5) rfl rfl rfl (Nat.le_of_ble_eq_true rfl) dX7_leadsTo_63 rfl ?_
            show RX K 66 [(4, .int x2), (0, .ref 26), (1, .int a1), (2, .int a2), (3, .int y1)] [.int (b2i x5)] m
            refine R_ifB_ne (tgt := 71) (pc := 66) hC dX7_leadsTo_66 (by decide) (fun c => ?_) (fun c => ?_)
            · replace hg := (if_pos c).symm.trans hg
              refine R_iinc (pc := 71) hC 4 dX7_leadsTo_71 rfl (iv ki_1) hL rfl (show _ = [(3, .int (y1 + 1)), (4, .int x2), (0, .ref 26), (1, .int a1), (2, .int a2)] from rfl) ?_
              refine R_goto (tgt := 2) (pc := 74) hC dX7_leadsTo_74 (by decide) ?_
              refine R_pick [2, 3, 4, 0] (ls' := [(0, .ref 26), (1, .int a1), (2, .int a2), (3, .int (y1 + 1))]) rfl ?_
              have h9 := kL2 _ (Option.some.inj hg).symm
              exact h9
            · replace hg := (if_neg c).symm.trans hg
              refine R_iconst (pc := 69) hC dX7_leadsTo_69 ki_0 ?_
              have h9 := kE2 _ (Option.some.inj hg).symm
              exact R_ireturn (pc := 70) hC dX7_leadsTo_70 h9
  · rcases e6 with s8 | q
    · replace hg := (Sum.elim_inl _ _ _).symm.trans hg
      show RX K 77 [(0, .ref 26), (1, .int a1), (2, .int a2), (3, .int s8)] [] m
      refine R_iconst (pc := 77) hC dX7_leadsTo_77 ki_1 ?_
      have h9 := gxZ (m := m) hg
      exact R_ireturn (pc := 78) hC dX7_leadsTo_78 h9
    · replace hg := (Sum.elim_inr _ _ _).symm.trans hg
      exact gxZ hg
theorem dX7_manyToward_0 : decode cX7_manyToward 0 = .ok (.iconst 0, 1) := by decide +kernel
theorem dX7_manyToward_1 : decode cX7_manyToward 1 = .ok (.istore_n 2, 1) := by decide +kernel
theorem dX7_manyToward_2 : decode cX7_manyToward 2 = .ok (.iconst 0, 1) := by decide +kernel
theorem dX7_manyToward_3 : decode cX7_manyToward 3 = .ok (.istore_n 3, 1) := by decide +kernel
theorem dX7_manyToward_4 : decode cX7_manyToward 4 = .ok (.iload_n 3, 1) := by decide +kernel
theorem dX7_manyToward_5 : decode cX7_manyToward 5 = .ok (.aload_n 0, 1) := by decide +kernel
theorem dX7_manyToward_6 : decode cX7_manyToward 6 = .ok (.getfield 19, 3) := by decide +kernel
theorem dX7_manyToward_9 : decode cX7_manyToward 9 = .ok (.if_icmp .ge 33, 3) := by decide +kernel
theorem dX7_manyToward_12 : decode cX7_manyToward 12 = .ok (.iload_n 3, 1) := by decide +kernel
theorem dX7_manyToward_13 : decode cX7_manyToward 13 = .ok (.sipush 252, 3) := by decide +kernel
theorem dX7_manyToward_16 : decode cX7_manyToward 16 = .ok (.if_icmp .ge 26, 3) := by decide +kernel
theorem dX7_manyToward_19 : decode cX7_manyToward 19 = .ok (.aload_n 0, 1) := by decide +kernel
theorem dX7_manyToward_20 : decode cX7_manyToward 20 = .ok (.iload_n 1, 1) := by decide +kernel
theorem dX7_manyToward_21 : decode cX7_manyToward 21 = .ok (.aload_n 0, 1) := by decide +kernel
theorem dX7_manyToward_22 : decode cX7_manyToward 22 = .ok (.getfield 23, 3) := by decide +kernel
theorem dX7_manyToward_25 : decode cX7_manyToward 25 = .ok (.iload_n 3, 1) := by decide +kernel
theorem dX7_manyToward_26 : decode cX7_manyToward 26 = .ok (.iaload, 1) := by decide +kernel
theorem dX7_manyToward_27 : decode cX7_manyToward 27 = .ok (.invokevirtual 78, 3) := by decide +kernel
theorem dX7_manyToward_30 : decode cX7_manyToward 30 = .ok (.ifCond .eq 6, 3) := by decide +kernel
theorem dX7_manyToward_33 : decode cX7_manyToward 33 = .ok (.iinc 2 1, 3) := by decide +kernel
theorem dX7_manyToward_36 : decode cX7_manyToward 36 = .ok (.iinc 3 1, 3) := by decide +kernel
theorem dX7_manyToward_39 : decode cX7_manyToward 39 = .ok (.goto (-35), 3) := by decide +kernel
theorem dX7_manyToward_42 : decode cX7_manyToward 42 = .ok (.iload_n 2, 1) := by decide +kernel
theorem dX7_manyToward_43 : decode cX7_manyToward 43 = .ok (.ireturn, 1) := by decide +kernel
def bX7_manyToward_4 (F : Nat) (m : Mem) (a1 : Int32) : (Int32 × Int32) → Option ((Int32 × Int32) ⊕ (Int32 × Int32))
  | (y1, y2) => (if (m.1 26 2) ≤ y2 then some (.inr (y1, y2)) else (if 252 ≤ y2 then some (.inr (y1, y2)) else chk (inb y2 252) ((gX7_leadsTo F m a1 (m.1 27 (Int32.toNatClampNeg y2))).bind (fun x4 => (if x4 = true then some (.inl (y1 + 1, y2 + 1)) else some (.inl (y1, y2 + 1)))))))
def gX7_manyToward (F : Nat) (m : Mem) (a1 : Int32) : Option (Int32) := (iter F (bX7_manyToward_4 F m a1) (0, 0)).bind (fun e5 => some e5.1)
set_option maxHeartbeats 4000000 in
set_option maxRecDepth 20000 in
theorem LX7_manyToward {n : Nat} {F : Nat} {m : Mem} {a1 : Int32} {r : Int32} (hn : 43 ≤ n) (hg : gX7_manyToward F m a1 = some r) : MX yX7_manyToward cX7_manyToward 4 (some .int) { frames := 3, cells := 0, slots := 0, locals := 69 } n [.ref 26, .int a1] m (some (.int r)) m := by
  refine MX_of (by decide) (Nat.le_of_ble_eq_true rfl) (Or.inr (Or.inl ⟨rfl, _, rfl⟩)) (fun K hC hk hL hR => ?_)
  replace hn : 43 ≤ kn K := hk.symm ▸ hn
  show RX K 0 [(0, .ref 26), (1, .int a1)] [] m
  rw [gX7_manyToward] at hg
  refine R_iconst (pc := 0) hC dX7_manyToward_0 ki_0 ?_
  refine R_istore_n (pc := 1) hC dX7_manyToward_1 rfl hL rfl (show _ = [(2, .int 0), (0, .ref 26), (1, .int a1)] from rfl) ?_
  refine R_iconst (pc := 2) hC dX7_manyToward_2 ki_0 ?_
  refine R_istore_n (pc := 3) hC dX7_manyToward_3 rfl hL rfl (show _ = [(3, .int 0), (2, .int 0), (0, .ref 26), (1, .int a1)] from rfl) ?_
  refine R_pick [2, 3, 1, 0] (ls' := [(0, .ref 26), (1, .int a1), (2, .int 0), (3, .int 0)]) rfl ?_
  obtain ⟨e5, he5, hg⟩ := bind_some hg
  refine iter_walk (P := fun s : (Int32 × Int32) => RX K 4 [(0, .ref 26), (1, .int a1), (2, .int s.1), (3, .int s.2)] [] m) (Qe := fun s : (Int32 × Int32) => RX K 42 [(0, .ref 26), (1, .int a1), (2, .int s.1), (3, .int s.2)] [] m) (fun s6 o hg kL4 kE4 => ?_) _ _ _ he5 ?_
  · obtain ⟨y1, y2⟩ := s6
    rw [bX7_manyToward_4] at hg
    show RX K 4 [(0, .ref 26), (1, .int a1), (2, .int y1), (3, .int y2)] [] m
    refine R_iload_n (pc := 4) hC 3 dX7_manyToward_4 rfl rfl ?_
    refine R_aload_n (pc := 5) hC 0 dX7_manyToward_5 rfl rfl ?_
    refine gf_X7_19 (pc := 6) hC hn dX7_manyToward_6 ?_
    refine R_icmp_ge (tgt := 42) (pc := 9) hC dX7_manyToward_9 (by decide) (fun c => ?_) (fun c => ?_)
    · replace hg := (if_pos c).symm.trans hg
      refine R_pick [0, 1, 2, 3] (ls' := [(0, .ref 26), (1, .int a1), (2, .int y1), (3, .int y2)]) rfl ?_
      have h9 := kE4 _ (Option.some.inj hg).symm
      exact h9
    · replace hg := (if_neg c).symm.trans hg
      refine R_iload_n (pc := 12) hC 3 dX7_manyToward_12 rfl rfl ?_
      refine R_sipush (pc := 13) hC dX7_manyToward_13 ks_252 ?_
      refine R_icmp_ge (tgt := 42) (pc := 16) hC dX7_manyToward_16 (by decide) (fun c => ?_) (fun c => ?_)
      · replace hg := (if_pos c).symm.trans hg
        refine R_pick [0, 1, 2, 3] (ls' := [(0, .ref 26), (1, .int a1), (2, .int y1), (3, .int y2)]) rfl ?_
        have h9 := kE4 _ (Option.some.inj hg).symm
        exact h9
      · replace hg := (if_neg c).symm.trans hg
        refine R_aload_n (pc := 19) hC 0 dX7_manyToward_19 rfl rfl ?_
        refine R_iload_n (pc := 20) hC 1 dX7_manyToward_20 rfl rfl ?_
        refine R_aload_n (pc := 21) hC 0 dX7_manyToward_21 rfl rfl ?_
        refine gf_X7_23 (pc := 22) hC hn dX7_manyToward_22 ?_
        refine R_iload_n (pc := 25) hC 3 dX7_manyToward_25 rfl rfl ?_
        obtain ⟨c3, hg⟩ := chk_some hg
        refine R_iaload (pc := 26) hC 27 (jx hn rfl) ly27 (inb_vp c3) dX7_manyToward_26 ?_
        obtain ⟨x4, hx4, hg⟩ := bind_some hg
        refine R_callV (pc := 27) (av := [.int a1, .int (m.1 27 (Int32.toNatClampNeg y2))]) (rest := []) hC hR 26 (jx hn rfl) ly26 rfl mf_X7_leadsTo wm_X7_78 (LX7_leadsTo hn hx4) rfl rfl rfl (Nat.le_of_ble_eq_true rfl) dX7_manyToward_27 rfl ?_
        show RX K 30 [(0, .ref 26), (1, .int a1), (2, .int y1), (3, .int y2)] [.int (b2i x4)] m
        refine R_ifB_eq (tgt := 36) (pc := 30) hC dX7_manyToward_30 (by decide) (fun c => ?_) (fun c => ?_)
        · replace hg := (if_neg c).symm.trans hg
          refine R_iinc (pc := 36) hC 3 dX7_manyToward_36 rfl (iv ki_1) hL rfl (show _ = [(3, .int (y2 + 1)), (0, .ref 26), (1, .int a1), (2, .int y1)] from rfl) ?_
          refine R_goto (tgt := 4) (pc := 39) hC dX7_manyToward_39 (by decide) ?_
          refine R_pick [1, 2, 3, 0] (ls' := [(0, .ref 26), (1, .int a1), (2, .int y1), (3, .int (y2 + 1))]) rfl ?_
          have h9 := kL4 _ (Option.some.inj hg).symm
          exact h9
        · replace hg := (if_pos c).symm.trans hg
          refine R_iinc (pc := 33) hC 2 dX7_manyToward_33 rfl (iv ki_1) hL rfl (show _ = [(2, .int (y1 + 1)), (0, .ref 26), (1, .int a1), (3, .int y2)] from rfl) ?_
          refine R_iinc (pc := 36) hC 3 dX7_manyToward_36 rfl (iv ki_1) hL rfl (show _ = [(3, .int (y2 + 1)), (2, .int (y1 + 1)), (0, .ref 26), (1, .int a1)] from rfl) ?_
          refine R_goto (tgt := 4) (pc := 39) hC dX7_manyToward_39 (by decide) ?_
          refine R_pick [2, 3, 1, 0] (ls' := [(0, .ref 26), (1, .int a1), (2, .int (y1 + 1)), (3, .int (y2 + 1))]) rfl ?_
          have h9 := kL4 _ (Option.some.inj hg).symm
          exact h9
  · show RX K 42 [(0, .ref 26), (1, .int a1), (2, .int e5.1), (3, .int e5.2)] [] m
    refine R_iload_n (pc := 42) hC 2 dX7_manyToward_42 rfl rfl ?_
    have h9 := gxI (m := m) hg
    exact R_ireturn (pc := 43) hC dX7_manyToward_43 h9
theorem dX7_worthToward_0 : decode cX7_worthToward 0 = .ok (.lconst 0, 1) := by decide +kernel
theorem dX7_worthToward_1 : decode cX7_worthToward 1 = .ok (.lstore_n 2, 1) := by decide +kernel
theorem dX7_worthToward_2 : decode cX7_worthToward 2 = .ok (.iconst 0, 1) := by decide +kernel
theorem dX7_worthToward_3 : decode cX7_worthToward 3 = .ok (.istore 4, 2) := by decide +kernel
theorem dX7_worthToward_5 : decode cX7_worthToward 5 = .ok (.iload 4, 2) := by decide +kernel
theorem dX7_worthToward_7 : decode cX7_worthToward 7 = .ok (.aload_n 0, 1) := by decide +kernel
theorem dX7_worthToward_8 : decode cX7_worthToward 8 = .ok (.getfield 19, 3) := by decide +kernel
theorem dX7_worthToward_11 : decode cX7_worthToward 11 = .ok (.if_icmp .ge 43, 3) := by decide +kernel
theorem dX7_worthToward_14 : decode cX7_worthToward 14 = .ok (.iload 4, 2) := by decide +kernel
theorem dX7_worthToward_16 : decode cX7_worthToward 16 = .ok (.sipush 252, 3) := by decide +kernel
theorem dX7_worthToward_19 : decode cX7_worthToward 19 = .ok (.if_icmp .ge 35, 3) := by decide +kernel
theorem dX7_worthToward_22 : decode cX7_worthToward 22 = .ok (.aload_n 0, 1) := by decide +kernel
theorem dX7_worthToward_23 : decode cX7_worthToward 23 = .ok (.iload_n 1, 1) := by decide +kernel
theorem dX7_worthToward_24 : decode cX7_worthToward 24 = .ok (.aload_n 0, 1) := by decide +kernel
theorem dX7_worthToward_25 : decode cX7_worthToward 25 = .ok (.getfield 23, 3) := by decide +kernel
theorem dX7_worthToward_28 : decode cX7_worthToward 28 = .ok (.iload 4, 2) := by decide +kernel
theorem dX7_worthToward_30 : decode cX7_worthToward 30 = .ok (.iaload, 1) := by decide +kernel
theorem dX7_worthToward_31 : decode cX7_worthToward 31 = .ok (.invokevirtual 78, 3) := by decide +kernel
theorem dX7_worthToward_34 : decode cX7_worthToward 34 = .ok (.ifCond .eq 14, 3) := by decide +kernel
theorem dX7_worthToward_37 : decode cX7_worthToward 37 = .ok (.lload_n 2, 1) := by decide +kernel
theorem dX7_worthToward_38 : decode cX7_worthToward 38 = .ok (.aload_n 0, 1) := by decide +kernel
theorem dX7_worthToward_39 : decode cX7_worthToward 39 = .ok (.getfield 27, 3) := by decide +kernel
theorem dX7_worthToward_42 : decode cX7_worthToward 42 = .ok (.iload 4, 2) := by decide +kernel
theorem dX7_worthToward_44 : decode cX7_worthToward 44 = .ok (.iaload, 1) := by decide +kernel
theorem dX7_worthToward_45 : decode cX7_worthToward 45 = .ok (.i2l, 1) := by decide +kernel
theorem dX7_worthToward_46 : decode cX7_worthToward 46 = .ok (.ladd, 1) := by decide +kernel
theorem dX7_worthToward_47 : decode cX7_worthToward 47 = .ok (.lstore_n 2, 1) := by decide +kernel
theorem dX7_worthToward_48 : decode cX7_worthToward 48 = .ok (.iinc 4 1, 3) := by decide +kernel
theorem dX7_worthToward_51 : decode cX7_worthToward 51 = .ok (.goto (-46), 3) := by decide +kernel
theorem dX7_worthToward_54 : decode cX7_worthToward 54 = .ok (.lload_n 2, 1) := by decide +kernel
theorem dX7_worthToward_55 : decode cX7_worthToward 55 = .ok (.lreturn, 1) := by decide +kernel
def bX7_worthToward_5 (F : Nat) (m : Mem) (a1 : Int32) : (Int64 × Int32) → Option ((Int64 × Int32) ⊕ (Int64 × Int32))
  | (y1, y2) => (if (m.1 26 2) ≤ y2 then some (.inr (y1, y2)) else (if 252 ≤ y2 then some (.inr (y1, y2)) else chk (inb y2 252) ((gX7_leadsTo F m a1 (m.1 27 (Int32.toNatClampNeg y2))).bind (fun x4 => (if x4 = true then chk (inb y2 252) (lete (y1 + ((m.1 28 (Int32.toNatClampNeg y2)).toInt64)) (fun x6 => some (.inl (x6, y2 + 1)))) else some (.inl (y1, y2 + 1)))))))
def gX7_worthToward (F : Nat) (m : Mem) (a1 : Int32) : Option (Int64) := (iter F (bX7_worthToward_5 F m a1) (0, 0)).bind (fun e7 => some e7.1)
set_option maxHeartbeats 4000000 in
set_option maxRecDepth 20000 in
theorem LX7_worthToward {n : Nat} {F : Nat} {m : Mem} {a1 : Int32} {r : Int64} (hn : 43 ≤ n) (hg : gX7_worthToward F m a1 = some r) : MX yX7_worthToward cX7_worthToward 5 (some .long) { frames := 3, cells := 0, slots := 0, locals := 69 } n [.ref 26, .int a1] m (some (.long r)) m := by
  refine MX_of (by decide) (Nat.le_of_ble_eq_true rfl) (Or.inr (Or.inr (Or.inl ⟨rfl, _, rfl⟩))) (fun K hC hk hL hR => ?_)
  replace hn : 43 ≤ kn K := hk.symm ▸ hn
  show RX K 0 [(0, .ref 26), (1, .int a1)] [] m
  rw [gX7_worthToward] at hg
  refine R_lconst (pc := 0) hC dX7_worthToward_0 kl_0 ?_
  refine R_lstore_n (pc := 1) hC dX7_worthToward_1 rfl hL rfl (show _ = [(2, .long 0), (0, .ref 26), (1, .int a1)] from rfl) ?_
  refine R_iconst (pc := 2) hC dX7_worthToward_2 ki_0 ?_
  refine R_istore (pc := 3) hC dX7_worthToward_3 hL rfl (show _ = [(4, .int 0), (2, .long 0), (0, .ref 26), (1, .int a1)] from rfl) ?_
  refine R_pick [2, 3, 1, 0] (ls' := [(0, .ref 26), (1, .int a1), (2, .long 0), (4, .int 0)]) rfl ?_
  obtain ⟨e7, he7, hg⟩ := bind_some hg
  refine iter_walk (P := fun s : (Int64 × Int32) => RX K 5 [(0, .ref 26), (1, .int a1), (2, .long s.1), (4, .int s.2)] [] m) (Qe := fun s : (Int64 × Int32) => RX K 54 [(0, .ref 26), (1, .int a1), (2, .long s.1), (4, .int s.2)] [] m) (fun s8 o hg kL5 kE5 => ?_) _ _ _ he7 ?_
  · obtain ⟨y1, y2⟩ := s8
    rw [bX7_worthToward_5] at hg
    show RX K 5 [(0, .ref 26), (1, .int a1), (2, .long y1), (4, .int y2)] [] m
    refine R_iload (pc := 5) hC 3 dX7_worthToward_5 rfl ?_
    refine R_aload_n (pc := 7) hC 0 dX7_worthToward_7 rfl rfl ?_
    refine gf_X7_19 (pc := 8) hC hn dX7_worthToward_8 ?_
    refine R_icmp_ge (tgt := 54) (pc := 11) hC dX7_worthToward_11 (by decide) (fun c => ?_) (fun c => ?_)
    · replace hg := (if_pos c).symm.trans hg
      refine R_pick [0, 1, 2, 3] (ls' := [(0, .ref 26), (1, .int a1), (2, .long y1), (4, .int y2)]) rfl ?_
      have h9 := kE5 _ (Option.some.inj hg).symm
      exact h9
    · replace hg := (if_neg c).symm.trans hg
      refine R_iload (pc := 14) hC 3 dX7_worthToward_14 rfl ?_
      refine R_sipush (pc := 16) hC dX7_worthToward_16 ks_252 ?_
      refine R_icmp_ge (tgt := 54) (pc := 19) hC dX7_worthToward_19 (by decide) (fun c => ?_) (fun c => ?_)
      · replace hg := (if_pos c).symm.trans hg
        refine R_pick [0, 1, 2, 3] (ls' := [(0, .ref 26), (1, .int a1), (2, .long y1), (4, .int y2)]) rfl ?_
        have h9 := kE5 _ (Option.some.inj hg).symm
        exact h9
      · replace hg := (if_neg c).symm.trans hg
        refine R_aload_n (pc := 22) hC 0 dX7_worthToward_22 rfl rfl ?_
        refine R_iload_n (pc := 23) hC 1 dX7_worthToward_23 rfl rfl ?_
        refine R_aload_n (pc := 24) hC 0 dX7_worthToward_24 rfl rfl ?_
        refine gf_X7_23 (pc := 25) hC hn dX7_worthToward_25 ?_
        refine R_iload (pc := 28) hC 3 dX7_worthToward_28 rfl ?_
        obtain ⟨c3, hg⟩ := chk_some hg
        refine R_iaload (pc := 30) hC 27 (jx hn rfl) ly27 (inb_vp c3) dX7_worthToward_30 ?_
        obtain ⟨x4, hx4, hg⟩ := bind_some hg
        refine R_callV (pc := 31) (av := [.int a1, .int (m.1 27 (Int32.toNatClampNeg y2))]) (rest := []) hC hR 26 (jx hn rfl) ly26 rfl mf_X7_leadsTo wm_X7_78 (LX7_leadsTo hn hx4) rfl rfl rfl (Nat.le_of_ble_eq_true rfl) dX7_worthToward_31 rfl ?_
        show RX K 34 [(0, .ref 26), (1, .int a1), (2, .long y1), (4, .int y2)] [.int (b2i x4)] m
        refine R_ifB_eq (tgt := 48) (pc := 34) hC dX7_worthToward_34 (by decide) (fun c => ?_) (fun c => ?_)
        · replace hg := (if_neg c).symm.trans hg
          refine R_iinc (pc := 48) hC 3 dX7_worthToward_48 rfl (iv ki_1) hL rfl (show _ = [(4, .int (y2 + 1)), (0, .ref 26), (1, .int a1), (2, .long y1)] from rfl) ?_
          refine R_goto (tgt := 5) (pc := 51) hC dX7_worthToward_51 (by decide) ?_
          refine R_pick [1, 2, 3, 0] (ls' := [(0, .ref 26), (1, .int a1), (2, .long y1), (4, .int (y2 + 1))]) rfl ?_
          have h9 := kL5 _ (Option.some.inj hg).symm
          exact h9
        · replace hg := (if_pos c).symm.trans hg
          refine R_lload_n (pc := 37) hC 2 dX7_worthToward_37 rfl rfl ?_
          refine R_aload_n (pc := 38) hC 0 dX7_worthToward_38 rfl rfl ?_
          refine gf_X7_27 (pc := 39) hC hn dX7_worthToward_39 ?_
          refine R_iload (pc := 42) hC 3 dX7_worthToward_42 rfl ?_
          obtain ⟨c5, hg⟩ := chk_some hg
          refine R_iaload (pc := 44) hC 28 (jx hn rfl) ly28 (inb_vp c5) dX7_worthToward_44 ?_
          refine R_i2l (pc := 45) hC dX7_worthToward_45 ?_
          refine R_ladd (pc := 46) hC dX7_worthToward_46 ?_
          obtain ⟨x6, hx6, hg⟩ := lete_some hg
          refine R_topL hx6 ?_
          refine R_lstore_n (pc := 47) hC dX7_worthToward_47 rfl hL rfl (show _ = [(2, .long x6), (0, .ref 26), (1, .int a1), (4, .int y2)] from rfl) ?_
          refine R_iinc (pc := 48) hC 3 dX7_worthToward_48 rfl (iv ki_1) hL rfl (show _ = [(4, .int (y2 + 1)), (2, .long x6), (0, .ref 26), (1, .int a1)] from rfl) ?_
          refine R_goto (tgt := 5) (pc := 51) hC dX7_worthToward_51 (by decide) ?_
          refine R_pick [2, 3, 1, 0] (ls' := [(0, .ref 26), (1, .int a1), (2, .long x6), (4, .int (y2 + 1))]) rfl ?_
          have h9 := kL5 _ (Option.some.inj hg).symm
          exact h9
  · show RX K 54 [(0, .ref 26), (1, .int a1), (2, .long e7.1), (4, .int e7.2)] [] m
    refine R_lload_n (pc := 54) hC 2 dX7_worthToward_54 rfl rfl ?_
    have h9 := gxJ (m := m) hg
    exact R_lreturn (pc := 55) hC dX7_worthToward_55 h9
