theorem dX9_sumApart_0 : decode cX9_sumApart 0 = .ok (.lconst 0, 1) := by decide +kernel
theorem dX9_sumApart_1 : decode cX9_sumApart 1 = .ok (.lstore 4, 2) := by decide +kernel
theorem dX9_sumApart_3 : decode cX9_sumApart 3 = .ok (.iconst 0, 1) := by decide +kernel
theorem dX9_sumApart_4 : decode cX9_sumApart 4 = .ok (.istore 6, 2) := by decide +kernel
theorem dX9_sumApart_6 : decode cX9_sumApart 6 = .ok (.iload 6, 2) := by decide +kernel
theorem dX9_sumApart_8 : decode cX9_sumApart 8 = .ok (.aload_n 0, 1) := by decide +kernel
theorem dX9_sumApart_9 : decode cX9_sumApart 9 = .ok (.invokevirtual 162, 3) := by decide +kernel
theorem dX9_sumApart_12 : decode cX9_sumApart 12 = .ok (.if_icmp .gt 72, 3) := by decide +kernel
theorem dX9_sumApart_15 : decode cX9_sumApart 15 = .ok (.iload 6, 2) := by decide +kernel
theorem dX9_sumApart_17 : decode cX9_sumApart 17 = .ok (.aload_n 0, 1) := by decide +kernel
theorem dX9_sumApart_18 : decode cX9_sumApart 18 = .ok (.iconst 2, 1) := by decide +kernel
theorem dX9_sumApart_19 : decode cX9_sumApart 19 = .ok (.invokevirtual 171, 3) := by decide +kernel
theorem dX9_sumApart_22 : decode cX9_sumApart 22 = .ok (.iand, 1) := by decide +kernel
theorem dX9_sumApart_23 : decode cX9_sumApart 23 = .ok (.ifCond .ne 55, 3) := by decide +kernel
theorem dX9_sumApart_26 : decode cX9_sumApart 26 = .ok (.iload_n 3, 1) := by decide +kernel
theorem dX9_sumApart_27 : decode cX9_sumApart 27 = .ok (.ifCond .eq 12, 3) := by decide +kernel
theorem dX9_sumApart_30 : decode cX9_sumApart 30 = .ok (.aload_n 0, 1) := by decide +kernel
theorem dX9_sumApart_31 : decode cX9_sumApart 31 = .ok (.iload 6, 2) := by decide +kernel
theorem dX9_sumApart_33 : decode cX9_sumApart 33 = .ok (.invokevirtual 180, 3) := by decide +kernel
theorem dX9_sumApart_36 : decode cX9_sumApart 36 = .ok (.ifCond .eq 42, 3) := by decide +kernel
theorem dX9_sumApart_39 : decode cX9_sumApart 39 = .ok (.aload_n 0, 1) := by decide +kernel
theorem dX9_sumApart_40 : decode cX9_sumApart 40 = .ok (.iload 6, 2) := by decide +kernel
theorem dX9_sumApart_42 : decode cX9_sumApart 42 = .ok (.iconst 2, 1) := by decide +kernel
theorem dX9_sumApart_43 : decode cX9_sumApart 43 = .ok (.invokevirtual 177, 3) := by decide +kernel
theorem dX9_sumApart_46 : decode cX9_sumApart 46 = .ok (.ifCond .eq 32, 3) := by decide +kernel
theorem dX9_sumApart_49 : decode cX9_sumApart 49 = .ok (.aload_n 0, 1) := by decide +kernel
theorem dX9_sumApart_50 : decode cX9_sumApart 50 = .ok (.getfield 53, 3) := by decide +kernel
theorem dX9_sumApart_53 : decode cX9_sumApart 53 = .ok (.iload_n 1, 1) := by decide +kernel
theorem dX9_sumApart_54 : decode cX9_sumApart 54 = .ok (.iaload, 1) := by decide +kernel
theorem dX9_sumApart_55 : decode cX9_sumApart 55 = .ok (.aload_n 0, 1) := by decide +kernel
theorem dX9_sumApart_56 : decode cX9_sumApart 56 = .ok (.getfield 53, 3) := by decide +kernel
theorem dX9_sumApart_59 : decode cX9_sumApart 59 = .ok (.iload_n 2, 1) := by decide +kernel
theorem dX9_sumApart_60 : decode cX9_sumApart 60 = .ok (.iaload, 1) := by decide +kernel
theorem dX9_sumApart_61 : decode cX9_sumApart 61 = .ok (.if_icmp .ne 6, 3) := by decide +kernel
theorem dX9_sumApart_64 : decode cX9_sumApart 64 = .ok (.goto 14, 3) := by decide +kernel
theorem dX9_sumApart_67 : decode cX9_sumApart 67 = .ok (.lload 4, 2) := by decide +kernel
theorem dX9_sumApart_69 : decode cX9_sumApart 69 = .ok (.aload_n 0, 1) := by decide +kernel
theorem dX9_sumApart_70 : decode cX9_sumApart 70 = .ok (.iload 6, 2) := by decide +kernel
theorem dX9_sumApart_72 : decode cX9_sumApart 72 = .ok (.invokevirtual 189, 3) := by decide +kernel
theorem dX9_sumApart_75 : decode cX9_sumApart 75 = .ok (.ladd, 1) := by decide +kernel
theorem dX9_sumApart_76 : decode cX9_sumApart 76 = .ok (.lstore 4, 2) := by decide +kernel
theorem dX9_sumApart_78 : decode cX9_sumApart 78 = .ok (.iinc 6 1, 3) := by decide +kernel
theorem dX9_sumApart_81 : decode cX9_sumApart 81 = .ok (.goto (-75), 3) := by decide +kernel
theorem dX9_sumApart_84 : decode cX9_sumApart 84 = .ok (.lload 4, 2) := by decide +kernel
theorem dX9_sumApart_86 : decode cX9_sumApart 86 = .ok (.lreturn, 1) := by decide +kernel
def bX9_sumApart_6 (F : Nat) (a1 : Int32) (a2 : Int32) (a3 : Bool) : (Int64 × Int32 × Mem) → Option ((Int64 × Int32 × Mem) ⊕ (Int64 × Int32 × Mem))
  | (y1, y2, m3) => (gX9_allLanes m3).bind (fun x4 => (if x4 < y2 then some (.inr (y1, y2, m3)) else (gX9_ruledAs F m3 2).bind (fun x5 => (if (y2 &&& x5) = 0 then (if a3 = true then (gX9_isRuled F m3 y2).bind (fun x11 => (if x11 = true then (gX9_isForest F m3 y2 2).bind (fun q12 => (if q12.1 = true then chk (inb a1 7) (chk (inb a2 7) ((if (q12.2.1 57 (Int32.toNatClampNeg a1)) = (q12.2.1 57 (Int32.toNatClampNeg a2)) then some (.inl (y1, y2 + 1, q12.2)) else (gX9_worthOf F q12.2 y2).bind (fun x15 => lete (y1 + x15) (fun x16 => some (.inl (x16, y2 + 1, q12.2))))))) else some (.inl (y1, y2 + 1, q12.2)))) else some (.inl (y1, y2 + 1, m3)))) else (gX9_isForest F m3 y2 2).bind (fun q6 => (if q6.1 = true then chk (inb a1 7) (chk (inb a2 7) ((if (q6.2.1 57 (Int32.toNatClampNeg a1)) = (q6.2.1 57 (Int32.toNatClampNeg a2)) then some (.inl (y1, y2 + 1, q6.2)) else (gX9_worthOf F q6.2 y2).bind (fun x9 => lete (y1 + x9) (fun x10 => some (.inl (x10, y2 + 1, q6.2))))))) else some (.inl (y1, y2 + 1, q6.2))))) else some (.inl (y1, y2 + 1, m3))))))
def gX9_sumApart (F : Nat) (m : Mem) (a1 : Int32) (a2 : Int32) (a3 : Bool) : Option (Int64 × Mem) := (iter F (bX9_sumApart_6 F a1 a2 a3) (0, 0, m)).bind (fun e17 => some (e17.1, e17.2.2))
set_option maxHeartbeats 4000000 in
set_option maxRecDepth 20000 in
theorem LX9_sumApart {n : Nat} {F : Nat} {m : Mem} {a1 : Int32} {a2 : Int32} {a3 : Bool} {r : Int64 × Mem} (hn64 : 64 ≤ n) (hg : gX9_sumApart F m a1 a2 a3 = some r) : MX yX9_sumApart cX9_sumApart 7 (some .long) { frames := 2, cells := 0, slots := 0, locals := 48 } n [.ref 43, .int a1, .int a2, .int (b2i a3)] m (some (.long r.1)) r.2 := by
  refine MX_of (by decide) (Nat.le_of_ble_eq_true rfl) (Or.inr (Or.inr (Or.inl ⟨rfl, _, rfl⟩))) (fun K hC hk hL hR => ?_)
  replace hn64 : 64 ≤ kn K := hk.symm ▸ hn64
  show RX K 0 [(0, .ref 43), (1, .int a1), (2, .int a2), (3, .int (b2i a3))] [] m
  rw [gX9_sumApart] at hg
  refine R_lconst (pc := 0) hC dX9_sumApart_0 kl_0 ?_
  refine R_lstore (pc := 1) hC dX9_sumApart_1 hL rfl (show _ = [(4, .long 0), (0, .ref 43), (1, .int a1), (2, .int a2), (3, .int (b2i a3))] from rfl) ?_
  refine R_iconst (pc := 3) hC dX9_sumApart_3 ki_0 ?_
  refine R_istore (pc := 4) hC dX9_sumApart_4 hL rfl (show _ = [(6, .int 0), (4, .long 0), (0, .ref 43), (1, .int a1), (2, .int a2), (3, .int (b2i a3))] from rfl) ?_
  refine R_pick [2, 3, 4, 5, 1, 0] (ls' := [(0, .ref 43), (1, .int a1), (2, .int a2), (3, .int (b2i a3)), (4, .long 0), (6, .int 0)]) rfl ?_
  obtain ⟨e17, he17, hg⟩ := bind_some hg
  refine iter_walk (P := fun s : (Int64 × Int32 × Mem) => RX K 6 [(0, .ref 43), (1, .int a1), (2, .int a2), (3, .int (b2i a3)), (4, .long s.1), (6, .int s.2.1)] [] s.2.2) (Qe := fun s : (Int64 × Int32 × Mem) => RX K 84 [(0, .ref 43), (1, .int a1), (2, .int a2), (3, .int (b2i a3)), (4, .long s.1), (6, .int s.2.1)] [] s.2.2) (fun s18 o hg kL6 kE6 => ?_) _ _ _ he17 ?_
  · obtain ⟨y1, y2, m3⟩ := s18
    rw [bX9_sumApart_6] at hg
    show RX K 6 [(0, .ref 43), (1, .int a1), (2, .int a2), (3, .int (b2i a3)), (4, .long y1), (6, .int y2)] [] m3
    refine R_iload (pc := 6) hC 5 dX9_sumApart_6 rfl ?_
    refine R_aload_n (pc := 8) hC 0 dX9_sumApart_8 rfl rfl ?_
    obtain ⟨x4, hx4, hg⟩ := bind_some hg
    refine R_callV (pc := 9) (av := []) (rest := [.int y2]) hC hR 43 (jx hn64 rfl) ly43 rfl mf_X9_allLanes wm_X9_162 (LX9_allLanes hn64 hx4) rfl rfl rfl (Nat.le_of_ble_eq_true rfl) dX9_sumApart_9 rfl ?_
    show RX K 12 [(0, .ref 43), (1, .int a1), (2, .int a2), (3, .int (b2i a3)), (4, .long y1), (6, .int y2)] [.int x4, .int y2] m3
    refine R_icmp_gt (tgt := 84) (pc := 12) hC dX9_sumApart_12 (by decide) (fun c => ?_) (fun c => ?_)
    · replace hg := (if_pos c).symm.trans hg
      refine R_pick [0, 1, 2, 3, 4, 5] (ls' := [(0, .ref 43), (1, .int a1), (2, .int a2), (3, .int (b2i a3)), (4, .long y1), (6, .int y2)]) rfl ?_
      have h9 := kE6 _ (Option.some.inj hg).symm
      exact h9
    · replace hg := (if_neg c).symm.trans hg
      refine R_iload (pc := 15) hC 5 dX9_sumApart_15 rfl ?_
      refine R_aload_n (pc := 17) hC 0 dX9_sumApart_17 rfl rfl ?_
      refine R_iconst (pc := 18) hC dX9_sumApart_18 ki_2 ?_
      obtain ⟨x5, hx5, hg⟩ := bind_some hg
      refine R_callV (pc := 19) (av := [.int 2]) (rest := [.int y2]) hC hR 43 (jx hn64 rfl) ly43 rfl mf_X9_ruledAs wm_X9_171 (LX9_ruledAs hn64 hx5) rfl rfl rfl (Nat.le_of_ble_eq_true rfl) dX9_sumApart_19 rfl ?_
      show RX K 22 [(0, .ref 43), (1, .int a1), (2, .int a2), (3, .int (b2i a3)), (4, .long y1), (6, .int y2)] [.int x5, .int y2] m3
      refine R_iand (pc := 22) hC dX9_sumApart_22 ?_
      refine R_if_ne (tgt := 78) (pc := 23) hC dX9_sumApart_23 (by decide) (fun c => ?_) (fun c => ?_)
      · replace hg := (if_neg c).symm.trans hg
        refine R_iinc (pc := 78) hC 5 dX9_sumApart_78 rfl (iv ki_1) hL rfl (show _ = [(6, .int (y2 + 1)), (0, .ref 43), (1, .int a1), (2, .int a2), (3, .int (b2i a3)), (4, .long y1)] from rfl) ?_
        refine R_goto (tgt := 6) (pc := 81) hC dX9_sumApart_81 (by decide) ?_
        refine R_pick [1, 2, 3, 4, 5, 0] (ls' := [(0, .ref 43), (1, .int a1), (2, .int a2), (3, .int (b2i a3)), (4, .long y1), (6, .int (y2 + 1))]) rfl ?_
        have h9 := kL6 _ (Option.some.inj hg).symm
        exact h9
      · replace hg := (if_pos c).symm.trans hg
        refine R_iload_n (pc := 26) hC 3 dX9_sumApart_26 rfl rfl ?_
        refine R_ifB_eq (tgt := 39) (pc := 27) hC dX9_sumApart_27 (by decide) (fun c => ?_) (fun c => ?_)
        · replace hg := (if_neg c).symm.trans hg
          refine R_aload_n (pc := 39) hC 0 dX9_sumApart_39 rfl rfl ?_
          refine R_iload (pc := 40) hC 5 dX9_sumApart_40 rfl ?_
          refine R_iconst (pc := 42) hC dX9_sumApart_42 ki_2 ?_
          obtain ⟨q6, hq6, hg⟩ := bind_some hg
          refine R_callV (pc := 43) (av := [.int y2, .int 2]) (rest := []) hC hR 43 (jx hn64 rfl) ly43 rfl mf_X9_isForest wm_X9_177 (LX9_isForest hn64 hq6) rfl rfl rfl (Nat.le_of_ble_eq_true rfl) dX9_sumApart_43 rfl ?_
          show RX K 46 [(0, .ref 43), (1, .int a1), (2, .int a2), (3, .int (b2i a3)), (4, .long y1), (6, .int y2)] [.int (b2i q6.1)] q6.2
          refine R_ifB_eq (tgt := 78) (pc := 46) hC dX9_sumApart_46 (by decide) (fun c => ?_) (fun c => ?_)
          · replace hg := (if_neg c).symm.trans hg
            refine R_iinc (pc := 78) hC 5 dX9_sumApart_78 rfl (iv ki_1) hL rfl (show _ = [(6, .int (y2 + 1)), (0, .ref 43), (1, .int a1), (2, .int a2), (3, .int (b2i a3)), (4, .long y1)] from rfl) ?_
            refine R_goto (tgt := 6) (pc := 81) hC dX9_sumApart_81 (by decide) ?_
            refine R_pick [1, 2, 3, 4, 5, 0] (ls' := [(0, .ref 43), (1, .int a1), (2, .int a2), (3, .int (b2i a3)), (4, .long y1), (6, .int (y2 + 1))]) rfl ?_
            have h9 := kL6 _ (Option.some.inj hg).symm
            exact h9
          · replace hg := (if_pos c).symm.trans hg
            refine R_aload_n (pc := 49) hC 0 dX9_sumApart_49 rfl rfl ?_
            refine gf_X9_53 (pc := 50) hC hn64 dX9_sumApart_50 ?_
            refine R_iload_n (pc := 53) hC 1 dX9_sumApart_53 rfl rfl ?_
            obtain ⟨c7, hg⟩ := chk_some hg
            refine R_iaload (pc := 54) hC 57 (jx hn64 rfl) ly57 (inb_vp c7) dX9_sumApart_54 ?_
            refine R_aload_n (pc := 55) hC 0 dX9_sumApart_55 rfl rfl ?_
            refine gf_X9_53 (pc := 56) hC hn64 dX9_sumApart_56 ?_
            refine R_iload_n (pc := 59) hC 2 dX9_sumApart_59 rfl rfl ?_
            obtain ⟨c8, hg⟩ := chk_some hg
            refine R_iaload (pc := 60) hC 57 (jx hn64 rfl) ly57 (inb_vp c8) dX9_sumApart_60 ?_
            refine R_icmp_ne (tgt := 67) (pc := 61) hC dX9_sumApart_61 (by decide) (fun c => ?_) (fun c => ?_)
            · replace hg := (if_neg c).symm.trans hg
              refine R_lload (pc := 67) hC 4 dX9_sumApart_67 rfl ?_
              refine R_aload_n (pc := 69) hC 0 dX9_sumApart_69 rfl rfl ?_
              refine R_iload (pc := 70) hC 5 dX9_sumApart_70 rfl ?_
              obtain ⟨x9, hx9, hg⟩ := bind_some hg
              refine R_callV (pc := 72) (av := [.int y2]) (rest := [.long y1]) hC hR 43 (jx hn64 rfl) ly43 rfl mf_X9_worthOf wm_X9_189 (LX9_worthOf hn64 hx9) rfl rfl rfl (Nat.le_of_ble_eq_true rfl) dX9_sumApart_72 rfl ?_
              show RX K 75 [(0, .ref 43), (1, .int a1), (2, .int a2), (3, .int (b2i a3)), (4, .long y1), (6, .int y2)] [.long x9, .long y1] q6.2
              refine R_ladd (pc := 75) hC dX9_sumApart_75 ?_
              obtain ⟨x10, hx10, hg⟩ := lete_some hg
              refine R_topL hx10 ?_
              refine R_lstore (pc := 76) hC dX9_sumApart_76 hL rfl (show _ = [(4, .long x10), (0, .ref 43), (1, .int a1), (2, .int a2), (3, .int (b2i a3)), (6, .int y2)] from rfl) ?_
              refine R_iinc (pc := 78) hC 5 dX9_sumApart_78 rfl (iv ki_1) hL rfl (show _ = [(6, .int (y2 + 1)), (4, .long x10), (0, .ref 43), (1, .int a1), (2, .int a2), (3, .int (b2i a3))] from rfl) ?_
              refine R_goto (tgt := 6) (pc := 81) hC dX9_sumApart_81 (by decide) ?_
              refine R_pick [2, 3, 4, 5, 1, 0] (ls' := [(0, .ref 43), (1, .int a1), (2, .int a2), (3, .int (b2i a3)), (4, .long x10), (6, .int (y2 + 1))]) rfl ?_
              have h9 := kL6 _ (Option.some.inj hg).symm
              exact h9
            · replace hg := (if_pos c).symm.trans hg
              refine R_goto (tgt := 78) (pc := 64) hC dX9_sumApart_64 (by decide) ?_
              refine R_iinc (pc := 78) hC 5 dX9_sumApart_78 rfl (iv ki_1) hL rfl (show _ = [(6, .int (y2 + 1)), (0, .ref 43), (1, .int a1), (2, .int a2), (3, .int (b2i a3)), (4, .long y1)] from rfl) ?_
              refine R_goto (tgt := 6) (pc := 81) hC dX9_sumApart_81 (by decide) ?_
              refine R_pick [1, 2, 3, 4, 5, 0] (ls' := [(0, .ref 43), (1, .int a1), (2, .int a2), (3, .int (b2i a3)), (4, .long y1), (6, .int (y2 + 1))]) rfl ?_
              have h9 := kL6 _ (Option.some.inj hg).symm
              exact h9
        · replace hg := (if_pos c).symm.trans hg
          refine R_aload_n (pc := 30) hC 0 dX9_sumApart_30 rfl rfl ?_
          refine R_iload (pc := 31) hC 5 dX9_sumApart_31 rfl ?_
          obtain ⟨x11, hx11, hg⟩ := bind_some hg
          refine R_callV (pc := 33) (av := [.int y2]) (rest := []) hC hR 43 (jx hn64 rfl) ly43 rfl mf_X9_isRuled wm_X9_180 (LX9_isRuled hn64 hx11) rfl rfl rfl (Nat.le_of_ble_eq_true rfl) dX9_sumApart_33 rfl ?_
          show RX K 36 [(0, .ref 43), (1, .int a1), (2, .int a2), (3, .int (b2i a3)), (4, .long y1), (6, .int y2)] [.int (b2i x11)] m3
          refine R_ifB_eq (tgt := 78) (pc := 36) hC dX9_sumApart_36 (by decide) (fun c => ?_) (fun c => ?_)
          · replace hg := (if_neg c).symm.trans hg
            refine R_iinc (pc := 78) hC 5 dX9_sumApart_78 rfl (iv ki_1) hL rfl (show _ = [(6, .int (y2 + 1)), (0, .ref 43), (1, .int a1), (2, .int a2), (3, .int (b2i a3)), (4, .long y1)] from rfl) ?_
            refine R_goto (tgt := 6) (pc := 81) hC dX9_sumApart_81 (by decide) ?_
            refine R_pick [1, 2, 3, 4, 5, 0] (ls' := [(0, .ref 43), (1, .int a1), (2, .int a2), (3, .int (b2i a3)), (4, .long y1), (6, .int (y2 + 1))]) rfl ?_
            have h9 := kL6 _ (Option.some.inj hg).symm
            exact h9
          · replace hg := (if_pos c).symm.trans hg
            refine R_aload_n (pc := 39) hC 0 dX9_sumApart_39 rfl rfl ?_
            refine R_iload (pc := 40) hC 5 dX9_sumApart_40 rfl ?_
            refine R_iconst (pc := 42) hC dX9_sumApart_42 ki_2 ?_
            obtain ⟨q12, hq12, hg⟩ := bind_some hg
            refine R_callV (pc := 43) (av := [.int y2, .int 2]) (rest := []) hC hR 43 (jx hn64 rfl) ly43 rfl mf_X9_isForest wm_X9_177 (LX9_isForest hn64 hq12) rfl rfl rfl (Nat.le_of_ble_eq_true rfl) dX9_sumApart_43 rfl ?_
            show RX K 46 [(0, .ref 43), (1, .int a1), (2, .int a2), (3, .int (b2i a3)), (4, .long y1), (6, .int y2)] [.int (b2i q12.1)] q12.2
            refine R_ifB_eq (tgt := 78) (pc := 46) hC dX9_sumApart_46 (by decide) (fun c => ?_) (fun c => ?_)
            · replace hg := (if_neg c).symm.trans hg
              refine R_iinc (pc := 78) hC 5 dX9_sumApart_78 rfl (iv ki_1) hL rfl (show _ = [(6, .int (y2 + 1)), (0, .ref 43), (1, .int a1), (2, .int a2), (3, .int (b2i a3)), (4, .long y1)] from rfl) ?_
              refine R_goto (tgt := 6) (pc := 81) hC dX9_sumApart_81 (by decide) ?_
              refine R_pick [1, 2, 3, 4, 5, 0] (ls' := [(0, .ref 43), (1, .int a1), (2, .int a2), (3, .int (b2i a3)), (4, .long y1), (6, .int (y2 + 1))]) rfl ?_
              have h9 := kL6 _ (Option.some.inj hg).symm
              exact h9
            · replace hg := (if_pos c).symm.trans hg
              refine R_aload_n (pc := 49) hC 0 dX9_sumApart_49 rfl rfl ?_
              refine gf_X9_53 (pc := 50) hC hn64 dX9_sumApart_50 ?_
              refine R_iload_n (pc := 53) hC 1 dX9_sumApart_53 rfl rfl ?_
              obtain ⟨c13, hg⟩ := chk_some hg
              refine R_iaload (pc := 54) hC 57 (jx hn64 rfl) ly57 (inb_vp c13) dX9_sumApart_54 ?_
              refine R_aload_n (pc := 55) hC 0 dX9_sumApart_55 rfl rfl ?_
              refine gf_X9_53 (pc := 56) hC hn64 dX9_sumApart_56 ?_
              refine R_iload_n (pc := 59) hC 2 dX9_sumApart_59 rfl rfl ?_
              obtain ⟨c14, hg⟩ := chk_some hg
              refine R_iaload (pc := 60) hC 57 (jx hn64 rfl) ly57 (inb_vp c14) dX9_sumApart_60 ?_
              refine R_icmp_ne (tgt := 67) (pc := 61) hC dX9_sumApart_61 (by decide) (fun c => ?_) (fun c => ?_)
              · replace hg := (if_neg c).symm.trans hg
                refine R_lload (pc := 67) hC 4 dX9_sumApart_67 rfl ?_
                refine R_aload_n (pc := 69) hC 0 dX9_sumApart_69 rfl rfl ?_
                refine R_iload (pc := 70) hC 5 dX9_sumApart_70 rfl ?_
                obtain ⟨x15, hx15, hg⟩ := bind_some hg
                refine R_callV (pc := 72) (av := [.int y2]) (rest := [.long y1]) hC hR 43 (jx hn64 rfl) ly43 rfl mf_X9_worthOf wm_X9_189 (LX9_worthOf hn64 hx15) rfl rfl rfl (Nat.le_of_ble_eq_true rfl) dX9_sumApart_72 rfl ?_
                show RX K 75 [(0, .ref 43), (1, .int a1), (2, .int a2), (3, .int (b2i a3)), (4, .long y1), (6, .int y2)] [.long x15, .long y1] q12.2
                refine R_ladd (pc := 75) hC dX9_sumApart_75 ?_
                obtain ⟨x16, hx16, hg⟩ := lete_some hg
                refine R_topL hx16 ?_
                refine R_lstore (pc := 76) hC dX9_sumApart_76 hL rfl (show _ = [(4, .long x16), (0, .ref 43), (1, .int a1), (2, .int a2), (3, .int (b2i a3)), (6, .int y2)] from rfl) ?_
                refine R_iinc (pc := 78) hC 5 dX9_sumApart_78 rfl (iv ki_1) hL rfl (show _ = [(6, .int (y2 + 1)), (4, .long x16), (0, .ref 43), (1, .int a1), (2, .int a2), (3, .int (b2i a3))] from rfl) ?_
                refine R_goto (tgt := 6) (pc := 81) hC dX9_sumApart_81 (by decide) ?_
                refine R_pick [2, 3, 4, 5, 1, 0] (ls' := [(0, .ref 43), (1, .int a1), (2, .int a2), (3, .int (b2i a3)), (4, .long x16), (6, .int (y2 + 1))]) rfl ?_
                have h9 := kL6 _ (Option.some.inj hg).symm
                exact h9
              · replace hg := (if_pos c).symm.trans hg
                refine R_goto (tgt := 78) (pc := 64) hC dX9_sumApart_64 (by decide) ?_
                refine R_iinc (pc := 78) hC 5 dX9_sumApart_78 rfl (iv ki_1) hL rfl (show _ = [(6, .int (y2 + 1)), (0, .ref 43), (1, .int a1), (2, .int a2), (3, .int (b2i a3)), (4, .long y1)] from rfl) ?_
                refine R_goto (tgt := 6) (pc := 81) hC dX9_sumApart_81 (by decide) ?_
                refine R_pick [1, 2, 3, 4, 5, 0] (ls' := [(0, .ref 43), (1, .int a1), (2, .int a2), (3, .int (b2i a3)), (4, .long y1), (6, .int (y2 + 1))]) rfl ?_
                have h9 := kL6 _ (Option.some.inj hg).symm
                exact h9
  · show RX K 84 [(0, .ref 43), (1, .int a1), (2, .int a2), (3, .int (b2i a3)), (4, .long e17.1), (6, .int e17.2.1)] [] e17.2.2
    refine R_lload (pc := 84) hC 4 dX9_sumApart_84 rfl ?_
    have h9 := gxJM hg
    exact R_lreturn (pc := 86) hC dX9_sumApart_86 h9
theorem dX9_sumTogether_0 : decode cX9_sumTogether 0 = .ok (.lconst 0, 1) := by decide +kernel
theorem dX9_sumTogether_1 : decode cX9_sumTogether 1 = .ok (.lstore_n 1, 1) := by decide +kernel
theorem dX9_sumTogether_2 : decode cX9_sumTogether 2 = .ok (.iconst 0, 1) := by decide +kernel
theorem dX9_sumTogether_3 : decode cX9_sumTogether 3 = .ok (.istore_n 3, 1) := by decide +kernel
theorem dX9_sumTogether_4 : decode cX9_sumTogether 4 = .ok (.iload_n 3, 1) := by decide +kernel
theorem dX9_sumTogether_5 : decode cX9_sumTogether 5 = .ok (.aload_n 0, 1) := by decide +kernel
theorem dX9_sumTogether_6 : decode cX9_sumTogether 6 = .ok (.invokevirtual 162, 3) := by decide +kernel
theorem dX9_sumTogether_9 : decode cX9_sumTogether 9 = .ok (.if_icmp .gt 40, 3) := by decide +kernel
theorem dX9_sumTogether_12 : decode cX9_sumTogether 12 = .ok (.lload_n 1, 1) := by decide +kernel
theorem dX9_sumTogether_13 : decode cX9_sumTogether 13 = .ok (.iload_n 3, 1) := by decide +kernel
theorem dX9_sumTogether_14 : decode cX9_sumTogether 14 = .ok (.aload_n 0, 1) := by decide +kernel
theorem dX9_sumTogether_15 : decode cX9_sumTogether 15 = .ok (.iconst 2, 1) := by decide +kernel
theorem dX9_sumTogether_16 : decode cX9_sumTogether 16 = .ok (.invokevirtual 171, 3) := by decide +kernel
theorem dX9_sumTogether_19 : decode cX9_sumTogether 19 = .ok (.iand, 1) := by decide +kernel
theorem dX9_sumTogether_20 : decode cX9_sumTogether 20 = .ok (.ifCond .ne 20, 3) := by decide +kernel
theorem dX9_sumTogether_23 : decode cX9_sumTogether 23 = .ok (.aload_n 0, 1) := by decide +kernel
theorem dX9_sumTogether_24 : decode cX9_sumTogether 24 = .ok (.iload_n 3, 1) := by decide +kernel
theorem dX9_sumTogether_25 : decode cX9_sumTogether 25 = .ok (.iconst 1, 1) := by decide +kernel
theorem dX9_sumTogether_26 : decode cX9_sumTogether 26 = .ok (.invokevirtual 177, 3) := by decide +kernel
theorem dX9_sumTogether_29 : decode cX9_sumTogether 29 = .ok (.ifCond .eq 11, 3) := by decide +kernel
theorem dX9_sumTogether_32 : decode cX9_sumTogether 32 = .ok (.aload_n 0, 1) := by decide +kernel
theorem dX9_sumTogether_33 : decode cX9_sumTogether 33 = .ok (.iload_n 3, 1) := by decide +kernel
theorem dX9_sumTogether_34 : decode cX9_sumTogether 34 = .ok (.invokevirtual 189, 3) := by decide +kernel
theorem dX9_sumTogether_37 : decode cX9_sumTogether 37 = .ok (.goto 4, 3) := by decide +kernel
theorem dX9_sumTogether_40 : decode cX9_sumTogether 40 = .ok (.lconst 0, 1) := by decide +kernel
theorem dX9_sumTogether_41 : decode cX9_sumTogether 41 = .ok (.ladd, 1) := by decide +kernel
theorem dX9_sumTogether_42 : decode cX9_sumTogether 42 = .ok (.lstore_n 1, 1) := by decide +kernel
theorem dX9_sumTogether_43 : decode cX9_sumTogether 43 = .ok (.iinc 3 1, 3) := by decide +kernel
theorem dX9_sumTogether_46 : decode cX9_sumTogether 46 = .ok (.goto (-42), 3) := by decide +kernel
theorem dX9_sumTogether_49 : decode cX9_sumTogether 49 = .ok (.lload_n 1, 1) := by decide +kernel
theorem dX9_sumTogether_50 : decode cX9_sumTogether 50 = .ok (.lreturn, 1) := by decide +kernel
def bX9_sumTogether_4 (F : Nat) : (Int64 × Int32 × Mem) → Option ((Int64 × Int32 × Mem) ⊕ (Int64 × Int32 × Mem))
  | (y1, y2, m3) => (gX9_allLanes m3).bind (fun x4 => (if x4 < y2 then some (.inr (y1, y2, m3)) else (gX9_ruledAs F m3 2).bind (fun x5 => (if (y2 &&& x5) = 0 then (gX9_isForest F m3 y2 1).bind (fun q7 => (if q7.1 = true then (gX9_worthOf F q7.2 y2).bind (fun x9 => lete (y1 + x9) (fun x10 => some (.inl (x10, y2 + 1, q7.2)))) else lete (y1 + 0) (fun x8 => some (.inl (x8, y2 + 1, q7.2))))) else lete (y1 + 0) (fun x6 => some (.inl (x6, y2 + 1, m3)))))))
def gX9_sumTogether (F : Nat) (m : Mem) : Option (Int64 × Mem) := (iter F (bX9_sumTogether_4 F) (0, 0, m)).bind (fun e11 => some (e11.1, e11.2.2))
set_option maxHeartbeats 4000000 in
set_option maxRecDepth 20000 in
theorem LX9_sumTogether {n : Nat} {F : Nat} {m : Mem} {r : Int64 × Mem} (hn64 : 64 ≤ n) (hg : gX9_sumTogether F m  = some r) : MX yX9_sumTogether cX9_sumTogether 4 (some .long) { frames := 2, cells := 0, slots := 0, locals := 48 } n [.ref 43] m (some (.long r.1)) r.2 := by
  refine MX_of (by decide) (Nat.le_of_ble_eq_true rfl) (Or.inr (Or.inr (Or.inl ⟨rfl, _, rfl⟩))) (fun K hC hk hL hR => ?_)
  replace hn64 : 64 ≤ kn K := hk.symm ▸ hn64
  show RX K 0 [(0, .ref 43)] [] m
  rw [gX9_sumTogether] at hg
  refine R_lconst (pc := 0) hC dX9_sumTogether_0 kl_0 ?_
  refine R_lstore_n (pc := 1) hC dX9_sumTogether_1 rfl hL rfl (show _ = [(1, .long 0), (0, .ref 43)] from rfl) ?_
  refine R_iconst (pc := 2) hC dX9_sumTogether_2 ki_0 ?_
  refine R_istore_n (pc := 3) hC dX9_sumTogether_3 rfl hL rfl (show _ = [(3, .int 0), (1, .long 0), (0, .ref 43)] from rfl) ?_
  refine R_pick [2, 1, 0] (ls' := [(0, .ref 43), (1, .long 0), (3, .int 0)]) rfl ?_
  obtain ⟨e11, he11, hg⟩ := bind_some hg
  refine iter_walk (P := fun s : (Int64 × Int32 × Mem) => RX K 4 [(0, .ref 43), (1, .long s.1), (3, .int s.2.1)] [] s.2.2) (Qe := fun s : (Int64 × Int32 × Mem) => RX K 49 [(0, .ref 43), (1, .long s.1), (3, .int s.2.1)] [] s.2.2) (fun s12 o hg kL4 kE4 => ?_) _ _ _ he11 ?_
  · obtain ⟨y1, y2, m3⟩ := s12
    rw [bX9_sumTogether_4] at hg
    show RX K 4 [(0, .ref 43), (1, .long y1), (3, .int y2)] [] m3
    refine R_iload_n (pc := 4) hC 2 dX9_sumTogether_4 rfl rfl ?_
    refine R_aload_n (pc := 5) hC 0 dX9_sumTogether_5 rfl rfl ?_
    obtain ⟨x4, hx4, hg⟩ := bind_some hg
    refine R_callV (pc := 6) (av := []) (rest := [.int y2]) hC hR 43 (jx hn64 rfl) ly43 rfl mf_X9_allLanes wm_X9_162 (LX9_allLanes hn64 hx4) rfl rfl rfl (Nat.le_of_ble_eq_true rfl) dX9_sumTogether_6 rfl ?_
    show RX K 9 [(0, .ref 43), (1, .long y1), (3, .int y2)] [.int x4, .int y2] m3
    refine R_icmp_gt (tgt := 49) (pc := 9) hC dX9_sumTogether_9 (by decide) (fun c => ?_) (fun c => ?_)
    · replace hg := (if_pos c).symm.trans hg
      refine R_pick [0, 1, 2] (ls' := [(0, .ref 43), (1, .long y1), (3, .int y2)]) rfl ?_
      have h9 := kE4 _ (Option.some.inj hg).symm
      exact h9
    · replace hg := (if_neg c).symm.trans hg
      refine R_lload_n (pc := 12) hC 1 dX9_sumTogether_12 rfl rfl ?_
      refine R_iload_n (pc := 13) hC 2 dX9_sumTogether_13 rfl rfl ?_
      refine R_aload_n (pc := 14) hC 0 dX9_sumTogether_14 rfl rfl ?_
      refine R_iconst (pc := 15) hC dX9_sumTogether_15 ki_2 ?_
      obtain ⟨x5, hx5, hg⟩ := bind_some hg
      refine R_callV (pc := 16) (av := [.int 2]) (rest := [.int y2, .long y1]) hC hR 43 (jx hn64 rfl) ly43 rfl mf_X9_ruledAs wm_X9_171 (LX9_ruledAs hn64 hx5) rfl rfl rfl (Nat.le_of_ble_eq_true rfl) dX9_sumTogether_16 rfl ?_
      show RX K 19 [(0, .ref 43), (1, .long y1), (3, .int y2)] [.int x5, .int y2, .long y1] m3
      refine R_iand (pc := 19) hC dX9_sumTogether_19 ?_
      refine R_if_ne (tgt := 40) (pc := 20) hC dX9_sumTogether_20 (by decide) (fun c => ?_) (fun c => ?_)
      · replace hg := (if_neg c).symm.trans hg
        refine R_lconst (pc := 40) hC dX9_sumTogether_40 kl_0 ?_
        refine R_ladd (pc := 41) hC dX9_sumTogether_41 ?_
        obtain ⟨x6, hx6, hg⟩ := lete_some hg
        refine R_topL hx6 ?_
        refine R_lstore_n (pc := 42) hC dX9_sumTogether_42 rfl hL rfl (show _ = [(1, .long x6), (0, .ref 43), (3, .int y2)] from rfl) ?_
        refine R_iinc (pc := 43) hC 2 dX9_sumTogether_43 rfl (iv ki_1) hL rfl (show _ = [(3, .int (y2 + 1)), (1, .long x6), (0, .ref 43)] from rfl) ?_
        refine R_goto (tgt := 4) (pc := 46) hC dX9_sumTogether_46 (by decide) ?_
        refine R_pick [2, 1, 0] (ls' := [(0, .ref 43), (1, .long x6), (3, .int (y2 + 1))]) rfl ?_
        have h9 := kL4 _ (Option.some.inj hg).symm
        exact h9
      · replace hg := (if_pos c).symm.trans hg
        refine R_aload_n (pc := 23) hC 0 dX9_sumTogether_23 rfl rfl ?_
        refine R_iload_n (pc := 24) hC 2 dX9_sumTogether_24 rfl rfl ?_
        refine R_iconst (pc := 25) hC dX9_sumTogether_25 ki_1 ?_
        obtain ⟨q7, hq7, hg⟩ := bind_some hg
        refine R_callV (pc := 26) (av := [.int y2, .int 1]) (rest := [.long y1]) hC hR 43 (jx hn64 rfl) ly43 rfl mf_X9_isForest wm_X9_177 (LX9_isForest hn64 hq7) rfl rfl rfl (Nat.le_of_ble_eq_true rfl) dX9_sumTogether_26 rfl ?_
        show RX K 29 [(0, .ref 43), (1, .long y1), (3, .int y2)] [.int (b2i q7.1), .long y1] q7.2
        refine R_ifB_eq (tgt := 40) (pc := 29) hC dX9_sumTogether_29 (by decide) (fun c => ?_) (fun c => ?_)
        · replace hg := (if_neg c).symm.trans hg
          refine R_lconst (pc := 40) hC dX9_sumTogether_40 kl_0 ?_
          refine R_ladd (pc := 41) hC dX9_sumTogether_41 ?_
          obtain ⟨x8, hx8, hg⟩ := lete_some hg
          refine R_topL hx8 ?_
          refine R_lstore_n (pc := 42) hC dX9_sumTogether_42 rfl hL rfl (show _ = [(1, .long x8), (0, .ref 43), (3, .int y2)] from rfl) ?_
          refine R_iinc (pc := 43) hC 2 dX9_sumTogether_43 rfl (iv ki_1) hL rfl (show _ = [(3, .int (y2 + 1)), (1, .long x8), (0, .ref 43)] from rfl) ?_
          refine R_goto (tgt := 4) (pc := 46) hC dX9_sumTogether_46 (by decide) ?_
          refine R_pick [2, 1, 0] (ls' := [(0, .ref 43), (1, .long x8), (3, .int (y2 + 1))]) rfl ?_
          have h9 := kL4 _ (Option.some.inj hg).symm
          exact h9
        · replace hg := (if_pos c).symm.trans hg
          refine R_aload_n (pc := 32) hC 0 dX9_sumTogether_32 rfl rfl ?_
          refine R_iload_n (pc := 33) hC 2 dX9_sumTogether_33 rfl rfl ?_
          obtain ⟨x9, hx9, hg⟩ := bind_some hg
          refine R_callV (pc := 34) (av := [.int y2]) (rest := [.long y1]) hC hR 43 (jx hn64 rfl) ly43 rfl mf_X9_worthOf wm_X9_189 (LX9_worthOf hn64 hx9) rfl rfl rfl (Nat.le_of_ble_eq_true rfl) dX9_sumTogether_34 rfl ?_
          show RX K 37 [(0, .ref 43), (1, .long y1), (3, .int y2)] [.long x9, .long y1] q7.2
          refine R_goto (tgt := 41) (pc := 37) hC dX9_sumTogether_37 (by decide) ?_
          refine R_ladd (pc := 41) hC dX9_sumTogether_41 ?_
          obtain ⟨x10, hx10, hg⟩ := lete_some hg
          refine R_topL hx10 ?_
          refine R_lstore_n (pc := 42) hC dX9_sumTogether_42 rfl hL rfl (show _ = [(1, .long x10), (0, .ref 43), (3, .int y2)] from rfl) ?_
          refine R_iinc (pc := 43) hC 2 dX9_sumTogether_43 rfl (iv ki_1) hL rfl (show _ = [(3, .int (y2 + 1)), (1, .long x10), (0, .ref 43)] from rfl) ?_
          refine R_goto (tgt := 4) (pc := 46) hC dX9_sumTogether_46 (by decide) ?_
          refine R_pick [2, 1, 0] (ls' := [(0, .ref 43), (1, .long x10), (3, .int (y2 + 1))]) rfl ?_
          have h9 := kL4 _ (Option.some.inj hg).symm
          exact h9
  · show RX K 49 [(0, .ref 43), (1, .long e11.1), (3, .int e11.2.1)] [] e11.2.2
    refine R_lload_n (pc := 49) hC 1 dX9_sumTogether_49 rfl rfl ?_
    have h9 := gxJM hg
    exact R_lreturn (pc := 50) hC dX9_sumTogether_50 h9
theorem dX9_areTwo_0 : decode cX9_areTwo 0 = .ok (.aload_n 0, 1) := by decide +kernel
theorem dX9_areTwo_1 : decode cX9_areTwo 1 = .ok (.iload_n 1, 1) := by decide +kernel
theorem dX9_areTwo_2 : decode cX9_areTwo 2 = .ok (.invokevirtual 113, 3) := by decide +kernel
theorem dX9_areTwo_5 : decode cX9_areTwo 5 = .ok (.ifCond .eq 20, 3) := by decide +kernel
theorem dX9_areTwo_8 : decode cX9_areTwo 8 = .ok (.aload_n 0, 1) := by decide +kernel
theorem dX9_areTwo_9 : decode cX9_areTwo 9 = .ok (.iload_n 2, 1) := by decide +kernel
theorem dX9_areTwo_10 : decode cX9_areTwo 10 = .ok (.invokevirtual 113, 3) := by decide +kernel
theorem dX9_areTwo_13 : decode cX9_areTwo 13 = .ok (.ifCond .eq 12, 3) := by decide +kernel
theorem dX9_areTwo_16 : decode cX9_areTwo 16 = .ok (.iload_n 1, 1) := by decide +kernel
theorem dX9_areTwo_17 : decode cX9_areTwo 17 = .ok (.iload_n 2, 1) := by decide +kernel
theorem dX9_areTwo_18 : decode cX9_areTwo 18 = .ok (.if_icmp .eq 7, 3) := by decide +kernel
theorem dX9_areTwo_21 : decode cX9_areTwo 21 = .ok (.iconst 1, 1) := by decide +kernel
theorem dX9_areTwo_22 : decode cX9_areTwo 22 = .ok (.goto 4, 3) := by decide +kernel
theorem dX9_areTwo_25 : decode cX9_areTwo 25 = .ok (.iconst 0, 1) := by decide +kernel
theorem dX9_areTwo_26 : decode cX9_areTwo 26 = .ok (.ireturn, 1) := by decide +kernel
def gX9_areTwo (m : Mem) (a1 : Int32) (a2 : Int32) : Option (Bool) := (gX9_isHouse m a1).bind (fun x1 => (if x1 = true then (gX9_isHouse m a2).bind (fun x2 => (if x2 = true then (if a1 = a2 then some false else some true) else some false)) else some false))
set_option maxHeartbeats 4000000 in
set_option maxRecDepth 20000 in
theorem LX9_areTwo {n : Nat} {m : Mem} {a1 : Int32} {a2 : Int32} {r : Bool} (hn64 : 64 ≤ n) (hg : gX9_areTwo m a1 a2 = some r) : MX yX9_areTwo cX9_areTwo 3 (some .boolean) { frames := 1, cells := 0, slots := 0, locals := 21 } n [.ref 43, .int a1, .int a2] m (some (.int (b2i r))) m := by
  refine MX_of (by decide) (Nat.le_of_ble_eq_true rfl) (Or.inr (Or.inr (Or.inr ⟨rfl, _, rfl⟩))) (fun K hC hk hL hR => ?_)
  replace hn64 : 64 ≤ kn K := hk.symm ▸ hn64
  show RX K 0 [(0, .ref 43), (1, .int a1), (2, .int a2)] [] m
  rw [gX9_areTwo] at hg
  refine R_aload_n (pc := 0) hC 0 dX9_areTwo_0 rfl rfl ?_
  refine R_iload_n (pc := 1) hC 1 dX9_areTwo_1 rfl rfl ?_
  obtain ⟨x1, hx1, hg⟩ := bind_some hg
  refine R_callV (pc := 2) (av := [.int a1]) (rest := []) hC hR 43 (jx hn64 rfl) ly43 rfl mf_X9_isHouse wm_X9_113 (LX9_isHouse hn64 hx1) rfl rfl rfl (Nat.le_of_ble_eq_true rfl) dX9_areTwo_2 rfl ?_
  show RX K 5 [(0, .ref 43), (1, .int a1), (2, .int a2)] [.int (b2i x1)] m
  refine R_ifB_eq (tgt := 25) (pc := 5) hC dX9_areTwo_5 (by decide) (fun c => ?_) (fun c => ?_)
  · replace hg := (if_neg c).symm.trans hg
    refine R_iconst (pc := 25) hC dX9_areTwo_25 ki_0 ?_
    have h9 := gxZ (m := m) hg
    exact R_ireturn (pc := 26) hC dX9_areTwo_26 h9
  · replace hg := (if_pos c).symm.trans hg
    refine R_aload_n (pc := 8) hC 0 dX9_areTwo_8 rfl rfl ?_
    refine R_iload_n (pc := 9) hC 2 dX9_areTwo_9 rfl rfl ?_
    obtain ⟨x2, hx2, hg⟩ := bind_some hg
    refine R_callV (pc := 10) (av := [.int a2]) (rest := []) hC hR 43 (jx hn64 rfl) ly43 rfl mf_X9_isHouse wm_X9_113 (LX9_isHouse hn64 hx2) rfl rfl rfl (Nat.le_of_ble_eq_true rfl) dX9_areTwo_10 rfl ?_
    show RX K 13 [(0, .ref 43), (1, .int a1), (2, .int a2)] [.int (b2i x2)] m
    refine R_ifB_eq (tgt := 25) (pc := 13) hC dX9_areTwo_13 (by decide) (fun c => ?_) (fun c => ?_)
    · replace hg := (if_neg c).symm.trans hg
      refine R_iconst (pc := 25) hC dX9_areTwo_25 ki_0 ?_
      have h9 := gxZ (m := m) hg
      exact R_ireturn (pc := 26) hC dX9_areTwo_26 h9
    · replace hg := (if_pos c).symm.trans hg
      refine R_iload_n (pc := 16) hC 1 dX9_areTwo_16 rfl rfl ?_
      refine R_iload_n (pc := 17) hC 2 dX9_areTwo_17 rfl rfl ?_
      refine R_icmp_eq (tgt := 25) (pc := 18) hC dX9_areTwo_18 (by decide) (fun c => ?_) (fun c => ?_)
      · replace hg := (if_pos c).symm.trans hg
        refine R_iconst (pc := 25) hC dX9_areTwo_25 ki_0 ?_
        have h9 := gxZ (m := m) hg
        exact R_ireturn (pc := 26) hC dX9_areTwo_26 h9
      · replace hg := (if_neg c).symm.trans hg
        refine R_iconst (pc := 21) hC dX9_areTwo_21 ki_1 ?_
        refine R_goto (tgt := 26) (pc := 22) hC dX9_areTwo_22 (by decide) ?_
        have h9 := gxZ (m := m) hg
        exact R_ireturn (pc := 26) hC dX9_areTwo_26 h9
theorem dX9_hard_0 : decode cX9_hard 0 = .ok (.aload_n 0, 1) := by decide +kernel
theorem dX9_hard_1 : decode cX9_hard 1 = .ok (.iload_n 1, 1) := by decide +kernel
theorem dX9_hard_2 : decode cX9_hard 2 = .ok (.iload_n 2, 1) := by decide +kernel
theorem dX9_hard_3 : decode cX9_hard 3 = .ok (.invokevirtual 234, 3) := by decide +kernel
theorem dX9_hard_6 : decode cX9_hard 6 = .ok (.ifCond .ne 9, 3) := by decide +kernel
theorem dX9_hard_9 : decode cX9_hard 9 = .ok (.aload_n 0, 1) := by decide +kernel
theorem dX9_hard_10 : decode cX9_hard 10 = .ok (.iconst (-1), 1) := by decide +kernel
theorem dX9_hard_11 : decode cX9_hard 11 = .ok (.invokevirtual 204, 3) := by decide +kernel
theorem dX9_hard_14 : decode cX9_hard 14 = .ok (.lreturn, 1) := by decide +kernel
theorem dX9_hard_15 : decode cX9_hard 15 = .ok (.iload_n 3, 1) := by decide +kernel
theorem dX9_hard_16 : decode cX9_hard 16 = .ok (.iconst 0, 1) := by decide +kernel
theorem dX9_hard_17 : decode cX9_hard 17 = .ok (.iconst 1, 1) := by decide +kernel
theorem dX9_hard_18 : decode cX9_hard 18 = .ok (.invokestatic 98, 3) := by decide +kernel
theorem dX9_hard_21 : decode cX9_hard 21 = .ok (.ifCond .ne 10, 3) := by decide +kernel
theorem dX9_hard_24 : decode cX9_hard 24 = .ok (.aload_n 0, 1) := by decide +kernel
theorem dX9_hard_25 : decode cX9_hard 25 = .ok (.bipush (-2), 2) := by decide +kernel
theorem dX9_hard_27 : decode cX9_hard 27 = .ok (.invokevirtual 204, 3) := by decide +kernel
theorem dX9_hard_30 : decode cX9_hard 30 = .ok (.lreturn, 1) := by decide +kernel
theorem dX9_hard_31 : decode cX9_hard 31 = .ok (.aload_n 0, 1) := by decide +kernel
theorem dX9_hard_32 : decode cX9_hard 32 = .ok (.invokevirtual 237, 3) := by decide +kernel
theorem dX9_hard_35 : decode cX9_hard 35 = .ok (.lstore 4, 2) := by decide +kernel
theorem dX9_hard_37 : decode cX9_hard 37 = .ok (.lload 4, 2) := by decide +kernel
theorem dX9_hard_39 : decode cX9_hard 39 = .ok (.lconst 0, 1) := by decide +kernel
theorem dX9_hard_40 : decode cX9_hard 40 = .ok (.lcmp, 1) := by decide +kernel
theorem dX9_hard_41 : decode cX9_hard 41 = .ok (.ifCond .ne 12, 3) := by decide +kernel
theorem dX9_hard_44 : decode cX9_hard 44 = .ok (.aload_n 0, 1) := by decide +kernel
theorem dX9_hard_45 : decode cX9_hard 45 = .ok (.bipush (-3), 2) := by decide +kernel
theorem dX9_hard_47 : decode cX9_hard 47 = .ok (.invokevirtual 204, 3) := by decide +kernel
theorem dX9_hard_50 : decode cX9_hard 50 = .ok (.goto 16, 3) := by decide +kernel
theorem dX9_hard_53 : decode cX9_hard 53 = .ok (.aload_n 0, 1) := by decide +kernel
theorem dX9_hard_54 : decode cX9_hard 54 = .ok (.iload_n 1, 1) := by decide +kernel
theorem dX9_hard_55 : decode cX9_hard 55 = .ok (.iload_n 2, 1) := by decide +kernel
theorem dX9_hard_56 : decode cX9_hard 56 = .ok (.iconst 0, 1) := by decide +kernel
theorem dX9_hard_57 : decode cX9_hard 57 = .ok (.invokevirtual 241, 3) := by decide +kernel
theorem dX9_hard_60 : decode cX9_hard 60 = .ok (.lload 4, 2) := by decide +kernel
theorem dX9_hard_62 : decode cX9_hard 62 = .ok (.iload_n 3, 1) := by decide +kernel
theorem dX9_hard_63 : decode cX9_hard 63 = .ok (.invokestatic 207, 3) := by decide +kernel
theorem dX9_hard_66 : decode cX9_hard 66 = .ok (.lreturn, 1) := by decide +kernel
def gX9_hard (F : Nat) (m : Mem) (a1 : Int32) (a2 : Int32) (a3 : Int32) : Option (Int64 × Mem) := (gX9_areTwo m a1 a2).bind (fun x1 => (if x1 = true then (gX9_isIn a3 0 1).bind (fun x2 => (if x2 = true then (gX9_sumTogether F m).bind (fun q3 => (if (lg_cmp q3.1 0) = 0 then (gX9_lowest q3.2 (-3)).bind (fun q6 => some (q6.1, q6.2)) else (gX9_sumApart F q3.2 a1 a2 false).bind (fun q4 => (gX9_inLeast F q4.1 q3.1 a3).bind (fun x5 => some (x5, q4.2))))) else (gX9_lowest m (-2)).bind (fun q7 => some (q7.1, q7.2)))) else (gX9_lowest m (-1)).bind (fun q8 => some (q8.1, q8.2))))
set_option maxHeartbeats 4000000 in
set_option maxRecDepth 20000 in
theorem LX9_hard {n : Nat} {F : Nat} {m : Mem} {a1 : Int32} {a2 : Int32} {a3 : Int32} {r : Int64 × Mem} (hn64 : 64 ≤ n) (hg : gX9_hard F m a1 a2 a3 = some r) : MX yX9_hard cX9_hard 6 (some .long) { frames := 3, cells := 0, slots := 0, locals := 74 } n [.ref 43, .int a1, .int a2, .int a3] m (some (.long r.1)) r.2 := by
  refine MX_of (by decide) (Nat.le_of_ble_eq_true rfl) (Or.inr (Or.inr (Or.inl ⟨rfl, _, rfl⟩))) (fun K hC hk hL hR => ?_)
  replace hn64 : 64 ≤ kn K := hk.symm ▸ hn64
  show RX K 0 [(0, .ref 43), (1, .int a1), (2, .int a2), (3, .int a3)] [] m
  rw [gX9_hard] at hg
  refine R_aload_n (pc := 0) hC 0 dX9_hard_0 rfl rfl ?_
  refine R_iload_n (pc := 1) hC 1 dX9_hard_1 rfl rfl ?_
  refine R_iload_n (pc := 2) hC 2 dX9_hard_2 rfl rfl ?_
  obtain ⟨x1, hx1, hg⟩ := bind_some hg
  refine R_callV (pc := 3) (av := [.int a1, .int a2]) (rest := []) hC hR 43 (jx hn64 rfl) ly43 rfl mf_X9_areTwo wm_X9_234 (LX9_areTwo hn64 hx1) rfl rfl rfl (Nat.le_of_ble_eq_true rfl) dX9_hard_3 rfl ?_
  show RX K 6 [(0, .ref 43), (1, .int a1), (2, .int a2), (3, .int a3)] [.int (b2i x1)] m
  refine R_ifB_ne (tgt := 15) (pc := 6) hC dX9_hard_6 (by decide) (fun c => ?_) (fun c => ?_)
  · replace hg := (if_pos c).symm.trans hg
    refine R_iload_n (pc := 15) hC 3 dX9_hard_15 rfl rfl ?_
    refine R_iconst (pc := 16) hC dX9_hard_16 ki_0 ?_
    refine R_iconst (pc := 17) hC dX9_hard_17 ki_1 ?_
    obtain ⟨x2, hx2, hg⟩ := bind_some hg
    refine R_callS (pc := 18) (av := [.int a3, .int 0, .int 1]) (rest := []) hC hR mf_X9_isIn wm_X9_98 (LX9_isIn hn64 hx2) rfl rfl rfl (Nat.le_of_ble_eq_true rfl) dX9_hard_18 rfl ?_
    show RX K 21 [(0, .ref 43), (1, .int a1), (2, .int a2), (3, .int a3)] [.int (b2i x2)] m
    refine R_ifB_ne (tgt := 31) (pc := 21) hC dX9_hard_21 (by decide) (fun c => ?_) (fun c => ?_)
    · replace hg := (if_pos c).symm.trans hg
      refine R_aload_n (pc := 31) hC 0 dX9_hard_31 rfl rfl ?_
      obtain ⟨q3, hq3, hg⟩ := bind_some hg
      refine R_callV (pc := 32) (av := []) (rest := []) hC hR 43 (jx hn64 rfl) ly43 rfl mf_X9_sumTogether wm_X9_237 (LX9_sumTogether hn64 hq3) rfl rfl rfl (Nat.le_of_ble_eq_true rfl) dX9_hard_32 rfl ?_
      show RX K 35 [(0, .ref 43), (1, .int a1), (2, .int a2), (3, .int a3)] [.long q3.1] q3.2
      refine R_lstore (pc := 35) hC dX9_hard_35 hL rfl (show _ = [(4, .long q3.1), (0, .ref 43), (1, .int a1), (2, .int a2), (3, .int a3)] from rfl) ?_
      refine R_lload (pc := 37) hC 0 dX9_hard_37 rfl ?_
      refine R_lconst (pc := 39) hC dX9_hard_39 kl_0 ?_
      refine R_lcmp (pc := 40) hC dX9_hard_40 ?_
      refine R_if_ne (tgt := 53) (pc := 41) hC dX9_hard_41 (by decide) (fun c => ?_) (fun c => ?_)
      · replace hg := (if_neg c).symm.trans hg
        refine R_aload_n (pc := 53) hC 1 dX9_hard_53 rfl rfl ?_
        refine R_iload_n (pc := 54) hC 2 dX9_hard_54 rfl rfl ?_
        refine R_iload_n (pc := 55) hC 3 dX9_hard_55 rfl rfl ?_
        refine R_iconst (pc := 56) hC dX9_hard_56 ki_0 ?_
        obtain ⟨q4, hq4, hg⟩ := bind_some hg
        refine R_callV (pc := 57) (av := [.int a1, .int a2, .int (b2i false)]) (rest := []) hC hR 43 (jx hn64 rfl) ly43 rfl mf_X9_sumApart wm_X9_241 (LX9_sumApart hn64 hq4) rfl rfl rfl (Nat.le_of_ble_eq_true rfl) dX9_hard_57 rfl ?_
        show RX K 60 [(4, .long q3.1), (0, .ref 43), (1, .int a1), (2, .int a2), (3, .int a3)] [.long q4.1] q4.2
        refine R_lload (pc := 60) hC 0 dX9_hard_60 rfl ?_
        refine R_iload_n (pc := 62) hC 4 dX9_hard_62 rfl rfl ?_
        obtain ⟨x5, hx5, hg⟩ := bind_some hg
        refine R_callS (pc := 63) (av := [.long q4.1, .long q3.1, .int a3]) (rest := []) hC hR mf_X9_inLeast wm_X9_207 (LX9_inLeast hn64 hx5) rfl rfl rfl (Nat.le_of_ble_eq_true rfl) dX9_hard_63 rfl ?_
        show RX K 66 [(4, .long q3.1), (0, .ref 43), (1, .int a1), (2, .int a2), (3, .int a3)] [.long x5] q4.2
        have h9 := gxJM hg
        exact R_lreturn (pc := 66) hC dX9_hard_66 h9
      · replace hg := (if_pos c).symm.trans hg
        refine R_aload_n (pc := 44) hC 1 dX9_hard_44 rfl rfl ?_
        refine R_bipush (pc := 45) hC dX9_hard_45 kb_m3 ?_
        obtain ⟨q6, hq6, hg⟩ := bind_some hg
        refine R_callV (pc := 47) (av := [.int (-3)]) (rest := []) hC hR 43 (jx hn64 rfl) ly43 rfl mf_X9_lowest wm_X9_204 (LX9_lowest hn64 hq6) rfl rfl rfl (Nat.le_of_ble_eq_true rfl) dX9_hard_47 rfl ?_
        show RX K 50 [(4, .long q3.1), (0, .ref 43), (1, .int a1), (2, .int a2), (3, .int a3)] [.long q6.1] q6.2
        refine R_goto (tgt := 66) (pc := 50) hC dX9_hard_50 (by decide) ?_
        have h9 := gxJM hg
        exact R_lreturn (pc := 66) hC dX9_hard_66 h9
    · replace hg := (if_neg c).symm.trans hg
      refine R_aload_n (pc := 24) hC 0 dX9_hard_24 rfl rfl ?_
      refine R_bipush (pc := 25) hC dX9_hard_25 kb_m2 ?_
      obtain ⟨q7, hq7, hg⟩ := bind_some hg
      refine R_callV (pc := 27) (av := [.int (-2)]) (rest := []) hC hR 43 (jx hn64 rfl) ly43 rfl mf_X9_lowest wm_X9_204 (LX9_lowest hn64 hq7) rfl rfl rfl (Nat.le_of_ble_eq_true rfl) dX9_hard_27 rfl ?_
      show RX K 30 [(0, .ref 43), (1, .int a1), (2, .int a2), (3, .int a3)] [.long q7.1] q7.2
      have h9 := gxJM hg
      exact R_lreturn (pc := 30) hC dX9_hard_30 h9
  · replace hg := (if_neg c).symm.trans hg
    refine R_aload_n (pc := 9) hC 0 dX9_hard_9 rfl rfl ?_
    refine R_iconst (pc := 10) hC dX9_hard_10 ki_m1 ?_
    obtain ⟨q8, hq8, hg⟩ := bind_some hg
    refine R_callV (pc := 11) (av := [.int (-1)]) (rest := []) hC hR 43 (jx hn64 rfl) ly43 rfl mf_X9_lowest wm_X9_204 (LX9_lowest hn64 hq8) rfl rfl rfl (Nat.le_of_ble_eq_true rfl) dX9_hard_11 rfl ?_
    show RX K 14 [(0, .ref 43), (1, .int a1), (2, .int a2), (3, .int a3)] [.long q8.1] q8.2
    have h9 := gxJM hg
    exact R_lreturn (pc := 14) hC dX9_hard_14 h9
theorem dX9_more_0 : decode cX9_more 0 = .ok (.aload_n 0, 1) := by decide +kernel
theorem dX9_more_1 : decode cX9_more 1 = .ok (.iload_n 1, 1) := by decide +kernel
theorem dX9_more_2 : decode cX9_more 2 = .ok (.iload_n 2, 1) := by decide +kernel
theorem dX9_more_3 : decode cX9_more 3 = .ok (.invokevirtual 234, 3) := by decide +kernel
theorem dX9_more_6 : decode cX9_more 6 = .ok (.ifCond .ne 9, 3) := by decide +kernel
theorem dX9_more_9 : decode cX9_more 9 = .ok (.aload_n 0, 1) := by decide +kernel
theorem dX9_more_10 : decode cX9_more 10 = .ok (.iconst (-1), 1) := by decide +kernel
theorem dX9_more_11 : decode cX9_more 11 = .ok (.invokevirtual 204, 3) := by decide +kernel
theorem dX9_more_14 : decode cX9_more 14 = .ok (.lreturn, 1) := by decide +kernel
theorem dX9_more_15 : decode cX9_more 15 = .ok (.iload_n 3, 1) := by decide +kernel
theorem dX9_more_16 : decode cX9_more 16 = .ok (.iconst 0, 1) := by decide +kernel
theorem dX9_more_17 : decode cX9_more 17 = .ok (.iconst 1, 1) := by decide +kernel
theorem dX9_more_18 : decode cX9_more 18 = .ok (.invokestatic 98, 3) := by decide +kernel
theorem dX9_more_21 : decode cX9_more 21 = .ok (.ifCond .ne 10, 3) := by decide +kernel
theorem dX9_more_24 : decode cX9_more 24 = .ok (.aload_n 0, 1) := by decide +kernel
theorem dX9_more_25 : decode cX9_more 25 = .ok (.bipush (-2), 2) := by decide +kernel
theorem dX9_more_27 : decode cX9_more 27 = .ok (.invokevirtual 204, 3) := by decide +kernel
theorem dX9_more_30 : decode cX9_more 30 = .ok (.lreturn, 1) := by decide +kernel
theorem dX9_more_31 : decode cX9_more 31 = .ok (.aload_n 0, 1) := by decide +kernel
theorem dX9_more_32 : decode cX9_more 32 = .ok (.invokevirtual 193, 3) := by decide +kernel
theorem dX9_more_35 : decode cX9_more 35 = .ok (.aload_n 0, 1) := by decide +kernel
theorem dX9_more_36 : decode cX9_more 36 = .ok (.iconst 0, 1) := by decide +kernel
theorem dX9_more_37 : decode cX9_more 37 = .ok (.iconst 0, 1) := by decide +kernel
theorem dX9_more_38 : decode cX9_more 38 = .ok (.invokevirtual 196, 3) := by decide +kernel
theorem dX9_more_41 : decode cX9_more 41 = .ok (.lstore 4, 2) := by decide +kernel
theorem dX9_more_43 : decode cX9_more 43 = .ok (.lload 4, 2) := by decide +kernel
theorem dX9_more_45 : decode cX9_more 45 = .ok (.lconst 0, 1) := by decide +kernel
theorem dX9_more_46 : decode cX9_more 46 = .ok (.lcmp, 1) := by decide +kernel
theorem dX9_more_47 : decode cX9_more 47 = .ok (.ifCond .ne 12, 3) := by decide +kernel
theorem dX9_more_50 : decode cX9_more 50 = .ok (.aload_n 0, 1) := by decide +kernel
theorem dX9_more_51 : decode cX9_more 51 = .ok (.bipush (-3), 2) := by decide +kernel
theorem dX9_more_53 : decode cX9_more 53 = .ok (.invokevirtual 204, 3) := by decide +kernel
theorem dX9_more_56 : decode cX9_more 56 = .ok (.goto 19, 3) := by decide +kernel
theorem dX9_more_59 : decode cX9_more 59 = .ok (.lload 4, 2) := by decide +kernel
theorem dX9_more_61 : decode cX9_more 61 = .ok (.aload_n 0, 1) := by decide +kernel
theorem dX9_more_62 : decode cX9_more 62 = .ok (.iload_n 1, 1) := by decide +kernel
theorem dX9_more_63 : decode cX9_more 63 = .ok (.iload_n 2, 1) := by decide +kernel
theorem dX9_more_64 : decode cX9_more 64 = .ok (.iconst 1, 1) := by decide +kernel
theorem dX9_more_65 : decode cX9_more 65 = .ok (.invokevirtual 241, 3) := by decide +kernel
theorem dX9_more_68 : decode cX9_more 68 = .ok (.ladd, 1) := by decide +kernel
theorem dX9_more_69 : decode cX9_more 69 = .ok (.lload 4, 2) := by decide +kernel
theorem dX9_more_71 : decode cX9_more 71 = .ok (.iload_n 3, 1) := by decide +kernel
theorem dX9_more_72 : decode cX9_more 72 = .ok (.invokestatic 207, 3) := by decide +kernel
theorem dX9_more_75 : decode cX9_more 75 = .ok (.lreturn, 1) := by decide +kernel
def gX9_more (F : Nat) (m : Mem) (a1 : Int32) (a2 : Int32) (a3 : Int32) : Option (Int64 × Mem) := (gX9_areTwo m a1 a2).bind (fun x1 => (if x1 = true then (gX9_isIn a3 0 1).bind (fun x2 => (if x2 = true then (gX9_findWays F m).bind (fun q3 => (gX9_sumWith F q3 0 0).bind (fun x4 => (if (lg_cmp x4 0) = 0 then (gX9_lowest q3 (-3)).bind (fun q7 => some (q7.1, q7.2)) else (gX9_sumApart F q3 a1 a2 true).bind (fun q5 => (gX9_inLeast F (x4 + q5.1) x4 a3).bind (fun x6 => some (x6, q5.2)))))) else (gX9_lowest m (-2)).bind (fun q8 => some (q8.1, q8.2)))) else (gX9_lowest m (-1)).bind (fun q9 => some (q9.1, q9.2))))
set_option maxHeartbeats 4000000 in
set_option maxRecDepth 20000 in
theorem LX9_more {n : Nat} {F : Nat} {m : Mem} {a1 : Int32} {a2 : Int32} {a3 : Int32} {r : Int64 × Mem} (hn64 : 64 ≤ n) (hg : gX9_more F m a1 a2 a3 = some r) : MX yX9_more cX9_more 6 (some .long) { frames := 4, cells := 0, slots := 0, locals := 90 } n [.ref 43, .int a1, .int a2, .int a3] m (some (.long r.1)) r.2 := by
  refine MX_of (by decide) (Nat.le_of_ble_eq_true rfl) (Or.inr (Or.inr (Or.inl ⟨rfl, _, rfl⟩))) (fun K hC hk hL hR => ?_)
  replace hn64 : 64 ≤ kn K := hk.symm ▸ hn64
  show RX K 0 [(0, .ref 43), (1, .int a1), (2, .int a2), (3, .int a3)] [] m
  rw [gX9_more] at hg
  refine R_aload_n (pc := 0) hC 0 dX9_more_0 rfl rfl ?_
  refine R_iload_n (pc := 1) hC 1 dX9_more_1 rfl rfl ?_
  refine R_iload_n (pc := 2) hC 2 dX9_more_2 rfl rfl ?_
  obtain ⟨x1, hx1, hg⟩ := bind_some hg
  refine R_callV (pc := 3) (av := [.int a1, .int a2]) (rest := []) hC hR 43 (jx hn64 rfl) ly43 rfl mf_X9_areTwo wm_X9_234 (LX9_areTwo hn64 hx1) rfl rfl rfl (Nat.le_of_ble_eq_true rfl) dX9_more_3 rfl ?_
  show RX K 6 [(0, .ref 43), (1, .int a1), (2, .int a2), (3, .int a3)] [.int (b2i x1)] m
  refine R_ifB_ne (tgt := 15) (pc := 6) hC dX9_more_6 (by decide) (fun c => ?_) (fun c => ?_)
  · replace hg := (if_pos c).symm.trans hg
    refine R_iload_n (pc := 15) hC 3 dX9_more_15 rfl rfl ?_
    refine R_iconst (pc := 16) hC dX9_more_16 ki_0 ?_
    refine R_iconst (pc := 17) hC dX9_more_17 ki_1 ?_
    obtain ⟨x2, hx2, hg⟩ := bind_some hg
    refine R_callS (pc := 18) (av := [.int a3, .int 0, .int 1]) (rest := []) hC hR mf_X9_isIn wm_X9_98 (LX9_isIn hn64 hx2) rfl rfl rfl (Nat.le_of_ble_eq_true rfl) dX9_more_18 rfl ?_
    show RX K 21 [(0, .ref 43), (1, .int a1), (2, .int a2), (3, .int a3)] [.int (b2i x2)] m
    refine R_ifB_ne (tgt := 31) (pc := 21) hC dX9_more_21 (by decide) (fun c => ?_) (fun c => ?_)
    · replace hg := (if_pos c).symm.trans hg
      refine R_aload_n (pc := 31) hC 0 dX9_more_31 rfl rfl ?_
      obtain ⟨q3, hq3, hg⟩ := bind_some hg
      refine R_callV (pc := 32) (av := []) (rest := []) hC hR 43 (jx hn64 rfl) ly43 rfl mf_X9_findWays wm_X9_193 (LX9_findWays hn64 hq3) rfl rfl rfl (Nat.le_of_ble_eq_true rfl) dX9_more_32 rfl ?_
      show RX K 35 [(0, .ref 43), (1, .int a1), (2, .int a2), (3, .int a3)] [] q3
      refine R_aload_n (pc := 35) hC 0 dX9_more_35 rfl rfl ?_
      refine R_iconst (pc := 36) hC dX9_more_36 ki_0 ?_
      refine R_iconst (pc := 37) hC dX9_more_37 ki_0 ?_
      obtain ⟨x4, hx4, hg⟩ := bind_some hg
      refine R_callV (pc := 38) (av := [.int 0, .int 0]) (rest := []) hC hR 43 (jx hn64 rfl) ly43 rfl mf_X9_sumWith wm_X9_196 (LX9_sumWith hn64 hx4) rfl rfl rfl (Nat.le_of_ble_eq_true rfl) dX9_more_38 rfl ?_
      show RX K 41 [(0, .ref 43), (1, .int a1), (2, .int a2), (3, .int a3)] [.long x4] q3
      refine R_lstore (pc := 41) hC dX9_more_41 hL rfl (show _ = [(4, .long x4), (0, .ref 43), (1, .int a1), (2, .int a2), (3, .int a3)] from rfl) ?_
      refine R_lload (pc := 43) hC 0 dX9_more_43 rfl ?_
      refine R_lconst (pc := 45) hC dX9_more_45 kl_0 ?_
      refine R_lcmp (pc := 46) hC dX9_more_46 ?_
      refine R_if_ne (tgt := 59) (pc := 47) hC dX9_more_47 (by decide) (fun c => ?_) (fun c => ?_)
      · replace hg := (if_neg c).symm.trans hg
        refine R_lload (pc := 59) hC 0 dX9_more_59 rfl ?_
        refine R_aload_n (pc := 61) hC 1 dX9_more_61 rfl rfl ?_
        refine R_iload_n (pc := 62) hC 2 dX9_more_62 rfl rfl ?_
        refine R_iload_n (pc := 63) hC 3 dX9_more_63 rfl rfl ?_
        refine R_iconst (pc := 64) hC dX9_more_64 ki_1 ?_
        obtain ⟨q5, hq5, hg⟩ := bind_some hg
        refine R_callV (pc := 65) (av := [.int a1, .int a2, .int (b2i true)]) (rest := [.long x4]) hC hR 43 (jx hn64 rfl) ly43 rfl mf_X9_sumApart wm_X9_241 (LX9_sumApart hn64 hq5) rfl rfl rfl (Nat.le_of_ble_eq_true rfl) dX9_more_65 rfl ?_
        show RX K 68 [(4, .long x4), (0, .ref 43), (1, .int a1), (2, .int a2), (3, .int a3)] [.long q5.1, .long x4] q5.2
        refine R_ladd (pc := 68) hC dX9_more_68 ?_
        refine R_lload (pc := 69) hC 0 dX9_more_69 rfl ?_
        refine R_iload_n (pc := 71) hC 4 dX9_more_71 rfl rfl ?_
        obtain ⟨x6, hx6, hg⟩ := bind_some hg
        refine R_callS (pc := 72) (av := [.long (x4 + q5.1), .long x4, .int a3]) (rest := []) hC hR mf_X9_inLeast wm_X9_207 (LX9_inLeast hn64 hx6) rfl rfl rfl (Nat.le_of_ble_eq_true rfl) dX9_more_72 rfl ?_
        show RX K 75 [(4, .long x4), (0, .ref 43), (1, .int a1), (2, .int a2), (3, .int a3)] [.long x6] q5.2
        have h9 := gxJM hg
        exact R_lreturn (pc := 75) hC dX9_more_75 h9
      · replace hg := (if_pos c).symm.trans hg
        refine R_aload_n (pc := 50) hC 1 dX9_more_50 rfl rfl ?_
        refine R_bipush (pc := 51) hC dX9_more_51 kb_m3 ?_
        obtain ⟨q7, hq7, hg⟩ := bind_some hg
        refine R_callV (pc := 53) (av := [.int (-3)]) (rest := []) hC hR 43 (jx hn64 rfl) ly43 rfl mf_X9_lowest wm_X9_204 (LX9_lowest hn64 hq7) rfl rfl rfl (Nat.le_of_ble_eq_true rfl) dX9_more_53 rfl ?_
        show RX K 56 [(4, .long x4), (0, .ref 43), (1, .int a1), (2, .int a2), (3, .int a3)] [.long q7.1] q7.2
        refine R_goto (tgt := 75) (pc := 56) hC dX9_more_56 (by decide) ?_
        have h9 := gxJM hg
        exact R_lreturn (pc := 75) hC dX9_more_75 h9
    · replace hg := (if_neg c).symm.trans hg
      refine R_aload_n (pc := 24) hC 0 dX9_more_24 rfl rfl ?_
      refine R_bipush (pc := 25) hC dX9_more_25 kb_m2 ?_
      obtain ⟨q8, hq8, hg⟩ := bind_some hg
      refine R_callV (pc := 27) (av := [.int (-2)]) (rest := []) hC hR 43 (jx hn64 rfl) ly43 rfl mf_X9_lowest wm_X9_204 (LX9_lowest hn64 hq8) rfl rfl rfl (Nat.le_of_ble_eq_true rfl) dX9_more_27 rfl ?_
      show RX K 30 [(0, .ref 43), (1, .int a1), (2, .int a2), (3, .int a3)] [.long q8.1] q8.2
      have h9 := gxJM hg
      exact R_lreturn (pc := 30) hC dX9_more_30 h9
  · replace hg := (if_neg c).symm.trans hg
    refine R_aload_n (pc := 9) hC 0 dX9_more_9 rfl rfl ?_
    refine R_iconst (pc := 10) hC dX9_more_10 ki_m1 ?_
    obtain ⟨q9, hq9, hg⟩ := bind_some hg
    refine R_callV (pc := 11) (av := [.int (-1)]) (rest := []) hC hR 43 (jx hn64 rfl) ly43 rfl mf_X9_lowest wm_X9_204 (LX9_lowest hn64 hq9) rfl rfl rfl (Nat.le_of_ble_eq_true rfl) dX9_more_11 rfl ?_
    show RX K 14 [(0, .ref 43), (1, .int a1), (2, .int a2), (3, .int a3)] [.long q9.1] q9.2
    have h9 := gxJM hg
    exact R_lreturn (pc := 14) hC dX9_more_14 h9
theorem dX9_holds_0 : decode cX9_holds 0 = .ok (.iload_n 1, 1) := by decide +kernel
theorem dX9_holds_1 : decode cX9_holds 1 = .ok (.iconst 0, 1) := by decide +kernel
theorem dX9_holds_2 : decode cX9_holds 2 = .ok (.iconst 1, 1) := by decide +kernel
theorem dX9_holds_3 : decode cX9_holds 3 = .ok (.invokestatic 98, 3) := by decide +kernel
theorem dX9_holds_6 : decode cX9_holds 6 = .ok (.ifCond .ne 10, 3) := by decide +kernel
theorem dX9_holds_9 : decode cX9_holds 9 = .ok (.aload_n 0, 1) := by decide +kernel
theorem dX9_holds_10 : decode cX9_holds 10 = .ok (.bipush (-2), 2) := by decide +kernel
theorem dX9_holds_12 : decode cX9_holds 12 = .ok (.invokevirtual 204, 3) := by decide +kernel
theorem dX9_holds_15 : decode cX9_holds 15 = .ok (.lreturn, 1) := by decide +kernel
theorem dX9_holds_16 : decode cX9_holds 16 = .ok (.aload_n 0, 1) := by decide +kernel
theorem dX9_holds_17 : decode cX9_holds 17 = .ok (.invokevirtual 162, 3) := by decide +kernel
theorem dX9_holds_20 : decode cX9_holds 20 = .ok (.aload_n 0, 1) := by decide +kernel
theorem dX9_holds_21 : decode cX9_holds 21 = .ok (.iconst 2, 1) := by decide +kernel
theorem dX9_holds_22 : decode cX9_holds 22 = .ok (.invokevirtual 171, 3) := by decide +kernel
theorem dX9_holds_25 : decode cX9_holds 25 = .ok (.iconst (-1), 1) := by decide +kernel
theorem dX9_holds_26 : decode cX9_holds 26 = .ok (.ixor, 1) := by decide +kernel
theorem dX9_holds_27 : decode cX9_holds 27 = .ok (.iand, 1) := by decide +kernel
theorem dX9_holds_28 : decode cX9_holds 28 = .ok (.istore_n 2, 1) := by decide +kernel
theorem dX9_holds_29 : decode cX9_holds 29 = .ok (.iload_n 2, 1) := by decide +kernel
theorem dX9_holds_30 : decode cX9_holds 30 = .ok (.invokestatic 165, 3) := by decide +kernel
theorem dX9_holds_33 : decode cX9_holds 33 = .ok (.bipush 8, 2) := by decide +kernel
theorem dX9_holds_35 : decode cX9_holds 35 = .ok (.if_icmp .le 10, 3) := by decide +kernel
theorem dX9_holds_38 : decode cX9_holds 38 = .ok (.aload_n 0, 1) := by decide +kernel
theorem dX9_holds_39 : decode cX9_holds 39 = .ok (.bipush (-6), 2) := by decide +kernel
theorem dX9_holds_41 : decode cX9_holds 41 = .ok (.invokevirtual 204, 3) := by decide +kernel
theorem dX9_holds_44 : decode cX9_holds 44 = .ok (.lreturn, 1) := by decide +kernel
theorem dX9_holds_45 : decode cX9_holds 45 = .ok (.lconst 0, 1) := by decide +kernel
theorem dX9_holds_46 : decode cX9_holds 46 = .ok (.lstore_n 3, 1) := by decide +kernel
theorem dX9_holds_47 : decode cX9_holds 47 = .ok (.lconst 1, 1) := by decide +kernel
theorem dX9_holds_48 : decode cX9_holds 48 = .ok (.lstore 5, 2) := by decide +kernel
theorem dX9_holds_50 : decode cX9_holds 50 = .ok (.iconst 0, 1) := by decide +kernel
theorem dX9_holds_51 : decode cX9_holds 51 = .ok (.istore 7, 2) := by decide +kernel
theorem dX9_holds_53 : decode cX9_holds 53 = .ok (.iload 7, 2) := by decide +kernel
theorem dX9_holds_55 : decode cX9_holds 55 = .ok (.aload_n 0, 1) := by decide +kernel
theorem dX9_holds_56 : decode cX9_holds 56 = .ok (.getfield 77, 3) := by decide +kernel
theorem dX9_holds_59 : decode cX9_holds 59 = .ok (.if_icmp .ge 31, 3) := by decide +kernel
theorem dX9_holds_62 : decode cX9_holds 62 = .ok (.lload 5, 2) := by decide +kernel
theorem dX9_holds_64 : decode cX9_holds 64 = .ok (.iload_n 2, 1) := by decide +kernel
theorem dX9_holds_65 : decode cX9_holds 65 = .ok (.iload 7, 2) := by decide +kernel
theorem dX9_holds_67 : decode cX9_holds 67 = .ok (.ishr, 1) := by decide +kernel
theorem dX9_holds_68 : decode cX9_holds 68 = .ok (.iconst 1, 1) := by decide +kernel
theorem dX9_holds_69 : decode cX9_holds 69 = .ok (.iand, 1) := by decide +kernel
theorem dX9_holds_70 : decode cX9_holds 70 = .ok (.iconst 1, 1) := by decide +kernel
theorem dX9_holds_71 : decode cX9_holds 71 = .ok (.if_icmp .ne 9, 3) := by decide +kernel
theorem dX9_holds_74 : decode cX9_holds 74 = .ok (.ldc2_w 245, 3) := by decide +kernel
theorem dX9_holds_77 : decode cX9_holds 77 = .ok (.goto 4, 3) := by decide +kernel
theorem dX9_holds_80 : decode cX9_holds 80 = .ok (.lconst 1, 1) := by decide +kernel
theorem dX9_holds_81 : decode cX9_holds 81 = .ok (.lmul, 1) := by decide +kernel
theorem dX9_holds_82 : decode cX9_holds 82 = .ok (.lstore 5, 2) := by decide +kernel
theorem dX9_holds_84 : decode cX9_holds 84 = .ok (.iinc 7 1, 3) := by decide +kernel
theorem dX9_holds_87 : decode cX9_holds 87 = .ok (.goto (-34), 3) := by decide +kernel
theorem dX9_holds_90 : decode cX9_holds 90 = .ok (.iconst 0, 1) := by decide +kernel
theorem dX9_holds_91 : decode cX9_holds 91 = .ok (.istore 7, 2) := by decide +kernel
theorem dX9_holds_93 : decode cX9_holds 93 = .ok (.iload 7, 2) := by decide +kernel
theorem dX9_holds_95 : decode cX9_holds 95 = .ok (.aload_n 0, 1) := by decide +kernel
theorem dX9_holds_96 : decode cX9_holds 96 = .ok (.invokevirtual 162, 3) := by decide +kernel
theorem dX9_holds_99 : decode cX9_holds 99 = .ok (.if_icmp .gt 135, 3) := by decide +kernel
theorem dX9_holds_102 : decode cX9_holds 102 = .ok (.iload 7, 2) := by decide +kernel
theorem dX9_holds_104 : decode cX9_holds 104 = .ok (.iload_n 2, 1) := by decide +kernel
theorem dX9_holds_105 : decode cX9_holds 105 = .ok (.iconst (-1), 1) := by decide +kernel
theorem dX9_holds_106 : decode cX9_holds 106 = .ok (.ixor, 1) := by decide +kernel
theorem dX9_holds_107 : decode cX9_holds 107 = .ok (.iand, 1) := by decide +kernel
theorem dX9_holds_108 : decode cX9_holds 108 = .ok (.ifCond .ne 120, 3) := by decide +kernel
theorem dX9_holds_111 : decode cX9_holds 111 = .ok (.aload_n 0, 1) := by decide +kernel
theorem dX9_holds_112 : decode cX9_holds 112 = .ok (.iconst 1, 1) := by decide +kernel
theorem dX9_holds_113 : decode cX9_holds 113 = .ok (.invokevirtual 171, 3) := by decide +kernel
theorem dX9_holds_116 : decode cX9_holds 116 = .ok (.iload 7, 2) := by decide +kernel
theorem dX9_holds_118 : decode cX9_holds 118 = .ok (.iconst (-1), 1) := by decide +kernel
theorem dX9_holds_119 : decode cX9_holds 119 = .ok (.ixor, 1) := by decide +kernel
theorem dX9_holds_120 : decode cX9_holds 120 = .ok (.iand, 1) := by decide +kernel
theorem dX9_holds_121 : decode cX9_holds 121 = .ok (.ifCond .ne 107, 3) := by decide +kernel
theorem dX9_holds_124 : decode cX9_holds 124 = .ok (.aload_n 0, 1) := by decide +kernel
theorem dX9_holds_125 : decode cX9_holds 125 = .ok (.iload 7, 2) := by decide +kernel
theorem dX9_holds_127 : decode cX9_holds 127 = .ok (.invokevirtual 168, 3) := by decide +kernel
theorem dX9_holds_130 : decode cX9_holds 130 = .ok (.iconst 1, 1) := by decide +kernel
theorem dX9_holds_131 : decode cX9_holds 131 = .ok (.if_icmp .le 6, 3) := by decide +kernel
theorem dX9_holds_134 : decode cX9_holds 134 = .ok (.goto 94, 3) := by decide +kernel
theorem dX9_holds_137 : decode cX9_holds 137 = .ok (.lconst 1, 1) := by decide +kernel
theorem dX9_holds_138 : decode cX9_holds 138 = .ok (.lstore 8, 2) := by decide +kernel
theorem dX9_holds_140 : decode cX9_holds 140 = .ok (.iconst 0, 1) := by decide +kernel
theorem dX9_holds_141 : decode cX9_holds 141 = .ok (.istore 10, 2) := by decide +kernel
theorem dX9_holds_143 : decode cX9_holds 143 = .ok (.iload 10, 2) := by decide +kernel
theorem dX9_holds_145 : decode cX9_holds 145 = .ok (.aload_n 0, 1) := by decide +kernel
theorem dX9_holds_146 : decode cX9_holds 146 = .ok (.getfield 77, 3) := by decide +kernel
theorem dX9_holds_149 : decode cX9_holds 149 = .ok (.if_icmp .ge 74, 3) := by decide +kernel
theorem dX9_holds_152 : decode cX9_holds 152 = .ok (.iload_n 2, 1) := by decide +kernel
theorem dX9_holds_153 : decode cX9_holds 153 = .ok (.iload 10, 2) := by decide +kernel
theorem dX9_holds_155 : decode cX9_holds 155 = .ok (.ishr, 1) := by decide +kernel
theorem dX9_holds_156 : decode cX9_holds 156 = .ok (.iconst 1, 1) := by decide +kernel
theorem dX9_holds_157 : decode cX9_holds 157 = .ok (.iand, 1) := by decide +kernel
theorem dX9_holds_158 : decode cX9_holds 158 = .ok (.ifCond .ne 6, 3) := by decide +kernel
theorem dX9_holds_161 : decode cX9_holds 161 = .ok (.goto 56, 3) := by decide +kernel
theorem dX9_holds_164 : decode cX9_holds 164 = .ok (.lload 8, 2) := by decide +kernel
theorem dX9_holds_166 : decode cX9_holds 166 = .ok (.aload_n 0, 1) := by decide +kernel
theorem dX9_holds_167 : decode cX9_holds 167 = .ok (.getfield 31, 3) := by decide +kernel
theorem dX9_holds_170 : decode cX9_holds 170 = .ok (.iload 10, 2) := by decide +kernel
theorem dX9_holds_172 : decode cX9_holds 172 = .ok (.iaload, 1) := by decide +kernel
theorem dX9_holds_173 : decode cX9_holds 173 = .ok (.iconst 1, 1) := by decide +kernel
theorem dX9_holds_174 : decode cX9_holds 174 = .ok (.if_icmp .ne 9, 3) := by decide +kernel
theorem dX9_holds_177 : decode cX9_holds 177 = .ok (.ldc2_w 245, 3) := by decide +kernel
theorem dX9_holds_180 : decode cX9_holds 180 = .ok (.goto 34, 3) := by decide +kernel
theorem dX9_holds_183 : decode cX9_holds 183 = .ok (.iload 7, 2) := by decide +kernel
theorem dX9_holds_185 : decode cX9_holds 185 = .ok (.iload 10, 2) := by decide +kernel
theorem dX9_holds_187 : decode cX9_holds 187 = .ok (.ishr, 1) := by decide +kernel
theorem dX9_holds_188 : decode cX9_holds 188 = .ok (.iconst 1, 1) := by decide +kernel
theorem dX9_holds_189 : decode cX9_holds 189 = .ok (.iand, 1) := by decide +kernel
theorem dX9_holds_190 : decode cX9_holds 190 = .ok (.iconst 1, 1) := by decide +kernel
theorem dX9_holds_191 : decode cX9_holds 191 = .ok (.if_icmp .ne 16, 3) := by decide +kernel
theorem dX9_holds_194 : decode cX9_holds 194 = .ok (.bipush 100, 2) := by decide +kernel
theorem dX9_holds_196 : decode cX9_holds 196 = .ok (.aload_n 0, 1) := by decide +kernel
theorem dX9_holds_197 : decode cX9_holds 197 = .ok (.iload 10, 2) := by decide +kernel
theorem dX9_holds_199 : decode cX9_holds 199 = .ok (.invokevirtual 159, 3) := by decide +kernel
theorem dX9_holds_202 : decode cX9_holds 202 = .ok (.isub, 1) := by decide +kernel
theorem dX9_holds_203 : decode cX9_holds 203 = .ok (.i2l, 1) := by decide +kernel
theorem dX9_holds_204 : decode cX9_holds 204 = .ok (.goto 10, 3) := by decide +kernel
theorem dX9_holds_207 : decode cX9_holds 207 = .ok (.aload_n 0, 1) := by decide +kernel
theorem dX9_holds_208 : decode cX9_holds 208 = .ok (.iload 10, 2) := by decide +kernel
theorem dX9_holds_210 : decode cX9_holds 210 = .ok (.invokevirtual 159, 3) := by decide +kernel
theorem dX9_holds_213 : decode cX9_holds 213 = .ok (.i2l, 1) := by decide +kernel
theorem dX9_holds_214 : decode cX9_holds 214 = .ok (.lmul, 1) := by decide +kernel
theorem dX9_holds_215 : decode cX9_holds 215 = .ok (.lstore 8, 2) := by decide +kernel
theorem dX9_holds_217 : decode cX9_holds 217 = .ok (.iinc 10 1, 3) := by decide +kernel
theorem dX9_holds_220 : decode cX9_holds 220 = .ok (.goto (-77), 3) := by decide +kernel
theorem dX9_holds_223 : decode cX9_holds 223 = .ok (.lload_n 3, 1) := by decide +kernel
theorem dX9_holds_224 : decode cX9_holds 224 = .ok (.lload 8, 2) := by decide +kernel
theorem dX9_holds_226 : decode cX9_holds 226 = .ok (.ladd, 1) := by decide +kernel
theorem dX9_holds_227 : decode cX9_holds 227 = .ok (.lstore_n 3, 1) := by decide +kernel
theorem dX9_holds_228 : decode cX9_holds 228 = .ok (.iinc 7 1, 3) := by decide +kernel
theorem dX9_holds_231 : decode cX9_holds 231 = .ok (.goto (-138), 3) := by decide +kernel
theorem dX9_holds_234 : decode cX9_holds 234 = .ok (.lload_n 3, 1) := by decide +kernel
theorem dX9_holds_235 : decode cX9_holds 235 = .ok (.lload 5, 2) := by decide +kernel
theorem dX9_holds_237 : decode cX9_holds 237 = .ok (.iload_n 1, 1) := by decide +kernel
theorem dX9_holds_238 : decode cX9_holds 238 = .ok (.invokestatic 207, 3) := by decide +kernel
theorem dX9_holds_241 : decode cX9_holds 241 = .ok (.lreturn, 1) := by decide +kernel
def bX9_holds_53 (m : Mem) (x4 : Int32) : (Int64 × Int32) → Option ((Int64 × Int32) ⊕ (Int64 × Int32))
  | (y6, y7) => (if (m.1 43 9) ≤ y7 then some (.inr (y6, y7)) else (if ((x4 >>> (y7 &&& 31)) &&& 1) = 1 then lete (y6 * 100) (fun x9 => some (.inl (x9, y7 + 1))) else lete (y6 * 1) (fun x8 => some (.inl (x8, y7 + 1)))))
def bX9_holds_143 (x4 : Int32) (y13 : Int32) (q17 : Int32 × Mem) : (Int64 × Int32) → Option ((Int64 × Int32) ⊕ (Int64 × Int32))
  | (y18, y19) => (if (q17.2.1 43 9) ≤ y19 then some (.inr (y18, y19)) else (if ((x4 >>> (y19 &&& 31)) &&& 1) = 0 then some (.inl (y18, y19 + 1)) else chk (inb y19 11) ((if (q17.2.1 51 (Int32.toNatClampNeg y19)) = 1 then lete (y18 * 100) (fun x25 => some (.inl (x25, y19 + 1))) else (if ((y13 >>> (y19 &&& 31)) &&& 1) = 1 then (gX9_driftOf q17.2 y19).bind (fun x23 => lete (y18 * ((100 - x23).toInt64)) (fun x24 => some (.inl (x24, y19 + 1)))) else (gX9_driftOf q17.2 y19).bind (fun x21 => lete (y18 * (Int32.toInt64 x21)) (fun x22 => some (.inl (x22, y19 + 1)))))))))
def bX9_holds_93 (F : Nat) (x4 : Int32) : (Int64 × Int32 × Mem) → Option ((Int64 × Int32 × Mem) ⊕ (Int64 × Int32 × Mem))
  | (y12, y13, m14) => (gX9_allLanes m14).bind (fun x15 => (if x15 < y13 then some (.inr (y12, y13, m14)) else (if (y13 &&& (x4 ^^^ (-1))) = 0 then (gX9_ruledAs F m14 1).bind (fun x16 => (if (x16 &&& (y13 ^^^ (-1))) = 0 then (gX9_partsOf F m14 y13).bind (fun q17 => (if q17.1 ≤ 1 then (iter F (bX9_holds_143 x4 y13 q17) (1, 0)).bind (fun e26 => lete (y12 + e26.1) (fun x28 => some (.inl (x28, y13 + 1, q17.2)))) else some (.inl (y12, y13 + 1, q17.2)))) else some (.inl (y12, y13 + 1, m14)))) else some (.inl (y12, y13 + 1, m14)))))
def gX9_holds (F : Nat) (m : Mem) (a1 : Int32) : Option (Int64 × Mem) := (gX9_isIn a1 0 1).bind (fun x1 => (if x1 = true then (gX9_allLanes m).bind (fun x2 => (gX9_ruledAs F m 2).bind (fun x3 => lete (x2 &&& (x3 ^^^ (-1))) (fun x4 => (gX9_bits F x4).bind (fun x5 => (if x5 ≤ 8 then (iter F (bX9_holds_53 m x4) (1, 0)).bind (fun e10 => (iter F (bX9_holds_93 F x4) (0, 0, m)).bind (fun e29 => (gX9_inLeast F e29.1 e10.1 a1).bind (fun x31 => some (x31, e29.2.2)))) else (gX9_lowest m (-6)).bind (fun q32 => some (q32.1, q32.2))))))) else (gX9_lowest m (-2)).bind (fun q33 => some (q33.1, q33.2))))
set_option maxHeartbeats 4000000 in
set_option maxRecDepth 20000 in
theorem LX9_holds {n : Nat} {F : Nat} {m : Mem} {a1 : Int32} {r : Int64 × Mem} (hn64 : 64 ≤ n) (hg : gX9_holds F m a1 = some r) : MX yX9_holds cX9_holds 11 (some .long) { frames := 2, cells := 0, slots := 0, locals := 53 } n [.ref 43, .int a1] m (some (.long r.1)) r.2 := by
  refine MX_of (by decide) (Nat.le_of_ble_eq_true rfl) (Or.inr (Or.inr (Or.inl ⟨rfl, _, rfl⟩))) (fun K hC hk hL hR => ?_)
  replace hn64 : 64 ≤ kn K := hk.symm ▸ hn64
  show RX K 0 [(0, .ref 43), (1, .int a1)] [] m
  rw [gX9_holds] at hg
  refine R_iload_n (pc := 0) hC 1 dX9_holds_0 rfl rfl ?_
  refine R_iconst (pc := 1) hC dX9_holds_1 ki_0 ?_
  refine R_iconst (pc := 2) hC dX9_holds_2 ki_1 ?_
  obtain ⟨x1, hx1, hg⟩ := bind_some hg
  refine R_callS (pc := 3) (av := [.int a1, .int 0, .int 1]) (rest := []) hC hR mf_X9_isIn wm_X9_98 (LX9_isIn hn64 hx1) rfl rfl rfl (Nat.le_of_ble_eq_true rfl) dX9_holds_3 rfl ?_
  show RX K 6 [(0, .ref 43), (1, .int a1)] [.int (b2i x1)] m
  refine R_ifB_ne (tgt := 16) (pc := 6) hC dX9_holds_6 (by decide) (fun c => ?_) (fun c => ?_)
  · replace hg := (if_pos c).symm.trans hg
    refine R_aload_n (pc := 16) hC 0 dX9_holds_16 rfl rfl ?_
    obtain ⟨x2, hx2, hg⟩ := bind_some hg
    refine R_callV (pc := 17) (av := []) (rest := []) hC hR 43 (jx hn64 rfl) ly43 rfl mf_X9_allLanes wm_X9_162 (LX9_allLanes hn64 hx2) rfl rfl rfl (Nat.le_of_ble_eq_true rfl) dX9_holds_17 rfl ?_
    show RX K 20 [(0, .ref 43), (1, .int a1)] [.int x2] m
    refine R_aload_n (pc := 20) hC 0 dX9_holds_20 rfl rfl ?_
    refine R_iconst (pc := 21) hC dX9_holds_21 ki_2 ?_
    obtain ⟨x3, hx3, hg⟩ := bind_some hg
    refine R_callV (pc := 22) (av := [.int 2]) (rest := [.int x2]) hC hR 43 (jx hn64 rfl) ly43 rfl mf_X9_ruledAs wm_X9_171 (LX9_ruledAs hn64 hx3) rfl rfl rfl (Nat.le_of_ble_eq_true rfl) dX9_holds_22 rfl ?_
    show RX K 25 [(0, .ref 43), (1, .int a1)] [.int x3, .int x2] m
    refine R_iconst (pc := 25) hC dX9_holds_25 ki_m1 ?_
    refine R_ixor (pc := 26) hC dX9_holds_26 ?_
    refine R_iand (pc := 27) hC dX9_holds_27 ?_
    obtain ⟨x4, hx4, hg⟩ := lete_some hg
    refine R_top hx4 ?_
    refine R_istore_n (pc := 28) hC dX9_holds_28 rfl hL rfl (show _ = [(2, .int x4), (0, .ref 43), (1, .int a1)] from rfl) ?_
    refine R_iload_n (pc := 29) hC 0 dX9_holds_29 rfl rfl ?_
    obtain ⟨x5, hx5, hg⟩ := bind_some hg
    refine R_callS (pc := 30) (av := [.int x4]) (rest := []) hC hR mf_X9_bits wm_X9_165 (LX9_bits hn64 hx5) rfl rfl rfl (Nat.le_of_ble_eq_true rfl) dX9_holds_30 rfl ?_
    show RX K 33 [(2, .int x4), (0, .ref 43), (1, .int a1)] [.int x5] m
    refine R_bipush (pc := 33) hC dX9_holds_33 kb_8 ?_
    refine R_icmp_le (tgt := 45) (pc := 35) hC dX9_holds_35 (by decide) (fun c => ?_) (fun c => ?_)
    · replace hg := (if_pos c).symm.trans hg
      refine R_lconst (pc := 45) hC dX9_holds_45 kl_0 ?_
      refine R_lstore_n (pc := 46) hC dX9_holds_46 rfl hL rfl (show _ = [(3, .long 0), (2, .int x4), (0, .ref 43), (1, .int a1)] from rfl) ?_
      refine R_lconst (pc := 47) hC dX9_holds_47 kl_1 ?_
      refine R_lstore (pc := 48) hC dX9_holds_48 hL rfl (show _ = [(5, .long 1), (3, .long 0), (2, .int x4), (0, .ref 43), (1, .int a1)] from rfl) ?_
      refine R_iconst (pc := 50) hC dX9_holds_50 ki_0 ?_
      refine R_istore (pc := 51) hC dX9_holds_51 hL rfl (show _ = [(7, .int 0), (5, .long 1), (3, .long 0), (2, .int x4), (0, .ref 43), (1, .int a1)] from rfl) ?_
      refine R_pick [4, 5, 3, 2, 1, 0] (ls' := [(0, .ref 43), (1, .int a1), (2, .int x4), (3, .long 0), (5, .long 1), (7, .int 0)]) rfl ?_
      obtain ⟨e10, he10, hg⟩ := bind_some hg
      refine iter_walk (P := fun s : (Int64 × Int32) => RX K 53 [(0, .ref 43), (1, .int a1), (2, .int x4), (3, .long 0), (5, .long s.1), (7, .int s.2)] [] m) (Qe := fun s : (Int64 × Int32) => RX K 90 [(0, .ref 43), (1, .int a1), (2, .int x4), (3, .long 0), (5, .long s.1), (7, .int s.2)] [] m) (fun s11 o hg kL53 kE53 => ?_) _ _ _ he10 ?_
      · obtain ⟨y6, y7⟩ := s11
        rw [bX9_holds_53] at hg
        show RX K 53 [(0, .ref 43), (1, .int a1), (2, .int x4), (3, .long 0), (5, .long y6), (7, .int y7)] [] m
        refine R_iload (pc := 53) hC 5 dX9_holds_53 rfl ?_
        refine R_aload_n (pc := 55) hC 0 dX9_holds_55 rfl rfl ?_
        refine gf_X9_77 (pc := 56) hC hn64 dX9_holds_56 ?_
        refine R_icmp_ge (tgt := 90) (pc := 59) hC dX9_holds_59 (by decide) (fun c => ?_) (fun c => ?_)
        · replace hg := (if_pos c).symm.trans hg
          refine R_pick [0, 1, 2, 3, 4, 5] (ls' := [(0, .ref 43), (1, .int a1), (2, .int x4), (3, .long 0), (5, .long y6), (7, .int y7)]) rfl ?_
          have h9 := kE53 _ (Option.some.inj hg).symm
          exact h9
        · replace hg := (if_neg c).symm.trans hg
          refine R_lload (pc := 62) hC 4 dX9_holds_62 rfl ?_
          refine R_iload_n (pc := 64) hC 2 dX9_holds_64 rfl rfl ?_
          refine R_iload (pc := 65) hC 5 dX9_holds_65 rfl ?_
          refine R_ishr (pc := 67) hC dX9_holds_67 ?_
          refine R_iconst (pc := 68) hC dX9_holds_68 ki_1 ?_
          refine R_iand (pc := 69) hC dX9_holds_69 ?_
          refine R_iconst (pc := 70) hC dX9_holds_70 ki_1 ?_
          refine R_icmp_ne (tgt := 80) (pc := 71) hC dX9_holds_71 (by decide) (fun c => ?_) (fun c => ?_)
          · replace hg := (if_neg c).symm.trans hg
            refine R_lconst (pc := 80) hC dX9_holds_80 kl_1 ?_
            refine R_lmul (pc := 81) hC dX9_holds_81 ?_
            obtain ⟨x8, hx8, hg⟩ := lete_some hg
            refine R_topL hx8 ?_
            refine R_lstore (pc := 82) hC dX9_holds_82 hL rfl (show _ = [(5, .long x8), (0, .ref 43), (1, .int a1), (2, .int x4), (3, .long 0), (7, .int y7)] from rfl) ?_
            refine R_iinc (pc := 84) hC 5 dX9_holds_84 rfl (iv ki_1) hL rfl (show _ = [(7, .int (y7 + 1)), (5, .long x8), (0, .ref 43), (1, .int a1), (2, .int x4), (3, .long 0)] from rfl) ?_
            refine R_goto (tgt := 53) (pc := 87) hC dX9_holds_87 (by decide) ?_
            refine R_pick [2, 3, 4, 5, 1, 0] (ls' := [(0, .ref 43), (1, .int a1), (2, .int x4), (3, .long 0), (5, .long x8), (7, .int (y7 + 1))]) rfl ?_
            have h9 := kL53 _ (Option.some.inj hg).symm
            exact h9
          · replace hg := (if_pos c).symm.trans hg
            refine R_ldc2 (pc := 74) hC wc_X9_245 dX9_holds_74 ?_
            refine R_goto (tgt := 81) (pc := 77) hC dX9_holds_77 (by decide) ?_
            refine R_lmul (pc := 81) hC dX9_holds_81 ?_
            obtain ⟨x9, hx9, hg⟩ := lete_some hg
            refine R_topL hx9 ?_
            refine R_lstore (pc := 82) hC dX9_holds_82 hL rfl (show _ = [(5, .long x9), (0, .ref 43), (1, .int a1), (2, .int x4), (3, .long 0), (7, .int y7)] from rfl) ?_
            refine R_iinc (pc := 84) hC 5 dX9_holds_84 rfl (iv ki_1) hL rfl (show _ = [(7, .int (y7 + 1)), (5, .long x9), (0, .ref 43), (1, .int a1), (2, .int x4), (3, .long 0)] from rfl) ?_
            refine R_goto (tgt := 53) (pc := 87) hC dX9_holds_87 (by decide) ?_
            refine R_pick [2, 3, 4, 5, 1, 0] (ls' := [(0, .ref 43), (1, .int a1), (2, .int x4), (3, .long 0), (5, .long x9), (7, .int (y7 + 1))]) rfl ?_
            have h9 := kL53 _ (Option.some.inj hg).symm
            exact h9
      · show RX K 90 [(0, .ref 43), (1, .int a1), (2, .int x4), (3, .long 0), (5, .long e10.1), (7, .int e10.2)] [] m
        refine R_iconst (pc := 90) hC dX9_holds_90 ki_0 ?_
        refine R_istore (pc := 91) hC dX9_holds_91 hL rfl (show _ = [(7, .int 0), (0, .ref 43), (1, .int a1), (2, .int x4), (3, .long 0), (5, .long e10.1)] from rfl) ?_
        refine R_pick [1, 2, 3, 4, 5, 0] (ls' := [(0, .ref 43), (1, .int a1), (2, .int x4), (3, .long 0), (5, .long e10.1), (7, .int 0)]) rfl ?_
        obtain ⟨e29, he29, hg⟩ := bind_some hg
        refine iter_walk (P := fun s : (Int64 × Int32 × Mem) => RX K 93 [(0, .ref 43), (1, .int a1), (2, .int x4), (3, .long s.1), (5, .long e10.1), (7, .int s.2.1)] [] s.2.2) (Qe := fun s : (Int64 × Int32 × Mem) => RX K 234 [(0, .ref 43), (1, .int a1), (2, .int x4), (3, .long s.1), (5, .long e10.1), (7, .int s.2.1)] [] s.2.2) (fun s30 o hg kL93 kE93 => ?_) _ _ _ he29 ?_
        · obtain ⟨y12, y13, m14⟩ := s30
          rw [bX9_holds_93] at hg
          show RX K 93 [(0, .ref 43), (1, .int a1), (2, .int x4), (3, .long y12), (5, .long e10.1), (7, .int y13)] [] m14
          refine R_iload (pc := 93) hC 5 dX9_holds_93 rfl ?_
          refine R_aload_n (pc := 95) hC 0 dX9_holds_95 rfl rfl ?_
          obtain ⟨x15, hx15, hg⟩ := bind_some hg
          refine R_callV (pc := 96) (av := []) (rest := [.int y13]) hC hR 43 (jx hn64 rfl) ly43 rfl mf_X9_allLanes wm_X9_162 (LX9_allLanes hn64 hx15) rfl rfl rfl (Nat.le_of_ble_eq_true rfl) dX9_holds_96 rfl ?_
          show RX K 99 [(0, .ref 43), (1, .int a1), (2, .int x4), (3, .long y12), (5, .long e10.1), (7, .int y13)] [.int x15, .int y13] m14
          refine R_icmp_gt (tgt := 234) (pc := 99) hC dX9_holds_99 (by decide) (fun c => ?_) (fun c => ?_)
          · replace hg := (if_pos c).symm.trans hg
            refine R_pick [0, 1, 2, 3, 4, 5] (ls' := [(0, .ref 43), (1, .int a1), (2, .int x4), (3, .long y12), (5, .long e10.1), (7, .int y13)]) rfl ?_
            have h9 := kE93 _ (Option.some.inj hg).symm
            exact h9
          · replace hg := (if_neg c).symm.trans hg
            refine R_iload (pc := 102) hC 5 dX9_holds_102 rfl ?_
            refine R_iload_n (pc := 104) hC 2 dX9_holds_104 rfl rfl ?_
            refine R_iconst (pc := 105) hC dX9_holds_105 ki_m1 ?_
            refine R_ixor (pc := 106) hC dX9_holds_106 ?_
            refine R_iand (pc := 107) hC dX9_holds_107 ?_
            refine R_if_ne (tgt := 228) (pc := 108) hC dX9_holds_108 (by decide) (fun c => ?_) (fun c => ?_)
            · replace hg := (if_neg c).symm.trans hg
              refine R_iinc (pc := 228) hC 5 dX9_holds_228 rfl (iv ki_1) hL rfl (show _ = [(7, .int (y13 + 1)), (0, .ref 43), (1, .int a1), (2, .int x4), (3, .long y12), (5, .long e10.1)] from rfl) ?_
              refine R_goto (tgt := 93) (pc := 231) hC dX9_holds_231 (by decide) ?_
              refine R_pick [1, 2, 3, 4, 5, 0] (ls' := [(0, .ref 43), (1, .int a1), (2, .int x4), (3, .long y12), (5, .long e10.1), (7, .int (y13 + 1))]) rfl ?_
              have h9 := kL93 _ (Option.some.inj hg).symm
              exact h9
            · replace hg := (if_pos c).symm.trans hg
              refine R_aload_n (pc := 111) hC 0 dX9_holds_111 rfl rfl ?_
              refine R_iconst (pc := 112) hC dX9_holds_112 ki_1 ?_
              obtain ⟨x16, hx16, hg⟩ := bind_some hg
              refine R_callV (pc := 113) (av := [.int 1]) (rest := []) hC hR 43 (jx hn64 rfl) ly43 rfl mf_X9_ruledAs wm_X9_171 (LX9_ruledAs hn64 hx16) rfl rfl rfl (Nat.le_of_ble_eq_true rfl) dX9_holds_113 rfl ?_
              show RX K 116 [(0, .ref 43), (1, .int a1), (2, .int x4), (3, .long y12), (5, .long e10.1), (7, .int y13)] [.int x16] m14
              refine R_iload (pc := 116) hC 5 dX9_holds_116 rfl ?_
              refine R_iconst (pc := 118) hC dX9_holds_118 ki_m1 ?_
              refine R_ixor (pc := 119) hC dX9_holds_119 ?_
              refine R_iand (pc := 120) hC dX9_holds_120 ?_
              refine R_if_ne (tgt := 228) (pc := 121) hC dX9_holds_121 (by decide) (fun c => ?_) (fun c => ?_)
              · replace hg := (if_neg c).symm.trans hg
                refine R_iinc (pc := 228) hC 5 dX9_holds_228 rfl (iv ki_1) hL rfl (show _ = [(7, .int (y13 + 1)), (0, .ref 43), (1, .int a1), (2, .int x4), (3, .long y12), (5, .long e10.1)] from rfl) ?_
                refine R_goto (tgt := 93) (pc := 231) hC dX9_holds_231 (by decide) ?_
                refine R_pick [1, 2, 3, 4, 5, 0] (ls' := [(0, .ref 43), (1, .int a1), (2, .int x4), (3, .long y12), (5, .long e10.1), (7, .int (y13 + 1))]) rfl ?_
                have h9 := kL93 _ (Option.some.inj hg).symm
                exact h9
              · replace hg := (if_pos c).symm.trans hg
                refine R_aload_n (pc := 124) hC 0 dX9_holds_124 rfl rfl ?_
                refine R_iload (pc := 125) hC 5 dX9_holds_125 rfl ?_
                obtain ⟨q17, hq17, hg⟩ := bind_some hg
                refine R_callV (pc := 127) (av := [.int y13]) (rest := []) hC hR 43 (jx hn64 rfl) ly43 rfl mf_X9_partsOf wm_X9_168 (LX9_partsOf hn64 hq17) rfl rfl rfl (Nat.le_of_ble_eq_true rfl) dX9_holds_127 rfl ?_
                show RX K 130 [(0, .ref 43), (1, .int a1), (2, .int x4), (3, .long y12), (5, .long e10.1), (7, .int y13)] [.int q17.1] q17.2
                refine R_iconst (pc := 130) hC dX9_holds_130 ki_1 ?_
                refine R_icmp_le (tgt := 137) (pc := 131) hC dX9_holds_131 (by decide) (fun c => ?_) (fun c => ?_)
                · replace hg := (if_pos c).symm.trans hg
                  refine R_lconst (pc := 137) hC dX9_holds_137 kl_1 ?_
                  refine R_lstore (pc := 138) hC dX9_holds_138 hL rfl (show _ = [(8, .long 1), (0, .ref 43), (1, .int a1), (2, .int x4), (3, .long y12), (5, .long e10.1), (7, .int y13)] from rfl) ?_
                  refine R_iconst (pc := 140) hC dX9_holds_140 ki_0 ?_
                  refine R_istore (pc := 141) hC dX9_holds_141 hL rfl (show _ = [(10, .int 0), (8, .long 1), (0, .ref 43), (1, .int a1), (2, .int x4), (3, .long y12), (5, .long e10.1), (7, .int y13)] from rfl) ?_
                  refine R_pick [2, 3, 4, 5, 6, 7, 1, 0] (ls' := [(0, .ref 43), (1, .int a1), (2, .int x4), (3, .long y12), (5, .long e10.1), (7, .int y13), (8, .long 1), (10, .int 0)]) rfl ?_
                  obtain ⟨e26, he26, hg⟩ := bind_some hg
                  refine iter_walk (P := fun s : (Int64 × Int32) => RX K 143 [(0, .ref 43), (1, .int a1), (2, .int x4), (3, .long y12), (5, .long e10.1), (7, .int y13), (8, .long s.1), (10, .int s.2)] [] q17.2) (Qe := fun s : (Int64 × Int32) => RX K 223 [(0, .ref 43), (1, .int a1), (2, .int x4), (3, .long y12), (5, .long e10.1), (7, .int y13), (8, .long s.1), (10, .int s.2)] [] q17.2) (fun s27 o hg kL143 kE143 => ?_) _ _ _ he26 ?_
                  · obtain ⟨y18, y19⟩ := s27
                    rw [bX9_holds_143] at hg
                    show RX K 143 [(0, .ref 43), (1, .int a1), (2, .int x4), (3, .long y12), (5, .long e10.1), (7, .int y13), (8, .long y18), (10, .int y19)] [] q17.2
                    refine R_iload (pc := 143) hC 7 dX9_holds_143 rfl ?_
                    refine R_aload_n (pc := 145) hC 0 dX9_holds_145 rfl rfl ?_
                    refine gf_X9_77 (pc := 146) hC hn64 dX9_holds_146 ?_
                    refine R_icmp_ge (tgt := 223) (pc := 149) hC dX9_holds_149 (by decide) (fun c => ?_) (fun c => ?_)
                    · replace hg := (if_pos c).symm.trans hg
                      refine R_pick [0, 1, 2, 3, 4, 5, 6, 7] (ls' := [(0, .ref 43), (1, .int a1), (2, .int x4), (3, .long y12), (5, .long e10.1), (7, .int y13), (8, .long y18), (10, .int y19)]) rfl ?_
                      have h9 := kE143 _ (Option.some.inj hg).symm
                      exact h9
                    · replace hg := (if_neg c).symm.trans hg
                      refine R_iload_n (pc := 152) hC 2 dX9_holds_152 rfl rfl ?_
                      refine R_iload (pc := 153) hC 7 dX9_holds_153 rfl ?_
                      refine R_ishr (pc := 155) hC dX9_holds_155 ?_
                      refine R_iconst (pc := 156) hC dX9_holds_156 ki_1 ?_
                      refine R_iand (pc := 157) hC dX9_holds_157 ?_
                      refine R_if_ne (tgt := 164) (pc := 158) hC dX9_holds_158 (by decide) (fun c => ?_) (fun c => ?_)
                      · replace hg := (if_neg c).symm.trans hg
                        refine R_lload (pc := 164) hC 6 dX9_holds_164 rfl ?_
                        refine R_aload_n (pc := 166) hC 0 dX9_holds_166 rfl rfl ?_
                        refine gf_X9_31 (pc := 167) hC hn64 dX9_holds_167 ?_
                        refine R_iload (pc := 170) hC 7 dX9_holds_170 rfl ?_
                        obtain ⟨c20, hg⟩ := chk_some hg
                        refine R_iaload (pc := 172) hC 51 (jx hn64 rfl) ly51 (inb_vp c20) dX9_holds_172 ?_
                        refine R_iconst (pc := 173) hC dX9_holds_173 ki_1 ?_
                        refine R_icmp_ne (tgt := 183) (pc := 174) hC dX9_holds_174 (by decide) (fun c => ?_) (fun c => ?_)
                        · replace hg := (if_neg c).symm.trans hg
                          refine R_iload (pc := 183) hC 5 dX9_holds_183 rfl ?_
                          refine R_iload (pc := 185) hC 7 dX9_holds_185 rfl ?_
                          refine R_ishr (pc := 187) hC dX9_holds_187 ?_
                          refine R_iconst (pc := 188) hC dX9_holds_188 ki_1 ?_
                          refine R_iand (pc := 189) hC dX9_holds_189 ?_
                          refine R_iconst (pc := 190) hC dX9_holds_190 ki_1 ?_
                          refine R_icmp_ne (tgt := 207) (pc := 191) hC dX9_holds_191 (by decide) (fun c => ?_) (fun c => ?_)
                          · replace hg := (if_neg c).symm.trans hg
                            refine R_aload_n (pc := 207) hC 0 dX9_holds_207 rfl rfl ?_
                            refine R_iload (pc := 208) hC 7 dX9_holds_208 rfl ?_
                            obtain ⟨x21, hx21, hg⟩ := bind_some hg
                            refine R_callV (pc := 210) (av := [.int y19]) (rest := [.long y18]) hC hR 43 (jx hn64 rfl) ly43 rfl mf_X9_driftOf wm_X9_159 (LX9_driftOf hn64 hx21) rfl rfl rfl (Nat.le_of_ble_eq_true rfl) dX9_holds_210 rfl ?_
                            show RX K 213 [(0, .ref 43), (1, .int a1), (2, .int x4), (3, .long y12), (5, .long e10.1), (7, .int y13), (8, .long y18), (10, .int y19)] [.int x21, .long y18] q17.2
                            refine R_i2l (pc := 213) hC dX9_holds_213 ?_
                            refine R_lmul (pc := 214) hC dX9_holds_214 ?_
                            obtain ⟨x22, hx22, hg⟩ := lete_some hg
                            refine R_topL hx22 ?_
                            refine R_lstore (pc := 215) hC dX9_holds_215 hL rfl (show _ = [(8, .long x22), (0, .ref 43), (1, .int a1), (2, .int x4), (3, .long y12), (5, .long e10.1), (7, .int y13), (10, .int y19)] from rfl) ?_
                            refine R_iinc (pc := 217) hC 7 dX9_holds_217 rfl (iv ki_1) hL rfl (show _ = [(10, .int (y19 + 1)), (8, .long x22), (0, .ref 43), (1, .int a1), (2, .int x4), (3, .long y12), (5, .long e10.1), (7, .int y13)] from rfl) ?_
                            refine R_goto (tgt := 143) (pc := 220) hC dX9_holds_220 (by decide) ?_
                            refine R_pick [2, 3, 4, 5, 6, 7, 1, 0] (ls' := [(0, .ref 43), (1, .int a1), (2, .int x4), (3, .long y12), (5, .long e10.1), (7, .int y13), (8, .long x22), (10, .int (y19 + 1))]) rfl ?_
                            have h9 := kL143 _ (Option.some.inj hg).symm
                            exact h9
                          · replace hg := (if_pos c).symm.trans hg
                            refine R_bipush (pc := 194) hC dX9_holds_194 kb_100 ?_
                            refine R_aload_n (pc := 196) hC 0 dX9_holds_196 rfl rfl ?_
                            refine R_iload (pc := 197) hC 7 dX9_holds_197 rfl ?_
                            obtain ⟨x23, hx23, hg⟩ := bind_some hg
                            refine R_callV (pc := 199) (av := [.int y19]) (rest := [.int 100, .long y18]) hC hR 43 (jx hn64 rfl) ly43 rfl mf_X9_driftOf wm_X9_159 (LX9_driftOf hn64 hx23) rfl rfl rfl (Nat.le_of_ble_eq_true rfl) dX9_holds_199 rfl ?_
                            show RX K 202 [(0, .ref 43), (1, .int a1), (2, .int x4), (3, .long y12), (5, .long e10.1), (7, .int y13), (8, .long y18), (10, .int y19)] [.int x23, .int 100, .long y18] q17.2
                            refine R_isub (pc := 202) hC dX9_holds_202 ?_
                            refine R_i2l (pc := 203) hC dX9_holds_203 ?_
                            refine R_goto (tgt := 214) (pc := 204) hC dX9_holds_204 (by decide) ?_
                            refine R_lmul (pc := 214) hC dX9_holds_214 ?_
                            obtain ⟨x24, hx24, hg⟩ := lete_some hg
                            refine R_topL hx24 ?_
                            refine R_lstore (pc := 215) hC dX9_holds_215 hL rfl (show _ = [(8, .long x24), (0, .ref 43), (1, .int a1), (2, .int x4), (3, .long y12), (5, .long e10.1), (7, .int y13), (10, .int y19)] from rfl) ?_
                            refine R_iinc (pc := 217) hC 7 dX9_holds_217 rfl (iv ki_1) hL rfl (show _ = [(10, .int (y19 + 1)), (8, .long x24), (0, .ref 43), (1, .int a1), (2, .int x4), (3, .long y12), (5, .long e10.1), (7, .int y13)] from rfl) ?_
                            refine R_goto (tgt := 143) (pc := 220) hC dX9_holds_220 (by decide) ?_
                            refine R_pick [2, 3, 4, 5, 6, 7, 1, 0] (ls' := [(0, .ref 43), (1, .int a1), (2, .int x4), (3, .long y12), (5, .long e10.1), (7, .int y13), (8, .long x24), (10, .int (y19 + 1))]) rfl ?_
                            have h9 := kL143 _ (Option.some.inj hg).symm
                            exact h9
                        · replace hg := (if_pos c).symm.trans hg
                          refine R_ldc2 (pc := 177) hC wc_X9_245 dX9_holds_177 ?_
                          refine R_goto (tgt := 214) (pc := 180) hC dX9_holds_180 (by decide) ?_
                          refine R_lmul (pc := 214) hC dX9_holds_214 ?_
                          obtain ⟨x25, hx25, hg⟩ := lete_some hg
                          refine R_topL hx25 ?_
                          refine R_lstore (pc := 215) hC dX9_holds_215 hL rfl (show _ = [(8, .long x25), (0, .ref 43), (1, .int a1), (2, .int x4), (3, .long y12), (5, .long e10.1), (7, .int y13), (10, .int y19)] from rfl) ?_
                          refine R_iinc (pc := 217) hC 7 dX9_holds_217 rfl (iv ki_1) hL rfl (show _ = [(10, .int (y19 + 1)), (8, .long x25), (0, .ref 43), (1, .int a1), (2, .int x4), (3, .long y12), (5, .long e10.1), (7, .int y13)] from rfl) ?_
                          refine R_goto (tgt := 143) (pc := 220) hC dX9_holds_220 (by decide) ?_
                          refine R_pick [2, 3, 4, 5, 6, 7, 1, 0] (ls' := [(0, .ref 43), (1, .int a1), (2, .int x4), (3, .long y12), (5, .long e10.1), (7, .int y13), (8, .long x25), (10, .int (y19 + 1))]) rfl ?_
                          have h9 := kL143 _ (Option.some.inj hg).symm
                          exact h9
                      · replace hg := (if_pos c).symm.trans hg
                        refine R_goto (tgt := 217) (pc := 161) hC dX9_holds_161 (by decide) ?_
                        refine R_iinc (pc := 217) hC 7 dX9_holds_217 rfl (iv ki_1) hL rfl (show _ = [(10, .int (y19 + 1)), (0, .ref 43), (1, .int a1), (2, .int x4), (3, .long y12), (5, .long e10.1), (7, .int y13), (8, .long y18)] from rfl) ?_
                        refine R_goto (tgt := 143) (pc := 220) hC dX9_holds_220 (by decide) ?_
                        refine R_pick [1, 2, 3, 4, 5, 6, 7, 0] (ls' := [(0, .ref 43), (1, .int a1), (2, .int x4), (3, .long y12), (5, .long e10.1), (7, .int y13), (8, .long y18), (10, .int (y19 + 1))]) rfl ?_
                        have h9 := kL143 _ (Option.some.inj hg).symm
                        exact h9
                  · show RX K 223 [(0, .ref 43), (1, .int a1), (2, .int x4), (3, .long y12), (5, .long e10.1), (7, .int y13), (8, .long e26.1), (10, .int e26.2)] [] q17.2
                    refine R_lload_n (pc := 223) hC 3 dX9_holds_223 rfl rfl ?_
                    refine R_lload (pc := 224) hC 6 dX9_holds_224 rfl ?_
                    refine R_ladd (pc := 226) hC dX9_holds_226 ?_
                    obtain ⟨x28, hx28, hg⟩ := lete_some hg
                    refine R_topL hx28 ?_
                    refine R_lstore_n (pc := 227) hC dX9_holds_227 rfl hL rfl (show _ = [(3, .long x28), (0, .ref 43), (1, .int a1), (2, .int x4), (5, .long e10.1), (7, .int y13), (8, .long e26.1), (10, .int e26.2)] from rfl) ?_
                    refine R_iinc (pc := 228) hC 5 dX9_holds_228 rfl (iv ki_1) hL rfl (show _ = [(7, .int (y13 + 1)), (3, .long x28), (0, .ref 43), (1, .int a1), (2, .int x4), (5, .long e10.1), (8, .long e26.1), (10, .int e26.2)] from rfl) ?_
                    refine R_goto (tgt := 93) (pc := 231) hC dX9_holds_231 (by decide) ?_
                    refine R_pick [2, 3, 4, 1, 5, 0] (ls' := [(0, .ref 43), (1, .int a1), (2, .int x4), (3, .long x28), (5, .long e10.1), (7, .int (y13 + 1))]) rfl ?_
                    have h9 := kL93 _ (Option.some.inj hg).symm
                    exact h9
                · replace hg := (if_neg c).symm.trans hg
                  refine R_goto (tgt := 228) (pc := 134) hC dX9_holds_134 (by decide) ?_
                  refine R_iinc (pc := 228) hC 5 dX9_holds_228 rfl (iv ki_1) hL rfl (show _ = [(7, .int (y13 + 1)), (0, .ref 43), (1, .int a1), (2, .int x4), (3, .long y12), (5, .long e10.1)] from rfl) ?_
                  refine R_goto (tgt := 93) (pc := 231) hC dX9_holds_231 (by decide) ?_
                  refine R_pick [1, 2, 3, 4, 5, 0] (ls' := [(0, .ref 43), (1, .int a1), (2, .int x4), (3, .long y12), (5, .long e10.1), (7, .int (y13 + 1))]) rfl ?_
                  have h9 := kL93 _ (Option.some.inj hg).symm
                  exact h9
        · show RX K 234 [(0, .ref 43), (1, .int a1), (2, .int x4), (3, .long e29.1), (5, .long e10.1), (7, .int e29.2.1)] [] e29.2.2
          refine R_lload_n (pc := 234) hC 3 dX9_holds_234 rfl rfl ?_
          refine R_lload (pc := 235) hC 4 dX9_holds_235 rfl ?_
          refine R_iload_n (pc := 237) hC 1 dX9_holds_237 rfl rfl ?_
          obtain ⟨x31, hx31, hg⟩ := bind_some hg
          refine R_callS (pc := 238) (av := [.long e29.1, .long e10.1, .int a1]) (rest := []) hC hR mf_X9_inLeast wm_X9_207 (LX9_inLeast hn64 hx31) rfl rfl rfl (Nat.le_of_ble_eq_true rfl) dX9_holds_238 rfl ?_
          show RX K 241 [(0, .ref 43), (1, .int a1), (2, .int x4), (3, .long e29.1), (5, .long e10.1), (7, .int e29.2.1)] [.long x31] e29.2.2
          have h9 := gxJM hg
          exact R_lreturn (pc := 241) hC dX9_holds_241 h9
    · replace hg := (if_neg c).symm.trans hg
      refine R_aload_n (pc := 38) hC 1 dX9_holds_38 rfl rfl ?_
      refine R_bipush (pc := 39) hC dX9_holds_39 kb_m6 ?_
      obtain ⟨q32, hq32, hg⟩ := bind_some hg
      refine R_callV (pc := 41) (av := [.int (-6)]) (rest := []) hC hR 43 (jx hn64 rfl) ly43 rfl mf_X9_lowest wm_X9_204 (LX9_lowest hn64 hq32) rfl rfl rfl (Nat.le_of_ble_eq_true rfl) dX9_holds_41 rfl ?_
      show RX K 44 [(2, .int x4), (0, .ref 43), (1, .int a1)] [.long q32.1] q32.2
      have h9 := gxJM hg
      exact R_lreturn (pc := 44) hC dX9_holds_44 h9
  · replace hg := (if_neg c).symm.trans hg
    refine R_aload_n (pc := 9) hC 0 dX9_holds_9 rfl rfl ?_
    refine R_bipush (pc := 10) hC dX9_holds_10 kb_m2 ?_
    obtain ⟨q33, hq33, hg⟩ := bind_some hg
    refine R_callV (pc := 12) (av := [.int (-2)]) (rest := []) hC hR 43 (jx hn64 rfl) ly43 rfl mf_X9_lowest wm_X9_204 (LX9_lowest hn64 hq33) rfl rfl rfl (Nat.le_of_ble_eq_true rfl) dX9_holds_12 rfl ?_
    show RX K 15 [(0, .ref 43), (1, .int a1)] [.long q33.1] q33.2
    have h9 := gxJM hg
    exact R_lreturn (pc := 15) hC dX9_holds_15 h9
theorem dX9_doJoin_0 : decode cX9_doJoin 0 = .ok (.iconst 0, 1) := by decide +kernel
theorem dX9_doJoin_1 : decode cX9_doJoin 1 = .ok (.istore_n 2, 1) := by decide +kernel
theorem dX9_doJoin_2 : decode cX9_doJoin 2 = .ok (.iload_n 2, 1) := by decide +kernel
theorem dX9_doJoin_3 : decode cX9_doJoin 3 = .ok (.aload_n 0, 1) := by decide +kernel
theorem dX9_doJoin_4 : decode cX9_doJoin 4 = .ok (.getfield 34, 3) := by decide +kernel
theorem dX9_doJoin_7 : decode cX9_doJoin 7 = .ok (.if_icmp .ge 16, 3) := by decide +kernel
theorem dX9_doJoin_10 : decode cX9_doJoin 10 = .ok (.aload_n 0, 1) := by decide +kernel
theorem dX9_doJoin_11 : decode cX9_doJoin 11 = .ok (.getfield 53, 3) := by decide +kernel
theorem dX9_doJoin_14 : decode cX9_doJoin 14 = .ok (.iload_n 2, 1) := by decide +kernel
theorem dX9_doJoin_15 : decode cX9_doJoin 15 = .ok (.iload_n 2, 1) := by decide +kernel
theorem dX9_doJoin_16 : decode cX9_doJoin 16 = .ok (.iastore, 1) := by decide +kernel
theorem dX9_doJoin_17 : decode cX9_doJoin 17 = .ok (.iinc 2 1, 3) := by decide +kernel
theorem dX9_doJoin_20 : decode cX9_doJoin 20 = .ok (.goto (-18), 3) := by decide +kernel
theorem dX9_doJoin_23 : decode cX9_doJoin 23 = .ok (.aload_n 0, 1) := by decide +kernel
theorem dX9_doJoin_24 : decode cX9_doJoin 24 = .ok (.getfield 34, 3) := by decide +kernel
theorem dX9_doJoin_27 : decode cX9_doJoin 27 = .ok (.istore_n 2, 1) := by decide +kernel
theorem dX9_doJoin_28 : decode cX9_doJoin 28 = .ok (.iconst 0, 1) := by decide +kernel
theorem dX9_doJoin_29 : decode cX9_doJoin 29 = .ok (.istore_n 3, 1) := by decide +kernel
theorem dX9_doJoin_30 : decode cX9_doJoin 30 = .ok (.iload_n 3, 1) := by decide +kernel
theorem dX9_doJoin_31 : decode cX9_doJoin 31 = .ok (.aload_n 0, 1) := by decide +kernel
theorem dX9_doJoin_32 : decode cX9_doJoin 32 = .ok (.getfield 247, 3) := by decide +kernel
theorem dX9_doJoin_35 : decode cX9_doJoin 35 = .ok (.if_icmp .ge 105, 3) := by decide +kernel
theorem dX9_doJoin_38 : decode cX9_doJoin 38 = .ok (.aload_n 0, 1) := by decide +kernel
theorem dX9_doJoin_39 : decode cX9_doJoin 39 = .ok (.getfield 53, 3) := by decide +kernel
theorem dX9_doJoin_42 : decode cX9_doJoin 42 = .ok (.aload_n 0, 1) := by decide +kernel
theorem dX9_doJoin_43 : decode cX9_doJoin 43 = .ok (.getfield 63, 3) := by decide +kernel
theorem dX9_doJoin_46 : decode cX9_doJoin 46 = .ok (.iload_n 3, 1) := by decide +kernel
theorem dX9_doJoin_47 : decode cX9_doJoin 47 = .ok (.iaload, 1) := by decide +kernel
theorem dX9_doJoin_48 : decode cX9_doJoin 48 = .ok (.iaload, 1) := by decide +kernel
theorem dX9_doJoin_49 : decode cX9_doJoin 49 = .ok (.istore 4, 2) := by decide +kernel
theorem dX9_doJoin_51 : decode cX9_doJoin 51 = .ok (.aload_n 0, 1) := by decide +kernel
theorem dX9_doJoin_52 : decode cX9_doJoin 52 = .ok (.getfield 53, 3) := by decide +kernel
theorem dX9_doJoin_55 : decode cX9_doJoin 55 = .ok (.aload_n 0, 1) := by decide +kernel
theorem dX9_doJoin_56 : decode cX9_doJoin 56 = .ok (.getfield 66, 3) := by decide +kernel
theorem dX9_doJoin_59 : decode cX9_doJoin 59 = .ok (.iload_n 3, 1) := by decide +kernel
theorem dX9_doJoin_60 : decode cX9_doJoin 60 = .ok (.iaload, 1) := by decide +kernel
theorem dX9_doJoin_61 : decode cX9_doJoin 61 = .ok (.iaload, 1) := by decide +kernel
theorem dX9_doJoin_62 : decode cX9_doJoin 62 = .ok (.istore 5, 2) := by decide +kernel
theorem dX9_doJoin_64 : decode cX9_doJoin 64 = .ok (.iload_n 1, 1) := by decide +kernel
theorem dX9_doJoin_65 : decode cX9_doJoin 65 = .ok (.iload_n 3, 1) := by decide +kernel
theorem dX9_doJoin_66 : decode cX9_doJoin 66 = .ok (.ishr, 1) := by decide +kernel
theorem dX9_doJoin_67 : decode cX9_doJoin 67 = .ok (.iconst 1, 1) := by decide +kernel
theorem dX9_doJoin_68 : decode cX9_doJoin 68 = .ok (.iand, 1) := by decide +kernel
theorem dX9_doJoin_69 : decode cX9_doJoin 69 = .ok (.ifCond .eq 65, 3) := by decide +kernel
theorem dX9_doJoin_72 : decode cX9_doJoin 72 = .ok (.iload 4, 2) := by decide +kernel
theorem dX9_doJoin_74 : decode cX9_doJoin 74 = .ok (.iload 5, 2) := by decide +kernel
theorem dX9_doJoin_76 : decode cX9_doJoin 76 = .ok (.if_icmp .ne 6, 3) := by decide +kernel
theorem dX9_doJoin_79 : decode cX9_doJoin 79 = .ok (.goto 55, 3) := by decide +kernel
theorem dX9_doJoin_82 : decode cX9_doJoin 82 = .ok (.iinc 2 (-1), 3) := by decide +kernel
theorem dX9_doJoin_85 : decode cX9_doJoin 85 = .ok (.iconst 0, 1) := by decide +kernel
theorem dX9_doJoin_86 : decode cX9_doJoin 86 = .ok (.istore 6, 2) := by decide +kernel
theorem dX9_doJoin_88 : decode cX9_doJoin 88 = .ok (.iload 6, 2) := by decide +kernel
theorem dX9_doJoin_90 : decode cX9_doJoin 90 = .ok (.aload_n 0, 1) := by decide +kernel
theorem dX9_doJoin_91 : decode cX9_doJoin 91 = .ok (.getfield 34, 3) := by decide +kernel
theorem dX9_doJoin_94 : decode cX9_doJoin 94 = .ok (.if_icmp .ge 40, 3) := by decide +kernel
theorem dX9_doJoin_97 : decode cX9_doJoin 97 = .ok (.aload_n 0, 1) := by decide +kernel
theorem dX9_doJoin_98 : decode cX9_doJoin 98 = .ok (.getfield 53, 3) := by decide +kernel
theorem dX9_doJoin_101 : decode cX9_doJoin 101 = .ok (.iload 6, 2) := by decide +kernel
theorem dX9_doJoin_103 : decode cX9_doJoin 103 = .ok (.aload_n 0, 1) := by decide +kernel
theorem dX9_doJoin_104 : decode cX9_doJoin 104 = .ok (.getfield 53, 3) := by decide +kernel
theorem dX9_doJoin_107 : decode cX9_doJoin 107 = .ok (.iload 6, 2) := by decide +kernel
theorem dX9_doJoin_109 : decode cX9_doJoin 109 = .ok (.iaload, 1) := by decide +kernel
theorem dX9_doJoin_110 : decode cX9_doJoin 110 = .ok (.iload 5, 2) := by decide +kernel
theorem dX9_doJoin_112 : decode cX9_doJoin 112 = .ok (.if_icmp .ne 8, 3) := by decide +kernel
theorem dX9_doJoin_115 : decode cX9_doJoin 115 = .ok (.iload 4, 2) := by decide +kernel
theorem dX9_doJoin_117 : decode cX9_doJoin 117 = .ok (.goto 10, 3) := by decide +kernel
theorem dX9_doJoin_120 : decode cX9_doJoin 120 = .ok (.aload_n 0, 1) := by decide +kernel
theorem dX9_doJoin_121 : decode cX9_doJoin 121 = .ok (.getfield 53, 3) := by decide +kernel
theorem dX9_doJoin_124 : decode cX9_doJoin 124 = .ok (.iload 6, 2) := by decide +kernel
theorem dX9_doJoin_126 : decode cX9_doJoin 126 = .ok (.iaload, 1) := by decide +kernel
theorem dX9_doJoin_127 : decode cX9_doJoin 127 = .ok (.iastore, 1) := by decide +kernel
theorem dX9_doJoin_128 : decode cX9_doJoin 128 = .ok (.iinc 6 1, 3) := by decide +kernel
theorem dX9_doJoin_131 : decode cX9_doJoin 131 = .ok (.goto (-43), 3) := by decide +kernel
theorem dX9_doJoin_134 : decode cX9_doJoin 134 = .ok (.iinc 3 1, 3) := by decide +kernel
theorem dX9_doJoin_137 : decode cX9_doJoin 137 = .ok (.goto (-107), 3) := by decide +kernel
theorem dX9_doJoin_140 : decode cX9_doJoin 140 = .ok (.iload_n 2, 1) := by decide +kernel
theorem dX9_doJoin_141 : decode cX9_doJoin 141 = .ok (.iconst 1, 1) := by decide +kernel
theorem dX9_doJoin_142 : decode cX9_doJoin 142 = .ok (.if_icmp .ne 7, 3) := by decide +kernel
theorem dX9_doJoin_145 : decode cX9_doJoin 145 = .ok (.iconst 1, 1) := by decide +kernel
theorem dX9_doJoin_146 : decode cX9_doJoin 146 = .ok (.goto 4, 3) := by decide +kernel
theorem dX9_doJoin_149 : decode cX9_doJoin 149 = .ok (.iconst 0, 1) := by decide +kernel
theorem dX9_doJoin_150 : decode cX9_doJoin 150 = .ok (.ireturn, 1) := by decide +kernel
def bX9_doJoin_2  : (Int32 × Mem) → Option ((Int32 × Mem) ⊕ (Int32 × Mem))
  | (y1, m2) => (if (m2.1 43 8) ≤ y1 then some (.inr (y1, m2)) else chk (inb y1 7) (lete (mu m2 57 (Int32.toNatClampNeg y1) y1) (fun m4 => some (.inl (y1 + 1, m4)))))
def bX9_doJoin_88 (x13 : Int32) (x16 : Int32) : (Int32 × Mem) → Option ((Int32 × Mem) ⊕ (Int32 × Mem))
  | (y17, m18) => (if (m18.1 43 8) ≤ y17 then some (.inr (y17, m18)) else chk (inb y17 7) ((if (m18.1 57 (Int32.toNatClampNeg y17)) = x16 then chk (inb y17 7) (lete (mu m18 57 (Int32.toNatClampNeg y17) x13) (fun m24 => some (.inl (y17 + 1, m24)))) else chk (inb y17 7) (chk (inb y17 7) (lete (mu m18 57 (Int32.toNatClampNeg y17) (m18.1 57 (Int32.toNatClampNeg y17))) (fun m22 => some (.inl (y17 + 1, m22))))))))
def bX9_doJoin_30 (F : Nat) (a1 : Int32) : (Int32 × Int32 × Mem) → Option ((Int32 × Int32 × Mem) ⊕ (Int32 × Int32 × Mem))
  | (y8, y9, m10) => (if (m10.1 43 28) ≤ y9 then some (.inr (y8, y9, m10)) else chk (inb y9 10) (chk (inb (m10.1 60 (Int32.toNatClampNeg y9)) 7) (lete (m10.1 57 (Int32.toNatClampNeg (m10.1 60 (Int32.toNatClampNeg y9)))) (fun x13 => chk (inb y9 10) (chk (inb (m10.1 61 (Int32.toNatClampNeg y9)) 7) (lete (m10.1 57 (Int32.toNatClampNeg (m10.1 61 (Int32.toNatClampNeg y9)))) (fun x16 => (if ((a1 >>> (y9 &&& 31)) &&& 1) = 0 then some (.inl (y8, y9 + 1, m10)) else (if x13 = x16 then some (.inl (y8, y9 + 1, m10)) else (iter F (bX9_doJoin_88 x13 x16) (0, m10)).bind (fun e25 => some (.inl (y8 + (-1), y9 + 1, e25.2))))))))))))
def gX9_doJoin (F : Nat) (m : Mem) (a1 : Int32) : Option (Bool × Mem) := (iter F (bX9_doJoin_2) (0, m)).bind (fun e5 => lete (e5.2.1 43 8) (fun x7 => (iter F (bX9_doJoin_30 F a1) (x7, 0, e5.2)).bind (fun e27 => (if e27.1 = 1 then some (true, e27.2.2) else some (false, e27.2.2)))))
set_option maxHeartbeats 4000000 in
set_option maxRecDepth 20000 in
theorem LX9_doJoin {n : Nat} {F : Nat} {m : Mem} {a1 : Int32} {r : Bool × Mem} (hn64 : 64 ≤ n) (hg : gX9_doJoin F m a1 = some r) : MX yX9_doJoin cX9_doJoin 7 (some .boolean) { frames := 0, cells := 0, slots := 0, locals := 0 } n [.ref 43, .int a1] m (some (.int (b2i r.1))) r.2 := by
  refine MX_of (by decide) (Nat.le_of_ble_eq_true rfl) (Or.inr (Or.inr (Or.inr ⟨rfl, _, rfl⟩))) (fun K hC hk hL hR => ?_)
  replace hn64 : 64 ≤ kn K := hk.symm ▸ hn64
  show RX K 0 [(0, .ref 43), (1, .int a1)] [] m
  rw [gX9_doJoin] at hg
  refine R_iconst (pc := 0) hC dX9_doJoin_0 ki_0 ?_
  refine R_istore_n (pc := 1) hC dX9_doJoin_1 rfl hL rfl (show _ = [(2, .int 0), (0, .ref 43), (1, .int a1)] from rfl) ?_
  refine R_pick [1, 2, 0] (ls' := [(0, .ref 43), (1, .int a1), (2, .int 0)]) rfl ?_
  obtain ⟨e5, he5, hg⟩ := bind_some hg
  refine iter_walk (P := fun s : (Int32 × Mem) => RX K 2 [(0, .ref 43), (1, .int a1), (2, .int s.1)] [] s.2) (Qe := fun s : (Int32 × Mem) => RX K 23 [(0, .ref 43), (1, .int a1), (2, .int s.1)] [] s.2) (fun s6 o hg kL2 kE2 => ?_) _ _ _ he5 ?_
  · obtain ⟨y1, m2⟩ := s6
    rw [bX9_doJoin_2] at hg
    show RX K 2 [(0, .ref 43), (1, .int a1), (2, .int y1)] [] m2
    refine R_iload_n (pc := 2) hC 2 dX9_doJoin_2 rfl rfl ?_
    refine R_aload_n (pc := 3) hC 0 dX9_doJoin_3 rfl rfl ?_
    refine gf_X9_34 (pc := 4) hC hn64 dX9_doJoin_4 ?_
    refine R_icmp_ge (tgt := 23) (pc := 7) hC dX9_doJoin_7 (by decide) (fun c => ?_) (fun c => ?_)
    · replace hg := (if_pos c).symm.trans hg
      refine R_pick [0, 1, 2] (ls' := [(0, .ref 43), (1, .int a1), (2, .int y1)]) rfl ?_
      have h9 := kE2 _ (Option.some.inj hg).symm
      exact h9
    · replace hg := (if_neg c).symm.trans hg
      refine R_aload_n (pc := 10) hC 0 dX9_doJoin_10 rfl rfl ?_
      refine gf_X9_53 (pc := 11) hC hn64 dX9_doJoin_11 ?_
      refine R_iload_n (pc := 14) hC 2 dX9_doJoin_14 rfl rfl ?_
      refine R_iload_n (pc := 15) hC 2 dX9_doJoin_15 rfl rfl ?_
      obtain ⟨c3, hg⟩ := chk_some hg
      obtain ⟨m4, hm4, hg⟩ := lete_some hg
      refine R_iastore (pc := 16) hC 57 (jx hn64 rfl) ly57 (inb_vp c3) dX9_doJoin_16 ?_
      refine R_mem hm4 ?_
      refine R_iinc (pc := 17) hC 2 dX9_doJoin_17 rfl (iv ki_1) hL rfl (show _ = [(2, .int (y1 + 1)), (0, .ref 43), (1, .int a1)] from rfl) ?_
      refine R_goto (tgt := 2) (pc := 20) hC dX9_doJoin_20 (by decide) ?_
      refine R_pick [1, 2, 0] (ls' := [(0, .ref 43), (1, .int a1), (2, .int (y1 + 1))]) rfl ?_
      have h9 := kL2 _ (Option.some.inj hg).symm
      exact h9
  · show RX K 23 [(0, .ref 43), (1, .int a1), (2, .int e5.1)] [] e5.2
    refine R_aload_n (pc := 23) hC 0 dX9_doJoin_23 rfl rfl ?_
    refine gf_X9_34 (pc := 24) hC hn64 dX9_doJoin_24 ?_
    obtain ⟨x7, hx7, hg⟩ := lete_some hg
    refine R_top hx7 ?_
    refine R_istore_n (pc := 27) hC dX9_doJoin_27 rfl hL rfl (show _ = [(2, .int x7), (0, .ref 43), (1, .int a1)] from rfl) ?_
    refine R_iconst (pc := 28) hC dX9_doJoin_28 ki_0 ?_
    refine R_istore_n (pc := 29) hC dX9_doJoin_29 rfl hL rfl (show _ = [(3, .int 0), (2, .int x7), (0, .ref 43), (1, .int a1)] from rfl) ?_
    refine R_pick [2, 3, 1, 0] (ls' := [(0, .ref 43), (1, .int a1), (2, .int x7), (3, .int 0)]) rfl ?_
    obtain ⟨e27, he27, hg⟩ := bind_some hg
    refine iter_walk (P := fun s : (Int32 × Int32 × Mem) => RX K 30 [(0, .ref 43), (1, .int a1), (2, .int s.1), (3, .int s.2.1)] [] s.2.2) (Qe := fun s : (Int32 × Int32 × Mem) => RX K 140 [(0, .ref 43), (1, .int a1), (2, .int s.1), (3, .int s.2.1)] [] s.2.2) (fun s28 o hg kL30 kE30 => ?_) _ _ _ he27 ?_
    · obtain ⟨y8, y9, m10⟩ := s28
      rw [bX9_doJoin_30] at hg
      show RX K 30 [(0, .ref 43), (1, .int a1), (2, .int y8), (3, .int y9)] [] m10
      refine R_iload_n (pc := 30) hC 3 dX9_doJoin_30 rfl rfl ?_
      refine R_aload_n (pc := 31) hC 0 dX9_doJoin_31 rfl rfl ?_
      refine gf_X9_247 (pc := 32) hC hn64 dX9_doJoin_32 ?_
      refine R_icmp_ge (tgt := 140) (pc := 35) hC dX9_doJoin_35 (by decide) (fun c => ?_) (fun c => ?_)
      · replace hg := (if_pos c).symm.trans hg
        refine R_pick [0, 1, 2, 3] (ls' := [(0, .ref 43), (1, .int a1), (2, .int y8), (3, .int y9)]) rfl ?_
        have h9 := kE30 _ (Option.some.inj hg).symm
        exact h9
      · replace hg := (if_neg c).symm.trans hg
        refine R_aload_n (pc := 38) hC 0 dX9_doJoin_38 rfl rfl ?_
        refine gf_X9_53 (pc := 39) hC hn64 dX9_doJoin_39 ?_
        refine R_aload_n (pc := 42) hC 0 dX9_doJoin_42 rfl rfl ?_
        refine gf_X9_63 (pc := 43) hC hn64 dX9_doJoin_43 ?_
        refine R_iload_n (pc := 46) hC 3 dX9_doJoin_46 rfl rfl ?_
        obtain ⟨c11, hg⟩ := chk_some hg
        refine R_iaload (pc := 47) hC 60 (jx hn64 rfl) ly60 (inb_vp c11) dX9_doJoin_47 ?_
        obtain ⟨c12, hg⟩ := chk_some hg
        refine R_iaload (pc := 48) hC 57 (jx hn64 rfl) ly57 (inb_vp c12) dX9_doJoin_48 ?_
        obtain ⟨x13, hx13, hg⟩ := lete_some hg
        refine R_top hx13 ?_
        refine R_istore (pc := 49) hC dX9_doJoin_49 hL rfl (show _ = [(4, .int x13), (0, .ref 43), (1, .int a1), (2, .int y8), (3, .int y9)] from rfl) ?_
        refine R_aload_n (pc := 51) hC 1 dX9_doJoin_51 rfl rfl ?_
        refine gf_X9_53 (pc := 52) hC hn64 dX9_doJoin_52 ?_
        refine R_aload_n (pc := 55) hC 1 dX9_doJoin_55 rfl rfl ?_
        refine gf_X9_66 (pc := 56) hC hn64 dX9_doJoin_56 ?_
        refine R_iload_n (pc := 59) hC 4 dX9_doJoin_59 rfl rfl ?_
        obtain ⟨c14, hg⟩ := chk_some hg
        refine R_iaload (pc := 60) hC 61 (jx hn64 rfl) ly61 (inb_vp c14) dX9_doJoin_60 ?_
        obtain ⟨c15, hg⟩ := chk_some hg
        refine R_iaload (pc := 61) hC 57 (jx hn64 rfl) ly57 (inb_vp c15) dX9_doJoin_61 ?_
        obtain ⟨x16, hx16, hg⟩ := lete_some hg
        refine R_top hx16 ?_
        refine R_istore (pc := 62) hC dX9_doJoin_62 hL rfl (show _ = [(5, .int x16), (4, .int x13), (0, .ref 43), (1, .int a1), (2, .int y8), (3, .int y9)] from rfl) ?_
        refine R_iload_n (pc := 64) hC 3 dX9_doJoin_64 rfl rfl ?_
        refine R_iload_n (pc := 65) hC 5 dX9_doJoin_65 rfl rfl ?_
        refine R_ishr (pc := 66) hC dX9_doJoin_66 ?_
        refine R_iconst (pc := 67) hC dX9_doJoin_67 ki_1 ?_
        refine R_iand (pc := 68) hC dX9_doJoin_68 ?_
        refine R_if_eq (tgt := 134) (pc := 69) hC dX9_doJoin_69 (by decide) (fun c => ?_) (fun c => ?_)
        · replace hg := (if_pos c).symm.trans hg
          refine R_iinc (pc := 134) hC 5 dX9_doJoin_134 rfl (iv ki_1) hL rfl (show _ = [(3, .int (y9 + 1)), (5, .int x16), (4, .int x13), (0, .ref 43), (1, .int a1), (2, .int y8)] from rfl) ?_
          refine R_goto (tgt := 30) (pc := 137) hC dX9_doJoin_137 (by decide) ?_
          refine R_pick [3, 4, 5, 0] (ls' := [(0, .ref 43), (1, .int a1), (2, .int y8), (3, .int (y9 + 1))]) rfl ?_
          have h9 := kL30 _ (Option.some.inj hg).symm
          exact h9
        · replace hg := (if_neg c).symm.trans hg
          refine R_iload (pc := 72) hC 1 dX9_doJoin_72 rfl ?_
          refine R_iload (pc := 74) hC 0 dX9_doJoin_74 rfl ?_
          refine R_icmp_ne (tgt := 82) (pc := 76) hC dX9_doJoin_76 (by decide) (fun c => ?_) (fun c => ?_)
          · replace hg := (if_neg c).symm.trans hg
            refine R_iinc (pc := 82) hC 4 dX9_doJoin_82 rfl (iv ki_m1) hL rfl (show _ = [(2, .int (y8 + (-1))), (5, .int x16), (4, .int x13), (0, .ref 43), (1, .int a1), (3, .int y9)] from rfl) ?_
            refine R_iconst (pc := 85) hC dX9_doJoin_85 ki_0 ?_
            refine R_istore (pc := 86) hC dX9_doJoin_86 hL rfl (show _ = [(6, .int 0), (2, .int (y8 + (-1))), (5, .int x16), (4, .int x13), (0, .ref 43), (1, .int a1), (3, .int y9)] from rfl) ?_
            refine R_pick [4, 5, 1, 6, 3, 2, 0] (ls' := [(0, .ref 43), (1, .int a1), (2, .int (y8 + (-1))), (3, .int y9), (4, .int x13), (5, .int x16), (6, .int 0)]) rfl ?_
            obtain ⟨e25, he25, hg⟩ := bind_some hg
            refine iter_walk (P := fun s : (Int32 × Mem) => RX K 88 [(0, .ref 43), (1, .int a1), (2, .int (y8 + (-1))), (3, .int y9), (4, .int x13), (5, .int x16), (6, .int s.1)] [] s.2) (Qe := fun s : (Int32 × Mem) => RX K 134 [(0, .ref 43), (1, .int a1), (2, .int (y8 + (-1))), (3, .int y9), (4, .int x13), (5, .int x16), (6, .int s.1)] [] s.2) (fun s26 o hg kL88 kE88 => ?_) _ _ _ he25 ?_
            · obtain ⟨y17, m18⟩ := s26
              rw [bX9_doJoin_88] at hg
              show RX K 88 [(0, .ref 43), (1, .int a1), (2, .int (y8 + (-1))), (3, .int y9), (4, .int x13), (5, .int x16), (6, .int y17)] [] m18
              refine R_iload (pc := 88) hC 6 dX9_doJoin_88 rfl ?_
              refine R_aload_n (pc := 90) hC 0 dX9_doJoin_90 rfl rfl ?_
              refine gf_X9_34 (pc := 91) hC hn64 dX9_doJoin_91 ?_
              refine R_icmp_ge (tgt := 134) (pc := 94) hC dX9_doJoin_94 (by decide) (fun c => ?_) (fun c => ?_)
              · replace hg := (if_pos c).symm.trans hg
                refine R_pick [0, 1, 2, 3, 4, 5, 6] (ls' := [(0, .ref 43), (1, .int a1), (2, .int (y8 + (-1))), (3, .int y9), (4, .int x13), (5, .int x16), (6, .int y17)]) rfl ?_
                have h9 := kE88 _ (Option.some.inj hg).symm
                exact h9
              · replace hg := (if_neg c).symm.trans hg
                refine R_aload_n (pc := 97) hC 0 dX9_doJoin_97 rfl rfl ?_
                refine gf_X9_53 (pc := 98) hC hn64 dX9_doJoin_98 ?_
                refine R_iload (pc := 101) hC 6 dX9_doJoin_101 rfl ?_
                refine R_aload_n (pc := 103) hC 0 dX9_doJoin_103 rfl rfl ?_
                refine gf_X9_53 (pc := 104) hC hn64 dX9_doJoin_104 ?_
                refine R_iload (pc := 107) hC 6 dX9_doJoin_107 rfl ?_
                obtain ⟨c19, hg⟩ := chk_some hg
                refine R_iaload (pc := 109) hC 57 (jx hn64 rfl) ly57 (inb_vp c19) dX9_doJoin_109 ?_
                refine R_iload (pc := 110) hC 5 dX9_doJoin_110 rfl ?_
                refine R_icmp_ne (tgt := 120) (pc := 112) hC dX9_doJoin_112 (by decide) (fun c => ?_) (fun c => ?_)
                · replace hg := (if_neg c).symm.trans hg
                  refine R_aload_n (pc := 120) hC 0 dX9_doJoin_120 rfl rfl ?_
                  refine gf_X9_53 (pc := 121) hC hn64 dX9_doJoin_121 ?_
                  refine R_iload (pc := 124) hC 6 dX9_doJoin_124 rfl ?_
                  obtain ⟨c20, hg⟩ := chk_some hg
                  refine R_iaload (pc := 126) hC 57 (jx hn64 rfl) ly57 (inb_vp c20) dX9_doJoin_126 ?_
                  obtain ⟨c21, hg⟩ := chk_some hg
                  obtain ⟨m22, hm22, hg⟩ := lete_some hg
                  refine R_iastore (pc := 127) hC 57 (jx hn64 rfl) ly57 (inb_vp c21) dX9_doJoin_127 ?_
                  refine R_mem hm22 ?_
                  refine R_iinc (pc := 128) hC 6 dX9_doJoin_128 rfl (iv ki_1) hL rfl (show _ = [(6, .int (y17 + 1)), (0, .ref 43), (1, .int a1), (2, .int (y8 + (-1))), (3, .int y9), (4, .int x13), (5, .int x16)] from rfl) ?_
                  refine R_goto (tgt := 88) (pc := 131) hC dX9_doJoin_131 (by decide) ?_
                  refine R_pick [1, 2, 3, 4, 5, 6, 0] (ls' := [(0, .ref 43), (1, .int a1), (2, .int (y8 + (-1))), (3, .int y9), (4, .int x13), (5, .int x16), (6, .int (y17 + 1))]) rfl ?_
                  have h9 := kL88 _ (Option.some.inj hg).symm
                  exact h9
                · replace hg := (if_pos c).symm.trans hg
                  refine R_iload (pc := 115) hC 4 dX9_doJoin_115 rfl ?_
                  refine R_goto (tgt := 127) (pc := 117) hC dX9_doJoin_117 (by decide) ?_
                  obtain ⟨c23, hg⟩ := chk_some hg
                  obtain ⟨m24, hm24, hg⟩ := lete_some hg
                  refine R_iastore (pc := 127) hC 57 (jx hn64 rfl) ly57 (inb_vp c23) dX9_doJoin_127 ?_
                  refine R_mem hm24 ?_
                  refine R_iinc (pc := 128) hC 6 dX9_doJoin_128 rfl (iv ki_1) hL rfl (show _ = [(6, .int (y17 + 1)), (0, .ref 43), (1, .int a1), (2, .int (y8 + (-1))), (3, .int y9), (4, .int x13), (5, .int x16)] from rfl) ?_
                  refine R_goto (tgt := 88) (pc := 131) hC dX9_doJoin_131 (by decide) ?_
                  refine R_pick [1, 2, 3, 4, 5, 6, 0] (ls' := [(0, .ref 43), (1, .int a1), (2, .int (y8 + (-1))), (3, .int y9), (4, .int x13), (5, .int x16), (6, .int (y17 + 1))]) rfl ?_
                  have h9 := kL88 _ (Option.some.inj hg).symm
                  exact h9
            · show RX K 134 [(0, .ref 43), (1, .int a1), (2, .int (y8 + (-1))), (3, .int y9), (4, .int x13), (5, .int x16), (6, .int e25.1)] [] e25.2
              refine R_iinc (pc := 134) hC 3 dX9_doJoin_134 rfl (iv ki_1) hL rfl (show _ = [(3, .int (y9 + 1)), (0, .ref 43), (1, .int a1), (2, .int (y8 + (-1))), (4, .int x13), (5, .int x16), (6, .int e25.1)] from rfl) ?_
              refine R_goto (tgt := 30) (pc := 137) hC dX9_doJoin_137 (by decide) ?_
              refine R_pick [1, 2, 3, 0] (ls' := [(0, .ref 43), (1, .int a1), (2, .int (y8 + (-1))), (3, .int (y9 + 1))]) rfl ?_
              have h9 := kL30 _ (Option.some.inj hg).symm
              exact h9
          · replace hg := (if_pos c).symm.trans hg
            refine R_goto (tgt := 134) (pc := 79) hC dX9_doJoin_79 (by decide) ?_
            refine R_iinc (pc := 134) hC 5 dX9_doJoin_134 rfl (iv ki_1) hL rfl (show _ = [(3, .int (y9 + 1)), (5, .int x16), (4, .int x13), (0, .ref 43), (1, .int a1), (2, .int y8)] from rfl) ?_
            refine R_goto (tgt := 30) (pc := 137) hC dX9_doJoin_137 (by decide) ?_
            refine R_pick [3, 4, 5, 0] (ls' := [(0, .ref 43), (1, .int a1), (2, .int y8), (3, .int (y9 + 1))]) rfl ?_
            have h9 := kL30 _ (Option.some.inj hg).symm
            exact h9
    · show RX K 140 [(0, .ref 43), (1, .int a1), (2, .int e27.1), (3, .int e27.2.1)] [] e27.2.2
      refine R_iload_n (pc := 140) hC 2 dX9_doJoin_140 rfl rfl ?_
      refine R_iconst (pc := 141) hC dX9_doJoin_141 ki_1 ?_
      refine R_icmp_ne (tgt := 149) (pc := 142) hC dX9_doJoin_142 (by decide) (fun c => ?_) (fun c => ?_)
      · replace hg := (if_neg c).symm.trans hg
        refine R_iconst (pc := 149) hC dX9_doJoin_149 ki_0 ?_
        have h9 := gxZM hg
        exact R_ireturn (pc := 150) hC dX9_doJoin_150 h9
      · replace hg := (if_pos c).symm.trans hg
        refine R_iconst (pc := 145) hC dX9_doJoin_145 ki_1 ?_
        refine R_goto (tgt := 150) (pc := 146) hC dX9_doJoin_146 (by decide) ?_
        have h9 := gxZM hg
        exact R_ireturn (pc := 150) hC dX9_doJoin_150 h9
theorem dX9_findPlan_0 : decode cX9_findPlan 0 = .ok (.aload_n 0, 1) := by decide +kernel
theorem dX9_findPlan_1 : decode cX9_findPlan 1 = .ok (.iconst 0, 1) := by decide +kernel
theorem dX9_findPlan_2 : decode cX9_findPlan 2 = .ok (.putfield 250, 3) := by decide +kernel
theorem dX9_findPlan_5 : decode cX9_findPlan 5 = .ok (.iconst 0, 1) := by decide +kernel
theorem dX9_findPlan_6 : decode cX9_findPlan 6 = .ok (.istore_n 2, 1) := by decide +kernel
theorem dX9_findPlan_7 : decode cX9_findPlan 7 = .ok (.iload_n 2, 1) := by decide +kernel
theorem dX9_findPlan_8 : decode cX9_findPlan 8 = .ok (.iconst 1, 1) := by decide +kernel
theorem dX9_findPlan_9 : decode cX9_findPlan 9 = .ok (.aload_n 0, 1) := by decide +kernel
theorem dX9_findPlan_10 : decode cX9_findPlan 10 = .ok (.getfield 247, 3) := by decide +kernel
theorem dX9_findPlan_13 : decode cX9_findPlan 13 = .ok (.ishl, 1) := by decide +kernel
theorem dX9_findPlan_14 : decode cX9_findPlan 14 = .ok (.if_icmp .ge 53, 3) := by decide +kernel
theorem dX9_findPlan_17 : decode cX9_findPlan 17 = .ok (.iload_n 2, 1) := by decide +kernel
theorem dX9_findPlan_18 : decode cX9_findPlan 18 = .ok (.invokestatic 165, 3) := by decide +kernel
theorem dX9_findPlan_21 : decode cX9_findPlan 21 = .ok (.aload_n 0, 1) := by decide +kernel
theorem dX9_findPlan_22 : decode cX9_findPlan 22 = .ok (.getfield 34, 3) := by decide +kernel
theorem dX9_findPlan_25 : decode cX9_findPlan 25 = .ok (.iconst 1, 1) := by decide +kernel
theorem dX9_findPlan_26 : decode cX9_findPlan 26 = .ok (.isub, 1) := by decide +kernel
theorem dX9_findPlan_27 : decode cX9_findPlan 27 = .ok (.if_icmp .ne 34, 3) := by decide +kernel
theorem dX9_findPlan_30 : decode cX9_findPlan 30 = .ok (.aload_n 0, 1) := by decide +kernel
theorem dX9_findPlan_31 : decode cX9_findPlan 31 = .ok (.iload_n 2, 1) := by decide +kernel
theorem dX9_findPlan_32 : decode cX9_findPlan 32 = .ok (.invokevirtual 253, 3) := by decide +kernel
theorem dX9_findPlan_35 : decode cX9_findPlan 35 = .ok (.ifCond .ne 6, 3) := by decide +kernel
theorem dX9_findPlan_38 : decode cX9_findPlan 38 = .ok (.goto 23, 3) := by decide +kernel
theorem dX9_findPlan_41 : decode cX9_findPlan 41 = .ok (.aload_n 0, 1) := by decide +kernel
theorem dX9_findPlan_42 : decode cX9_findPlan 42 = .ok (.getfield 69, 3) := by decide +kernel
theorem dX9_findPlan_45 : decode cX9_findPlan 45 = .ok (.aload_n 0, 1) := by decide +kernel
theorem dX9_findPlan_46 : decode cX9_findPlan 46 = .ok (.getfield 250, 3) := by decide +kernel
theorem dX9_findPlan_49 : decode cX9_findPlan 49 = .ok (.iload_n 2, 1) := by decide +kernel
theorem dX9_findPlan_50 : decode cX9_findPlan 50 = .ok (.iastore, 1) := by decide +kernel
theorem dX9_findPlan_51 : decode cX9_findPlan 51 = .ok (.aload_n 0, 1) := by decide +kernel
theorem dX9_findPlan_52 : decode cX9_findPlan 52 = .ok (.dup, 1) := by decide +kernel
theorem dX9_findPlan_53 : decode cX9_findPlan 53 = .ok (.getfield 250, 3) := by decide +kernel
theorem dX9_findPlan_56 : decode cX9_findPlan 56 = .ok (.iconst 1, 1) := by decide +kernel
theorem dX9_findPlan_57 : decode cX9_findPlan 57 = .ok (.iadd, 1) := by decide +kernel
theorem dX9_findPlan_58 : decode cX9_findPlan 58 = .ok (.putfield 250, 3) := by decide +kernel
theorem dX9_findPlan_61 : decode cX9_findPlan 61 = .ok (.iinc 2 1, 3) := by decide +kernel
theorem dX9_findPlan_64 : decode cX9_findPlan 64 = .ok (.goto (-57), 3) := by decide +kernel
theorem dX9_findPlan_67 : decode cX9_findPlan 67 = .ok (.aload_n 0, 1) := by decide +kernel
theorem dX9_findPlan_68 : decode cX9_findPlan 68 = .ok (.iconst 0, 1) := by decide +kernel
theorem dX9_findPlan_69 : decode cX9_findPlan 69 = .ok (.putfield 256, 3) := by decide +kernel
theorem dX9_findPlan_72 : decode cX9_findPlan 72 = .ok (.aload_n 0, 1) := by decide +kernel
theorem dX9_findPlan_73 : decode cX9_findPlan 73 = .ok (.iconst 0, 1) := by decide +kernel
theorem dX9_findPlan_74 : decode cX9_findPlan 74 = .ok (.putfield 259, 3) := by decide +kernel
theorem dX9_findPlan_77 : decode cX9_findPlan 77 = .ok (.iconst 0, 1) := by decide +kernel
theorem dX9_findPlan_78 : decode cX9_findPlan 78 = .ok (.istore_n 2, 1) := by decide +kernel
theorem dX9_findPlan_79 : decode cX9_findPlan 79 = .ok (.iload_n 2, 1) := by decide +kernel
theorem dX9_findPlan_80 : decode cX9_findPlan 80 = .ok (.iconst 1, 1) := by decide +kernel
theorem dX9_findPlan_81 : decode cX9_findPlan 81 = .ok (.aload_n 0, 1) := by decide +kernel
theorem dX9_findPlan_82 : decode cX9_findPlan 82 = .ok (.getfield 247, 3) := by decide +kernel
theorem dX9_findPlan_85 : decode cX9_findPlan 85 = .ok (.ishl, 1) := by decide +kernel
theorem dX9_findPlan_86 : decode cX9_findPlan 86 = .ok (.if_icmp .ge 83, 3) := by decide +kernel
theorem dX9_findPlan_89 : decode cX9_findPlan 89 = .ok (.iload_n 2, 1) := by decide +kernel
theorem dX9_findPlan_90 : decode cX9_findPlan 90 = .ok (.invokestatic 165, 3) := by decide +kernel
theorem dX9_findPlan_93 : decode cX9_findPlan 93 = .ok (.iload_n 1, 1) := by decide +kernel
theorem dX9_findPlan_94 : decode cX9_findPlan 94 = .ok (.if_icmp .eq 6, 3) := by decide +kernel
theorem dX9_findPlan_97 : decode cX9_findPlan 97 = .ok (.goto 66, 3) := by decide +kernel
theorem dX9_findPlan_100 : decode cX9_findPlan 100 = .ok (.iconst 0, 1) := by decide +kernel
theorem dX9_findPlan_101 : decode cX9_findPlan 101 = .ok (.istore_n 3, 1) := by decide +kernel
theorem dX9_findPlan_102 : decode cX9_findPlan 102 = .ok (.iconst 0, 1) := by decide +kernel
theorem dX9_findPlan_103 : decode cX9_findPlan 103 = .ok (.istore 4, 2) := by decide +kernel
theorem dX9_findPlan_105 : decode cX9_findPlan 105 = .ok (.iload 4, 2) := by decide +kernel
theorem dX9_findPlan_107 : decode cX9_findPlan 107 = .ok (.aload_n 0, 1) := by decide +kernel
theorem dX9_findPlan_108 : decode cX9_findPlan 108 = .ok (.getfield 250, 3) := by decide +kernel
theorem dX9_findPlan_111 : decode cX9_findPlan 111 = .ok (.if_icmp .ge 31, 3) := by decide +kernel
theorem dX9_findPlan_114 : decode cX9_findPlan 114 = .ok (.iload_n 3, 1) := by decide +kernel
theorem dX9_findPlan_115 : decode cX9_findPlan 115 = .ok (.aload_n 0, 1) := by decide +kernel
theorem dX9_findPlan_116 : decode cX9_findPlan 116 = .ok (.getfield 69, 3) := by decide +kernel
theorem dX9_findPlan_119 : decode cX9_findPlan 119 = .ok (.iload 4, 2) := by decide +kernel
theorem dX9_findPlan_121 : decode cX9_findPlan 121 = .ok (.iaload, 1) := by decide +kernel
theorem dX9_findPlan_122 : decode cX9_findPlan 122 = .ok (.iload_n 2, 1) := by decide +kernel
theorem dX9_findPlan_123 : decode cX9_findPlan 123 = .ok (.iconst (-1), 1) := by decide +kernel
theorem dX9_findPlan_124 : decode cX9_findPlan 124 = .ok (.ixor, 1) := by decide +kernel
theorem dX9_findPlan_125 : decode cX9_findPlan 125 = .ok (.iand, 1) := by decide +kernel
theorem dX9_findPlan_126 : decode cX9_findPlan 126 = .ok (.ifCond .ne 7, 3) := by decide +kernel
theorem dX9_findPlan_129 : decode cX9_findPlan 129 = .ok (.iconst 1, 1) := by decide +kernel
theorem dX9_findPlan_130 : decode cX9_findPlan 130 = .ok (.goto 4, 3) := by decide +kernel
theorem dX9_findPlan_133 : decode cX9_findPlan 133 = .ok (.iconst 0, 1) := by decide +kernel
theorem dX9_findPlan_134 : decode cX9_findPlan 134 = .ok (.iadd, 1) := by decide +kernel
theorem dX9_findPlan_135 : decode cX9_findPlan 135 = .ok (.istore_n 3, 1) := by decide +kernel
theorem dX9_findPlan_136 : decode cX9_findPlan 136 = .ok (.iinc 4 1, 3) := by decide +kernel
theorem dX9_findPlan_139 : decode cX9_findPlan 139 = .ok (.goto (-34), 3) := by decide +kernel
theorem dX9_findPlan_142 : decode cX9_findPlan 142 = .ok (.iload_n 3, 1) := by decide +kernel
theorem dX9_findPlan_143 : decode cX9_findPlan 143 = .ok (.aload_n 0, 1) := by decide +kernel
theorem dX9_findPlan_144 : decode cX9_findPlan 144 = .ok (.getfield 256, 3) := by decide +kernel
theorem dX9_findPlan_147 : decode cX9_findPlan 147 = .ok (.if_icmp .gt 6, 3) := by decide +kernel
theorem dX9_findPlan_150 : decode cX9_findPlan 150 = .ok (.goto 13, 3) := by decide +kernel
theorem dX9_findPlan_153 : decode cX9_findPlan 153 = .ok (.aload_n 0, 1) := by decide +kernel
theorem dX9_findPlan_154 : decode cX9_findPlan 154 = .ok (.iload_n 3, 1) := by decide +kernel
theorem dX9_findPlan_155 : decode cX9_findPlan 155 = .ok (.putfield 256, 3) := by decide +kernel
theorem dX9_findPlan_158 : decode cX9_findPlan 158 = .ok (.aload_n 0, 1) := by decide +kernel
theorem dX9_findPlan_159 : decode cX9_findPlan 159 = .ok (.iload_n 2, 1) := by decide +kernel
theorem dX9_findPlan_160 : decode cX9_findPlan 160 = .ok (.putfield 259, 3) := by decide +kernel
theorem dX9_findPlan_163 : decode cX9_findPlan 163 = .ok (.iinc 2 1, 3) := by decide +kernel
theorem dX9_findPlan_166 : decode cX9_findPlan 166 = .ok (.goto (-87), 3) := by decide +kernel
theorem dX9_findPlan_169 : decode cX9_findPlan 169 = .ok (.return_, 1) := by decide +kernel
def bX9_findPlan_7 (F : Nat) : (Int32 × Mem) → Option ((Int32 × Mem) ⊕ (Int32 × Mem))
  | (y2, m3) => (if ((1 : Int32) <<< ((m3.1 43 28) &&& 31)) ≤ y2 then some (.inr (y2, m3)) else (gX9_bits F y2).bind (fun x4 => (if x4 = ((m3.1 43 8) - 1) then (gX9_doJoin F m3 y2).bind (fun q5 => (if q5.1 = true then chk (inb (q5.2.1 43 29) 130) (lete (mu q5.2 62 (Int32.toNatClampNeg (q5.2.1 43 29)) y2) (fun m7 => lete (mu m7 43 29 ((m7.1 43 29) + 1)) (fun m8 => some (.inl (y2 + 1, m8))))) else some (.inl (y2 + 1, q5.2)))) else some (.inl (y2 + 1, m3)))))
def bX9_findPlan_105 (y13 : Int32) (m14 : Mem) : (Int32 × Int32) → Option ((Int32 × Int32) ⊕ (Int32 × Int32))
  | (y16, y17) => (if (m14.1 43 29) ≤ y17 then some (.inr (y16, y17)) else chk (inb y17 130) ((if ((m14.1 62 (Int32.toNatClampNeg y17)) &&& (y13 ^^^ (-1))) = 0 then lete (y16 + 1) (fun x20 => some (.inl (x20, y17 + 1))) else lete (y16 + 0) (fun x19 => some (.inl (x19, y17 + 1))))))
def bX9_findPlan_79 (F : Nat) (a1 : Int32) : (Int32 × Mem) → Option ((Int32 × Mem) ⊕ (Int32 × Mem))
  | (y13, m14) => (if ((1 : Int32) <<< ((m14.1 43 28) &&& 31)) ≤ y13 then some (.inr (y13, m14)) else (gX9_bits F y13).bind (fun x15 => (if x15 = a1 then (iter F (bX9_findPlan_105 y13 m14) (0, 0)).bind (fun e21 => (if (m14.1 43 30) < e21.1 then lete (mu m14 43 30 e21.1) (fun m23 => lete (mu m23 43 31 y13) (fun m24 => some (.inl (y13 + 1, m24)))) else some (.inl (y13 + 1, m14)))) else some (.inl (y13 + 1, m14)))))
def gX9_findPlan (F : Nat) (m : Mem) (a1 : Int32) : Option (Mem) := lete (mu m 43 29 0) (fun m1 => (iter F (bX9_findPlan_7 F) (0, m1)).bind (fun e9 => lete (mu e9.2 43 30 0) (fun m11 => lete (mu m11 43 31 0) (fun m12 => (iter F (bX9_findPlan_79 F a1) (0, m12)).bind (fun e25 => some e25.2)))))
set_option maxHeartbeats 4000000 in
set_option maxRecDepth 20000 in
theorem LX9_findPlan {n : Nat} {F : Nat} {m : Mem} {a1 : Int32} {r : Mem} (hn64 : 64 ≤ n) (hg : gX9_findPlan F m a1 = some r) : MX yX9_findPlan cX9_findPlan 5 none { frames := 1, cells := 0, slots := 0, locals := 26 } n [.ref 43, .int a1] m (none) r := by
  refine MX_of (by decide) (Nat.le_of_ble_eq_true rfl) (Or.inl ⟨rfl, rfl⟩) (fun K hC hk hL hR => ?_)
  replace hn64 : 64 ≤ kn K := hk.symm ▸ hn64
  show RX K 0 [(0, .ref 43), (1, .int a1)] [] m
  rw [gX9_findPlan] at hg
  refine R_aload_n (pc := 0) hC 0 dX9_findPlan_0 rfl rfl ?_
  refine R_iconst (pc := 1) hC dX9_findPlan_1 ki_0 ?_
  obtain ⟨m1, hm1, hg⟩ := lete_some hg
  refine pf_X9_250 (pc := 2) hC hn64 dX9_findPlan_2 ?_
  refine R_mem hm1 ?_
  refine R_iconst (pc := 5) hC dX9_findPlan_5 ki_0 ?_
  refine R_istore_n (pc := 6) hC dX9_findPlan_6 rfl hL rfl (show _ = [(2, .int 0), (0, .ref 43), (1, .int a1)] from rfl) ?_
  refine R_pick [1, 2, 0] (ls' := [(0, .ref 43), (1, .int a1), (2, .int 0)]) rfl ?_
  obtain ⟨e9, he9, hg⟩ := bind_some hg
  refine iter_walk (P := fun s : (Int32 × Mem) => RX K 7 [(0, .ref 43), (1, .int a1), (2, .int s.1)] [] s.2) (Qe := fun s : (Int32 × Mem) => RX K 67 [(0, .ref 43), (1, .int a1), (2, .int s.1)] [] s.2) (fun s10 o hg kL7 kE7 => ?_) _ _ _ he9 ?_
  · obtain ⟨y2, m3⟩ := s10
    rw [bX9_findPlan_7] at hg
    show RX K 7 [(0, .ref 43), (1, .int a1), (2, .int y2)] [] m3
    refine R_iload_n (pc := 7) hC 2 dX9_findPlan_7 rfl rfl ?_
    refine R_iconst (pc := 8) hC dX9_findPlan_8 ki_1 ?_
    refine R_aload_n (pc := 9) hC 0 dX9_findPlan_9 rfl rfl ?_
    refine gf_X9_247 (pc := 10) hC hn64 dX9_findPlan_10 ?_
    refine R_ishl (pc := 13) hC dX9_findPlan_13 ?_
    refine R_icmp_ge (tgt := 67) (pc := 14) hC dX9_findPlan_14 (by decide) (fun c => ?_) (fun c => ?_)
    · replace hg := (if_pos c).symm.trans hg
      refine R_pick [0, 1, 2] (ls' := [(0, .ref 43), (1, .int a1), (2, .int y2)]) rfl ?_
      have h9 := kE7 _ (Option.some.inj hg).symm
      exact h9
    · replace hg := (if_neg c).symm.trans hg
      refine R_iload_n (pc := 17) hC 2 dX9_findPlan_17 rfl rfl ?_
      obtain ⟨x4, hx4, hg⟩ := bind_some hg
      refine R_callS (pc := 18) (av := [.int y2]) (rest := []) hC hR mf_X9_bits wm_X9_165 (LX9_bits hn64 hx4) rfl rfl rfl (Nat.le_of_ble_eq_true rfl) dX9_findPlan_18 rfl ?_
      show RX K 21 [(0, .ref 43), (1, .int a1), (2, .int y2)] [.int x4] m3
      refine R_aload_n (pc := 21) hC 0 dX9_findPlan_21 rfl rfl ?_
      refine gf_X9_34 (pc := 22) hC hn64 dX9_findPlan_22 ?_
      refine R_iconst (pc := 25) hC dX9_findPlan_25 ki_1 ?_
      refine R_isub (pc := 26) hC dX9_findPlan_26 ?_
      refine R_icmp_ne (tgt := 61) (pc := 27) hC dX9_findPlan_27 (by decide) (fun c => ?_) (fun c => ?_)
      · replace hg := (if_neg c).symm.trans hg
        refine R_iinc (pc := 61) hC 2 dX9_findPlan_61 rfl (iv ki_1) hL rfl (show _ = [(2, .int (y2 + 1)), (0, .ref 43), (1, .int a1)] from rfl) ?_
        refine R_goto (tgt := 7) (pc := 64) hC dX9_findPlan_64 (by decide) ?_
        refine R_pick [1, 2, 0] (ls' := [(0, .ref 43), (1, .int a1), (2, .int (y2 + 1))]) rfl ?_
        have h9 := kL7 _ (Option.some.inj hg).symm
        exact h9
      · replace hg := (if_pos c).symm.trans hg
        refine R_aload_n (pc := 30) hC 0 dX9_findPlan_30 rfl rfl ?_
        refine R_iload_n (pc := 31) hC 2 dX9_findPlan_31 rfl rfl ?_
        obtain ⟨q5, hq5, hg⟩ := bind_some hg
        refine R_callV (pc := 32) (av := [.int y2]) (rest := []) hC hR 43 (jx hn64 rfl) ly43 rfl mf_X9_doJoin wm_X9_253 (LX9_doJoin hn64 hq5) rfl rfl rfl (Nat.le_of_ble_eq_true rfl) dX9_findPlan_32 rfl ?_
        show RX K 35 [(0, .ref 43), (1, .int a1), (2, .int y2)] [.int (b2i q5.1)] q5.2
        refine R_ifB_ne (tgt := 41) (pc := 35) hC dX9_findPlan_35 (by decide) (fun c => ?_) (fun c => ?_)
        · replace hg := (if_pos c).symm.trans hg
          refine R_aload_n (pc := 41) hC 0 dX9_findPlan_41 rfl rfl ?_
          refine gf_X9_69 (pc := 42) hC hn64 dX9_findPlan_42 ?_
          refine R_aload_n (pc := 45) hC 0 dX9_findPlan_45 rfl rfl ?_
          refine gf_X9_250 (pc := 46) hC hn64 dX9_findPlan_46 ?_
          refine R_iload_n (pc := 49) hC 2 dX9_findPlan_49 rfl rfl ?_
          obtain ⟨c6, hg⟩ := chk_some hg
          obtain ⟨m7, hm7, hg⟩ := lete_some hg
          refine R_iastore (pc := 50) hC 62 (jx hn64 rfl) ly62 (inb_vp c6) dX9_findPlan_50 ?_
          refine R_mem hm7 ?_
          refine R_aload_n (pc := 51) hC 0 dX9_findPlan_51 rfl rfl ?_
          refine R_dup (pc := 52) hC dX9_findPlan_52 rfl ?_
          refine gf_X9_250 (pc := 53) hC hn64 dX9_findPlan_53 ?_
          refine R_iconst (pc := 56) hC dX9_findPlan_56 ki_1 ?_
          refine R_iadd (pc := 57) hC dX9_findPlan_57 ?_
          obtain ⟨m8, hm8, hg⟩ := lete_some hg
          refine pf_X9_250 (pc := 58) hC hn64 dX9_findPlan_58 ?_
          refine R_mem hm8 ?_
          refine R_iinc (pc := 61) hC 2 dX9_findPlan_61 rfl (iv ki_1) hL rfl (show _ = [(2, .int (y2 + 1)), (0, .ref 43), (1, .int a1)] from rfl) ?_
          refine R_goto (tgt := 7) (pc := 64) hC dX9_findPlan_64 (by decide) ?_
          refine R_pick [1, 2, 0] (ls' := [(0, .ref 43), (1, .int a1), (2, .int (y2 + 1))]) rfl ?_
          have h9 := kL7 _ (Option.some.inj hg).symm
          exact h9
        · replace hg := (if_neg c).symm.trans hg
          refine R_goto (tgt := 61) (pc := 38) hC dX9_findPlan_38 (by decide) ?_
          refine R_iinc (pc := 61) hC 2 dX9_findPlan_61 rfl (iv ki_1) hL rfl (show _ = [(2, .int (y2 + 1)), (0, .ref 43), (1, .int a1)] from rfl) ?_
          refine R_goto (tgt := 7) (pc := 64) hC dX9_findPlan_64 (by decide) ?_
          refine R_pick [1, 2, 0] (ls' := [(0, .ref 43), (1, .int a1), (2, .int (y2 + 1))]) rfl ?_
          have h9 := kL7 _ (Option.some.inj hg).symm
          exact h9
  · show RX K 67 [(0, .ref 43), (1, .int a1), (2, .int e9.1)] [] e9.2
    refine R_aload_n (pc := 67) hC 0 dX9_findPlan_67 rfl rfl ?_
    refine R_iconst (pc := 68) hC dX9_findPlan_68 ki_0 ?_
    obtain ⟨m11, hm11, hg⟩ := lete_some hg
    refine pf_X9_256 (pc := 69) hC hn64 dX9_findPlan_69 ?_
    refine R_mem hm11 ?_
    refine R_aload_n (pc := 72) hC 0 dX9_findPlan_72 rfl rfl ?_
    refine R_iconst (pc := 73) hC dX9_findPlan_73 ki_0 ?_
    obtain ⟨m12, hm12, hg⟩ := lete_some hg
    refine pf_X9_259 (pc := 74) hC hn64 dX9_findPlan_74 ?_
    refine R_mem hm12 ?_
    refine R_iconst (pc := 77) hC dX9_findPlan_77 ki_0 ?_
    refine R_istore_n (pc := 78) hC dX9_findPlan_78 rfl hL rfl (show _ = [(2, .int 0), (0, .ref 43), (1, .int a1)] from rfl) ?_
    refine R_pick [1, 2, 0] (ls' := [(0, .ref 43), (1, .int a1), (2, .int 0)]) rfl ?_
    obtain ⟨e25, he25, hg⟩ := bind_some hg
    refine iter_walk (P := fun s : (Int32 × Mem) => RX K 79 [(0, .ref 43), (1, .int a1), (2, .int s.1)] [] s.2) (Qe := fun s : (Int32 × Mem) => RX K 169 [(0, .ref 43), (1, .int a1), (2, .int s.1)] [] s.2) (fun s26 o hg kL79 kE79 => ?_) _ _ _ he25 ?_
    · obtain ⟨y13, m14⟩ := s26
      rw [bX9_findPlan_79] at hg
      show RX K 79 [(0, .ref 43), (1, .int a1), (2, .int y13)] [] m14
      refine R_iload_n (pc := 79) hC 2 dX9_findPlan_79 rfl rfl ?_
      refine R_iconst (pc := 80) hC dX9_findPlan_80 ki_1 ?_
      refine R_aload_n (pc := 81) hC 0 dX9_findPlan_81 rfl rfl ?_
      refine gf_X9_247 (pc := 82) hC hn64 dX9_findPlan_82 ?_
      refine R_ishl (pc := 85) hC dX9_findPlan_85 ?_
      refine R_icmp_ge (tgt := 169) (pc := 86) hC dX9_findPlan_86 (by decide) (fun c => ?_) (fun c => ?_)
      · replace hg := (if_pos c).symm.trans hg
        refine R_pick [0, 1, 2] (ls' := [(0, .ref 43), (1, .int a1), (2, .int y13)]) rfl ?_
        have h9 := kE79 _ (Option.some.inj hg).symm
        exact h9
      · replace hg := (if_neg c).symm.trans hg
        refine R_iload_n (pc := 89) hC 2 dX9_findPlan_89 rfl rfl ?_
        obtain ⟨x15, hx15, hg⟩ := bind_some hg
        refine R_callS (pc := 90) (av := [.int y13]) (rest := []) hC hR mf_X9_bits wm_X9_165 (LX9_bits hn64 hx15) rfl rfl rfl (Nat.le_of_ble_eq_true rfl) dX9_findPlan_90 rfl ?_
        show RX K 93 [(0, .ref 43), (1, .int a1), (2, .int y13)] [.int x15] m14
        refine R_iload_n (pc := 93) hC 1 dX9_findPlan_93 rfl rfl ?_
        refine R_icmp_eq (tgt := 100) (pc := 94) hC dX9_findPlan_94 (by decide) (fun c => ?_) (fun c => ?_)
        · replace hg := (if_pos c).symm.trans hg
          refine R_iconst (pc := 100) hC dX9_findPlan_100 ki_0 ?_
          refine R_istore_n (pc := 101) hC dX9_findPlan_101 rfl hL rfl (show _ = [(3, .int 0), (0, .ref 43), (1, .int a1), (2, .int y13)] from rfl) ?_
          refine R_iconst (pc := 102) hC dX9_findPlan_102 ki_0 ?_
          refine R_istore (pc := 103) hC dX9_findPlan_103 hL rfl (show _ = [(4, .int 0), (3, .int 0), (0, .ref 43), (1, .int a1), (2, .int y13)] from rfl) ?_
          refine R_pick [2, 3, 4, 1, 0] (ls' := [(0, .ref 43), (1, .int a1), (2, .int y13), (3, .int 0), (4, .int 0)]) rfl ?_
          obtain ⟨e21, he21, hg⟩ := bind_some hg
          refine iter_walk (P := fun s : (Int32 × Int32) => RX K 105 [(0, .ref 43), (1, .int a1), (2, .int y13), (3, .int s.1), (4, .int s.2)] [] m14) (Qe := fun s : (Int32 × Int32) => RX K 142 [(0, .ref 43), (1, .int a1), (2, .int y13), (3, .int s.1), (4, .int s.2)] [] m14) (fun s22 o hg kL105 kE105 => ?_) _ _ _ he21 ?_
          · obtain ⟨y16, y17⟩ := s22
            rw [bX9_findPlan_105] at hg
            show RX K 105 [(0, .ref 43), (1, .int a1), (2, .int y13), (3, .int y16), (4, .int y17)] [] m14
            refine R_iload (pc := 105) hC 4 dX9_findPlan_105 rfl ?_
            refine R_aload_n (pc := 107) hC 0 dX9_findPlan_107 rfl rfl ?_
            refine gf_X9_250 (pc := 108) hC hn64 dX9_findPlan_108 ?_
            refine R_icmp_ge (tgt := 142) (pc := 111) hC dX9_findPlan_111 (by decide) (fun c => ?_) (fun c => ?_)
            · replace hg := (if_pos c).symm.trans hg
              refine R_pick [0, 1, 2, 3, 4] (ls' := [(0, .ref 43), (1, .int a1), (2, .int y13), (3, .int y16), (4, .int y17)]) rfl ?_
              have h9 := kE105 _ (Option.some.inj hg).symm
              exact h9
            · replace hg := (if_neg c).symm.trans hg
              refine R_iload_n (pc := 114) hC 3 dX9_findPlan_114 rfl rfl ?_
              refine R_aload_n (pc := 115) hC 0 dX9_findPlan_115 rfl rfl ?_
              refine gf_X9_69 (pc := 116) hC hn64 dX9_findPlan_116 ?_
              refine R_iload (pc := 119) hC 4 dX9_findPlan_119 rfl ?_
              obtain ⟨c18, hg⟩ := chk_some hg
              refine R_iaload (pc := 121) hC 62 (jx hn64 rfl) ly62 (inb_vp c18) dX9_findPlan_121 ?_
              refine R_iload_n (pc := 122) hC 2 dX9_findPlan_122 rfl rfl ?_
              refine R_iconst (pc := 123) hC dX9_findPlan_123 ki_m1 ?_
              refine R_ixor (pc := 124) hC dX9_findPlan_124 ?_
              refine R_iand (pc := 125) hC dX9_findPlan_125 ?_
              refine R_if_ne (tgt := 133) (pc := 126) hC dX9_findPlan_126 (by decide) (fun c => ?_) (fun c => ?_)
              · replace hg := (if_neg c).symm.trans hg
                refine R_iconst (pc := 133) hC dX9_findPlan_133 ki_0 ?_
                refine R_iadd (pc := 134) hC dX9_findPlan_134 ?_
                obtain ⟨x19, hx19, hg⟩ := lete_some hg
                refine R_top hx19 ?_
                refine R_istore_n (pc := 135) hC dX9_findPlan_135 rfl hL rfl (show _ = [(3, .int x19), (0, .ref 43), (1, .int a1), (2, .int y13), (4, .int y17)] from rfl) ?_
                refine R_iinc (pc := 136) hC 4 dX9_findPlan_136 rfl (iv ki_1) hL rfl (show _ = [(4, .int (y17 + 1)), (3, .int x19), (0, .ref 43), (1, .int a1), (2, .int y13)] from rfl) ?_
                refine R_goto (tgt := 105) (pc := 139) hC dX9_findPlan_139 (by decide) ?_
                refine R_pick [2, 3, 4, 1, 0] (ls' := [(0, .ref 43), (1, .int a1), (2, .int y13), (3, .int x19), (4, .int (y17 + 1))]) rfl ?_
                have h9 := kL105 _ (Option.some.inj hg).symm
                exact h9
              · replace hg := (if_pos c).symm.trans hg
                refine R_iconst (pc := 129) hC dX9_findPlan_129 ki_1 ?_
                refine R_goto (tgt := 134) (pc := 130) hC dX9_findPlan_130 (by decide) ?_
                refine R_iadd (pc := 134) hC dX9_findPlan_134 ?_
                obtain ⟨x20, hx20, hg⟩ := lete_some hg
                refine R_top hx20 ?_
                refine R_istore_n (pc := 135) hC dX9_findPlan_135 rfl hL rfl (show _ = [(3, .int x20), (0, .ref 43), (1, .int a1), (2, .int y13), (4, .int y17)] from rfl) ?_
                refine R_iinc (pc := 136) hC 4 dX9_findPlan_136 rfl (iv ki_1) hL rfl (show _ = [(4, .int (y17 + 1)), (3, .int x20), (0, .ref 43), (1, .int a1), (2, .int y13)] from rfl) ?_
                refine R_goto (tgt := 105) (pc := 139) hC dX9_findPlan_139 (by decide) ?_
                refine R_pick [2, 3, 4, 1, 0] (ls' := [(0, .ref 43), (1, .int a1), (2, .int y13), (3, .int x20), (4, .int (y17 + 1))]) rfl ?_
                have h9 := kL105 _ (Option.some.inj hg).symm
                exact h9
          · show RX K 142 [(0, .ref 43), (1, .int a1), (2, .int y13), (3, .int e21.1), (4, .int e21.2)] [] m14
            refine R_iload_n (pc := 142) hC 3 dX9_findPlan_142 rfl rfl ?_
            refine R_aload_n (pc := 143) hC 0 dX9_findPlan_143 rfl rfl ?_
            refine gf_X9_256 (pc := 144) hC hn64 dX9_findPlan_144 ?_
            refine R_icmp_gt (tgt := 153) (pc := 147) hC dX9_findPlan_147 (by decide) (fun c => ?_) (fun c => ?_)
            · replace hg := (if_pos c).symm.trans hg
              refine R_aload_n (pc := 153) hC 0 dX9_findPlan_153 rfl rfl ?_
              refine R_iload_n (pc := 154) hC 3 dX9_findPlan_154 rfl rfl ?_
              obtain ⟨m23, hm23, hg⟩ := lete_some hg
              refine pf_X9_256 (pc := 155) hC hn64 dX9_findPlan_155 ?_
              refine R_mem hm23 ?_
              refine R_aload_n (pc := 158) hC 0 dX9_findPlan_158 rfl rfl ?_
              refine R_iload_n (pc := 159) hC 2 dX9_findPlan_159 rfl rfl ?_
              obtain ⟨m24, hm24, hg⟩ := lete_some hg
              refine pf_X9_259 (pc := 160) hC hn64 dX9_findPlan_160 ?_
              refine R_mem hm24 ?_
              refine R_iinc (pc := 163) hC 2 dX9_findPlan_163 rfl (iv ki_1) hL rfl (show _ = [(2, .int (y13 + 1)), (0, .ref 43), (1, .int a1), (3, .int e21.1), (4, .int e21.2)] from rfl) ?_
              refine R_goto (tgt := 79) (pc := 166) hC dX9_findPlan_166 (by decide) ?_
              refine R_pick [1, 2, 0] (ls' := [(0, .ref 43), (1, .int a1), (2, .int (y13 + 1))]) rfl ?_
              have h9 := kL79 _ (Option.some.inj hg).symm
              exact h9
            · replace hg := (if_neg c).symm.trans hg
              refine R_goto (tgt := 163) (pc := 150) hC dX9_findPlan_150 (by decide) ?_
              refine R_iinc (pc := 163) hC 2 dX9_findPlan_163 rfl (iv ki_1) hL rfl (show _ = [(2, .int (y13 + 1)), (0, .ref 43), (1, .int a1), (3, .int e21.1), (4, .int e21.2)] from rfl) ?_
              refine R_goto (tgt := 79) (pc := 166) hC dX9_findPlan_166 (by decide) ?_
              refine R_pick [1, 2, 0] (ls' := [(0, .ref 43), (1, .int a1), (2, .int (y13 + 1))]) rfl ?_
              have h9 := kL79 _ (Option.some.inj hg).symm
              exact h9
        · replace hg := (if_neg c).symm.trans hg
          refine R_goto (tgt := 163) (pc := 97) hC dX9_findPlan_97 (by decide) ?_
          refine R_iinc (pc := 163) hC 2 dX9_findPlan_163 rfl (iv ki_1) hL rfl (show _ = [(2, .int (y13 + 1)), (0, .ref 43), (1, .int a1)] from rfl) ?_
          refine R_goto (tgt := 79) (pc := 166) hC dX9_findPlan_166 (by decide) ?_
          refine R_pick [1, 2, 0] (ls' := [(0, .ref 43), (1, .int a1), (2, .int (y13 + 1))]) rfl ?_
          have h9 := kL79 _ (Option.some.inj hg).symm
          exact h9
    · show RX K 169 [(0, .ref 43), (1, .int a1), (2, .int e25.1)] [] e25.2
      have h9 := gxV hg
      exact R_return (pc := 169) hC dX9_findPlan_169 h9
