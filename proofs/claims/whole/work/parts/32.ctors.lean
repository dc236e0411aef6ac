theorem len0 {qs : List Nat} (h : qs.length = 0) : qs = [] := List.length_eq_zero_iff.mp h
theorem len1 {qs : List Nat} (h : qs.length = 1) : ∃ x0, qs = [x0] := by
  match qs, h with
  | [x0], _ => exact ⟨_, rfl⟩
theorem len3 {qs : List Nat} (h : qs.length = 3) : ∃ x0 x1 x2, qs = [x0, x1, x2] := by
  match qs, h with
  | [x0, x1, x2], _ => exact ⟨_, _, _, rfl⟩
theorem len4 {qs : List Nat} (h : qs.length = 4) : ∃ x0 x1 x2 x3, qs = [x0, x1, x2, x3] := by
  match qs, h with
  | [x0, x1, x2, x3], _ => exact ⟨_, _, _, _, rfl⟩
theorem len6 {qs : List Nat} (h : qs.length = 6) : ∃ x0 x1 x2 x3 x4 x5, qs = [x0, x1, x2, x3, x4, x5] := by
  match qs, h with
  | [x0, x1, x2, x3, x4, x5], _ => exact ⟨_, _, _, _, _, _, rfl⟩
theorem nf_X0 : ∀ j, j < 8 → defaultValue (tyX0 j) = vp_V [.null, .null, .null, .int 0, .null, .null, .null, .null] j := by
  intro j hj
  have h9 : j = 0 ∨ j = 1 ∨ j = 2 ∨ j = 3 ∨ j = 4 ∨ j = 5 ∨ j = 6 ∨ j = 7 := by omega
  rcases h9 with rfl | rfl | rfl | rfl | rfl | rfl | rfl | rfl <;> rfl
theorem nf_X1 : ∀ j, j < 2 → defaultValue (tyX1 j) = vp_V [.null, .null] j := by
  intro j hj
  have h9 : j = 0 ∨ j = 1 := by omega
  rcases h9 with rfl | rfl <;> rfl
theorem nf_X2 : ∀ j, j < 2 → defaultValue (tyX2 j) = vp_V [.null, .null] j := by
  intro j hj
  have h9 : j = 0 ∨ j = 1 := by omega
  rcases h9 with rfl | rfl <;> rfl
theorem nf_X3 : ∀ j, j < 2 → defaultValue (tyX3 j) = vp_V [.null, .int 0] j := by
  intro j hj
  have h9 : j = 0 ∨ j = 1 := by omega
  rcases h9 with rfl | rfl <;> rfl
theorem nf_X4 : ∀ j, j < 4 → defaultValue (tyX4 j) = vp_V [.int 0, .null, .null, .null] j := by
  intro j hj
  have h9 : j = 0 ∨ j = 1 ∨ j = 2 ∨ j = 3 := by omega
  rcases h9 with rfl | rfl | rfl | rfl <;> rfl
theorem nf_X5 : ∀ j, j < 4 → defaultValue (tyX5 j) = vp_V [.null, .null, .null, .int 0] j := by
  intro j hj
  have h9 : j = 0 ∨ j = 1 ∨ j = 2 ∨ j = 3 := by omega
  rcases h9 with rfl | rfl | rfl | rfl <;> rfl
theorem nf_X6 : ∀ j, j < 10 → defaultValue (tyX6 j) = vp_V [.int 0, .int 0, .int 0, .int 0, .null, .null, .null, .null, .null, .null] j := by
  intro j hj
  have h9 : j = 0 ∨ j = 1 ∨ j = 2 ∨ j = 3 ∨ j = 4 ∨ j = 5 ∨ j = 6 ∨ j = 7 ∨ j = 8 ∨ j = 9 := by omega
  rcases h9 with rfl | rfl | rfl | rfl | rfl | rfl | rfl | rfl | rfl | rfl <;> rfl
theorem nf_X7 : ∀ j, j < 7 → defaultValue (tyX7 j) = vp_V [.null, .null, .int 0, .null, .null, .null, .int 0] j := by
  intro j hj
  have h9 : j = 0 ∨ j = 1 ∨ j = 2 ∨ j = 3 ∨ j = 4 ∨ j = 5 ∨ j = 6 := by omega
  rcases h9 with rfl | rfl | rfl | rfl | rfl | rfl | rfl <;> rfl
theorem nf_X8 : ∀ j, j < 12 → defaultValue (tyX8 j) = vp_V [.null, .null, .null, .int 0, .null, .null, .null, .null, .null, .null, .null, .null] j := by
  intro j hj
  have h9 : j = 0 ∨ j = 1 ∨ j = 2 ∨ j = 3 ∨ j = 4 ∨ j = 5 ∨ j = 6 ∨ j = 7 ∨ j = 8 ∨ j = 9 ∨ j = 10 ∨ j = 11 := by omega
  rcases h9 with rfl | rfl | rfl | rfl | rfl | rfl | rfl | rfl | rfl | rfl | rfl | rfl <;> rfl
theorem nf_X9 : ∀ j, j < 35 → defaultValue (tyX9 j) = vp_V [.null, .null, .null, .null, .null, .null, .null, .null, .int 0, .int 0, .null, .null, .null, .null, .int 0, .int 0, .int 0, .null, .int 0, .int 0, .int 0, .null, .null, .null, .int 0, .null, .null, .null, .int 0, .int 0, .int 0, .int 0, .int 0, .null, .int 0] j := by
  intro j hj
  have h9 : j = 0 ∨ j = 1 ∨ j = 2 ∨ j = 3 ∨ j = 4 ∨ j = 5 ∨ j = 6 ∨ j = 7 ∨ j = 8 ∨ j = 9 ∨ j = 10 ∨ j = 11 ∨ j = 12 ∨ j = 13 ∨ j = 14 ∨ j = 15 ∨ j = 16 ∨ j = 17 ∨ j = 18 ∨ j = 19 ∨ j = 20 ∨ j = 21 ∨ j = 22 ∨ j = 23 ∨ j = 24 ∨ j = 25 ∨ j = 26 ∨ j = 27 ∨ j = 28 ∨ j = 29 ∨ j = 30 ∨ j = 31 ∨ j = 32 ∨ j = 33 ∨ j = 34 := by omega
  rcases h9 with rfl | rfl | rfl | rfl | rfl | rfl | rfl | rfl | rfl | rfl | rfl | rfl | rfl | rfl | rfl | rfl | rfl | rfl | rfl | rfl | rfl | rfl | rfl | rfl | rfl | rfl | rfl | rfl | rfl | rfl | rfl | rfl | rfl | rfl | rfl <;> rfl
theorem dX6_init_0 : decode cX6_init 0 = .ok (.aload_n 0, 1) := by decide +kernel
theorem dX6_init_1 : decode cX6_init 1 = .ok (.invokespecial 3, 3) := by decide +kernel
theorem dX6_init_4 : decode cX6_init 4 = .ok (.aload_n 0, 1) := by decide +kernel
theorem dX6_init_5 : decode cX6_init 5 = .ok (.iconst 3, 1) := by decide +kernel
theorem dX6_init_6 : decode cX6_init 6 = .ok (.putfield 9, 3) := by decide +kernel
theorem dX6_init_9 : decode cX6_init 9 = .ok (.aload_n 0, 1) := by decide +kernel
theorem dX6_init_10 : decode cX6_init 10 = .ok (.iconst 0, 1) := by decide +kernel
theorem dX6_init_11 : decode cX6_init 11 = .ok (.putfield 15, 3) := by decide +kernel
theorem dX6_init_14 : decode cX6_init 14 = .ok (.aload_n 0, 1) := by decide +kernel
theorem dX6_init_15 : decode cX6_init 15 = .ok (.iconst 0, 1) := by decide +kernel
theorem dX6_init_16 : decode cX6_init 16 = .ok (.putfield 18, 3) := by decide +kernel
theorem dX6_init_19 : decode cX6_init 19 = .ok (.aload_n 0, 1) := by decide +kernel
theorem dX6_init_20 : decode cX6_init 20 = .ok (.iconst 0, 1) := by decide +kernel
theorem dX6_init_21 : decode cX6_init 21 = .ok (.putfield 21, 3) := by decide +kernel
theorem dX6_init_24 : decode cX6_init 24 = .ok (.aload_n 0, 1) := by decide +kernel
theorem dX6_init_25 : decode cX6_init 25 = .ok (.bipush 10, 2) := by decide +kernel
theorem dX6_init_27 : decode cX6_init 27 = .ok (.newarray .int, 2) := by decide +kernel
theorem dX6_init_29 : decode cX6_init 29 = .ok (.putfield 24, 3) := by decide +kernel
theorem dX6_init_32 : decode cX6_init 32 = .ok (.aload_n 0, 1) := by decide +kernel
theorem dX6_init_33 : decode cX6_init 33 = .ok (.bipush 10, 2) := by decide +kernel
theorem dX6_init_35 : decode cX6_init 35 = .ok (.newarray .int, 2) := by decide +kernel
theorem dX6_init_37 : decode cX6_init 37 = .ok (.putfield 28, 3) := by decide +kernel
theorem dX6_init_40 : decode cX6_init 40 = .ok (.aload_n 0, 1) := by decide +kernel
theorem dX6_init_41 : decode cX6_init 41 = .ok (.bipush 10, 2) := by decide +kernel
theorem dX6_init_43 : decode cX6_init 43 = .ok (.newarray .int, 2) := by decide +kernel
theorem dX6_init_45 : decode cX6_init 45 = .ok (.putfield 31, 3) := by decide +kernel
theorem dX6_init_48 : decode cX6_init 48 = .ok (.aload_n 0, 1) := by decide +kernel
theorem dX6_init_49 : decode cX6_init 49 = .ok (.bipush 10, 2) := by decide +kernel
theorem dX6_init_51 : decode cX6_init 51 = .ok (.newarray .int, 2) := by decide +kernel
theorem dX6_init_53 : decode cX6_init 53 = .ok (.putfield 34, 3) := by decide +kernel
theorem dX6_init_56 : decode cX6_init 56 = .ok (.aload_n 0, 1) := by decide +kernel
theorem dX6_init_57 : decode cX6_init 57 = .ok (.bipush 10, 2) := by decide +kernel
theorem dX6_init_59 : decode cX6_init 59 = .ok (.newarray .int, 2) := by decide +kernel
theorem dX6_init_61 : decode cX6_init 61 = .ok (.putfield 37, 3) := by decide +kernel
theorem dX6_init_64 : decode cX6_init 64 = .ok (.aload_n 0, 1) := by decide +kernel
theorem dX6_init_65 : decode cX6_init 65 = .ok (.bipush 10, 2) := by decide +kernel
theorem dX6_init_67 : decode cX6_init 67 = .ok (.newarray .int, 2) := by decide +kernel
theorem dX6_init_69 : decode cX6_init 69 = .ok (.putfield 40, 3) := by decide +kernel
theorem dX6_init_72 : decode cX6_init 72 = .ok (.return_, 1) := by decide +kernel
def post_X6 (cI cJ : ClassId) (h0 : Nat) (qs : List Nat) : va_W := [(h0, .inr (6, [.int 3, .int 0, .int 0, .int 0, .ref (qs.getD 0 0), .ref (qs.getD 1 0), .ref (qs.getD 2 0), .ref (qs.getD 3 0), .ref (qs.getD 4 0), .ref (qs.getD 5 0)])), ((qs.getD 0 0), .inl (cI, 10, .inl (fun _ => 0))), ((qs.getD 1 0), .inl (cI, 10, .inl (fun _ => 0))), ((qs.getD 2 0), .inl (cI, 10, .inl (fun _ => 0))), ((qs.getD 3 0), .inl (cI, 10, .inl (fun _ => 0))), ((qs.getD 4 0), .inl (cI, 10, .inl (fun _ => 0))), ((qs.getD 5 0), .inl (cI, 10, .inl (fun _ => 0)))]
set_option maxHeartbeats 4000000 in
set_option maxRecDepth 20000 in
theorem MC_X6 : MC yX6_init cX6_init 1 { frames := 1, cells := 6, slots := 60, locals := 12 } 6 [] [.int 0, .int 0, .int 0, .int 0, .null, .null, .null, .null, .null, .null] (post_X6) 6 := by
  refine MC_of (by decide) rfl (Nat.le_of_ble_eq_true rfl) (fun K h0 hC hin hL hR hret => ?_)
  show RZ K 0 0 [(h0, .inr (6, [.int 0, .int 0, .int 0, .int 0, .null, .null, .null, .null, .null, .null]))] 0 [(0, .ref h0)] []
  refine RZ_aload_n (pc := 0) hC 0 dX6_init_0 rfl rfl ?_
  refine RZ_objInit (pc := 1) hC wo_X6_3 wo_inst wo_code hR rfl dX6_init_1 ?_
  refine RZ_aload_n (pc := 4) hC 0 dX6_init_4 rfl rfl ?_
  refine RZ_iconst (pc := 5) hC dX6_init_5 ki_3 ?_
  refine RZ_put (pc := 6) hC tyX6 tyX6_ok nmX6 inX6 rfl 0 0 rfl (by decide) wf_X6_9 rfl rfl rfl (Nat.le_of_ble_eq_true rfl) (show _ = [(h0, .inr (6, [.int 3, .int 0, .int 0, .int 0, .null, .null, .null, .null, .null, .null]))] from rfl) dX6_init_6 ?_
  refine RZ_aload_n (pc := 9) hC 0 dX6_init_9 rfl rfl ?_
  refine RZ_iconst (pc := 10) hC dX6_init_10 ki_0 ?_
  refine RZ_put (pc := 11) hC tyX6 tyX6_ok nmX6 inX6 rfl 0 1 rfl (by decide) wf_X6_15 rfl rfl rfl (Nat.le_of_ble_eq_true rfl) (show _ = [(h0, .inr (6, [.int 3, .int 0, .int 0, .int 0, .null, .null, .null, .null, .null, .null]))] from rfl) dX6_init_11 ?_
  refine RZ_aload_n (pc := 14) hC 0 dX6_init_14 rfl rfl ?_
  refine RZ_iconst (pc := 15) hC dX6_init_15 ki_0 ?_
  refine RZ_put (pc := 16) hC tyX6 tyX6_ok nmX6 inX6 rfl 0 2 rfl (by decide) wf_X6_18 rfl rfl rfl (Nat.le_of_ble_eq_true rfl) (show _ = [(h0, .inr (6, [.int 3, .int 0, .int 0, .int 0, .null, .null, .null, .null, .null, .null]))] from rfl) dX6_init_16 ?_
  refine RZ_aload_n (pc := 19) hC 0 dX6_init_19 rfl rfl ?_
  refine RZ_iconst (pc := 20) hC dX6_init_20 ki_0 ?_
  refine RZ_put (pc := 21) hC tyX6 tyX6_ok nmX6 inX6 rfl 0 3 rfl (by decide) wf_X6_21 rfl rfl rfl (Nat.le_of_ble_eq_true rfl) (show _ = [(h0, .inr (6, [.int 3, .int 0, .int 0, .int 0, .null, .null, .null, .null, .null, .null]))] from rfl) dX6_init_21 ?_
  refine RZ_aload_n (pc := 24) hC 0 dX6_init_24 rfl rfl ?_
  refine RZ_bipush (pc := 25) hC dX6_init_25 (v := 10) (by decide) ?_
  refine RZ_newI (pc := 27) hC (N := 10) wa_int (by decide) (by decide) (by decide) hR ?_ ?_ dX6_init_27 (fun q27 => ?_)
  · exact Nat.le_of_ble_eq_true rfl
  · exact Nat.le_of_ble_eq_true rfl
  show RZ K 1 10 [(h0, .inr (6, [.int 3, .int 0, .int 0, .int 0, .null, .null, .null, .null, .null, .null])), (q27, .inl (kI K, 10, .inl (fun _ => 0)))] 29 [(0, .ref h0)] [.ref q27, .ref h0]
  refine RZ_putF (pc := 29) hC hin tyX6 tyX6_ok nmX6 inX6 rfl 0 4 rfl (by decide) wf_X6_24 rfl rfl rfl rfl (Nat.le_of_ble_eq_true rfl) (show _ = [(h0, .inr (6, [.int 3, .int 0, .int 0, .int 0, .ref q27, .null, .null, .null, .null, .null])), (q27, .inl (kI K, 10, .inl (fun _ => 0)))] from rfl) dX6_init_29 ?_
  refine RZ_aload_n (pc := 32) hC 0 dX6_init_32 rfl rfl ?_
  refine RZ_bipush (pc := 33) hC dX6_init_33 (v := 10) (by decide) ?_
  refine RZ_newI (pc := 35) hC (N := 10) wa_int (by decide) (by decide) (by decide) hR ?_ ?_ dX6_init_35 (fun q35 => ?_)
  · exact Nat.le_of_ble_eq_true rfl
  · exact Nat.le_of_ble_eq_true rfl
  show RZ K 2 20 [(h0, .inr (6, [.int 3, .int 0, .int 0, .int 0, .ref q27, .null, .null, .null, .null, .null])), (q27, .inl (kI K, 10, .inl (fun _ => 0))), (q35, .inl (kI K, 10, .inl (fun _ => 0)))] 37 [(0, .ref h0)] [.ref q35, .ref h0]
  refine RZ_putF (pc := 37) hC hin tyX6 tyX6_ok nmX6 inX6 rfl 0 5 rfl (by decide) wf_X6_28 rfl rfl rfl rfl (Nat.le_of_ble_eq_true rfl) (show _ = [(h0, .inr (6, [.int 3, .int 0, .int 0, .int 0, .ref q27, .ref q35, .null, .null, .null, .null])), (q27, .inl (kI K, 10, .inl (fun _ => 0))), (q35, .inl (kI K, 10, .inl (fun _ => 0)))] from rfl) dX6_init_37 ?_
  refine RZ_aload_n (pc := 40) hC 0 dX6_init_40 rfl rfl ?_
  refine RZ_bipush (pc := 41) hC dX6_init_41 (v := 10) (by decide) ?_
  refine RZ_newI (pc := 43) hC (N := 10) wa_int (by decide) (by decide) (by decide) hR ?_ ?_ dX6_init_43 (fun q43 => ?_)
  · exact Nat.le_of_ble_eq_true rfl
  · exact Nat.le_of_ble_eq_true rfl
  show RZ K 3 30 [(h0, .inr (6, [.int 3, .int 0, .int 0, .int 0, .ref q27, .ref q35, .null, .null, .null, .null])), (q27, .inl (kI K, 10, .inl (fun _ => 0))), (q35, .inl (kI K, 10, .inl (fun _ => 0))), (q43, .inl (kI K, 10, .inl (fun _ => 0)))] 45 [(0, .ref h0)] [.ref q43, .ref h0]
  refine RZ_putF (pc := 45) hC hin tyX6 tyX6_ok nmX6 inX6 rfl 0 6 rfl (by decide) wf_X6_31 rfl rfl rfl rfl (Nat.le_of_ble_eq_true rfl) (show _ = [(h0, .inr (6, [.int 3, .int 0, .int 0, .int 0, .ref q27, .ref q35, .ref q43, .null, .null, .null])), (q27, .inl (kI K, 10, .inl (fun _ => 0))), (q35, .inl (kI K, 10, .inl (fun _ => 0))), (q43, .inl (kI K, 10, .inl (fun _ => 0)))] from rfl) dX6_init_45 ?_
  refine RZ_aload_n (pc := 48) hC 0 dX6_init_48 rfl rfl ?_
  refine RZ_bipush (pc := 49) hC dX6_init_49 (v := 10) (by decide) ?_
  refine RZ_newI (pc := 51) hC (N := 10) wa_int (by decide) (by decide) (by decide) hR ?_ ?_ dX6_init_51 (fun q51 => ?_)
  · exact Nat.le_of_ble_eq_true rfl
  · exact Nat.le_of_ble_eq_true rfl
  show RZ K 4 40 [(h0, .inr (6, [.int 3, .int 0, .int 0, .int 0, .ref q27, .ref q35, .ref q43, .null, .null, .null])), (q27, .inl (kI K, 10, .inl (fun _ => 0))), (q35, .inl (kI K, 10, .inl (fun _ => 0))), (q43, .inl (kI K, 10, .inl (fun _ => 0))), (q51, .inl (kI K, 10, .inl (fun _ => 0)))] 53 [(0, .ref h0)] [.ref q51, .ref h0]
  refine RZ_putF (pc := 53) hC hin tyX6 tyX6_ok nmX6 inX6 rfl 0 7 rfl (by decide) wf_X6_34 rfl rfl rfl rfl (Nat.le_of_ble_eq_true rfl) (show _ = [(h0, .inr (6, [.int 3, .int 0, .int 0, .int 0, .ref q27, .ref q35, .ref q43, .ref q51, .null, .null])), (q27, .inl (kI K, 10, .inl (fun _ => 0))), (q35, .inl (kI K, 10, .inl (fun _ => 0))), (q43, .inl (kI K, 10, .inl (fun _ => 0))), (q51, .inl (kI K, 10, .inl (fun _ => 0)))] from rfl) dX6_init_53 ?_
  refine RZ_aload_n (pc := 56) hC 0 dX6_init_56 rfl rfl ?_
  refine RZ_bipush (pc := 57) hC dX6_init_57 (v := 10) (by decide) ?_
  refine RZ_newI (pc := 59) hC (N := 10) wa_int (by decide) (by decide) (by decide) hR ?_ ?_ dX6_init_59 (fun q59 => ?_)
  · exact Nat.le_of_ble_eq_true rfl
  · exact Nat.le_of_ble_eq_true rfl
  show RZ K 5 50 [(h0, .inr (6, [.int 3, .int 0, .int 0, .int 0, .ref q27, .ref q35, .ref q43, .ref q51, .null, .null])), (q27, .inl (kI K, 10, .inl (fun _ => 0))), (q35, .inl (kI K, 10, .inl (fun _ => 0))), (q43, .inl (kI K, 10, .inl (fun _ => 0))), (q51, .inl (kI K, 10, .inl (fun _ => 0))), (q59, .inl (kI K, 10, .inl (fun _ => 0)))] 61 [(0, .ref h0)] [.ref q59, .ref h0]
  refine RZ_putF (pc := 61) hC hin tyX6 tyX6_ok nmX6 inX6 rfl 0 8 rfl (by decide) wf_X6_37 rfl rfl rfl rfl (Nat.le_of_ble_eq_true rfl) (show _ = [(h0, .inr (6, [.int 3, .int 0, .int 0, .int 0, .ref q27, .ref q35, .ref q43, .ref q51, .ref q59, .null])), (q27, .inl (kI K, 10, .inl (fun _ => 0))), (q35, .inl (kI K, 10, .inl (fun _ => 0))), (q43, .inl (kI K, 10, .inl (fun _ => 0))), (q51, .inl (kI K, 10, .inl (fun _ => 0))), (q59, .inl (kI K, 10, .inl (fun _ => 0)))] from rfl) dX6_init_61 ?_
  refine RZ_aload_n (pc := 64) hC 0 dX6_init_64 rfl rfl ?_
  refine RZ_bipush (pc := 65) hC dX6_init_65 (v := 10) (by decide) ?_
  refine RZ_newI (pc := 67) hC (N := 10) wa_int (by decide) (by decide) (by decide) hR ?_ ?_ dX6_init_67 (fun q67 => ?_)
  · exact Nat.le_of_ble_eq_true rfl
  · exact Nat.le_of_ble_eq_true rfl
  show RZ K 6 60 [(h0, .inr (6, [.int 3, .int 0, .int 0, .int 0, .ref q27, .ref q35, .ref q43, .ref q51, .ref q59, .null])), (q27, .inl (kI K, 10, .inl (fun _ => 0))), (q35, .inl (kI K, 10, .inl (fun _ => 0))), (q43, .inl (kI K, 10, .inl (fun _ => 0))), (q51, .inl (kI K, 10, .inl (fun _ => 0))), (q59, .inl (kI K, 10, .inl (fun _ => 0))), (q67, .inl (kI K, 10, .inl (fun _ => 0)))] 69 [(0, .ref h0)] [.ref q67, .ref h0]
  refine RZ_putF (pc := 69) hC hin tyX6 tyX6_ok nmX6 inX6 rfl 0 9 rfl (by decide) wf_X6_40 rfl rfl rfl rfl (Nat.le_of_ble_eq_true rfl) (show _ = [(h0, .inr (6, [.int 3, .int 0, .int 0, .int 0, .ref q27, .ref q35, .ref q43, .ref q51, .ref q59, .ref q67])), (q27, .inl (kI K, 10, .inl (fun _ => 0))), (q35, .inl (kI K, 10, .inl (fun _ => 0))), (q43, .inl (kI K, 10, .inl (fun _ => 0))), (q51, .inl (kI K, 10, .inl (fun _ => 0))), (q59, .inl (kI K, 10, .inl (fun _ => 0))), (q67, .inl (kI K, 10, .inl (fun _ => 0)))] from rfl) dX6_init_69 ?_
  exact RZ_ret hret [q27, q35, q43, q51, q59, q67] 72 _ rfl dX6_init_72
theorem dX3_init_0 : decode cX3_init 0 = .ok (.aload_n 0, 1) := by decide +kernel
theorem dX3_init_1 : decode cX3_init 1 = .ok (.invokespecial 3, 3) := by decide +kernel
theorem dX3_init_4 : decode cX3_init 4 = .ok (.aload_n 0, 1) := by decide +kernel
theorem dX3_init_5 : decode cX3_init 5 = .ok (.bipush 72, 2) := by decide +kernel
theorem dX3_init_7 : decode cX3_init 7 = .ok (.newarray .int, 2) := by decide +kernel
theorem dX3_init_9 : decode cX3_init 9 = .ok (.putfield 9, 3) := by decide +kernel
theorem dX3_init_12 : decode cX3_init 12 = .ok (.aload_n 0, 1) := by decide +kernel
theorem dX3_init_13 : decode cX3_init 13 = .ok (.iconst 0, 1) := by decide +kernel
theorem dX3_init_14 : decode cX3_init 14 = .ok (.putfield 15, 3) := by decide +kernel
theorem dX3_init_17 : decode cX3_init 17 = .ok (.return_, 1) := by decide +kernel
def post_X3 (cI cJ : ClassId) (h0 : Nat) (qs : List Nat) : va_W := [(h0, .inr (3, [.ref (qs.getD 0 0), .int 0])), ((qs.getD 0 0), .inl (cI, 72, .inl (fun _ => 0)))]
set_option maxHeartbeats 4000000 in
set_option maxRecDepth 20000 in
theorem MC_X3 : MC yX3_init cX3_init 1 { frames := 1, cells := 1, slots := 72, locals := 12 } 3 [] [.null, .int 0] (post_X3) 1 := by
  refine MC_of (by decide) rfl (Nat.le_of_ble_eq_true rfl) (fun K h0 hC hin hL hR hret => ?_)
  show RZ K 0 0 [(h0, .inr (3, [.null, .int 0]))] 0 [(0, .ref h0)] []
  refine RZ_aload_n (pc := 0) hC 0 dX3_init_0 rfl rfl ?_
  refine RZ_objInit (pc := 1) hC wo_X3_3 wo_inst wo_code hR rfl dX3_init_1 ?_
  refine RZ_aload_n (pc := 4) hC 0 dX3_init_4 rfl rfl ?_
  refine RZ_bipush (pc := 5) hC dX3_init_5 (v := 72) (by decide) ?_
  refine RZ_newI (pc := 7) hC (N := 72) wa_int (by decide) (by decide) (by decide) hR ?_ ?_ dX3_init_7 (fun q7 => ?_)
  · exact Nat.le_of_ble_eq_true rfl
  · exact Nat.le_of_ble_eq_true rfl
  show RZ K 1 72 [(h0, .inr (3, [.null, .int 0])), (q7, .inl (kI K, 72, .inl (fun _ => 0)))] 9 [(0, .ref h0)] [.ref q7, .ref h0]
  refine RZ_putF (pc := 9) hC hin tyX3 tyX3_ok nmX3 inX3 rfl 0 0 rfl (by decide) wf_X3_9 rfl rfl rfl rfl (Nat.le_of_ble_eq_true rfl) (show _ = [(h0, .inr (3, [.ref q7, .int 0])), (q7, .inl (kI K, 72, .inl (fun _ => 0)))] from rfl) dX3_init_9 ?_
  refine RZ_aload_n (pc := 12) hC 0 dX3_init_12 rfl rfl ?_
  refine RZ_iconst (pc := 13) hC dX3_init_13 ki_0 ?_
  refine RZ_put (pc := 14) hC tyX3 tyX3_ok nmX3 inX3 rfl 0 1 rfl (by decide) wf_X3_15 rfl rfl rfl (Nat.le_of_ble_eq_true rfl) (show _ = [(h0, .inr (3, [.ref q7, .int 0])), (q7, .inl (kI K, 72, .inl (fun _ => 0)))] from rfl) dX3_init_14 ?_
  exact RZ_ret hret [q7] 17 _ rfl dX3_init_17
theorem dX2_init_0 : decode cX2_init 0 = .ok (.aload_n 0, 1) := by decide +kernel
theorem dX2_init_1 : decode cX2_init 1 = .ok (.invokespecial 5, 3) := by decide +kernel
theorem dX2_init_4 : decode cX2_init 4 = .ok (.aload_n 0, 1) := by decide +kernel
theorem dX2_init_5 : decode cX2_init 5 = .ok (.aload_n 1, 1) := by decide +kernel
theorem dX2_init_6 : decode cX2_init 6 = .ok (.putfield 11, 3) := by decide +kernel
theorem dX2_init_9 : decode cX2_init 9 = .ok (.aload_n 0, 1) := by decide +kernel
theorem dX2_init_10 : decode cX2_init 10 = .ok (.sipush 1024, 3) := by decide +kernel
theorem dX2_init_13 : decode cX2_init 13 = .ok (.newarray .int, 2) := by decide +kernel
theorem dX2_init_15 : decode cX2_init 15 = .ok (.putfield 15, 3) := by decide +kernel
theorem dX2_init_18 : decode cX2_init 18 = .ok (.return_, 1) := by decide +kernel
def post_X2 (a1 : Nat) (cI cJ : ClassId) (h0 : Nat) (qs : List Nat) : va_W := [(h0, .inr (2, [.ref a1, .ref (qs.getD 0 0)])), ((qs.getD 0 0), .inl (cI, 1024, .inl (fun _ => 0)))]
set_option maxHeartbeats 4000000 in
set_option maxRecDepth 20000 in
theorem MC_X2 {a1 : Nat} : MC yX2_init cX2_init 2 { frames := 1, cells := 1, slots := 1024, locals := 12 } 2 [.ref a1] [.null, .null] (post_X2 a1) 1 := by
  refine MC_of (by decide) rfl (Nat.le_of_ble_eq_true rfl) (fun K h0 hC hin hL hR hret => ?_)
  show RZ K 0 0 [(h0, .inr (2, [.null, .null]))] 0 [(0, .ref h0), (1, .ref a1)] []
  refine RZ_aload_n (pc := 0) hC 0 dX2_init_0 rfl rfl ?_
  refine RZ_objInit (pc := 1) hC wo_X2_5 wo_inst wo_code hR rfl dX2_init_1 ?_
  refine RZ_aload_n (pc := 4) hC 0 dX2_init_4 rfl rfl ?_
  refine RZ_aload_n (pc := 5) hC 1 dX2_init_5 rfl rfl ?_
  refine RZ_putF (pc := 6) hC hin tyX2 tyX2_ok nmX2 inX2 rfl 0 0 rfl (by decide) wf_X2_11 rfl rfl rfl rfl (Nat.le_of_ble_eq_true rfl) (show _ = [(h0, .inr (2, [.ref a1, .null]))] from rfl) dX2_init_6 ?_
  refine RZ_aload_n (pc := 9) hC 0 dX2_init_9 rfl rfl ?_
  refine RZ_sipush (pc := 10) hC dX2_init_10 (v := 1024) (by decide) ?_
  refine RZ_newI (pc := 13) hC (N := 1024) wa_int (by decide) (by decide) (by decide) hR ?_ ?_ dX2_init_13 (fun q13 => ?_)
  · exact Nat.le_of_ble_eq_true rfl
  · exact Nat.le_of_ble_eq_true rfl
  show RZ K 1 1024 [(h0, .inr (2, [.ref a1, .null])), (q13, .inl (kI K, 1024, .inl (fun _ => 0)))] 15 [(0, .ref h0), (1, .ref a1)] [.ref q13, .ref h0]
  refine RZ_putF (pc := 15) hC hin tyX2 tyX2_ok nmX2 inX2 rfl 0 1 rfl (by decide) wf_X2_15 rfl rfl rfl rfl (Nat.le_of_ble_eq_true rfl) (show _ = [(h0, .inr (2, [.ref a1, .ref q13])), (q13, .inl (kI K, 1024, .inl (fun _ => 0)))] from rfl) dX2_init_15 ?_
  exact RZ_ret hret [q13] 18 _ rfl dX2_init_18
theorem dX7_init_0 : decode cX7_init 0 = .ok (.aload_n 0, 1) := by decide +kernel
theorem dX7_init_1 : decode cX7_init 1 = .ok (.invokespecial 3, 3) := by decide +kernel
theorem dX7_init_4 : decode cX7_init 4 = .ok (.aload_n 0, 1) := by decide +kernel
theorem dX7_init_5 : decode cX7_init 5 = .ok (.aload_n 1, 1) := by decide +kernel
theorem dX7_init_6 : decode cX7_init 6 = .ok (.putfield 9, 3) := by decide +kernel
theorem dX7_init_9 : decode cX7_init 9 = .ok (.aload_n 0, 1) := by decide +kernel
theorem dX7_init_10 : decode cX7_init 10 = .ok (.aload_n 2, 1) := by decide +kernel
theorem dX7_init_11 : decode cX7_init 11 = .ok (.putfield 15, 3) := by decide +kernel
theorem dX7_init_14 : decode cX7_init 14 = .ok (.aload_n 0, 1) := by decide +kernel
theorem dX7_init_15 : decode cX7_init 15 = .ok (.iconst 0, 1) := by decide +kernel
theorem dX7_init_16 : decode cX7_init 16 = .ok (.putfield 19, 3) := by decide +kernel
theorem dX7_init_19 : decode cX7_init 19 = .ok (.aload_n 0, 1) := by decide +kernel
theorem dX7_init_20 : decode cX7_init 20 = .ok (.sipush 252, 3) := by decide +kernel
theorem dX7_init_23 : decode cX7_init 23 = .ok (.newarray .int, 2) := by decide +kernel
theorem dX7_init_25 : decode cX7_init 25 = .ok (.putfield 23, 3) := by decide +kernel
theorem dX7_init_28 : decode cX7_init 28 = .ok (.aload_n 0, 1) := by decide +kernel
theorem dX7_init_29 : decode cX7_init 29 = .ok (.sipush 252, 3) := by decide +kernel
theorem dX7_init_32 : decode cX7_init 32 = .ok (.newarray .int, 2) := by decide +kernel
theorem dX7_init_34 : decode cX7_init 34 = .ok (.putfield 27, 3) := by decide +kernel
theorem dX7_init_37 : decode cX7_init 37 = .ok (.aload_n 0, 1) := by decide +kernel
theorem dX7_init_38 : decode cX7_init 38 = .ok (.sipush 252, 3) := by decide +kernel
theorem dX7_init_41 : decode cX7_init 41 = .ok (.newarray .int, 2) := by decide +kernel
theorem dX7_init_43 : decode cX7_init 43 = .ok (.putfield 30, 3) := by decide +kernel
theorem dX7_init_46 : decode cX7_init 46 = .ok (.aload_n 0, 1) := by decide +kernel
theorem dX7_init_47 : decode cX7_init 47 = .ok (.iconst 0, 1) := by decide +kernel
theorem dX7_init_48 : decode cX7_init 48 = .ok (.putfield 33, 3) := by decide +kernel
theorem dX7_init_51 : decode cX7_init 51 = .ok (.return_, 1) := by decide +kernel
def post_X7 (a1 : Nat) (a2 : Nat) (cI cJ : ClassId) (h0 : Nat) (qs : List Nat) : va_W := [(h0, .inr (7, [.ref a1, .ref a2, .int 0, .ref (qs.getD 0 0), .ref (qs.getD 1 0), .ref (qs.getD 2 0), .int 0])), ((qs.getD 0 0), .inl (cI, 252, .inl (fun _ => 0))), ((qs.getD 1 0), .inl (cI, 252, .inl (fun _ => 0))), ((qs.getD 2 0), .inl (cI, 252, .inl (fun _ => 0)))]
set_option maxHeartbeats 4000000 in
set_option maxRecDepth 20000 in
theorem MC_X7 {a1 : Nat} {a2 : Nat} : MC yX7_init cX7_init 3 { frames := 1, cells := 3, slots := 756, locals := 12 } 7 [.ref a1, .ref a2] [.null, .null, .int 0, .null, .null, .null, .int 0] (post_X7 a1 a2) 3 := by
  refine MC_of (by decide) rfl (Nat.le_of_ble_eq_true rfl) (fun K h0 hC hin hL hR hret => ?_)
  show RZ K 0 0 [(h0, .inr (7, [.null, .null, .int 0, .null, .null, .null, .int 0]))] 0 [(0, .ref h0), (1, .ref a1), (2, .ref a2)] []
  refine RZ_aload_n (pc := 0) hC 0 dX7_init_0 rfl rfl ?_
  refine RZ_objInit (pc := 1) hC wo_X7_3 wo_inst wo_code hR rfl dX7_init_1 ?_
  refine RZ_aload_n (pc := 4) hC 0 dX7_init_4 rfl rfl ?_
  refine RZ_aload_n (pc := 5) hC 1 dX7_init_5 rfl rfl ?_
  refine RZ_putF (pc := 6) hC hin tyX7 tyX7_ok nmX7 inX7 rfl 0 0 rfl (by decide) wf_X7_9 rfl rfl rfl rfl (Nat.le_of_ble_eq_true rfl) (show _ = [(h0, .inr (7, [.ref a1, .null, .int 0, .null, .null, .null, .int 0]))] from rfl) dX7_init_6 ?_
  refine RZ_aload_n (pc := 9) hC 0 dX7_init_9 rfl rfl ?_
  refine RZ_aload_n (pc := 10) hC 2 dX7_init_10 rfl rfl ?_
  refine RZ_putF (pc := 11) hC hin tyX7 tyX7_ok nmX7 inX7 rfl 0 1 rfl (by decide) wf_X7_15 rfl rfl rfl rfl (Nat.le_of_ble_eq_true rfl) (show _ = [(h0, .inr (7, [.ref a1, .ref a2, .int 0, .null, .null, .null, .int 0]))] from rfl) dX7_init_11 ?_
  refine RZ_aload_n (pc := 14) hC 0 dX7_init_14 rfl rfl ?_
  refine RZ_iconst (pc := 15) hC dX7_init_15 ki_0 ?_
  refine RZ_put (pc := 16) hC tyX7 tyX7_ok nmX7 inX7 rfl 0 2 rfl (by decide) wf_X7_19 rfl rfl rfl (Nat.le_of_ble_eq_true rfl) (show _ = [(h0, .inr (7, [.ref a1, .ref a2, .int 0, .null, .null, .null, .int 0]))] from rfl) dX7_init_16 ?_
  refine RZ_aload_n (pc := 19) hC 0 dX7_init_19 rfl rfl ?_
  refine RZ_sipush (pc := 20) hC dX7_init_20 (v := 252) (by decide) ?_
  refine RZ_newI (pc := 23) hC (N := 252) wa_int (by decide) (by decide) (by decide) hR ?_ ?_ dX7_init_23 (fun q23 => ?_)
  · exact Nat.le_of_ble_eq_true rfl
  · exact Nat.le_of_ble_eq_true rfl
  show RZ K 1 252 [(h0, .inr (7, [.ref a1, .ref a2, .int 0, .null, .null, .null, .int 0])), (q23, .inl (kI K, 252, .inl (fun _ => 0)))] 25 [(0, .ref h0), (1, .ref a1), (2, .ref a2)] [.ref q23, .ref h0]
  refine RZ_putF (pc := 25) hC hin tyX7 tyX7_ok nmX7 inX7 rfl 0 3 rfl (by decide) wf_X7_23 rfl rfl rfl rfl (Nat.le_of_ble_eq_true rfl) (show _ = [(h0, .inr (7, [.ref a1, .ref a2, .int 0, .ref q23, .null, .null, .int 0])), (q23, .inl (kI K, 252, .inl (fun _ => 0)))] from rfl) dX7_init_25 ?_
  refine RZ_aload_n (pc := 28) hC 0 dX7_init_28 rfl rfl ?_
  refine RZ_sipush (pc := 29) hC dX7_init_29 (v := 252) (by decide) ?_
  refine RZ_newI (pc := 32) hC (N := 252) wa_int (by decide) (by decide) (by decide) hR ?_ ?_ dX7_init_32 (fun q32 => ?_)
  · exact Nat.le_of_ble_eq_true rfl
  · exact Nat.le_of_ble_eq_true rfl
  show RZ K 2 504 [(h0, .inr (7, [.ref a1, .ref a2, .int 0, .ref q23, .null, .null, .int 0])), (q23, .inl (kI K, 252, .inl (fun _ => 0))), (q32, .inl (kI K, 252, .inl (fun _ => 0)))] 34 [(0, .ref h0), (1, .ref a1), (2, .ref a2)] [.ref q32, .ref h0]
  refine RZ_putF (pc := 34) hC hin tyX7 tyX7_ok nmX7 inX7 rfl 0 4 rfl (by decide) wf_X7_27 rfl rfl rfl rfl (Nat.le_of_ble_eq_true rfl) (show _ = [(h0, .inr (7, [.ref a1, .ref a2, .int 0, .ref q23, .ref q32, .null, .int 0])), (q23, .inl (kI K, 252, .inl (fun _ => 0))), (q32, .inl (kI K, 252, .inl (fun _ => 0)))] from rfl) dX7_init_34 ?_
  refine RZ_aload_n (pc := 37) hC 0 dX7_init_37 rfl rfl ?_
  refine RZ_sipush (pc := 38) hC dX7_init_38 (v := 252) (by decide) ?_
  refine RZ_newI (pc := 41) hC (N := 252) wa_int (by decide) (by decide) (by decide) hR ?_ ?_ dX7_init_41 (fun q41 => ?_)
  · exact Nat.le_of_ble_eq_true rfl
  · exact Nat.le_of_ble_eq_true rfl
  show RZ K 3 756 [(h0, .inr (7, [.ref a1, .ref a2, .int 0, .ref q23, .ref q32, .null, .int 0])), (q23, .inl (kI K, 252, .inl (fun _ => 0))), (q32, .inl (kI K, 252, .inl (fun _ => 0))), (q41, .inl (kI K, 252, .inl (fun _ => 0)))] 43 [(0, .ref h0), (1, .ref a1), (2, .ref a2)] [.ref q41, .ref h0]
  refine RZ_putF (pc := 43) hC hin tyX7 tyX7_ok nmX7 inX7 rfl 0 5 rfl (by decide) wf_X7_30 rfl rfl rfl rfl (Nat.le_of_ble_eq_true rfl) (show _ = [(h0, .inr (7, [.ref a1, .ref a2, .int 0, .ref q23, .ref q32, .ref q41, .int 0])), (q23, .inl (kI K, 252, .inl (fun _ => 0))), (q32, .inl (kI K, 252, .inl (fun _ => 0))), (q41, .inl (kI K, 252, .inl (fun _ => 0)))] from rfl) dX7_init_43 ?_
  refine RZ_aload_n (pc := 46) hC 0 dX7_init_46 rfl rfl ?_
  refine RZ_iconst (pc := 47) hC dX7_init_47 ki_0 ?_
  refine RZ_put (pc := 48) hC tyX7 tyX7_ok nmX7 inX7 rfl 0 6 rfl (by decide) wf_X7_33 rfl rfl rfl (Nat.le_of_ble_eq_true rfl) (show _ = [(h0, .inr (7, [.ref a1, .ref a2, .int 0, .ref q23, .ref q32, .ref q41, .int 0])), (q23, .inl (kI K, 252, .inl (fun _ => 0))), (q32, .inl (kI K, 252, .inl (fun _ => 0))), (q41, .inl (kI K, 252, .inl (fun _ => 0)))] from rfl) dX7_init_48 ?_
  exact RZ_ret hret [q23, q32, q41] 51 _ rfl dX7_init_51
theorem dX1_init_0 : decode cX1_init 0 = .ok (.aload_n 0, 1) := by decide +kernel
theorem dX1_init_1 : decode cX1_init 1 = .ok (.invokespecial 3, 3) := by decide +kernel
theorem dX1_init_4 : decode cX1_init 4 = .ok (.aload_n 0, 1) := by decide +kernel
theorem dX1_init_5 : decode cX1_init 5 = .ok (.aload_n 1, 1) := by decide +kernel
theorem dX1_init_6 : decode cX1_init 6 = .ok (.putfield 9, 3) := by decide +kernel
theorem dX1_init_9 : decode cX1_init 9 = .ok (.aload_n 0, 1) := by decide +kernel
theorem dX1_init_10 : decode cX1_init 10 = .ok (.aload_n 2, 1) := by decide +kernel
theorem dX1_init_11 : decode cX1_init 11 = .ok (.putfield 15, 3) := by decide +kernel
theorem dX1_init_14 : decode cX1_init 14 = .ok (.return_, 1) := by decide +kernel
def post_X1 (a1 : Nat) (a2 : Nat) (cI cJ : ClassId) (h0 : Nat) (qs : List Nat) : va_W := [(h0, .inr (1, [.ref a1, .ref a2]))]
set_option maxHeartbeats 4000000 in
set_option maxRecDepth 20000 in
theorem MC_X1 {a1 : Nat} {a2 : Nat} : MC yX1_init cX1_init 3 { frames := 1, cells := 0, slots := 0, locals := 12 } 1 [.ref a1, .ref a2] [.null, .null] (post_X1 a1 a2) 0 := by
  refine MC_of (by decide) rfl (Nat.le_of_ble_eq_true rfl) (fun K h0 hC hin hL hR hret => ?_)
  show RZ K 0 0 [(h0, .inr (1, [.null, .null]))] 0 [(0, .ref h0), (1, .ref a1), (2, .ref a2)] []
  refine RZ_aload_n (pc := 0) hC 0 dX1_init_0 rfl rfl ?_
  refine RZ_objInit (pc := 1) hC wo_X1_3 wo_inst wo_code hR rfl dX1_init_1 ?_
  refine RZ_aload_n (pc := 4) hC 0 dX1_init_4 rfl rfl ?_
  refine RZ_aload_n (pc := 5) hC 1 dX1_init_5 rfl rfl ?_
  refine RZ_putF (pc := 6) hC hin tyX1 tyX1_ok nmX1 inX1 rfl 0 0 rfl (by decide) wf_X1_9 rfl rfl rfl rfl (Nat.le_of_ble_eq_true rfl) (show _ = [(h0, .inr (1, [.ref a1, .null]))] from rfl) dX1_init_6 ?_
  refine RZ_aload_n (pc := 9) hC 0 dX1_init_9 rfl rfl ?_
  refine RZ_aload_n (pc := 10) hC 2 dX1_init_10 rfl rfl ?_
  refine RZ_putF (pc := 11) hC hin tyX1 tyX1_ok nmX1 inX1 rfl 0 1 rfl (by decide) wf_X1_15 rfl rfl rfl rfl (Nat.le_of_ble_eq_true rfl) (show _ = [(h0, .inr (1, [.ref a1, .ref a2]))] from rfl) dX1_init_11 ?_
  exact RZ_ret hret [] 14 _ rfl dX1_init_14
theorem dX4_init_0 : decode cX4_init 0 = .ok (.aload_n 0, 1) := by decide +kernel
theorem dX4_init_1 : decode cX4_init 1 = .ok (.invokespecial 3, 3) := by decide +kernel
theorem dX4_init_4 : decode cX4_init 4 = .ok (.aload_n 0, 1) := by decide +kernel
theorem dX4_init_5 : decode cX4_init 5 = .ok (.iconst 0, 1) := by decide +kernel
theorem dX4_init_6 : decode cX4_init 6 = .ok (.putfield 9, 3) := by decide +kernel
theorem dX4_init_9 : decode cX4_init 9 = .ok (.aload_n 0, 1) := by decide +kernel
theorem dX4_init_10 : decode cX4_init 10 = .ok (.sipush 1024, 3) := by decide +kernel
theorem dX4_init_13 : decode cX4_init 13 = .ok (.newarray .int, 2) := by decide +kernel
theorem dX4_init_15 : decode cX4_init 15 = .ok (.putfield 15, 3) := by decide +kernel
theorem dX4_init_18 : decode cX4_init 18 = .ok (.aload_n 0, 1) := by decide +kernel
theorem dX4_init_19 : decode cX4_init 19 = .ok (.bipush 11, 2) := by decide +kernel
theorem dX4_init_21 : decode cX4_init 21 = .ok (.newarray .int, 2) := by decide +kernel
theorem dX4_init_23 : decode cX4_init 23 = .ok (.putfield 19, 3) := by decide +kernel
theorem dX4_init_26 : decode cX4_init 26 = .ok (.aload_n 0, 1) := by decide +kernel
theorem dX4_init_27 : decode cX4_init 27 = .ok (.bipush 11, 2) := by decide +kernel
theorem dX4_init_29 : decode cX4_init 29 = .ok (.newarray .int, 2) := by decide +kernel
theorem dX4_init_31 : decode cX4_init 31 = .ok (.putfield 22, 3) := by decide +kernel
theorem dX4_init_34 : decode cX4_init 34 = .ok (.return_, 1) := by decide +kernel
def post_X4 (cI cJ : ClassId) (h0 : Nat) (qs : List Nat) : va_W := [(h0, .inr (4, [.int 0, .ref (qs.getD 0 0), .ref (qs.getD 1 0), .ref (qs.getD 2 0)])), ((qs.getD 0 0), .inl (cI, 1024, .inl (fun _ => 0))), ((qs.getD 1 0), .inl (cI, 11, .inl (fun _ => 0))), ((qs.getD 2 0), .inl (cI, 11, .inl (fun _ => 0)))]
set_option maxHeartbeats 4000000 in
set_option maxRecDepth 20000 in
theorem MC_X4 : MC yX4_init cX4_init 1 { frames := 1, cells := 3, slots := 1046, locals := 12 } 4 [] [.int 0, .null, .null, .null] (post_X4) 3 := by
  refine MC_of (by decide) rfl (Nat.le_of_ble_eq_true rfl) (fun K h0 hC hin hL hR hret => ?_)
  show RZ K 0 0 [(h0, .inr (4, [.int 0, .null, .null, .null]))] 0 [(0, .ref h0)] []
  refine RZ_aload_n (pc := 0) hC 0 dX4_init_0 rfl rfl ?_
  refine RZ_objInit (pc := 1) hC wo_X4_3 wo_inst wo_code hR rfl dX4_init_1 ?_
  refine RZ_aload_n (pc := 4) hC 0 dX4_init_4 rfl rfl ?_
  refine RZ_iconst (pc := 5) hC dX4_init_5 ki_0 ?_
  refine RZ_put (pc := 6) hC tyX4 tyX4_ok nmX4 inX4 rfl 0 0 rfl (by decide) wf_X4_9 rfl rfl rfl (Nat.le_of_ble_eq_true rfl) (show _ = [(h0, .inr (4, [.int 0, .null, .null, .null]))] from rfl) dX4_init_6 ?_
  refine RZ_aload_n (pc := 9) hC 0 dX4_init_9 rfl rfl ?_
  refine RZ_sipush (pc := 10) hC dX4_init_10 (v := 1024) (by decide) ?_
  refine RZ_newI (pc := 13) hC (N := 1024) wa_int (by decide) (by decide) (by decide) hR ?_ ?_ dX4_init_13 (fun q13 => ?_)
  · exact Nat.le_of_ble_eq_true rfl
  · exact Nat.le_of_ble_eq_true rfl
  show RZ K 1 1024 [(h0, .inr (4, [.int 0, .null, .null, .null])), (q13, .inl (kI K, 1024, .inl (fun _ => 0)))] 15 [(0, .ref h0)] [.ref q13, .ref h0]
  refine RZ_putF (pc := 15) hC hin tyX4 tyX4_ok nmX4 inX4 rfl 0 1 rfl (by decide) wf_X4_15 rfl rfl rfl rfl (Nat.le_of_ble_eq_true rfl) (show _ = [(h0, .inr (4, [.int 0, .ref q13, .null, .null])), (q13, .inl (kI K, 1024, .inl (fun _ => 0)))] from rfl) dX4_init_15 ?_
  refine RZ_aload_n (pc := 18) hC 0 dX4_init_18 rfl rfl ?_
  refine RZ_bipush (pc := 19) hC dX4_init_19 (v := 11) (by decide) ?_
  refine RZ_newI (pc := 21) hC (N := 11) wa_int (by decide) (by decide) (by decide) hR ?_ ?_ dX4_init_21 (fun q21 => ?_)
  · exact Nat.le_of_ble_eq_true rfl
  · exact Nat.le_of_ble_eq_true rfl
  show RZ K 2 1035 [(h0, .inr (4, [.int 0, .ref q13, .null, .null])), (q13, .inl (kI K, 1024, .inl (fun _ => 0))), (q21, .inl (kI K, 11, .inl (fun _ => 0)))] 23 [(0, .ref h0)] [.ref q21, .ref h0]
  refine RZ_putF (pc := 23) hC hin tyX4 tyX4_ok nmX4 inX4 rfl 0 2 rfl (by decide) wf_X4_19 rfl rfl rfl rfl (Nat.le_of_ble_eq_true rfl) (show _ = [(h0, .inr (4, [.int 0, .ref q13, .ref q21, .null])), (q13, .inl (kI K, 1024, .inl (fun _ => 0))), (q21, .inl (kI K, 11, .inl (fun _ => 0)))] from rfl) dX4_init_23 ?_
  refine RZ_aload_n (pc := 26) hC 0 dX4_init_26 rfl rfl ?_
  refine RZ_bipush (pc := 27) hC dX4_init_27 (v := 11) (by decide) ?_
  refine RZ_newI (pc := 29) hC (N := 11) wa_int (by decide) (by decide) (by decide) hR ?_ ?_ dX4_init_29 (fun q29 => ?_)
  · exact Nat.le_of_ble_eq_true rfl
  · exact Nat.le_of_ble_eq_true rfl
  show RZ K 3 1046 [(h0, .inr (4, [.int 0, .ref q13, .ref q21, .null])), (q13, .inl (kI K, 1024, .inl (fun _ => 0))), (q21, .inl (kI K, 11, .inl (fun _ => 0))), (q29, .inl (kI K, 11, .inl (fun _ => 0)))] 31 [(0, .ref h0)] [.ref q29, .ref h0]
  refine RZ_putF (pc := 31) hC hin tyX4 tyX4_ok nmX4 inX4 rfl 0 3 rfl (by decide) wf_X4_22 rfl rfl rfl rfl (Nat.le_of_ble_eq_true rfl) (show _ = [(h0, .inr (4, [.int 0, .ref q13, .ref q21, .ref q29])), (q13, .inl (kI K, 1024, .inl (fun _ => 0))), (q21, .inl (kI K, 11, .inl (fun _ => 0))), (q29, .inl (kI K, 11, .inl (fun _ => 0)))] from rfl) dX4_init_31 ?_
  exact RZ_ret hret [q13, q21, q29] 34 _ rfl dX4_init_34
theorem dX5_init_0 : decode cX5_init 0 = .ok (.aload_n 0, 1) := by decide +kernel
theorem dX5_init_1 : decode cX5_init 1 = .ok (.invokespecial 3, 3) := by decide +kernel
theorem dX5_init_4 : decode cX5_init 4 = .ok (.aload_n 0, 1) := by decide +kernel
theorem dX5_init_5 : decode cX5_init 5 = .ok (.aload_n 1, 1) := by decide +kernel
theorem dX5_init_6 : decode cX5_init 6 = .ok (.putfield 9, 3) := by decide +kernel
theorem dX5_init_9 : decode cX5_init 9 = .ok (.aload_n 0, 1) := by decide +kernel
theorem dX5_init_10 : decode cX5_init 10 = .ok (.aload_n 2, 1) := by decide +kernel
theorem dX5_init_11 : decode cX5_init 11 = .ok (.putfield 15, 3) := by decide +kernel
theorem dX5_init_14 : decode cX5_init 14 = .ok (.aload_n 0, 1) := by decide +kernel
theorem dX5_init_15 : decode cX5_init 15 = .ok (.bipush 10, 2) := by decide +kernel
theorem dX5_init_17 : decode cX5_init 17 = .ok (.newarray .int, 2) := by decide +kernel
theorem dX5_init_19 : decode cX5_init 19 = .ok (.putfield 19, 3) := by decide +kernel
theorem dX5_init_22 : decode cX5_init 22 = .ok (.aload_n 0, 1) := by decide +kernel
theorem dX5_init_23 : decode cX5_init 23 = .ok (.iconst 0, 1) := by decide +kernel
theorem dX5_init_24 : decode cX5_init 24 = .ok (.putfield 23, 3) := by decide +kernel
theorem dX5_init_27 : decode cX5_init 27 = .ok (.return_, 1) := by decide +kernel
def post_X5 (a1 : Nat) (a2 : Nat) (cI cJ : ClassId) (h0 : Nat) (qs : List Nat) : va_W := [(h0, .inr (5, [.ref a1, .ref a2, .ref (qs.getD 0 0), .int 0])), ((qs.getD 0 0), .inl (cI, 10, .inl (fun _ => 0)))]
set_option maxHeartbeats 4000000 in
set_option maxRecDepth 20000 in
theorem MC_X5 {a1 : Nat} {a2 : Nat} : MC yX5_init cX5_init 3 { frames := 1, cells := 1, slots := 10, locals := 12 } 5 [.ref a1, .ref a2] [.null, .null, .null, .int 0] (post_X5 a1 a2) 1 := by
  refine MC_of (by decide) rfl (Nat.le_of_ble_eq_true rfl) (fun K h0 hC hin hL hR hret => ?_)
  show RZ K 0 0 [(h0, .inr (5, [.null, .null, .null, .int 0]))] 0 [(0, .ref h0), (1, .ref a1), (2, .ref a2)] []
  refine RZ_aload_n (pc := 0) hC 0 dX5_init_0 rfl rfl ?_
  refine RZ_objInit (pc := 1) hC wo_X5_3 wo_inst wo_code hR rfl dX5_init_1 ?_
  refine RZ_aload_n (pc := 4) hC 0 dX5_init_4 rfl rfl ?_
  refine RZ_aload_n (pc := 5) hC 1 dX5_init_5 rfl rfl ?_
  refine RZ_putF (pc := 6) hC hin tyX5 tyX5_ok nmX5 inX5 rfl 0 0 rfl (by decide) wf_X5_9 rfl rfl rfl rfl (Nat.le_of_ble_eq_true rfl) (show _ = [(h0, .inr (5, [.ref a1, .null, .null, .int 0]))] from rfl) dX5_init_6 ?_
  refine RZ_aload_n (pc := 9) hC 0 dX5_init_9 rfl rfl ?_
  refine RZ_aload_n (pc := 10) hC 2 dX5_init_10 rfl rfl ?_
  refine RZ_putF (pc := 11) hC hin tyX5 tyX5_ok nmX5 inX5 rfl 0 1 rfl (by decide) wf_X5_15 rfl rfl rfl rfl (Nat.le_of_ble_eq_true rfl) (show _ = [(h0, .inr (5, [.ref a1, .ref a2, .null, .int 0]))] from rfl) dX5_init_11 ?_
  refine RZ_aload_n (pc := 14) hC 0 dX5_init_14 rfl rfl ?_
  refine RZ_bipush (pc := 15) hC dX5_init_15 (v := 10) (by decide) ?_
  refine RZ_newI (pc := 17) hC (N := 10) wa_int (by decide) (by decide) (by decide) hR ?_ ?_ dX5_init_17 (fun q17 => ?_)
  · exact Nat.le_of_ble_eq_true rfl
  · exact Nat.le_of_ble_eq_true rfl
  show RZ K 1 10 [(h0, .inr (5, [.ref a1, .ref a2, .null, .int 0])), (q17, .inl (kI K, 10, .inl (fun _ => 0)))] 19 [(0, .ref h0), (1, .ref a1), (2, .ref a2)] [.ref q17, .ref h0]
  refine RZ_putF (pc := 19) hC hin tyX5 tyX5_ok nmX5 inX5 rfl 0 2 rfl (by decide) wf_X5_19 rfl rfl rfl rfl (Nat.le_of_ble_eq_true rfl) (show _ = [(h0, .inr (5, [.ref a1, .ref a2, .ref q17, .int 0])), (q17, .inl (kI K, 10, .inl (fun _ => 0)))] from rfl) dX5_init_19 ?_
  refine RZ_aload_n (pc := 22) hC 0 dX5_init_22 rfl rfl ?_
  refine RZ_iconst (pc := 23) hC dX5_init_23 ki_0 ?_
  refine RZ_put (pc := 24) hC tyX5 tyX5_ok nmX5 inX5 rfl 0 3 rfl (by decide) wf_X5_23 rfl rfl rfl (Nat.le_of_ble_eq_true rfl) (show _ = [(h0, .inr (5, [.ref a1, .ref a2, .ref q17, .int 0])), (q17, .inl (kI K, 10, .inl (fun _ => 0)))] from rfl) dX5_init_24 ?_
  exact RZ_ret hret [q17] 27 _ rfl dX5_init_27
theorem dX0_init_0 : decode cX0_init 0 = .ok (.aload_n 0, 1) := by decide +kernel
theorem dX0_init_1 : decode cX0_init 1 = .ok (.invokespecial 3, 3) := by decide +kernel
theorem dX0_init_4 : decode cX0_init 4 = .ok (.aload_n 0, 1) := by decide +kernel
theorem dX0_init_5 : decode cX0_init 5 = .ok (.aload_n 1, 1) := by decide +kernel
theorem dX0_init_6 : decode cX0_init 6 = .ok (.putfield 9, 3) := by decide +kernel
theorem dX0_init_9 : decode cX0_init 9 = .ok (.aload_n 0, 1) := by decide +kernel
theorem dX0_init_10 : decode cX0_init 10 = .ok (.aload_n 2, 1) := by decide +kernel
theorem dX0_init_11 : decode cX0_init 11 = .ok (.putfield 15, 3) := by decide +kernel
theorem dX0_init_14 : decode cX0_init 14 = .ok (.aload_n 0, 1) := by decide +kernel
theorem dX0_init_15 : decode cX0_init 15 = .ok (.aload_n 3, 1) := by decide +kernel
theorem dX0_init_16 : decode cX0_init 16 = .ok (.putfield 19, 3) := by decide +kernel
theorem dX0_init_19 : decode cX0_init 19 = .ok (.aload_n 0, 1) := by decide +kernel
theorem dX0_init_20 : decode cX0_init 20 = .ok (.iconst 0, 1) := by decide +kernel
theorem dX0_init_21 : decode cX0_init 21 = .ok (.putfield 23, 3) := by decide +kernel
theorem dX0_init_24 : decode cX0_init 24 = .ok (.aload_n 0, 1) := by decide +kernel
theorem dX0_init_25 : decode cX0_init 25 = .ok (.bipush 7, 2) := by decide +kernel
theorem dX0_init_27 : decode cX0_init 27 = .ok (.newarray .int, 2) := by decide +kernel
theorem dX0_init_29 : decode cX0_init 29 = .ok (.putfield 27, 3) := by decide +kernel
theorem dX0_init_32 : decode cX0_init 32 = .ok (.aload_n 0, 1) := by decide +kernel
theorem dX0_init_33 : decode cX0_init 33 = .ok (.bipush 7, 2) := by decide +kernel
theorem dX0_init_35 : decode cX0_init 35 = .ok (.newarray .int, 2) := by decide +kernel
theorem dX0_init_37 : decode cX0_init 37 = .ok (.putfield 31, 3) := by decide +kernel
theorem dX0_init_40 : decode cX0_init 40 = .ok (.aload_n 0, 1) := by decide +kernel
theorem dX0_init_41 : decode cX0_init 41 = .ok (.sipush 252, 3) := by decide +kernel
theorem dX0_init_44 : decode cX0_init 44 = .ok (.newarray .int, 2) := by decide +kernel
theorem dX0_init_46 : decode cX0_init 46 = .ok (.putfield 34, 3) := by decide +kernel
theorem dX0_init_49 : decode cX0_init 49 = .ok (.aload_n 0, 1) := by decide +kernel
theorem dX0_init_50 : decode cX0_init 50 = .ok (.sipush 252, 3) := by decide +kernel
theorem dX0_init_53 : decode cX0_init 53 = .ok (.newarray .int, 2) := by decide +kernel
theorem dX0_init_55 : decode cX0_init 55 = .ok (.putfield 37, 3) := by decide +kernel
theorem dX0_init_58 : decode cX0_init 58 = .ok (.return_, 1) := by decide +kernel
def post_X0 (a1 : Nat) (a2 : Nat) (a3 : Nat) (cI cJ : ClassId) (h0 : Nat) (qs : List Nat) : va_W := [(h0, .inr (0, [.ref a1, .ref a2, .ref a3, .int 0, .ref (qs.getD 0 0), .ref (qs.getD 1 0), .ref (qs.getD 2 0), .ref (qs.getD 3 0)])), ((qs.getD 0 0), .inl (cI, 7, .inl (fun _ => 0))), ((qs.getD 1 0), .inl (cI, 7, .inl (fun _ => 0))), ((qs.getD 2 0), .inl (cI, 252, .inl (fun _ => 0))), ((qs.getD 3 0), .inl (cI, 252, .inl (fun _ => 0)))]
set_option maxHeartbeats 4000000 in
set_option maxRecDepth 20000 in
theorem MC_X0 {a1 : Nat} {a2 : Nat} {a3 : Nat} : MC yX0_init cX0_init 4 { frames := 1, cells := 4, slots := 518, locals := 12 } 0 [.ref a1, .ref a2, .ref a3] [.null, .null, .null, .int 0, .null, .null, .null, .null] (post_X0 a1 a2 a3) 4 := by
  refine MC_of (by decide) rfl (Nat.le_of_ble_eq_true rfl) (fun K h0 hC hin hL hR hret => ?_)
  show RZ K 0 0 [(h0, .inr (0, [.null, .null, .null, .int 0, .null, .null, .null, .null]))] 0 [(0, .ref h0), (1, .ref a1), (2, .ref a2), (3, .ref a3)] []
  refine RZ_aload_n (pc := 0) hC 0 dX0_init_0 rfl rfl ?_
  refine RZ_objInit (pc := 1) hC wo_X0_3 wo_inst wo_code hR rfl dX0_init_1 ?_
  refine RZ_aload_n (pc := 4) hC 0 dX0_init_4 rfl rfl ?_
  refine RZ_aload_n (pc := 5) hC 1 dX0_init_5 rfl rfl ?_
  refine RZ_putF (pc := 6) hC hin tyX0 tyX0_ok nmX0 inX0 rfl 0 0 rfl (by decide) wf_X0_9 rfl rfl rfl rfl (Nat.le_of_ble_eq_true rfl) (show _ = [(h0, .inr (0, [.ref a1, .null, .null, .int 0, .null, .null, .null, .null]))] from rfl) dX0_init_6 ?_
  refine RZ_aload_n (pc := 9) hC 0 dX0_init_9 rfl rfl ?_
  refine RZ_aload_n (pc := 10) hC 2 dX0_init_10 rfl rfl ?_
  refine RZ_putF (pc := 11) hC hin tyX0 tyX0_ok nmX0 inX0 rfl 0 1 rfl (by decide) wf_X0_15 rfl rfl rfl rfl (Nat.le_of_ble_eq_true rfl) (show _ = [(h0, .inr (0, [.ref a1, .ref a2, .null, .int 0, .null, .null, .null, .null]))] from rfl) dX0_init_11 ?_
  refine RZ_aload_n (pc := 14) hC 0 dX0_init_14 rfl rfl ?_
  refine RZ_aload_n (pc := 15) hC 3 dX0_init_15 rfl rfl ?_
  refine RZ_putF (pc := 16) hC hin tyX0 tyX0_ok nmX0 inX0 rfl 0 2 rfl (by decide) wf_X0_19 rfl rfl rfl rfl (Nat.le_of_ble_eq_true rfl) (show _ = [(h0, .inr (0, [.ref a1, .ref a2, .ref a3, .int 0, .null, .null, .null, .null]))] from rfl) dX0_init_16 ?_
  refine RZ_aload_n (pc := 19) hC 0 dX0_init_19 rfl rfl ?_
  refine RZ_iconst (pc := 20) hC dX0_init_20 ki_0 ?_
  refine RZ_put (pc := 21) hC tyX0 tyX0_ok nmX0 inX0 rfl 0 3 rfl (by decide) wf_X0_23 rfl rfl rfl (Nat.le_of_ble_eq_true rfl) (show _ = [(h0, .inr (0, [.ref a1, .ref a2, .ref a3, .int 0, .null, .null, .null, .null]))] from rfl) dX0_init_21 ?_
  refine RZ_aload_n (pc := 24) hC 0 dX0_init_24 rfl rfl ?_
  refine RZ_bipush (pc := 25) hC dX0_init_25 (v := 7) (by decide) ?_
  refine RZ_newI (pc := 27) hC (N := 7) wa_int (by decide) (by decide) (by decide) hR ?_ ?_ dX0_init_27 (fun q27 => ?_)
  · exact Nat.le_of_ble_eq_true rfl
  · exact Nat.le_of_ble_eq_true rfl
  show RZ K 1 7 [(h0, .inr (0, [.ref a1, .ref a2, .ref a3, .int 0, .null, .null, .null, .null])), (q27, .inl (kI K, 7, .inl (fun _ => 0)))] 29 [(0, .ref h0), (1, .ref a1), (2, .ref a2), (3, .ref a3)] [.ref q27, .ref h0]
  refine RZ_putF (pc := 29) hC hin tyX0 tyX0_ok nmX0 inX0 rfl 0 4 rfl (by decide) wf_X0_27 rfl rfl rfl rfl (Nat.le_of_ble_eq_true rfl) (show _ = [(h0, .inr (0, [.ref a1, .ref a2, .ref a3, .int 0, .ref q27, .null, .null, .null])), (q27, .inl (kI K, 7, .inl (fun _ => 0)))] from rfl) dX0_init_29 ?_
  refine RZ_aload_n (pc := 32) hC 0 dX0_init_32 rfl rfl ?_
  refine RZ_bipush (pc := 33) hC dX0_init_33 (v := 7) (by decide) ?_
  refine RZ_newI (pc := 35) hC (N := 7) wa_int (by decide) (by decide) (by decide) hR ?_ ?_ dX0_init_35 (fun q35 => ?_)
  · exact Nat.le_of_ble_eq_true rfl
  · exact Nat.le_of_ble_eq_true rfl
  show RZ K 2 14 [(h0, .inr (0, [.ref a1, .ref a2, .ref a3, .int 0, .ref q27, .null, .null, .null])), (q27, .inl (kI K, 7, .inl (fun _ => 0))), (q35, .inl (kI K, 7, .inl (fun _ => 0)))] 37 [(0, .ref h0), (1, .ref a1), (2, .ref a2), (3, .ref a3)] [.ref q35, .ref h0]
  refine RZ_putF (pc := 37) hC hin tyX0 tyX0_ok nmX0 inX0 rfl 0 5 rfl (by decide) wf_X0_31 rfl rfl rfl rfl (Nat.le_of_ble_eq_true rfl) (show _ = [(h0, .inr (0, [.ref a1, .ref a2, .ref a3, .int 0, .ref q27, .ref q35, .null, .null])), (q27, .inl (kI K, 7, .inl (fun _ => 0))), (q35, .inl (kI K, 7, .inl (fun _ => 0)))] from rfl) dX0_init_37 ?_
  refine RZ_aload_n (pc := 40) hC 0 dX0_init_40 rfl rfl ?_
  refine RZ_sipush (pc := 41) hC dX0_init_41 (v := 252) (by decide) ?_
  refine RZ_newI (pc := 44) hC (N := 252) wa_int (by decide) (by decide) (by decide) hR ?_ ?_ dX0_init_44 (fun q44 => ?_)
  · exact Nat.le_of_ble_eq_true rfl
  · exact Nat.le_of_ble_eq_true rfl
  show RZ K 3 266 [(h0, .inr (0, [.ref a1, .ref a2, .ref a3, .int 0, .ref q27, .ref q35, .null, .null])), (q27, .inl (kI K, 7, .inl (fun _ => 0))), (q35, .inl (kI K, 7, .inl (fun _ => 0))), (q44, .inl (kI K, 252, .inl (fun _ => 0)))] 46 [(0, .ref h0), (1, .ref a1), (2, .ref a2), (3, .ref a3)] [.ref q44, .ref h0]
  refine RZ_putF (pc := 46) hC hin tyX0 tyX0_ok nmX0 inX0 rfl 0 6 rfl (by decide) wf_X0_34 rfl rfl rfl rfl (Nat.le_of_ble_eq_true rfl) (show _ = [(h0, .inr (0, [.ref a1, .ref a2, .ref a3, .int 0, .ref q27, .ref q35, .ref q44, .null])), (q27, .inl (kI K, 7, .inl (fun _ => 0))), (q35, .inl (kI K, 7, .inl (fun _ => 0))), (q44, .inl (kI K, 252, .inl (fun _ => 0)))] from rfl) dX0_init_46 ?_
  refine RZ_aload_n (pc := 49) hC 0 dX0_init_49 rfl rfl ?_
  refine RZ_sipush (pc := 50) hC dX0_init_50 (v := 252) (by decide) ?_
  refine RZ_newI (pc := 53) hC (N := 252) wa_int (by decide) (by decide) (by decide) hR ?_ ?_ dX0_init_53 (fun q53 => ?_)
  · exact Nat.le_of_ble_eq_true rfl
  · exact Nat.le_of_ble_eq_true rfl
  show RZ K 4 518 [(h0, .inr (0, [.ref a1, .ref a2, .ref a3, .int 0, .ref q27, .ref q35, .ref q44, .null])), (q27, .inl (kI K, 7, .inl (fun _ => 0))), (q35, .inl (kI K, 7, .inl (fun _ => 0))), (q44, .inl (kI K, 252, .inl (fun _ => 0))), (q53, .inl (kI K, 252, .inl (fun _ => 0)))] 55 [(0, .ref h0), (1, .ref a1), (2, .ref a2), (3, .ref a3)] [.ref q53, .ref h0]
  refine RZ_putF (pc := 55) hC hin tyX0 tyX0_ok nmX0 inX0 rfl 0 7 rfl (by decide) wf_X0_37 rfl rfl rfl rfl (Nat.le_of_ble_eq_true rfl) (show _ = [(h0, .inr (0, [.ref a1, .ref a2, .ref a3, .int 0, .ref q27, .ref q35, .ref q44, .ref q53])), (q27, .inl (kI K, 7, .inl (fun _ => 0))), (q35, .inl (kI K, 7, .inl (fun _ => 0))), (q44, .inl (kI K, 252, .inl (fun _ => 0))), (q53, .inl (kI K, 252, .inl (fun _ => 0)))] from rfl) dX0_init_55 ?_
  exact RZ_ret hret [q27, q35, q44, q53] 58 _ rfl dX0_init_58
theorem dX9_init_0 : decode cX9_init 0 = .ok (.aload_n 0, 1) := by decide +kernel
theorem dX9_init_1 : decode cX9_init 1 = .ok (.invokespecial 1, 3) := by decide +kernel
theorem dX9_init_4 : decode cX9_init 4 = .ok (.aload_n 0, 1) := by decide +kernel
theorem dX9_init_5 : decode cX9_init 5 = .ok (.bipush 7, 2) := by decide +kernel
theorem dX9_init_7 : decode cX9_init 7 = .ok (.newarray .int, 2) := by decide +kernel
theorem dX9_init_9 : decode cX9_init 9 = .ok (.putfield 7, 3) := by decide +kernel
theorem dX9_init_12 : decode cX9_init 12 = .ok (.aload_n 0, 1) := by decide +kernel
theorem dX9_init_13 : decode cX9_init 13 = .ok (.bipush 11, 2) := by decide +kernel
theorem dX9_init_15 : decode cX9_init 15 = .ok (.newarray .int, 2) := by decide +kernel
theorem dX9_init_17 : decode cX9_init 17 = .ok (.putfield 13, 3) := by decide +kernel
theorem dX9_init_20 : decode cX9_init 20 = .ok (.aload_n 0, 1) := by decide +kernel
theorem dX9_init_21 : decode cX9_init 21 = .ok (.bipush 11, 2) := by decide +kernel
theorem dX9_init_23 : decode cX9_init 23 = .ok (.newarray .int, 2) := by decide +kernel
theorem dX9_init_25 : decode cX9_init 25 = .ok (.putfield 16, 3) := by decide +kernel
theorem dX9_init_28 : decode cX9_init 28 = .ok (.aload_n 0, 1) := by decide +kernel
theorem dX9_init_29 : decode cX9_init 29 = .ok (.bipush 11, 2) := by decide +kernel
theorem dX9_init_31 : decode cX9_init 31 = .ok (.newarray .int, 2) := by decide +kernel
theorem dX9_init_33 : decode cX9_init 33 = .ok (.putfield 19, 3) := by decide +kernel
theorem dX9_init_36 : decode cX9_init 36 = .ok (.aload_n 0, 1) := by decide +kernel
theorem dX9_init_37 : decode cX9_init 37 = .ok (.bipush 11, 2) := by decide +kernel
theorem dX9_init_39 : decode cX9_init 39 = .ok (.newarray .int, 2) := by decide +kernel
theorem dX9_init_41 : decode cX9_init 41 = .ok (.putfield 22, 3) := by decide +kernel
theorem dX9_init_44 : decode cX9_init 44 = .ok (.aload_n 0, 1) := by decide +kernel
theorem dX9_init_45 : decode cX9_init 45 = .ok (.bipush 11, 2) := by decide +kernel
theorem dX9_init_47 : decode cX9_init 47 = .ok (.newarray .int, 2) := by decide +kernel
theorem dX9_init_49 : decode cX9_init 49 = .ok (.putfield 25, 3) := by decide +kernel
theorem dX9_init_52 : decode cX9_init 52 = .ok (.aload_n 0, 1) := by decide +kernel
theorem dX9_init_53 : decode cX9_init 53 = .ok (.bipush 11, 2) := by decide +kernel
theorem dX9_init_55 : decode cX9_init 55 = .ok (.newarray .int, 2) := by decide +kernel
theorem dX9_init_57 : decode cX9_init 57 = .ok (.putfield 28, 3) := by decide +kernel
theorem dX9_init_60 : decode cX9_init 60 = .ok (.aload_n 0, 1) := by decide +kernel
theorem dX9_init_61 : decode cX9_init 61 = .ok (.bipush 11, 2) := by decide +kernel
theorem dX9_init_63 : decode cX9_init 63 = .ok (.newarray .int, 2) := by decide +kernel
theorem dX9_init_65 : decode cX9_init 65 = .ok (.putfield 31, 3) := by decide +kernel
theorem dX9_init_68 : decode cX9_init 68 = .ok (.aload_n 0, 1) := by decide +kernel
theorem dX9_init_69 : decode cX9_init 69 = .ok (.iconst 3, 1) := by decide +kernel
theorem dX9_init_70 : decode cX9_init 70 = .ok (.putfield 34, 3) := by decide +kernel
theorem dX9_init_73 : decode cX9_init 73 = .ok (.aload_n 0, 1) := by decide +kernel
theorem dX9_init_74 : decode cX9_init 74 = .ok (.bipush 72, 2) := by decide +kernel
theorem dX9_init_76 : decode cX9_init 76 = .ok (.newarray .int, 2) := by decide +kernel
theorem dX9_init_78 : decode cX9_init 78 = .ok (.putfield 38, 3) := by decide +kernel
theorem dX9_init_81 : decode cX9_init 81 = .ok (.aload_n 0, 1) := by decide +kernel
theorem dX9_init_82 : decode cX9_init 82 = .ok (.bipush 36, 2) := by decide +kernel
theorem dX9_init_84 : decode cX9_init 84 = .ok (.newarray .int, 2) := by decide +kernel
theorem dX9_init_86 : decode cX9_init 86 = .ok (.putfield 41, 3) := by decide +kernel
theorem dX9_init_89 : decode cX9_init 89 = .ok (.aload_n 0, 1) := by decide +kernel
theorem dX9_init_90 : decode cX9_init 90 = .ok (.bipush 36, 2) := by decide +kernel
theorem dX9_init_92 : decode cX9_init 92 = .ok (.newarray .int, 2) := by decide +kernel
theorem dX9_init_94 : decode cX9_init 94 = .ok (.putfield 44, 3) := by decide +kernel
theorem dX9_init_97 : decode cX9_init 97 = .ok (.aload_n 0, 1) := by decide +kernel
theorem dX9_init_98 : decode cX9_init 98 = .ok (.sipush 216, 3) := by decide +kernel
theorem dX9_init_101 : decode cX9_init 101 = .ok (.newarray .int, 2) := by decide +kernel
theorem dX9_init_103 : decode cX9_init 103 = .ok (.putfield 47, 3) := by decide +kernel
theorem dX9_init_106 : decode cX9_init 106 = .ok (.aload_n 0, 1) := by decide +kernel
theorem dX9_init_107 : decode cX9_init 107 = .ok (.sipush 200, 3) := by decide +kernel
theorem dX9_init_110 : decode cX9_init 110 = .ok (.newarray .int, 2) := by decide +kernel
theorem dX9_init_112 : decode cX9_init 112 = .ok (.putfield 50, 3) := by decide +kernel
theorem dX9_init_115 : decode cX9_init 115 = .ok (.aload_n 0, 1) := by decide +kernel
theorem dX9_init_116 : decode cX9_init 116 = .ok (.bipush 7, 2) := by decide +kernel
theorem dX9_init_118 : decode cX9_init 118 = .ok (.newarray .int, 2) := by decide +kernel
theorem dX9_init_120 : decode cX9_init 120 = .ok (.putfield 53, 3) := by decide +kernel
theorem dX9_init_123 : decode cX9_init 123 = .ok (.aload_n 0, 1) := by decide +kernel
theorem dX9_init_124 : decode cX9_init 124 = .ok (.sipush 1024, 3) := by decide +kernel
theorem dX9_init_127 : decode cX9_init 127 = .ok (.newarray .int, 2) := by decide +kernel
theorem dX9_init_129 : decode cX9_init 129 = .ok (.putfield 56, 3) := by decide +kernel
theorem dX9_init_132 : decode cX9_init 132 = .ok (.aload_n 0, 1) := by decide +kernel
theorem dX9_init_133 : decode cX9_init 133 = .ok (.sipush 1024, 3) := by decide +kernel
theorem dX9_init_136 : decode cX9_init 136 = .ok (.newarray .long, 2) := by decide +kernel
theorem dX9_init_138 : decode cX9_init 138 = .ok (.putfield 59, 3) := by decide +kernel
theorem dX9_init_141 : decode cX9_init 141 = .ok (.aload_n 0, 1) := by decide +kernel
theorem dX9_init_142 : decode cX9_init 142 = .ok (.bipush 10, 2) := by decide +kernel
theorem dX9_init_144 : decode cX9_init 144 = .ok (.newarray .int, 2) := by decide +kernel
theorem dX9_init_146 : decode cX9_init 146 = .ok (.putfield 63, 3) := by decide +kernel
theorem dX9_init_149 : decode cX9_init 149 = .ok (.aload_n 0, 1) := by decide +kernel
theorem dX9_init_150 : decode cX9_init 150 = .ok (.bipush 10, 2) := by decide +kernel
theorem dX9_init_152 : decode cX9_init 152 = .ok (.newarray .int, 2) := by decide +kernel
theorem dX9_init_154 : decode cX9_init 154 = .ok (.putfield 66, 3) := by decide +kernel
theorem dX9_init_157 : decode cX9_init 157 = .ok (.aload_n 0, 1) := by decide +kernel
theorem dX9_init_158 : decode cX9_init 158 = .ok (.sipush 130, 3) := by decide +kernel
theorem dX9_init_161 : decode cX9_init 161 = .ok (.newarray .int, 2) := by decide +kernel
theorem dX9_init_163 : decode cX9_init 163 = .ok (.putfield 69, 3) := by decide +kernel
theorem dX9_init_166 : decode cX9_init 166 = .ok (.aload_n 0, 1) := by decide +kernel
theorem dX9_init_167 : decode cX9_init 167 = .ok (.bipush 10, 2) := by decide +kernel
theorem dX9_init_169 : decode cX9_init 169 = .ok (.newarray .int, 2) := by decide +kernel
theorem dX9_init_171 : decode cX9_init 171 = .ok (.putfield 72, 3) := by decide +kernel
theorem dX9_init_174 : decode cX9_init 174 = .ok (.return_, 1) := by decide +kernel
def post_X9 (cI cJ : ClassId) (h0 : Nat) (qs : List Nat) : va_W := [(h0, .inr (9, [.ref (qs.getD 0 0), .ref (qs.getD 1 0), .ref (qs.getD 2 0), .ref (qs.getD 3 0), .ref (qs.getD 4 0), .ref (qs.getD 5 0), .ref (qs.getD 6 0), .ref (qs.getD 7 0), .int 3, .int 0, .ref (qs.getD 8 0), .ref (qs.getD 9 0), .ref (qs.getD 10 0), .ref (qs.getD 11 0), .int 0, .int 0, .int 0, .ref (qs.getD 12 0), .int 0, .int 0, .int 0, .ref (qs.getD 13 0), .ref (qs.getD 14 0), .ref (qs.getD 15 0), .int 0, .ref (qs.getD 16 0), .ref (qs.getD 17 0), .ref (qs.getD 18 0), .int 0, .int 0, .int 0, .int 0, .int 0, .ref (qs.getD 19 0), .int 0])), ((qs.getD 0 0), .inl (cI, 7, .inl (fun _ => 0))), ((qs.getD 1 0), .inl (cI, 11, .inl (fun _ => 0))), ((qs.getD 2 0), .inl (cI, 11, .inl (fun _ => 0))), ((qs.getD 3 0), .inl (cI, 11, .inl (fun _ => 0))), ((qs.getD 4 0), .inl (cI, 11, .inl (fun _ => 0))), ((qs.getD 5 0), .inl (cI, 11, .inl (fun _ => 0))), ((qs.getD 6 0), .inl (cI, 11, .inl (fun _ => 0))), ((qs.getD 7 0), .inl (cI, 11, .inl (fun _ => 0))), ((qs.getD 8 0), .inl (cI, 72, .inl (fun _ => 0))), ((qs.getD 9 0), .inl (cI, 36, .inl (fun _ => 0))), ((qs.getD 10 0), .inl (cI, 36, .inl (fun _ => 0))), ((qs.getD 11 0), .inl (cI, 216, .inl (fun _ => 0))), ((qs.getD 12 0), .inl (cI, 200, .inl (fun _ => 0))), ((qs.getD 13 0), .inl (cI, 7, .inl (fun _ => 0))), ((qs.getD 14 0), .inl (cI, 1024, .inl (fun _ => 0))), ((qs.getD 15 0), .inl (cJ, 1024, .inr (.inl (fun _ => 0)))), ((qs.getD 16 0), .inl (cI, 10, .inl (fun _ => 0))), ((qs.getD 17 0), .inl (cI, 10, .inl (fun _ => 0))), ((qs.getD 18 0), .inl (cI, 130, .inl (fun _ => 0))), ((qs.getD 19 0), .inl (cI, 10, .inl (fun _ => 0)))]
set_option maxHeartbeats 4000000 in
set_option maxRecDepth 20000 in
theorem MC_X9 : MC yX9_init cX9_init 1 { frames := 1, cells := 20, slots := 2859, locals := 12 } 9 [] [.null, .null, .null, .null, .null, .null, .null, .null, .int 0, .int 0, .null, .null, .null, .null, .int 0, .int 0, .int 0, .null, .int 0, .int 0, .int 0, .null, .null, .null, .int 0, .null, .null, .null, .int 0, .int 0, .int 0, .int 0, .int 0, .null, .int 0] (post_X9) 20 := by
  refine MC_of (by decide) rfl (Nat.le_of_ble_eq_true rfl) (fun K h0 hC hin hL hR hret => ?_)
  show RZ K 0 0 [(h0, .inr (9, [.null, .null, .null, .null, .null, .null, .null, .null, .int 0, .int 0, .null, .null, .null, .null, .int 0, .int 0, .int 0, .null, .int 0, .int 0, .int 0, .null, .null, .null, .int 0, .null, .null, .null, .int 0, .int 0, .int 0, .int 0, .int 0, .null, .int 0]))] 0 [(0, .ref h0)] []
  refine RZ_aload_n (pc := 0) hC 0 dX9_init_0 rfl rfl ?_
  refine RZ_objInit (pc := 1) hC wo_X9_1 wo_inst wo_code hR rfl dX9_init_1 ?_
  refine RZ_aload_n (pc := 4) hC 0 dX9_init_4 rfl rfl ?_
  refine RZ_bipush (pc := 5) hC dX9_init_5 (v := 7) (by decide) ?_
  refine RZ_newI (pc := 7) hC (N := 7) wa_int (by decide) (by decide) (by decide) hR ?_ ?_ dX9_init_7 (fun q7 => ?_)
  · exact Nat.le_of_ble_eq_true rfl
  · exact Nat.le_of_ble_eq_true rfl
  show RZ K 1 7 [(h0, .inr (9, [.null, .null, .null, .null, .null, .null, .null, .null, .int 0, .int 0, .null, .null, .null, .null, .int 0, .int 0, .int 0, .null, .int 0, .int 0, .int 0, .null, .null, .null, .int 0, .null, .null, .null, .int 0, .int 0, .int 0, .int 0, .int 0, .null, .int 0])), (q7, .inl (kI K, 7, .inl (fun _ => 0)))] 9 [(0, .ref h0)] [.ref q7, .ref h0]
  refine RZ_putF (pc := 9) hC hin tyX9 tyX9_ok nmX9 inX9 rfl 0 0 rfl (by decide) wf_X9_7 rfl rfl rfl rfl (Nat.le_of_ble_eq_true rfl) (show _ = [(h0, .inr (9, [.ref q7, .null, .null, .null, .null, .null, .null, .null, .int 0, .int 0, .null, .null, .null, .null, .int 0, .int 0, .int 0, .null, .int 0, .int 0, .int 0, .null, .null, .null, .int 0, .null, .null, .null, .int 0, .int 0, .int 0, .int 0, .int 0, .null, .int 0])), (q7, .inl (kI K, 7, .inl (fun _ => 0)))] from rfl) dX9_init_9 ?_
  refine RZ_aload_n (pc := 12) hC 0 dX9_init_12 rfl rfl ?_
  refine RZ_bipush (pc := 13) hC dX9_init_13 (v := 11) (by decide) ?_
  refine RZ_newI (pc := 15) hC (N := 11) wa_int (by decide) (by decide) (by decide) hR ?_ ?_ dX9_init_15 (fun q15 => ?_)
  · exact Nat.le_of_ble_eq_true rfl
  · exact Nat.le_of_ble_eq_true rfl
  show RZ K 2 18 [(h0, .inr (9, [.ref q7, .null, .null, .null, .null, .null, .null, .null, .int 0, .int 0, .null, .null, .null, .null, .int 0, .int 0, .int 0, .null, .int 0, .int 0, .int 0, .null, .null, .null, .int 0, .null, .null, .null, .int 0, .int 0, .int 0, .int 0, .int 0, .null, .int 0])), (q7, .inl (kI K, 7, .inl (fun _ => 0))), (q15, .inl (kI K, 11, .inl (fun _ => 0)))] 17 [(0, .ref h0)] [.ref q15, .ref h0]
  refine RZ_putF (pc := 17) hC hin tyX9 tyX9_ok nmX9 inX9 rfl 0 1 rfl (by decide) wf_X9_13 rfl rfl rfl rfl (Nat.le_of_ble_eq_true rfl) (show _ = [(h0, .inr (9, [.ref q7, .ref q15, .null, .null, .null, .null, .null, .null, .int 0, .int 0, .null, .null, .null, .null, .int 0, .int 0, .int 0, .null, .int 0, .int 0, .int 0, .null, .null, .null, .int 0, .null, .null, .null, .int 0, .int 0, .int 0, .int 0, .int 0, .null, .int 0])), (q7, .inl (kI K, 7, .inl (fun _ => 0))), (q15, .inl (kI K, 11, .inl (fun _ => 0)))] from rfl) dX9_init_17 ?_
  refine RZ_aload_n (pc := 20) hC 0 dX9_init_20 rfl rfl ?_
  refine RZ_bipush (pc := 21) hC dX9_init_21 (v := 11) (by decide) ?_
  refine RZ_newI (pc := 23) hC (N := 11) wa_int (by decide) (by decide) (by decide) hR ?_ ?_ dX9_init_23 (fun q23 => ?_)
  · exact Nat.le_of_ble_eq_true rfl
  · exact Nat.le_of_ble_eq_true rfl
  show RZ K 3 29 [(h0, .inr (9, [.ref q7, .ref q15, .null, .null, .null, .null, .null, .null, .int 0, .int 0, .null, .null, .null, .null, .int 0, .int 0, .int 0, .null, .int 0, .int 0, .int 0, .null, .null, .null, .int 0, .null, .null, .null, .int 0, .int 0, .int 0, .int 0, .int 0, .null, .int 0])), (q7, .inl (kI K, 7, .inl (fun _ => 0))), (q15, .inl (kI K, 11, .inl (fun _ => 0))), (q23, .inl (kI K, 11, .inl (fun _ => 0)))] 25 [(0, .ref h0)] [.ref q23, .ref h0]
  refine RZ_putF (pc := 25) hC hin tyX9 tyX9_ok nmX9 inX9 rfl 0 2 rfl (by decide) wf_X9_16 rfl rfl rfl rfl (Nat.le_of_ble_eq_true rfl) (show _ = [(h0, .inr (9, [.ref q7, .ref q15, .ref q23, .null, .null, .null, .null, .null, .int 0, .int 0, .null, .null, .null, .null, .int 0, .int 0, .int 0, .null, .int 0, .int 0, .int 0, .null, .null, .null, .int 0, .null, .null, .null, .int 0, .int 0, .int 0, .int 0, .int 0, .null, .int 0])), (q7, .inl (kI K, 7, .inl (fun _ => 0))), (q15, .inl (kI K, 11, .inl (fun _ => 0))), (q23, .inl (kI K, 11, .inl (fun _ => 0)))] from rfl) dX9_init_25 ?_
  refine RZ_aload_n (pc := 28) hC 0 dX9_init_28 rfl rfl ?_
  refine RZ_bipush (pc := 29) hC dX9_init_29 (v := 11) (by decide) ?_
  refine RZ_newI (pc := 31) hC (N := 11) wa_int (by decide) (by decide) (by decide) hR ?_ ?_ dX9_init_31 (fun q31 => ?_)
  · exact Nat.le_of_ble_eq_true rfl
  · exact Nat.le_of_ble_eq_true rfl
  show RZ K 4 40 [(h0, .inr (9, [.ref q7, .ref q15, .ref q23, .null, .null, .null, .null, .null, .int 0, .int 0, .null, .null, .null, .null, .int 0, .int 0, .int 0, .null, .int 0, .int 0, .int 0, .null, .null, .null, .int 0, .null, .null, .null, .int 0, .int 0, .int 0, .int 0, .int 0, .null, .int 0])), (q7, .inl (kI K, 7, .inl (fun _ => 0))), (q15, .inl (kI K, 11, .inl (fun _ => 0))), (q23, .inl (kI K, 11, .inl (fun _ => 0))), (q31, .inl (kI K, 11, .inl (fun _ => 0)))] 33 [(0, .ref h0)] [.ref q31, .ref h0]
  refine RZ_putF (pc := 33) hC hin tyX9 tyX9_ok nmX9 inX9 rfl 0 3 rfl (by decide) wf_X9_19 rfl rfl rfl rfl (Nat.le_of_ble_eq_true rfl) (show _ = [(h0, .inr (9, [.ref q7, .ref q15, .ref q23, .ref q31, .null, .null, .null, .null, .int 0, .int 0, .null, .null, .null, .null, .int 0, .int 0, .int 0, .null, .int 0, .int 0, .int 0, .null, .null, .null, .int 0, .null, .null, .null, .int 0, .int 0, .int 0, .int 0, .int 0, .null, .int 0])), (q7, .inl (kI K, 7, .inl (fun _ => 0))), (q15, .inl (kI K, 11, .inl (fun _ => 0))), (q23, .inl (kI K, 11, .inl (fun _ => 0))), (q31, .inl (kI K, 11, .inl (fun _ => 0)))] from rfl) dX9_init_33 ?_
  refine RZ_aload_n (pc := 36) hC 0 dX9_init_36 rfl rfl ?_
  refine RZ_bipush (pc := 37) hC dX9_init_37 (v := 11) (by decide) ?_
  refine RZ_newI (pc := 39) hC (N := 11) wa_int (by decide) (by decide) (by decide) hR ?_ ?_ dX9_init_39 (fun q39 => ?_)
  · exact Nat.le_of_ble_eq_true rfl
  · exact Nat.le_of_ble_eq_true rfl
  show RZ K 5 51 [(h0, .inr (9, [.ref q7, .ref q15, .ref q23, .ref q31, .null, .null, .null, .null, .int 0, .int 0, .null, .null, .null, .null, .int 0, .int 0, .int 0, .null, .int 0, .int 0, .int 0, .null, .null, .null, .int 0, .null, .null, .null, .int 0, .int 0, .int 0, .int 0, .int 0, .null, .int 0])), (q7, .inl (kI K, 7, .inl (fun _ => 0))), (q15, .inl (kI K, 11, .inl (fun _ => 0))), (q23, .inl (kI K, 11, .inl (fun _ => 0))), (q31, .inl (kI K, 11, .inl (fun _ => 0))), (q39, .inl (kI K, 11, .inl (fun _ => 0)))] 41 [(0, .ref h0)] [.ref q39, .ref h0]
  refine RZ_putF (pc := 41) hC hin tyX9 tyX9_ok nmX9 inX9 rfl 0 4 rfl (by decide) wf_X9_22 rfl rfl rfl rfl (Nat.le_of_ble_eq_true rfl) (show _ = [(h0, .inr (9, [.ref q7, .ref q15, .ref q23, .ref q31, .ref q39, .null, .null, .null, .int 0, .int 0, .null, .null, .null, .null, .int 0, .int 0, .int 0, .null, .int 0, .int 0, .int 0, .null, .null, .null, .int 0, .null, .null, .null, .int 0, .int 0, .int 0, .int 0, .int 0, .null, .int 0])), (q7, .inl (kI K, 7, .inl (fun _ => 0))), (q15, .inl (kI K, 11, .inl (fun _ => 0))), (q23, .inl (kI K, 11, .inl (fun _ => 0))), (q31, .inl (kI K, 11, .inl (fun _ => 0))), (q39, .inl (kI K, 11, .inl (fun _ => 0)))] from rfl) dX9_init_41 ?_
  refine RZ_aload_n (pc := 44) hC 0 dX9_init_44 rfl rfl ?_
  refine RZ_bipush (pc := 45) hC dX9_init_45 (v := 11) (by decide) ?_
  refine RZ_newI (pc := 47) hC (N := 11) wa_int (by decide) (by decide) (by decide) hR ?_ ?_ dX9_init_47 (fun q47 => ?_)
  · exact Nat.le_of_ble_eq_true rfl
  · exact Nat.le_of_ble_eq_true rfl
  show RZ K 6 62 [(h0, .inr (9, [.ref q7, .ref q15, .ref q23, .ref q31, .ref q39, .null, .null, .null, .int 0, .int 0, .null, .null, .null, .null, .int 0, .int 0, .int 0, .null, .int 0, .int 0, .int 0, .null, .null, .null, .int 0, .null, .null, .null, .int 0, .int 0, .int 0, .int 0, .int 0, .null, .int 0])), (q7, .inl (kI K, 7, .inl (fun _ => 0))), (q15, .inl (kI K, 11, .inl (fun _ => 0))), (q23, .inl (kI K, 11, .inl (fun _ => 0))), (q31, .inl (kI K, 11, .inl (fun _ => 0))), (q39, .inl (kI K, 11, .inl (fun _ => 0))), (q47, .inl (kI K, 11, .inl (fun _ => 0)))] 49 [(0, .ref h0)] [.ref q47, .ref h0]
  refine RZ_putF (pc := 49) hC hin tyX9 tyX9_ok nmX9 inX9 rfl 0 5 rfl (by decide) wf_X9_25 rfl rfl rfl rfl (Nat.le_of_ble_eq_true rfl) (show _ = [(h0, .inr (9, [.ref q7, .ref q15, .ref q23, .ref q31, .ref q39, .ref q47, .null, .null, .int 0, .int 0, .null, .null, .null, .null, .int 0, .int 0, .int 0, .null, .int 0, .int 0, .int 0, .null, .null, .null, .int 0, .null, .null, .null, .int 0, .int 0, .int 0, .int 0, .int 0, .null, .int 0])), (q7, .inl (kI K, 7, .inl (fun _ => 0))), (q15, .inl (kI K, 11, .inl (fun _ => 0))), (q23, .inl (kI K, 11, .inl (fun _ => 0))), (q31, .inl (kI K, 11, .inl (fun _ => 0))), (q39, .inl (kI K, 11, .inl (fun _ => 0))), (q47, .inl (kI K, 11, .inl (fun _ => 0)))] from rfl) dX9_init_49 ?_
  refine RZ_aload_n (pc := 52) hC 0 dX9_init_52 rfl rfl ?_
  refine RZ_bipush (pc := 53) hC dX9_init_53 (v := 11) (by decide) ?_
  refine RZ_newI (pc := 55) hC (N := 11) wa_int (by decide) (by decide) (by decide) hR ?_ ?_ dX9_init_55 (fun q55 => ?_)
  · exact Nat.le_of_ble_eq_true rfl
  · exact Nat.le_of_ble_eq_true rfl
  show RZ K 7 73 [(h0, .inr (9, [.ref q7, .ref q15, .ref q23, .ref q31, .ref q39, .ref q47, .null, .null, .int 0, .int 0, .null, .null, .null, .null, .int 0, .int 0, .int 0, .null, .int 0, .int 0, .int 0, .null, .null, .null, .int 0, .null, .null, .null, .int 0, .int 0, .int 0, .int 0, .int 0, .null, .int 0])), (q7, .inl (kI K, 7, .inl (fun _ => 0))), (q15, .inl (kI K, 11, .inl (fun _ => 0))), (q23, .inl (kI K, 11, .inl (fun _ => 0))), (q31, .inl (kI K, 11, .inl (fun _ => 0))), (q39, .inl (kI K, 11, .inl (fun _ => 0))), (q47, .inl (kI K, 11, .inl (fun _ => 0))), (q55, .inl (kI K, 11, .inl (fun _ => 0)))] 57 [(0, .ref h0)] [.ref q55, .ref h0]
  refine RZ_putF (pc := 57) hC hin tyX9 tyX9_ok nmX9 inX9 rfl 0 6 rfl (by decide) wf_X9_28 rfl rfl rfl rfl (Nat.le_of_ble_eq_true rfl) (show _ = [(h0, .inr (9, [.ref q7, .ref q15, .ref q23, .ref q31, .ref q39, .ref q47, .ref q55, .null, .int 0, .int 0, .null, .null, .null, .null, .int 0, .int 0, .int 0, .null, .int 0, .int 0, .int 0, .null, .null, .null, .int 0, .null, .null, .null, .int 0, .int 0, .int 0, .int 0, .int 0, .null, .int 0])), (q7, .inl (kI K, 7, .inl (fun _ => 0))), (q15, .inl (kI K, 11, .inl (fun _ => 0))), (q23, .inl (kI K, 11, .inl (fun _ => 0))), (q31, .inl (kI K, 11, .inl (fun _ => 0))), (q39, .inl (kI K, 11, .inl (fun _ => 0))), (q47, .inl (kI K, 11, .inl (fun _ => 0))), (q55, .inl (kI K, 11, .inl (fun _ => 0)))] from rfl) dX9_init_57 ?_
  refine RZ_aload_n (pc := 60) hC 0 dX9_init_60 rfl rfl ?_
  refine RZ_bipush (pc := 61) hC dX9_init_61 (v := 11) (by decide) ?_
  refine RZ_newI (pc := 63) hC (N := 11) wa_int (by decide) (by decide) (by decide) hR ?_ ?_ dX9_init_63 (fun q63 => ?_)
  · exact Nat.le_of_ble_eq_true rfl
  · exact Nat.le_of_ble_eq_true rfl
  show RZ K 8 84 [(h0, .inr (9, [.ref q7, .ref q15, .ref q23, .ref q31, .ref q39, .ref q47, .ref q55, .null, .int 0, .int 0, .null, .null, .null, .null, .int 0, .int 0, .int 0, .null, .int 0, .int 0, .int 0, .null, .null, .null, .int 0, .null, .null, .null, .int 0, .int 0, .int 0, .int 0, .int 0, .null, .int 0])), (q7, .inl (kI K, 7, .inl (fun _ => 0))), (q15, .inl (kI K, 11, .inl (fun _ => 0))), (q23, .inl (kI K, 11, .inl (fun _ => 0))), (q31, .inl (kI K, 11, .inl (fun _ => 0))), (q39, .inl (kI K, 11, .inl (fun _ => 0))), (q47, .inl (kI K, 11, .inl (fun _ => 0))), (q55, .inl (kI K, 11, .inl (fun _ => 0))), (q63, .inl (kI K, 11, .inl (fun _ => 0)))] 65 [(0, .ref h0)] [.ref q63, .ref h0]
  refine RZ_putF (pc := 65) hC hin tyX9 tyX9_ok nmX9 inX9 rfl 0 7 rfl (by decide) wf_X9_31 rfl rfl rfl rfl (Nat.le_of_ble_eq_true rfl) (show _ = [(h0, .inr (9, [.ref q7, .ref q15, .ref q23, .ref q31, .ref q39, .ref q47, .ref q55, .ref q63, .int 0, .int 0, .null, .null, .null, .null, .int 0, .int 0, .int 0, .null, .int 0, .int 0, .int 0, .null, .null, .null, .int 0, .null, .null, .null, .int 0, .int 0, .int 0, .int 0, .int 0, .null, .int 0])), (q7, .inl (kI K, 7, .inl (fun _ => 0))), (q15, .inl (kI K, 11, .inl (fun _ => 0))), (q23, .inl (kI K, 11, .inl (fun _ => 0))), (q31, .inl (kI K, 11, .inl (fun _ => 0))), (q39, .inl (kI K, 11, .inl (fun _ => 0))), (q47, .inl (kI K, 11, .inl (fun _ => 0))), (q55, .inl (kI K, 11, .inl (fun _ => 0))), (q63, .inl (kI K, 11, .inl (fun _ => 0)))] from rfl) dX9_init_65 ?_
  refine RZ_aload_n (pc := 68) hC 0 dX9_init_68 rfl rfl ?_
  refine RZ_iconst (pc := 69) hC dX9_init_69 ki_3 ?_
  refine RZ_put (pc := 70) hC tyX9 tyX9_ok nmX9 inX9 rfl 0 8 rfl (by decide) wf_X9_34 rfl rfl rfl (Nat.le_of_ble_eq_true rfl) (show _ = [(h0, .inr (9, [.ref q7, .ref q15, .ref q23, .ref q31, .ref q39, .ref q47, .ref q55, .ref q63, .int 3, .int 0, .null, .null, .null, .null, .int 0, .int 0, .int 0, .null, .int 0, .int 0, .int 0, .null, .null, .null, .int 0, .null, .null, .null, .int 0, .int 0, .int 0, .int 0, .int 0, .null, .int 0])), (q7, .inl (kI K, 7, .inl (fun _ => 0))), (q15, .inl (kI K, 11, .inl (fun _ => 0))), (q23, .inl (kI K, 11, .inl (fun _ => 0))), (q31, .inl (kI K, 11, .inl (fun _ => 0))), (q39, .inl (kI K, 11, .inl (fun _ => 0))), (q47, .inl (kI K, 11, .inl (fun _ => 0))), (q55, .inl (kI K, 11, .inl (fun _ => 0))), (q63, .inl (kI K, 11, .inl (fun _ => 0)))] from rfl) dX9_init_70 ?_
  refine RZ_aload_n (pc := 73) hC 0 dX9_init_73 rfl rfl ?_
  refine RZ_bipush (pc := 74) hC dX9_init_74 (v := 72) (by decide) ?_
  refine RZ_newI (pc := 76) hC (N := 72) wa_int (by decide) (by decide) (by decide) hR ?_ ?_ dX9_init_76 (fun q76 => ?_)
  · exact Nat.le_of_ble_eq_true rfl
  · exact Nat.le_of_ble_eq_true rfl
  show RZ K 9 156 [(h0, .inr (9, [.ref q7, .ref q15, .ref q23, .ref q31, .ref q39, .ref q47, .ref q55, .ref q63, .int 3, .int 0, .null, .null, .null, .null, .int 0, .int 0, .int 0, .null, .int 0, .int 0, .int 0, .null, .null, .null, .int 0, .null, .null, .null, .int 0, .int 0, .int 0, .int 0, .int 0, .null, .int 0])), (q7, .inl (kI K, 7, .inl (fun _ => 0))), (q15, .inl (kI K, 11, .inl (fun _ => 0))), (q23, .inl (kI K, 11, .inl (fun _ => 0))), (q31, .inl (kI K, 11, .inl (fun _ => 0))), (q39, .inl (kI K, 11, .inl (fun _ => 0))), (q47, .inl (kI K, 11, .inl (fun _ => 0))), (q55, .inl (kI K, 11, .inl (fun _ => 0))), (q63, .inl (kI K, 11, .inl (fun _ => 0))), (q76, .inl (kI K, 72, .inl (fun _ => 0)))] 78 [(0, .ref h0)] [.ref q76, .ref h0]
  refine RZ_putF (pc := 78) hC hin tyX9 tyX9_ok nmX9 inX9 rfl 0 10 rfl (by decide) wf_X9_38 rfl rfl rfl rfl (Nat.le_of_ble_eq_true rfl) (show _ = [(h0, .inr (9, [.ref q7, .ref q15, .ref q23, .ref q31, .ref q39, .ref q47, .ref q55, .ref q63, .int 3, .int 0, .ref q76, .null, .null, .null, .int 0, .int 0, .int 0, .null, .int 0, .int 0, .int 0, .null, .null, .null, .int 0, .null, .null, .null, .int 0, .int 0, .int 0, .int 0, .int 0, .null, .int 0])), (q7, .inl (kI K, 7, .inl (fun _ => 0))), (q15, .inl (kI K, 11, .inl (fun _ => 0))), (q23, .inl (kI K, 11, .inl (fun _ => 0))), (q31, .inl (kI K, 11, .inl (fun _ => 0))), (q39, .inl (kI K, 11, .inl (fun _ => 0))), (q47, .inl (kI K, 11, .inl (fun _ => 0))), (q55, .inl (kI K, 11, .inl (fun _ => 0))), (q63, .inl (kI K, 11, .inl (fun _ => 0))), (q76, .inl (kI K, 72, .inl (fun _ => 0)))] from rfl) dX9_init_78 ?_
  refine RZ_aload_n (pc := 81) hC 0 dX9_init_81 rfl rfl ?_
  refine RZ_bipush (pc := 82) hC dX9_init_82 (v := 36) (by decide) ?_
  refine RZ_newI (pc := 84) hC (N := 36) wa_int (by decide) (by decide) (by decide) hR ?_ ?_ dX9_init_84 (fun q84 => ?_)
  · exact Nat.le_of_ble_eq_true rfl
  · exact Nat.le_of_ble_eq_true rfl
  show RZ K 10 192 [(h0, .inr (9, [.ref q7, .ref q15, .ref q23, .ref q31, .ref q39, .ref q47, .ref q55, .ref q63, .int 3, .int 0, .ref q76, .null, .null, .null, .int 0, .int 0, .int 0, .null, .int 0, .int 0, .int 0, .null, .null, .null, .int 0, .null, .null, .null, .int 0, .int 0, .int 0, .int 0, .int 0, .null, .int 0])), (q7, .inl (kI K, 7, .inl (fun _ => 0))), (q15, .inl (kI K, 11, .inl (fun _ => 0))), (q23, .inl (kI K, 11, .inl (fun _ => 0))), (q31, .inl (kI K, 11, .inl (fun _ => 0))), (q39, .inl (kI K, 11, .inl (fun _ => 0))), (q47, .inl (kI K, 11, .inl (fun _ => 0))), (q55, .inl (kI K, 11, .inl (fun _ => 0))), (q63, .inl (kI K, 11, .inl (fun _ => 0))), (q76, .inl (kI K, 72, .inl (fun _ => 0))), (q84, .inl (kI K, 36, .inl (fun _ => 0)))] 86 [(0, .ref h0)] [.ref q84, .ref h0]
  refine RZ_putF (pc := 86) hC hin tyX9 tyX9_ok nmX9 inX9 rfl 0 11 rfl (by decide) wf_X9_41 rfl rfl rfl rfl (Nat.le_of_ble_eq_true rfl) (show _ = [(h0, .inr (9, [.ref q7, .ref q15, .ref q23, .ref q31, .ref q39, .ref q47, .ref q55, .ref q63, .int 3, .int 0, .ref q76, .ref q84, .null, .null, .int 0, .int 0, .int 0, .null, .int 0, .int 0, .int 0, .null, .null, .null, .int 0, .null, .null, .null, .int 0, .int 0, .int 0, .int 0, .int 0, .null, .int 0])), (q7, .inl (kI K, 7, .inl (fun _ => 0))), (q15, .inl (kI K, 11, .inl (fun _ => 0))), (q23, .inl (kI K, 11, .inl (fun _ => 0))), (q31, .inl (kI K, 11, .inl (fun _ => 0))), (q39, .inl (kI K, 11, .inl (fun _ => 0))), (q47, .inl (kI K, 11, .inl (fun _ => 0))), (q55, .inl (kI K, 11, .inl (fun _ => 0))), (q63, .inl (kI K, 11, .inl (fun _ => 0))), (q76, .inl (kI K, 72, .inl (fun _ => 0))), (q84, .inl (kI K, 36, .inl (fun _ => 0)))] from rfl) dX9_init_86 ?_
  refine RZ_aload_n (pc := 89) hC 0 dX9_init_89 rfl rfl ?_
  refine RZ_bipush (pc := 90) hC dX9_init_90 (v := 36) (by decide) ?_
  refine RZ_newI (pc := 92) hC (N := 36) wa_int (by decide) (by decide) (by decide) hR ?_ ?_ dX9_init_92 (fun q92 => ?_)
  · exact Nat.le_of_ble_eq_true rfl
  · exact Nat.le_of_ble_eq_true rfl
  show RZ K 11 228 [(h0, .inr (9, [.ref q7, .ref q15, .ref q23, .ref q31, .ref q39, .ref q47, .ref q55, .ref q63, .int 3, .int 0, .ref q76, .ref q84, .null, .null, .int 0, .int 0, .int 0, .null, .int 0, .int 0, .int 0, .null, .null, .null, .int 0, .null, .null, .null, .int 0, .int 0, .int 0, .int 0, .int 0, .null, .int 0])), (q7, .inl (kI K, 7, .inl (fun _ => 0))), (q15, .inl (kI K, 11, .inl (fun _ => 0))), (q23, .inl (kI K, 11, .inl (fun _ => 0))), (q31, .inl (kI K, 11, .inl (fun _ => 0))), (q39, .inl (kI K, 11, .inl (fun _ => 0))), (q47, .inl (kI K, 11, .inl (fun _ => 0))), (q55, .inl (kI K, 11, .inl (fun _ => 0))), (q63, .inl (kI K, 11, .inl (fun _ => 0))), (q76, .inl (kI K, 72, .inl (fun _ => 0))), (q84, .inl (kI K, 36, .inl (fun _ => 0))), (q92, .inl (kI K, 36, .inl (fun _ => 0)))] 94 [(0, .ref h0)] [.ref q92, .ref h0]
  refine RZ_putF (pc := 94) hC hin tyX9 tyX9_ok nmX9 inX9 rfl 0 12 rfl (by decide) wf_X9_44 rfl rfl rfl rfl (Nat.le_of_ble_eq_true rfl) (show _ = [(h0, .inr (9, [.ref q7, .ref q15, .ref q23, .ref q31, .ref q39, .ref q47, .ref q55, .ref q63, .int 3, .int 0, .ref q76, .ref q84, .ref q92, .null, .int 0, .int 0, .int 0, .null, .int 0, .int 0, .int 0, .null, .null, .null, .int 0, .null, .null, .null, .int 0, .int 0, .int 0, .int 0, .int 0, .null, .int 0])), (q7, .inl (kI K, 7, .inl (fun _ => 0))), (q15, .inl (kI K, 11, .inl (fun _ => 0))), (q23, .inl (kI K, 11, .inl (fun _ => 0))), (q31, .inl (kI K, 11, .inl (fun _ => 0))), (q39, .inl (kI K, 11, .inl (fun _ => 0))), (q47, .inl (kI K, 11, .inl (fun _ => 0))), (q55, .inl (kI K, 11, .inl (fun _ => 0))), (q63, .inl (kI K, 11, .inl (fun _ => 0))), (q76, .inl (kI K, 72, .inl (fun _ => 0))), (q84, .inl (kI K, 36, .inl (fun _ => 0))), (q92, .inl (kI K, 36, .inl (fun _ => 0)))] from rfl) dX9_init_94 ?_
  refine RZ_aload_n (pc := 97) hC 0 dX9_init_97 rfl rfl ?_
  refine RZ_sipush (pc := 98) hC dX9_init_98 (v := 216) (by decide) ?_
  refine RZ_newI (pc := 101) hC (N := 216) wa_int (by decide) (by decide) (by decide) hR ?_ ?_ dX9_init_101 (fun q101 => ?_)
  · exact Nat.le_of_ble_eq_true rfl
  · exact Nat.le_of_ble_eq_true rfl
  show RZ K 12 444 [(h0, .inr (9, [.ref q7, .ref q15, .ref q23, .ref q31, .ref q39, .ref q47, .ref q55, .ref q63, .int 3, .int 0, .ref q76, .ref q84, .ref q92, .null, .int 0, .int 0, .int 0, .null, .int 0, .int 0, .int 0, .null, .null, .null, .int 0, .null, .null, .null, .int 0, .int 0, .int 0, .int 0, .int 0, .null, .int 0])), (q7, .inl (kI K, 7, .inl (fun _ => 0))), (q15, .inl (kI K, 11, .inl (fun _ => 0))), (q23, .inl (kI K, 11, .inl (fun _ => 0))), (q31, .inl (kI K, 11, .inl (fun _ => 0))), (q39, .inl (kI K, 11, .inl (fun _ => 0))), (q47, .inl (kI K, 11, .inl (fun _ => 0))), (q55, .inl (kI K, 11, .inl (fun _ => 0))), (q63, .inl (kI K, 11, .inl (fun _ => 0))), (q76, .inl (kI K, 72, .inl (fun _ => 0))), (q84, .inl (kI K, 36, .inl (fun _ => 0))), (q92, .inl (kI K, 36, .inl (fun _ => 0))), (q101, .inl (kI K, 216, .inl (fun _ => 0)))] 103 [(0, .ref h0)] [.ref q101, .ref h0]
  refine RZ_putF (pc := 103) hC hin tyX9 tyX9_ok nmX9 inX9 rfl 0 13 rfl (by decide) wf_X9_47 rfl rfl rfl rfl (Nat.le_of_ble_eq_true rfl) (show _ = [(h0, .inr (9, [.ref q7, .ref q15, .ref q23, .ref q31, .ref q39, .ref q47, .ref q55, .ref q63, .int 3, .int 0, .ref q76, .ref q84, .ref q92, .ref q101, .int 0, .int 0, .int 0, .null, .int 0, .int 0, .int 0, .null, .null, .null, .int 0, .null, .null, .null, .int 0, .int 0, .int 0, .int 0, .int 0, .null, .int 0])), (q7, .inl (kI K, 7, .inl (fun _ => 0))), (q15, .inl (kI K, 11, .inl (fun _ => 0))), (q23, .inl (kI K, 11, .inl (fun _ => 0))), (q31, .inl (kI K, 11, .inl (fun _ => 0))), (q39, .inl (kI K, 11, .inl (fun _ => 0))), (q47, .inl (kI K, 11, .inl (fun _ => 0))), (q55, .inl (kI K, 11, .inl (fun _ => 0))), (q63, .inl (kI K, 11, .inl (fun _ => 0))), (q76, .inl (kI K, 72, .inl (fun _ => 0))), (q84, .inl (kI K, 36, .inl (fun _ => 0))), (q92, .inl (kI K, 36, .inl (fun _ => 0))), (q101, .inl (kI K, 216, .inl (fun _ => 0)))] from rfl) dX9_init_103 ?_
  refine RZ_aload_n (pc := 106) hC 0 dX9_init_106 rfl rfl ?_
  refine RZ_sipush (pc := 107) hC dX9_init_107 (v := 200) (by decide) ?_
  refine RZ_newI (pc := 110) hC (N := 200) wa_int (by decide) (by decide) (by decide) hR ?_ ?_ dX9_init_110 (fun q110 => ?_)
  · exact Nat.le_of_ble_eq_true rfl
  · exact Nat.le_of_ble_eq_true rfl
  show RZ K 13 644 [(h0, .inr (9, [.ref q7, .ref q15, .ref q23, .ref q31, .ref q39, .ref q47, .ref q55, .ref q63, .int 3, .int 0, .ref q76, .ref q84, .ref q92, .ref q101, .int 0, .int 0, .int 0, .null, .int 0, .int 0, .int 0, .null, .null, .null, .int 0, .null, .null, .null, .int 0, .int 0, .int 0, .int 0, .int 0, .null, .int 0])), (q7, .inl (kI K, 7, .inl (fun _ => 0))), (q15, .inl (kI K, 11, .inl (fun _ => 0))), (q23, .inl (kI K, 11, .inl (fun _ => 0))), (q31, .inl (kI K, 11, .inl (fun _ => 0))), (q39, .inl (kI K, 11, .inl (fun _ => 0))), (q47, .inl (kI K, 11, .inl (fun _ => 0))), (q55, .inl (kI K, 11, .inl (fun _ => 0))), (q63, .inl (kI K, 11, .inl (fun _ => 0))), (q76, .inl (kI K, 72, .inl (fun _ => 0))), (q84, .inl (kI K, 36, .inl (fun _ => 0))), (q92, .inl (kI K, 36, .inl (fun _ => 0))), (q101, .inl (kI K, 216, .inl (fun _ => 0))), (q110, .inl (kI K, 200, .inl (fun _ => 0)))] 112 [(0, .ref h0)] [.ref q110, .ref h0]
  refine RZ_putF (pc := 112) hC hin tyX9 tyX9_ok nmX9 inX9 rfl 0 17 rfl (by decide) wf_X9_50 rfl rfl rfl rfl (Nat.le_of_ble_eq_true rfl) (show _ = [(h0, .inr (9, [.ref q7, .ref q15, .ref q23, .ref q31, .ref q39, .ref q47, .ref q55, .ref q63, .int 3, .int 0, .ref q76, .ref q84, .ref q92, .ref q101, .int 0, .int 0, .int 0, .ref q110, .int 0, .int 0, .int 0, .null, .null, .null, .int 0, .null, .null, .null, .int 0, .int 0, .int 0, .int 0, .int 0, .null, .int 0])), (q7, .inl (kI K, 7, .inl (fun _ => 0))), (q15, .inl (kI K, 11, .inl (fun _ => 0))), (q23, .inl (kI K, 11, .inl (fun _ => 0))), (q31, .inl (kI K, 11, .inl (fun _ => 0))), (q39, .inl (kI K, 11, .inl (fun _ => 0))), (q47, .inl (kI K, 11, .inl (fun _ => 0))), (q55, .inl (kI K, 11, .inl (fun _ => 0))), (q63, .inl (kI K, 11, .inl (fun _ => 0))), (q76, .inl (kI K, 72, .inl (fun _ => 0))), (q84, .inl (kI K, 36, .inl (fun _ => 0))), (q92, .inl (kI K, 36, .inl (fun _ => 0))), (q101, .inl (kI K, 216, .inl (fun _ => 0))), (q110, .inl (kI K, 200, .inl (fun _ => 0)))] from rfl) dX9_init_112 ?_
  refine RZ_aload_n (pc := 115) hC 0 dX9_init_115 rfl rfl ?_
  refine RZ_bipush (pc := 116) hC dX9_init_116 (v := 7) (by decide) ?_
  refine RZ_newI (pc := 118) hC (N := 7) wa_int (by decide) (by decide) (by decide) hR ?_ ?_ dX9_init_118 (fun q118 => ?_)
  · exact Nat.le_of_ble_eq_true rfl
  · exact Nat.le_of_ble_eq_true rfl
  show RZ K 14 651 [(h0, .inr (9, [.ref q7, .ref q15, .ref q23, .ref q31, .ref q39, .ref q47, .ref q55, .ref q63, .int 3, .int 0, .ref q76, .ref q84, .ref q92, .ref q101, .int 0, .int 0, .int 0, .ref q110, .int 0, .int 0, .int 0, .null, .null, .null, .int 0, .null, .null, .null, .int 0, .int 0, .int 0, .int 0, .int 0, .null, .int 0])), (q7, .inl (kI K, 7, .inl (fun _ => 0))), (q15, .inl (kI K, 11, .inl (fun _ => 0))), (q23, .inl (kI K, 11, .inl (fun _ => 0))), (q31, .inl (kI K, 11, .inl (fun _ => 0))), (q39, .inl (kI K, 11, .inl (fun _ => 0))), (q47, .inl (kI K, 11, .inl (fun _ => 0))), (q55, .inl (kI K, 11, .inl (fun _ => 0))), (q63, .inl (kI K, 11, .inl (fun _ => 0))), (q76, .inl (kI K, 72, .inl (fun _ => 0))), (q84, .inl (kI K, 36, .inl (fun _ => 0))), (q92, .inl (kI K, 36, .inl (fun _ => 0))), (q101, .inl (kI K, 216, .inl (fun _ => 0))), (q110, .inl (kI K, 200, .inl (fun _ => 0))), (q118, .inl (kI K, 7, .inl (fun _ => 0)))] 120 [(0, .ref h0)] [.ref q118, .ref h0]
  refine RZ_putF (pc := 120) hC hin tyX9 tyX9_ok nmX9 inX9 rfl 0 21 rfl (by decide) wf_X9_53 rfl rfl rfl rfl (Nat.le_of_ble_eq_true rfl) (show _ = [(h0, .inr (9, [.ref q7, .ref q15, .ref q23, .ref q31, .ref q39, .ref q47, .ref q55, .ref q63, .int 3, .int 0, .ref q76, .ref q84, .ref q92, .ref q101, .int 0, .int 0, .int 0, .ref q110, .int 0, .int 0, .int 0, .ref q118, .null, .null, .int 0, .null, .null, .null, .int 0, .int 0, .int 0, .int 0, .int 0, .null, .int 0])), (q7, .inl (kI K, 7, .inl (fun _ => 0))), (q15, .inl (kI K, 11, .inl (fun _ => 0))), (q23, .inl (kI K, 11, .inl (fun _ => 0))), (q31, .inl (kI K, 11, .inl (fun _ => 0))), (q39, .inl (kI K, 11, .inl (fun _ => 0))), (q47, .inl (kI K, 11, .inl (fun _ => 0))), (q55, .inl (kI K, 11, .inl (fun _ => 0))), (q63, .inl (kI K, 11, .inl (fun _ => 0))), (q76, .inl (kI K, 72, .inl (fun _ => 0))), (q84, .inl (kI K, 36, .inl (fun _ => 0))), (q92, .inl (kI K, 36, .inl (fun _ => 0))), (q101, .inl (kI K, 216, .inl (fun _ => 0))), (q110, .inl (kI K, 200, .inl (fun _ => 0))), (q118, .inl (kI K, 7, .inl (fun _ => 0)))] from rfl) dX9_init_120 ?_
  refine RZ_aload_n (pc := 123) hC 0 dX9_init_123 rfl rfl ?_
  refine RZ_sipush (pc := 124) hC dX9_init_124 (v := 1024) (by decide) ?_
  refine RZ_newI (pc := 127) hC (N := 1024) wa_int (by decide) (by decide) (by decide) hR ?_ ?_ dX9_init_127 (fun q127 => ?_)
  · exact Nat.le_of_ble_eq_true rfl
  · exact Nat.le_of_ble_eq_true rfl
  show RZ K 15 1675 [(h0, .inr (9, [.ref q7, .ref q15, .ref q23, .ref q31, .ref q39, .ref q47, .ref q55, .ref q63, .int 3, .int 0, .ref q76, .ref q84, .ref q92, .ref q101, .int 0, .int 0, .int 0, .ref q110, .int 0, .int 0, .int 0, .ref q118, .null, .null, .int 0, .null, .null, .null, .int 0, .int 0, .int 0, .int 0, .int 0, .null, .int 0])), (q7, .inl (kI K, 7, .inl (fun _ => 0))), (q15, .inl (kI K, 11, .inl (fun _ => 0))), (q23, .inl (kI K, 11, .inl (fun _ => 0))), (q31, .inl (kI K, 11, .inl (fun _ => 0))), (q39, .inl (kI K, 11, .inl (fun _ => 0))), (q47, .inl (kI K, 11, .inl (fun _ => 0))), (q55, .inl (kI K, 11, .inl (fun _ => 0))), (q63, .inl (kI K, 11, .inl (fun _ => 0))), (q76, .inl (kI K, 72, .inl (fun _ => 0))), (q84, .inl (kI K, 36, .inl (fun _ => 0))), (q92, .inl (kI K, 36, .inl (fun _ => 0))), (q101, .inl (kI K, 216, .inl (fun _ => 0))), (q110, .inl (kI K, 200, .inl (fun _ => 0))), (q118, .inl (kI K, 7, .inl (fun _ => 0))), (q127, .inl (kI K, 1024, .inl (fun _ => 0)))] 129 [(0, .ref h0)] [.ref q127, .ref h0]
  refine RZ_putF (pc := 129) hC hin tyX9 tyX9_ok nmX9 inX9 rfl 0 22 rfl (by decide) wf_X9_56 rfl rfl rfl rfl (Nat.le_of_ble_eq_true rfl) (show _ = [(h0, .inr (9, [.ref q7, .ref q15, .ref q23, .ref q31, .ref q39, .ref q47, .ref q55, .ref q63, .int 3, .int 0, .ref q76, .ref q84, .ref q92, .ref q101, .int 0, .int 0, .int 0, .ref q110, .int 0, .int 0, .int 0, .ref q118, .ref q127, .null, .int 0, .null, .null, .null, .int 0, .int 0, .int 0, .int 0, .int 0, .null, .int 0])), (q7, .inl (kI K, 7, .inl (fun _ => 0))), (q15, .inl (kI K, 11, .inl (fun _ => 0))), (q23, .inl (kI K, 11, .inl (fun _ => 0))), (q31, .inl (kI K, 11, .inl (fun _ => 0))), (q39, .inl (kI K, 11, .inl (fun _ => 0))), (q47, .inl (kI K, 11, .inl (fun _ => 0))), (q55, .inl (kI K, 11, .inl (fun _ => 0))), (q63, .inl (kI K, 11, .inl (fun _ => 0))), (q76, .inl (kI K, 72, .inl (fun _ => 0))), (q84, .inl (kI K, 36, .inl (fun _ => 0))), (q92, .inl (kI K, 36, .inl (fun _ => 0))), (q101, .inl (kI K, 216, .inl (fun _ => 0))), (q110, .inl (kI K, 200, .inl (fun _ => 0))), (q118, .inl (kI K, 7, .inl (fun _ => 0))), (q127, .inl (kI K, 1024, .inl (fun _ => 0)))] from rfl) dX9_init_129 ?_
  refine RZ_aload_n (pc := 132) hC 0 dX9_init_132 rfl rfl ?_
  refine RZ_sipush (pc := 133) hC dX9_init_133 (v := 1024) (by decide) ?_
  refine RZ_newJ (pc := 136) hC (N := 1024) wa_long (by decide) (by decide) (by decide) hR ?_ ?_ dX9_init_136 (fun q136 => ?_)
  · exact Nat.le_of_ble_eq_true rfl
  · exact Nat.le_of_ble_eq_true rfl
  show RZ K 16 2699 [(h0, .inr (9, [.ref q7, .ref q15, .ref q23, .ref q31, .ref q39, .ref q47, .ref q55, .ref q63, .int 3, .int 0, .ref q76, .ref q84, .ref q92, .ref q101, .int 0, .int 0, .int 0, .ref q110, .int 0, .int 0, .int 0, .ref q118, .ref q127, .null, .int 0, .null, .null, .null, .int 0, .int 0, .int 0, .int 0, .int 0, .null, .int 0])), (q7, .inl (kI K, 7, .inl (fun _ => 0))), (q15, .inl (kI K, 11, .inl (fun _ => 0))), (q23, .inl (kI K, 11, .inl (fun _ => 0))), (q31, .inl (kI K, 11, .inl (fun _ => 0))), (q39, .inl (kI K, 11, .inl (fun _ => 0))), (q47, .inl (kI K, 11, .inl (fun _ => 0))), (q55, .inl (kI K, 11, .inl (fun _ => 0))), (q63, .inl (kI K, 11, .inl (fun _ => 0))), (q76, .inl (kI K, 72, .inl (fun _ => 0))), (q84, .inl (kI K, 36, .inl (fun _ => 0))), (q92, .inl (kI K, 36, .inl (fun _ => 0))), (q101, .inl (kI K, 216, .inl (fun _ => 0))), (q110, .inl (kI K, 200, .inl (fun _ => 0))), (q118, .inl (kI K, 7, .inl (fun _ => 0))), (q127, .inl (kI K, 1024, .inl (fun _ => 0))), (q136, .inl (kJ K, 1024, .inr (.inl (fun _ => 0))))] 138 [(0, .ref h0)] [.ref q136, .ref h0]
  refine RZ_putF (pc := 138) hC hin tyX9 tyX9_ok nmX9 inX9 rfl 0 23 rfl (by decide) wf_X9_59 rfl rfl rfl rfl (Nat.le_of_ble_eq_true rfl) (show _ = [(h0, .inr (9, [.ref q7, .ref q15, .ref q23, .ref q31, .ref q39, .ref q47, .ref q55, .ref q63, .int 3, .int 0, .ref q76, .ref q84, .ref q92, .ref q101, .int 0, .int 0, .int 0, .ref q110, .int 0, .int 0, .int 0, .ref q118, .ref q127, .ref q136, .int 0, .null, .null, .null, .int 0, .int 0, .int 0, .int 0, .int 0, .null, .int 0])), (q7, .inl (kI K, 7, .inl (fun _ => 0))), (q15, .inl (kI K, 11, .inl (fun _ => 0))), (q23, .inl (kI K, 11, .inl (fun _ => 0))), (q31, .inl (kI K, 11, .inl (fun _ => 0))), (q39, .inl (kI K, 11, .inl (fun _ => 0))), (q47, .inl (kI K, 11, .inl (fun _ => 0))), (q55, .inl (kI K, 11, .inl (fun _ => 0))), (q63, .inl (kI K, 11, .inl (fun _ => 0))), (q76, .inl (kI K, 72, .inl (fun _ => 0))), (q84, .inl (kI K, 36, .inl (fun _ => 0))), (q92, .inl (kI K, 36, .inl (fun _ => 0))), (q101, .inl (kI K, 216, .inl (fun _ => 0))), (q110, .inl (kI K, 200, .inl (fun _ => 0))), (q118, .inl (kI K, 7, .inl (fun _ => 0))), (q127, .inl (kI K, 1024, .inl (fun _ => 0))), (q136, .inl (kJ K, 1024, .inr (.inl (fun _ => 0))))] from rfl) dX9_init_138 ?_
  refine RZ_aload_n (pc := 141) hC 0 dX9_init_141 rfl rfl ?_
  refine RZ_bipush (pc := 142) hC dX9_init_142 (v := 10) (by decide) ?_
  refine RZ_newI (pc := 144) hC (N := 10) wa_int (by decide) (by decide) (by decide) hR ?_ ?_ dX9_init_144 (fun q144 => ?_)
  · exact Nat.le_of_ble_eq_true rfl
  · exact Nat.le_of_ble_eq_true rfl
  show RZ K 17 2709 [(h0, .inr (9, [.ref q7, .ref q15, .ref q23, .ref q31, .ref q39, .ref q47, .ref q55, .ref q63, .int 3, .int 0, .ref q76, .ref q84, .ref q92, .ref q101, .int 0, .int 0, .int 0, .ref q110, .int 0, .int 0, .int 0, .ref q118, .ref q127, .ref q136, .int 0, .null, .null, .null, .int 0, .int 0, .int 0, .int 0, .int 0, .null, .int 0])), (q7, .inl (kI K, 7, .inl (fun _ => 0))), (q15, .inl (kI K, 11, .inl (fun _ => 0))), (q23, .inl (kI K, 11, .inl (fun _ => 0))), (q31, .inl (kI K, 11, .inl (fun _ => 0))), (q39, .inl (kI K, 11, .inl (fun _ => 0))), (q47, .inl (kI K, 11, .inl (fun _ => 0))), (q55, .inl (kI K, 11, .inl (fun _ => 0))), (q63, .inl (kI K, 11, .inl (fun _ => 0))), (q76, .inl (kI K, 72, .inl (fun _ => 0))), (q84, .inl (kI K, 36, .inl (fun _ => 0))), (q92, .inl (kI K, 36, .inl (fun _ => 0))), (q101, .inl (kI K, 216, .inl (fun _ => 0))), (q110, .inl (kI K, 200, .inl (fun _ => 0))), (q118, .inl (kI K, 7, .inl (fun _ => 0))), (q127, .inl (kI K, 1024, .inl (fun _ => 0))), (q136, .inl (kJ K, 1024, .inr (.inl (fun _ => 0)))), (q144, .inl (kI K, 10, .inl (fun _ => 0)))] 146 [(0, .ref h0)] [.ref q144, .ref h0]
  refine RZ_putF (pc := 146) hC hin tyX9 tyX9_ok nmX9 inX9 rfl 0 25 rfl (by decide) wf_X9_63 rfl rfl rfl rfl (Nat.le_of_ble_eq_true rfl) (show _ = [(h0, .inr (9, [.ref q7, .ref q15, .ref q23, .ref q31, .ref q39, .ref q47, .ref q55, .ref q63, .int 3, .int 0, .ref q76, .ref q84, .ref q92, .ref q101, .int 0, .int 0, .int 0, .ref q110, .int 0, .int 0, .int 0, .ref q118, .ref q127, .ref q136, .int 0, .ref q144, .null, .null, .int 0, .int 0, .int 0, .int 0, .int 0, .null, .int 0])), (q7, .inl (kI K, 7, .inl (fun _ => 0))), (q15, .inl (kI K, 11, .inl (fun _ => 0))), (q23, .inl (kI K, 11, .inl (fun _ => 0))), (q31, .inl (kI K, 11, .inl (fun _ => 0))), (q39, .inl (kI K, 11, .inl (fun _ => 0))), (q47, .inl (kI K, 11, .inl (fun _ => 0))), (q55, .inl (kI K, 11, .inl (fun _ => 0))), (q63, .inl (kI K, 11, .inl (fun _ => 0))), (q76, .inl (kI K, 72, .inl (fun _ => 0))), (q84, .inl (kI K, 36, .inl (fun _ => 0))), (q92, .inl (kI K, 36, .inl (fun _ => 0))), (q101, .inl (kI K, 216, .inl (fun _ => 0))), (q110, .inl (kI K, 200, .inl (fun _ => 0))), (q118, .inl (kI K, 7, .inl (fun _ => 0))), (q127, .inl (kI K, 1024, .inl (fun _ => 0))), (q136, .inl (kJ K, 1024, .inr (.inl (fun _ => 0)))), (q144, .inl (kI K, 10, .inl (fun _ => 0)))] from rfl) dX9_init_146 ?_
  refine RZ_aload_n (pc := 149) hC 0 dX9_init_149 rfl rfl ?_
  refine RZ_bipush (pc := 150) hC dX9_init_150 (v := 10) (by decide) ?_
  refine RZ_newI (pc := 152) hC (N := 10) wa_int (by decide) (by decide) (by decide) hR ?_ ?_ dX9_init_152 (fun q152 => ?_)
  · exact Nat.le_of_ble_eq_true rfl
  · exact Nat.le_of_ble_eq_true rfl
  show RZ K 18 2719 [(h0, .inr (9, [.ref q7, .ref q15, .ref q23, .ref q31, .ref q39, .ref q47, .ref q55, .ref q63, .int 3, .int 0, .ref q76, .ref q84, .ref q92, .ref q101, .int 0, .int 0, .int 0, .ref q110, .int 0, .int 0, .int 0, .ref q118, .ref q127, .ref q136, .int 0, .ref q144, .null, .null, .int 0, .int 0, .int 0, .int 0, .int 0, .null, .int 0])), (q7, .inl (kI K, 7, .inl (fun _ => 0))), (q15, .inl (kI K, 11, .inl (fun _ => 0))), (q23, .inl (kI K, 11, .inl (fun _ => 0))), (q31, .inl (kI K, 11, .inl (fun _ => 0))), (q39, .inl (kI K, 11, .inl (fun _ => 0))), (q47, .inl (kI K, 11, .inl (fun _ => 0))), (q55, .inl (kI K, 11, .inl (fun _ => 0))), (q63, .inl (kI K, 11, .inl (fun _ => 0))), (q76, .inl (kI K, 72, .inl (fun _ => 0))), (q84, .inl (kI K, 36, .inl (fun _ => 0))), (q92, .inl (kI K, 36, .inl (fun _ => 0))), (q101, .inl (kI K, 216, .inl (fun _ => 0))), (q110, .inl (kI K, 200, .inl (fun _ => 0))), (q118, .inl (kI K, 7, .inl (fun _ => 0))), (q127, .inl (kI K, 1024, .inl (fun _ => 0))), (q136, .inl (kJ K, 1024, .inr (.inl (fun _ => 0)))), (q144, .inl (kI K, 10, .inl (fun _ => 0))), (q152, .inl (kI K, 10, .inl (fun _ => 0)))] 154 [(0, .ref h0)] [.ref q152, .ref h0]
  refine RZ_putF (pc := 154) hC hin tyX9 tyX9_ok nmX9 inX9 rfl 0 26 rfl (by decide) wf_X9_66 rfl rfl rfl rfl (Nat.le_of_ble_eq_true rfl) (show _ = [(h0, .inr (9, [.ref q7, .ref q15, .ref q23, .ref q31, .ref q39, .ref q47, .ref q55, .ref q63, .int 3, .int 0, .ref q76, .ref q84, .ref q92, .ref q101, .int 0, .int 0, .int 0, .ref q110, .int 0, .int 0, .int 0, .ref q118, .ref q127, .ref q136, .int 0, .ref q144, .ref q152, .null, .int 0, .int 0, .int 0, .int 0, .int 0, .null, .int 0])), (q7, .inl (kI K, 7, .inl (fun _ => 0))), (q15, .inl (kI K, 11, .inl (fun _ => 0))), (q23, .inl (kI K, 11, .inl (fun _ => 0))), (q31, .inl (kI K, 11, .inl (fun _ => 0))), (q39, .inl (kI K, 11, .inl (fun _ => 0))), (q47, .inl (kI K, 11, .inl (fun _ => 0))), (q55, .inl (kI K, 11, .inl (fun _ => 0))), (q63, .inl (kI K, 11, .inl (fun _ => 0))), (q76, .inl (kI K, 72, .inl (fun _ => 0))), (q84, .inl (kI K, 36, .inl (fun _ => 0))), (q92, .inl (kI K, 36, .inl (fun _ => 0))), (q101, .inl (kI K, 216, .inl (fun _ => 0))), (q110, .inl (kI K, 200, .inl (fun _ => 0))), (q118, .inl (kI K, 7, .inl (fun _ => 0))), (q127, .inl (kI K, 1024, .inl (fun _ => 0))), (q136, .inl (kJ K, 1024, .inr (.inl (fun _ => 0)))), (q144, .inl (kI K, 10, .inl (fun _ => 0))), (q152, .inl (kI K, 10, .inl (fun _ => 0)))] from rfl) dX9_init_154 ?_
  refine RZ_aload_n (pc := 157) hC 0 dX9_init_157 rfl rfl ?_
  refine RZ_sipush (pc := 158) hC dX9_init_158 (v := 130) (by decide) ?_
  refine RZ_newI (pc := 161) hC (N := 130) wa_int (by decide) (by decide) (by decide) hR ?_ ?_ dX9_init_161 (fun q161 => ?_)
  · exact Nat.le_of_ble_eq_true rfl
  · exact Nat.le_of_ble_eq_true rfl
  show RZ K 19 2849 [(h0, .inr (9, [.ref q7, .ref q15, .ref q23, .ref q31, .ref q39, .ref q47, .ref q55, .ref q63, .int 3, .int 0, .ref q76, .ref q84, .ref q92, .ref q101, .int 0, .int 0, .int 0, .ref q110, .int 0, .int 0, .int 0, .ref q118, .ref q127, .ref q136, .int 0, .ref q144, .ref q152, .null, .int 0, .int 0, .int 0, .int 0, .int 0, .null, .int 0])), (q7, .inl (kI K, 7, .inl (fun _ => 0))), (q15, .inl (kI K, 11, .inl (fun _ => 0))), (q23, .inl (kI K, 11, .inl (fun _ => 0))), (q31, .inl (kI K, 11, .inl (fun _ => 0))), (q39, .inl (kI K, 11, .inl (fun _ => 0))), (q47, .inl (kI K, 11, .inl (fun _ => 0))), (q55, .inl (kI K, 11, .inl (fun _ => 0))), (q63, .inl (kI K, 11, .inl (fun _ => 0))), (q76, .inl (kI K, 72, .inl (fun _ => 0))), (q84, .inl (kI K, 36, .inl (fun _ => 0))), (q92, .inl (kI K, 36, .inl (fun _ => 0))), (q101, .inl (kI K, 216, .inl (fun _ => 0))), (q110, .inl (kI K, 200, .inl (fun _ => 0))), (q118, .inl (kI K, 7, .inl (fun _ => 0))), (q127, .inl (kI K, 1024, .inl (fun _ => 0))), (q136, .inl (kJ K, 1024, .inr (.inl (fun _ => 0)))), (q144, .inl (kI K, 10, .inl (fun _ => 0))), (q152, .inl (kI K, 10, .inl (fun _ => 0))), (q161, .inl (kI K, 130, .inl (fun _ => 0)))] 163 [(0, .ref h0)] [.ref q161, .ref h0]
  refine RZ_putF (pc := 163) hC hin tyX9 tyX9_ok nmX9 inX9 rfl 0 27 rfl (by decide) wf_X9_69 rfl rfl rfl rfl (Nat.le_of_ble_eq_true rfl) (show _ = [(h0, .inr (9, [.ref q7, .ref q15, .ref q23, .ref q31, .ref q39, .ref q47, .ref q55, .ref q63, .int 3, .int 0, .ref q76, .ref q84, .ref q92, .ref q101, .int 0, .int 0, .int 0, .ref q110, .int 0, .int 0, .int 0, .ref q118, .ref q127, .ref q136, .int 0, .ref q144, .ref q152, .ref q161, .int 0, .int 0, .int 0, .int 0, .int 0, .null, .int 0])), (q7, .inl (kI K, 7, .inl (fun _ => 0))), (q15, .inl (kI K, 11, .inl (fun _ => 0))), (q23, .inl (kI K, 11, .inl (fun _ => 0))), (q31, .inl (kI K, 11, .inl (fun _ => 0))), (q39, .inl (kI K, 11, .inl (fun _ => 0))), (q47, .inl (kI K, 11, .inl (fun _ => 0))), (q55, .inl (kI K, 11, .inl (fun _ => 0))), (q63, .inl (kI K, 11, .inl (fun _ => 0))), (q76, .inl (kI K, 72, .inl (fun _ => 0))), (q84, .inl (kI K, 36, .inl (fun _ => 0))), (q92, .inl (kI K, 36, .inl (fun _ => 0))), (q101, .inl (kI K, 216, .inl (fun _ => 0))), (q110, .inl (kI K, 200, .inl (fun _ => 0))), (q118, .inl (kI K, 7, .inl (fun _ => 0))), (q127, .inl (kI K, 1024, .inl (fun _ => 0))), (q136, .inl (kJ K, 1024, .inr (.inl (fun _ => 0)))), (q144, .inl (kI K, 10, .inl (fun _ => 0))), (q152, .inl (kI K, 10, .inl (fun _ => 0))), (q161, .inl (kI K, 130, .inl (fun _ => 0)))] from rfl) dX9_init_163 ?_
  refine RZ_aload_n (pc := 166) hC 0 dX9_init_166 rfl rfl ?_
  refine RZ_bipush (pc := 167) hC dX9_init_167 (v := 10) (by decide) ?_
  refine RZ_newI (pc := 169) hC (N := 10) wa_int (by decide) (by decide) (by decide) hR ?_ ?_ dX9_init_169 (fun q169 => ?_)
  · exact Nat.le_of_ble_eq_true rfl
  · exact Nat.le_of_ble_eq_true rfl
  show RZ K 20 2859 [(h0, .inr (9, [.ref q7, .ref q15, .ref q23, .ref q31, .ref q39, .ref q47, .ref q55, .ref q63, .int 3, .int 0, .ref q76, .ref q84, .ref q92, .ref q101, .int 0, .int 0, .int 0, .ref q110, .int 0, .int 0, .int 0, .ref q118, .ref q127, .ref q136, .int 0, .ref q144, .ref q152, .ref q161, .int 0, .int 0, .int 0, .int 0, .int 0, .null, .int 0])), (q7, .inl (kI K, 7, .inl (fun _ => 0))), (q15, .inl (kI K, 11, .inl (fun _ => 0))), (q23, .inl (kI K, 11, .inl (fun _ => 0))), (q31, .inl (kI K, 11, .inl (fun _ => 0))), (q39, .inl (kI K, 11, .inl (fun _ => 0))), (q47, .inl (kI K, 11, .inl (fun _ => 0))), (q55, .inl (kI K, 11, .inl (fun _ => 0))), (q63, .inl (kI K, 11, .inl (fun _ => 0))), (q76, .inl (kI K, 72, .inl (fun _ => 0))), (q84, .inl (kI K, 36, .inl (fun _ => 0))), (q92, .inl (kI K, 36, .inl (fun _ => 0))), (q101, .inl (kI K, 216, .inl (fun _ => 0))), (q110, .inl (kI K, 200, .inl (fun _ => 0))), (q118, .inl (kI K, 7, .inl (fun _ => 0))), (q127, .inl (kI K, 1024, .inl (fun _ => 0))), (q136, .inl (kJ K, 1024, .inr (.inl (fun _ => 0)))), (q144, .inl (kI K, 10, .inl (fun _ => 0))), (q152, .inl (kI K, 10, .inl (fun _ => 0))), (q161, .inl (kI K, 130, .inl (fun _ => 0))), (q169, .inl (kI K, 10, .inl (fun _ => 0)))] 171 [(0, .ref h0)] [.ref q169, .ref h0]
  refine RZ_putF (pc := 171) hC hin tyX9 tyX9_ok nmX9 inX9 rfl 0 33 rfl (by decide) wf_X9_72 rfl rfl rfl rfl (Nat.le_of_ble_eq_true rfl) (show _ = [(h0, .inr (9, [.ref q7, .ref q15, .ref q23, .ref q31, .ref q39, .ref q47, .ref q55, .ref q63, .int 3, .int 0, .ref q76, .ref q84, .ref q92, .ref q101, .int 0, .int 0, .int 0, .ref q110, .int 0, .int 0, .int 0, .ref q118, .ref q127, .ref q136, .int 0, .ref q144, .ref q152, .ref q161, .int 0, .int 0, .int 0, .int 0, .int 0, .ref q169, .int 0])), (q7, .inl (kI K, 7, .inl (fun _ => 0))), (q15, .inl (kI K, 11, .inl (fun _ => 0))), (q23, .inl (kI K, 11, .inl (fun _ => 0))), (q31, .inl (kI K, 11, .inl (fun _ => 0))), (q39, .inl (kI K, 11, .inl (fun _ => 0))), (q47, .inl (kI K, 11, .inl (fun _ => 0))), (q55, .inl (kI K, 11, .inl (fun _ => 0))), (q63, .inl (kI K, 11, .inl (fun _ => 0))), (q76, .inl (kI K, 72, .inl (fun _ => 0))), (q84, .inl (kI K, 36, .inl (fun _ => 0))), (q92, .inl (kI K, 36, .inl (fun _ => 0))), (q101, .inl (kI K, 216, .inl (fun _ => 0))), (q110, .inl (kI K, 200, .inl (fun _ => 0))), (q118, .inl (kI K, 7, .inl (fun _ => 0))), (q127, .inl (kI K, 1024, .inl (fun _ => 0))), (q136, .inl (kJ K, 1024, .inr (.inl (fun _ => 0)))), (q144, .inl (kI K, 10, .inl (fun _ => 0))), (q152, .inl (kI K, 10, .inl (fun _ => 0))), (q161, .inl (kI K, 130, .inl (fun _ => 0))), (q169, .inl (kI K, 10, .inl (fun _ => 0)))] from rfl) dX9_init_171 ?_
  exact RZ_ret hret [q7, q15, q23, q31, q39, q47, q55, q63, q76, q84, q92, q101, q110, q118, q127, q136, q144, q152, q161, q169] 174 _ rfl dX9_init_174
theorem dX8_init_0 : decode cX8_init 0 = .ok (.aload_n 0, 1) := by decide +kernel
theorem dX8_init_1 : decode cX8_init 1 = .ok (.invokespecial 1, 3) := by decide +kernel
theorem dX8_init_4 : decode cX8_init 4 = .ok (.aload_n 0, 1) := by decide +kernel
theorem dX8_init_5 : decode cX8_init 5 = .ok (.new 7, 3) := by decide +kernel
theorem dX8_init_8 : decode cX8_init 8 = .ok (.dup, 1) := by decide +kernel
theorem dX8_init_9 : decode cX8_init 9 = .ok (.invokespecial 9, 3) := by decide +kernel
theorem dX8_init_12 : decode cX8_init 12 = .ok (.putfield 10, 3) := by decide +kernel
theorem dX8_init_15 : decode cX8_init 15 = .ok (.aload_n 0, 1) := by decide +kernel
theorem dX8_init_16 : decode cX8_init 16 = .ok (.new 7, 3) := by decide +kernel
theorem dX8_init_19 : decode cX8_init 19 = .ok (.dup, 1) := by decide +kernel
theorem dX8_init_20 : decode cX8_init 20 = .ok (.invokespecial 9, 3) := by decide +kernel
theorem dX8_init_23 : decode cX8_init 23 = .ok (.putfield 16, 3) := by decide +kernel
theorem dX8_init_26 : decode cX8_init 26 = .ok (.aload_n 0, 1) := by decide +kernel
theorem dX8_init_27 : decode cX8_init 27 = .ok (.new 7, 3) := by decide +kernel
theorem dX8_init_30 : decode cX8_init 30 = .ok (.dup, 1) := by decide +kernel
theorem dX8_init_31 : decode cX8_init 31 = .ok (.invokespecial 9, 3) := by decide +kernel
theorem dX8_init_34 : decode cX8_init 34 = .ok (.putfield 19, 3) := by decide +kernel
theorem dX8_init_37 : decode cX8_init 37 = .ok (.aload_n 0, 1) := by decide +kernel
theorem dX8_init_38 : decode cX8_init 38 = .ok (.iconst 0, 1) := by decide +kernel
theorem dX8_init_39 : decode cX8_init 39 = .ok (.putfield 22, 3) := by decide +kernel
theorem dX8_init_42 : decode cX8_init 42 = .ok (.aload_n 0, 1) := by decide +kernel
theorem dX8_init_43 : decode cX8_init 43 = .ok (.new 26, 3) := by decide +kernel
theorem dX8_init_46 : decode cX8_init 46 = .ok (.dup, 1) := by decide +kernel
theorem dX8_init_47 : decode cX8_init 47 = .ok (.invokespecial 28, 3) := by decide +kernel
theorem dX8_init_50 : decode cX8_init 50 = .ok (.putfield 29, 3) := by decide +kernel
theorem dX8_init_53 : decode cX8_init 53 = .ok (.aload_n 0, 1) := by decide +kernel
theorem dX8_init_54 : decode cX8_init 54 = .ok (.new 33, 3) := by decide +kernel
theorem dX8_init_57 : decode cX8_init 57 = .ok (.dup, 1) := by decide +kernel
theorem dX8_init_58 : decode cX8_init 58 = .ok (.aload_n 0, 1) := by decide +kernel
theorem dX8_init_59 : decode cX8_init 59 = .ok (.getfield 10, 3) := by decide +kernel
theorem dX8_init_62 : decode cX8_init 62 = .ok (.invokespecial 35, 3) := by decide +kernel
theorem dX8_init_65 : decode cX8_init 65 = .ok (.putfield 38, 3) := by decide +kernel
theorem dX8_init_68 : decode cX8_init 68 = .ok (.aload_n 0, 1) := by decide +kernel
theorem dX8_init_69 : decode cX8_init 69 = .ok (.new 42, 3) := by decide +kernel
theorem dX8_init_72 : decode cX8_init 72 = .ok (.dup, 1) := by decide +kernel
theorem dX8_init_73 : decode cX8_init 73 = .ok (.aload_n 0, 1) := by decide +kernel
theorem dX8_init_74 : decode cX8_init 74 = .ok (.getfield 10, 3) := by decide +kernel
theorem dX8_init_77 : decode cX8_init 77 = .ok (.aload_n 0, 1) := by decide +kernel
theorem dX8_init_78 : decode cX8_init 78 = .ok (.getfield 38, 3) := by decide +kernel
theorem dX8_init_81 : decode cX8_init 81 = .ok (.invokespecial 44, 3) := by decide +kernel
theorem dX8_init_84 : decode cX8_init 84 = .ok (.putfield 47, 3) := by decide +kernel
theorem dX8_init_87 : decode cX8_init 87 = .ok (.aload_n 0, 1) := by decide +kernel
theorem dX8_init_88 : decode cX8_init 88 = .ok (.new 51, 3) := by decide +kernel
theorem dX8_init_91 : decode cX8_init 91 = .ok (.dup, 1) := by decide +kernel
theorem dX8_init_92 : decode cX8_init 92 = .ok (.aload_n 0, 1) := by decide +kernel
theorem dX8_init_93 : decode cX8_init 93 = .ok (.getfield 10, 3) := by decide +kernel
theorem dX8_init_96 : decode cX8_init 96 = .ok (.aload_n 0, 1) := by decide +kernel
theorem dX8_init_97 : decode cX8_init 97 = .ok (.getfield 38, 3) := by decide +kernel
theorem dX8_init_100 : decode cX8_init 100 = .ok (.invokespecial 53, 3) := by decide +kernel
theorem dX8_init_103 : decode cX8_init 103 = .ok (.putfield 54, 3) := by decide +kernel
theorem dX8_init_106 : decode cX8_init 106 = .ok (.aload_n 0, 1) := by decide +kernel
theorem dX8_init_107 : decode cX8_init 107 = .ok (.new 58, 3) := by decide +kernel
theorem dX8_init_110 : decode cX8_init 110 = .ok (.dup, 1) := by decide +kernel
theorem dX8_init_111 : decode cX8_init 111 = .ok (.invokespecial 60, 3) := by decide +kernel
theorem dX8_init_114 : decode cX8_init 114 = .ok (.putfield 61, 3) := by decide +kernel
theorem dX8_init_117 : decode cX8_init 117 = .ok (.aload_n 0, 1) := by decide +kernel
theorem dX8_init_118 : decode cX8_init 118 = .ok (.new 65, 3) := by decide +kernel
theorem dX8_init_121 : decode cX8_init 121 = .ok (.dup, 1) := by decide +kernel
theorem dX8_init_122 : decode cX8_init 122 = .ok (.aload_n 0, 1) := by decide +kernel
theorem dX8_init_123 : decode cX8_init 123 = .ok (.getfield 10, 3) := by decide +kernel
theorem dX8_init_126 : decode cX8_init 126 = .ok (.aload_n 0, 1) := by decide +kernel
theorem dX8_init_127 : decode cX8_init 127 = .ok (.getfield 38, 3) := by decide +kernel
theorem dX8_init_130 : decode cX8_init 130 = .ok (.invokespecial 67, 3) := by decide +kernel
theorem dX8_init_133 : decode cX8_init 133 = .ok (.putfield 68, 3) := by decide +kernel
theorem dX8_init_136 : decode cX8_init 136 = .ok (.aload_n 0, 1) := by decide +kernel
theorem dX8_init_137 : decode cX8_init 137 = .ok (.new 72, 3) := by decide +kernel
theorem dX8_init_140 : decode cX8_init 140 = .ok (.dup, 1) := by decide +kernel
theorem dX8_init_141 : decode cX8_init 141 = .ok (.aload_n 0, 1) := by decide +kernel
theorem dX8_init_142 : decode cX8_init 142 = .ok (.getfield 10, 3) := by decide +kernel
theorem dX8_init_145 : decode cX8_init 145 = .ok (.aload_n 0, 1) := by decide +kernel
theorem dX8_init_146 : decode cX8_init 146 = .ok (.getfield 47, 3) := by decide +kernel
theorem dX8_init_149 : decode cX8_init 149 = .ok (.aload_n 0, 1) := by decide +kernel
theorem dX8_init_150 : decode cX8_init 150 = .ok (.getfield 68, 3) := by decide +kernel
theorem dX8_init_153 : decode cX8_init 153 = .ok (.invokespecial 74, 3) := by decide +kernel
theorem dX8_init_156 : decode cX8_init 156 = .ok (.putfield 77, 3) := by decide +kernel
theorem dX8_init_159 : decode cX8_init 159 = .ok (.aload_n 0, 1) := by decide +kernel
theorem dX8_init_160 : decode cX8_init 160 = .ok (.bipush 7, 2) := by decide +kernel
theorem dX8_init_162 : decode cX8_init 162 = .ok (.newarray .int, 2) := by decide +kernel
theorem dX8_init_164 : decode cX8_init 164 = .ok (.putfield 81, 3) := by decide +kernel
theorem dX8_init_167 : decode cX8_init 167 = .ok (.aload_n 0, 1) := by decide +kernel
theorem dX8_init_168 : decode cX8_init 168 = .ok (.getfield 38, 3) := by decide +kernel
theorem dX8_init_171 : decode cX8_init 171 = .ok (.invokevirtual 85, 3) := by decide +kernel
theorem dX8_init_174 : decode cX8_init 174 = .ok (.aload_n 0, 1) := by decide +kernel
theorem dX8_init_175 : decode cX8_init 175 = .ok (.getfield 47, 3) := by decide +kernel
theorem dX8_init_178 : decode cX8_init 178 = .ok (.invokevirtual 88, 3) := by decide +kernel
theorem dX8_init_181 : decode cX8_init 181 = .ok (.return_, 1) := by decide +kernel
