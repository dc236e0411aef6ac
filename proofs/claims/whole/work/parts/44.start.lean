/-- the memory when both objects are made -/
def m00 (mX : Mem) : Mem := (fun j => if j < 43 then mX.1 j else if j = 43 then (fun k => if k = 8 then 3 else 0) else fun _ => 0, fun _ _ => 0)
def adr (q0 q1 b : Nat) (qs qs1 : List Nat) : Nat → Nat := fun j => if j < 43 then (q0 :: qs).getD j 0 else if j < 64 then (q1 :: qs1).getD (j - 43) 0 else b
theorem arr_known {s : State} {args : Array Value} {ty : FieldType} (hty : ty = .int ∨ ty = .long) (h : (Cond.arrayClass ty).before args s = true) : ∃ cA : ClassId, ArrOfT s cA ty ∧ va_RA s cA ty := by
  obtain ⟨cA, kA, comp, h1, h2, h3⟩ := Cond.arrayClass_spec h
  refine ⟨cA, fun n z => ⟨fun k h => (by cases h), kA, h2, comp, h3⟩, ?_⟩
  rcases hty with rfl | rfl <;> exact h1
set_option maxHeartbeats 4000000 in
set_option maxRecDepth 20000 in
theorem start_walk {F : Nat} {Inv : Mem → Prop} (hPU : PU F Inv) {mB mX : Mem} (hgb : gX2_build F mX0 = some mB) (hgl : gX7_list F mB = some mX) (hI : Inv (m00 mX)) {K : KX} {b L : Nat} {xs : Nat → Int32} (hL : L ≤ 320) (hC : CL K code RL) (hRm : kR K = room_1) (hLm : kL K = 4) (hX : va_X b L xs (ks K) (ks K).heap) (hbl : b < (ks K).heap.size) (hbA : ¬ kA K b)
    (hend : ∀ (pc : Nat) (la : Array Slot) (H : Heap) (locs : List Loc), va_S (kA K) (ks K).heap H locs → decode code pc = .ok (.ireturn, 1) → W (kp K) (kl K) (ke K) (kR K) (ks K) (km K) (ka K) (kb K) (kM K) (kc K) H locs 64 6578 (kQ K) (F0 (km K) pc la [.int 1])) : RZ K 0 0 [] 0 [(0, .ref b)] [] := by
  refine RZ_new (pc := 0) hC (ci := 8) (fs := [.null, .null, .null, .int 0, .null, .null, .null, .null, .null, .null, .null, .null]) tyX8 tyX8_ok inX8 wcl_L_7 win_X8 wi0_X8 rfl nf_X8 hRm ?_ ?_ dL_law_0 (fun q0 => ?_)
  · exact Nat.le_of_ble_eq_true rfl
  · exact Nat.le_of_ble_eq_true rfl
  show RZ K 1 12 ([] ++ [(q0, .inr (8, [.null, .null, .null, .int 0, .null, .null, .null, .null, .null, .null, .null, .null]))]) 3 [(0, .ref b)] [.ref q0]
  refine RZ_dup (pc := 3) hC dL_law_3 ?_
  refine RZ_ctorI (pc := 4) hC (av := []) (rest := [.ref q0]) (q := q0) hRm [] mfi_X8 wm_L_9 (MC_X8 hgb hgl) rfl rfl rfl (Nat.le_of_ble_eq_true rfl) dL_law_4 (fun qs hq => ?_)
  show RZ K 43 3684 (post_X8 mX (kI K) (kJ K) q0 qs) 7 [(0, .ref b)] [.ref q0]
  refine RZ_astore_n (pc := 7) hC dL_law_7 rfl hLm rfl (show _ = [(1, .ref q0), (0, .ref b)] from rfl) ?_
  refine RZ_new (pc := 8) hC (ci := 9) (fs := [.null, .null, .null, .null, .null, .null, .null, .null, .int 0, .int 0, .null, .null, .null, .null, .int 0, .int 0, .int 0, .null, .int 0, .int 0, .int 0, .null, .null, .null, .int 0, .null, .null, .null, .int 0, .int 0, .int 0, .int 0, .int 0, .null, .int 0]) tyX9 tyX9_ok inX9 wcl_L_10 win_X9 wi0_X9 rfl nf_X9 hRm ?_ ?_ dL_law_8 (fun q1 => ?_)
  · exact Nat.le_of_ble_eq_true rfl
  · exact Nat.le_of_ble_eq_true rfl
  show RZ K 44 3719 (post_X8 mX (kI K) (kJ K) q0 qs ++ [(q1, .inr (9, [.null, .null, .null, .null, .null, .null, .null, .null, .int 0, .int 0, .null, .null, .null, .null, .int 0, .int 0, .int 0, .null, .int 0, .int 0, .int 0, .null, .null, .null, .int 0, .null, .null, .null, .int 0, .int 0, .int 0, .int 0, .int 0, .null, .int 0]))]) 11 [(1, .ref q0), (0, .ref b)] [.ref q1]
  refine RZ_dup (pc := 11) hC dL_law_11 ?_
  refine RZ_ctorI (pc := 12) hC (av := []) (rest := [.ref q1]) (q := q1) hRm (post_X8 mX (kI K) (kJ K) q0 qs) mfi_X9 wm_L_12 MC_X9 rfl rfl rfl (Nat.le_of_ble_eq_true rfl) dL_law_12 (fun qs1 hq1 => ?_)
  show RZ K 64 6578 (post_X8 mX (kI K) (kJ K) q0 qs ++ post_X9 (kI K) (kJ K) q1 qs1) 15 [(1, .ref q0), (0, .ref b)] [.ref q1]
  refine RZ_astore_n (pc := 15) hC dL_law_15 rfl hLm rfl (show _ = [(2, .ref q1), (1, .ref q0), (0, .ref b)] from rfl) ?_
  refine RZ_iconst (pc := 16) hC dL_law_16 ki_0 ?_
  refine RZ_istore_n (pc := 17) hC dL_law_17 rfl hLm rfl (show _ = [(3, .int 0), (2, .ref q1), (1, .ref q0), (0, .ref b)] from rfl) ?_
  refine RZ_toRX hC (fun r _ => r = some (.int 1)) (adr q0 q1 b qs qs1) 64 (m00 mX) (by rfl) (ls' := [(3, .int (nI 0)), (2, .ref 43), (1, .ref 0), (0, .ref 64)]) (by rfl) (st' := []) rfl ⟨by rw [hRm]; exact Nat.le_of_ble_eq_true rfl, by rw [hRm]; exact Nat.le_of_ble_eq_true rfl⟩ ?_ (fun hC2 => ?_)
  · intro hD pc la H locs m r hP hS hG hdg
    subst hG
    exact hend pc la H locs hS hdg
  · exact law_loop hC2 (show 43 ≤ 64 by decide) (Nat.le_refl 64) hLm hRm ⟨hX, hbl, hbA⟩ hL (fun _ => rfl) hPU (L + 1) 0 (by omega) (by omega) (m00 mX) hI
set_option maxHeartbeats 4000000 in
set_option maxRecDepth 20000 in
theorem whole_start_of {F : Nat} {Inv : Mem → Prop} (hPU : PU F Inv) {mB mX : Mem} (hgb : gX2_build F mX0 = some mB) (hgl : gX7_list F mB = some mX) (hI : Inv (m00 mX)) {p : Program} {e : Env} {s : State} {m : MethodId} {below : List Frame} {meth : Method} {c : Code} (l : Launch) {b L : Nat} {xs : Nat → Int32} (hL : L ≤ 320) (C0 : lw_At p s m meth c b L xs) : W p l e room_1 s m #[Value.ref b] below meth c s.heap [] 0 0 (lw_Z below #[Value.ref b] s) (entryFrame m ([Value.ref b] : List Value).toArray 4) := by
  obtain ⟨hx, hb, hr, hml, hown, hts, hX, hbl, hlocks, hgv⟩ := C0
  have htg : ∀ w ∈ gdW, w.before #[Value.ref b] s = true := fun w hw => hts w (List.mem_filter.mp hw).1
  have htn : ∀ w ∈ nsW, va_Nw w s := fun w hw => va_Nw.of (by have h2 : isNest w = true := (List.mem_filter.mp hw).2; cases w <;> first | rfl | (simp [isNest] at h2)) (hts w (List.mem_append_right _ (List.mem_filter.mp hw).1))
  obtain ⟨c0, iS0, hKn0⟩ := u_known (C := RX0) (T := TX0) (N := 8) (n := 8) htg inX0 (htg _ win_X0)
  obtain ⟨c1, iS1, hKn1⟩ := u_known (C := RX1) (T := TX1) (N := 2) (n := 2) htg inX1 (htg _ win_X1)
  obtain ⟨c2, iS2, hKn2⟩ := u_known (C := RX2) (T := TX2) (N := 2) (n := 2) htg inX2 (htg _ win_X2)
  obtain ⟨c3, iS3, hKn3⟩ := u_known (C := RX3) (T := TX3) (N := 2) (n := 2) htg inX3 (htg _ win_X3)
  obtain ⟨c4, iS4, hKn4⟩ := u_known (C := RX4) (T := TX4) (N := 4) (n := 4) htg inX4 (htg _ win_X4)
  obtain ⟨c5, iS5, hKn5⟩ := u_known (C := RX5) (T := TX5) (N := 4) (n := 4) htg inX5 (htg _ win_X5)
  obtain ⟨c6, iS6, hKn6⟩ := u_known (C := RX6) (T := TX6) (N := 10) (n := 10) htg inX6 (htg _ win_X6)
  obtain ⟨c7, iS7, hKn7⟩ := u_known (C := RX7) (T := TX7) (N := 7) (n := 7) htg inX7 (htg _ win_X7)
  obtain ⟨c8, iS8, hKn8⟩ := u_known (C := RX8) (T := TX8) (N := 12) (n := 12) htg inX8 (htg _ win_X8)
  obtain ⟨c9, iS9, hKn9⟩ := u_known (C := RX9) (T := TX9) (N := 35) (n := 35) htg inX9 (htg _ win_X9)
  obtain ⟨dC, dI, hKc⟩ : ∃ (dC : Nat → ClassId) (dI : Nat → Nat → Nat), ∀ (k : Nat) (q : vw_C), vwCl[k]? = some q → u_Kn s q.1 q.2.1 q.2.2 (dC k) (dI k) := by
    refine ⟨fun k => if k = 0 then c0 else if k = 1 then c1 else if k = 2 then c2 else if k = 3 then c3 else if k = 4 then c4 else if k = 5 then c5 else if k = 6 then c6 else if k = 7 then c7 else if k = 8 then c8 else c9, fun k => if k = 0 then iS0 else if k = 1 then iS1 else if k = 2 then iS2 else if k = 3 then iS3 else if k = 4 then iS4 else if k = 5 then iS5 else if k = 6 then iS6 else if k = 7 then iS7 else if k = 8 then iS8 else iS9, ?_⟩
    intro k q hq
    match k, hq with
    | 0, hq => cases hq; exact hKn0
    | 1, hq => cases hq; exact hKn1
    | 2, hq => cases hq; exact hKn2
    | 3, hq => cases hq; exact hKn3
    | 4, hq => cases hq; exact hKn4
    | 5, hq => cases hq; exact hKn5
    | 6, hq => cases hq; exact hKn6
    | 7, hq => cases hq; exact hKn7
    | 8, hq => cases hq; exact hKn8
    | 9, hq => cases hq; exact hKn9
    | k + 10, hq => simp [vwCl] at hq
  obtain ⟨cI, hI1⟩ := arr_known (Or.inl rfl) (htg _ wa_int)
  obtain ⟨cJ, hJ1⟩ := arr_known (Or.inr rfl) (htg _ wa_long)
  have hK : va_K (dC, dI) vwCl [(cI, .int), (cJ, .long)] s := ⟨hKc, fun k q h => by
    match k, h with
    | 0, h => cases h; exact hI1
    | 1, h => cases h; exact hJ1
    | k + 2, h => simp at h⟩
  let K : KX := (p, l, e, room_1, s, m, #[Value.ref b], below, meth, c, 4, (dC, dI), cI, cJ, (fun _ => 0), 0, (fun q : Nat => s.heap.size ≤ q), lw_Z below #[Value.ref b] s, 0, 0)
  have hC : CL K code RL := ⟨hx, hb, hml, hown, htg, htn, hK, fun _ h => h⟩
  have hRm : kR K = room_1 := rfl
  have hLm : kL K = 4 := rfl
  have key : RZ K 0 0 [] 0 [(0, .ref b)] [] := start_walk hPU hgb hgl hI hL hC hRm hLm hX hbl (Nat.not_le.mpr hbl) (fun pc la H locs hS hdg => va_forget (fun q hq => hS.2.2 q hq) (lw_ret hx hb hr hlocks hdg))
  have hl := lv_entry ([.ref b]) (n := 4) (Nat.le_of_ble_eq_true rfl)
  rw [lg_entry_eq]
  exact key s.heap [] _ (fun k q h => by simp at h) ⟨fun i j p q h => by simp at h, fun k q h => by simp at h⟩ va_S.rf hl
