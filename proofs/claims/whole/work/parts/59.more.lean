section
variable {PM PS : Nat → Nat → Nat} {m : Mem} {V : Vd} {F : Nat}
theorem lane_cases (hV : okV V) (a : Int32) : (∃ l, l < V.2.1 ∧ a = nI l ∧ decide (¬ a < 0 ∧ ¬ nI V.2.1 ≤ a) = true) ∨ decide (¬ a < 0 ∧ ¬ nI V.2.1 ≤ a) = false := by
  have hn := hV.2.2.1
  rcases arg_cases a V.2.1 (by omega) with h0 | ⟨h0, h1⟩ | ⟨l, hl, rfl, h0, h1⟩
  · exact Or.inr (by simp [h0])
  · exact Or.inr (by simp [h1])
  · exact Or.inl ⟨l, hl, rfl, by simp [h0, h1]⟩
theorem x_ruleOf (hV : okV V) {v : Nat} (hx : IX m v V) {l : Nat} (hl : l < V.2.1) : gX6_ruleOf m v (nI l) = some (nI (V.2.2 l 6)) := by
  have hn := hV.2.2.1
  have hM := Nat.lt_of_lt_of_le (mus_lt (V := V)) (pow10 hn)
  have hB := Nat.lt_of_lt_of_le (bar_lt (V := V)) (pow10 hn)
  have r6 := (hV.2.2.2 l hl).2.2.2.2.2.2.2.2
  simp only [gX6_ruleOf, lete]
  rw [hx.2.2.1, hx.2.2.2.1, ite_bitb (by omega) (by omega), ite_bitb (by omega) (by omega)]
  unfold mus bar
  rw [rB_bit, rB_bit]
  have : V.2.2 l 6 = 0 ∨ V.2.2 l 6 = 1 ∨ V.2.2 l 6 = 2 := by omega
  rcases this with e | e | e <;> simp [hl, e] <;> rfl
theorem pu_lane : PU_lane F (Inv PM PS) := by
  rintro m a1 a2 ⟨V, hI⟩
  obtain ⟨hV, hx, hm, -⟩ := id hI
  have hn := hV.2.2.1
  rcases lane_cases hV a1 with ⟨l, hl, rfl, hc⟩ | hc
  · have hx5 := hx.2.2.2.2 l hl
    have i10 : inb (nI l) 10 := inb_nI (by omega) (by omega)
    have i11 : inb (nI l) 11 := inb_nI (by omega) (by omega)
    have m0 : m.1 45 l = nI (V.2.2 l 0) := hm.at (k := 0) hl (by decide)
    have m1 : m.1 46 l = nI (V.2.2 l 1) := hm.at (k := 1) hl (by decide)
    have m2 : m.1 47 l = nI (V.2.2 l 2) := hm.at (k := 2) hl (by decide)
    have m6 : m.1 51 l = nI (V.2.2 l 6) := hm.at (k := 6) hl (by decide)
    have x0 : m.1 2 l = nI (V.2.2 l 0) := hx5.1
    have x1 : m.1 3 l = nI (V.2.2 l 1) := hx5.2.1
    have x2 : m.1 4 l = nI (V.2.2 l 2) := hx5.2.2.1
    have x3 : m.1 5 l = nI (wt (V.2.2 l)) := hx5.2.2.2.1
    have x4 : m.1 6 l = nI (ct (V.2.2 l)) := hx5.2.2.2.2.1
    have x5 : m.1 7 l = nI (dr (V.2.2 l)) := hx5.2.2.2.2.2
    by_cases hq : a2 = 0 ∨ a2 = 1 ∨ a2 = 2 ∨ a2 = 3 ∨ a2 = 4 ∨ a2 = 5 ∨ a2 = 6
    · have hcl : Int32.toNatClampNeg (nI l) = l := nI_clamp (by omega)
      have hcx : gX6_hasLane m 1 (nI l) = some true := by rw [x_hasLane hV hx, hc]
      have hcm : gX9_isLane m (nI l) = some true := by rw [m_isLane hV hm, hc]
      rcases hq with rfl | rfl | rfl | rfl | rfl | rfl | rfl
      · exact ⟨nI (V.2.2 l 0), m, m, by simp [gX8_lane, hcx, chk_pos i10, x_ruleOf hV hx hl, hcl, x0, x1, x2, x3, x4, x5] , by simp [gX9_lane, hcm, chk_pos i11, m_weightOf hV hm hl, m_costOf hV hm hl, m_driftOf hV hm hl, hcl, m0, m1, m2, m6], V, hI⟩
      · exact ⟨nI (V.2.2 l 1), m, m, by simp [gX8_lane, hcx, chk_pos i10, x_ruleOf hV hx hl, hcl, x0, x1, x2, x3, x4, x5] , by simp [gX9_lane, hcm, chk_pos i11, m_weightOf hV hm hl, m_costOf hV hm hl, m_driftOf hV hm hl, hcl, m0, m1, m2, m6], V, hI⟩
      · exact ⟨nI (V.2.2 l 2), m, m, by simp [gX8_lane, hcx, chk_pos i10, x_ruleOf hV hx hl, hcl, x0, x1, x2, x3, x4, x5] , by simp [gX9_lane, hcm, chk_pos i11, m_weightOf hV hm hl, m_costOf hV hm hl, m_driftOf hV hm hl, hcl, m0, m1, m2, m6], V, hI⟩
      · exact ⟨nI (wt (V.2.2 l)), m, m, by simp [gX8_lane, hcx, chk_pos i10, x_ruleOf hV hx hl, hcl, x0, x1, x2, x3, x4, x5] , by simp [gX9_lane, hcm, chk_pos i11, m_weightOf hV hm hl, m_costOf hV hm hl, m_driftOf hV hm hl, hcl, m0, m1, m2, m6], V, hI⟩
      · exact ⟨nI (ct (V.2.2 l)), m, m, by simp [gX8_lane, hcx, chk_pos i10, x_ruleOf hV hx hl, hcl, x0, x1, x2, x3, x4, x5] , by simp [gX9_lane, hcm, chk_pos i11, m_weightOf hV hm hl, m_costOf hV hm hl, m_driftOf hV hm hl, hcl, m0, m1, m2, m6], V, hI⟩
      · exact ⟨nI (dr (V.2.2 l)), m, m, by simp [gX8_lane, hcx, chk_pos i10, x_ruleOf hV hx hl, hcl, x0, x1, x2, x3, x4, x5] , by simp [gX9_lane, hcm, chk_pos i11, m_weightOf hV hm hl, m_costOf hV hm hl, m_driftOf hV hm hl, hcl, m0, m1, m2, m6], V, hI⟩
      · exact ⟨nI (V.2.2 l 6), m, m, by simp [gX8_lane, hcx, chk_pos i10, x_ruleOf hV hx hl, hcl, x0, x1, x2, x3, x4, x5] , by simp [gX9_lane, hcm, chk_pos i11, m_weightOf hV hm hl, m_costOf hV hm hl, m_driftOf hV hm hl, hcl, m0, m1, m2, m6], V, hI⟩
    · obtain ⟨r1, r2, r3⟩ := refI hI 2 (by decide) (by decide) (Sm.rf _)
      simp only [not_or] at hq
      obtain ⟨q0, q1, q2, q3, q4, q5, q6⟩ := hq
      refine ⟨-nI 2, mu m 42 2 (m.1 42 2 + 1), _, ?_, ?_, r3⟩
      · simp only [gX8_lane, x_hasLane hV hx, hc, Option.bind_some, if_true, q0, q1, q2, q3, q4, q5, q6, if_false]
        rw [show (-2 : Int32) = -nI 2 from rfl, r1]; rfl
      · simp only [gX9_lane, m_isLane hV (sm42 hm rfl), hc, Option.bind_some, if_true, q0, q1, q2, q3, q4, q5, q6, if_false]
        rw [show (-2 : Int32) = -nI 2 from rfl, r2]; rfl
  · obtain ⟨r1, r2, r3⟩ := refI hI 1 (by decide) (by decide) (Sm.rf _)
    refine ⟨-nI 1, mu m 42 1 (m.1 42 1 + 1), _, ?_, ?_, r3⟩
    · simp only [gX8_lane, x_hasLane hV hx, hc, Option.bind_some, Bool.false_eq_true, if_false]
      rw [show (-1 : Int32) = -nI 1 from rfl, r1]; rfl
    · simp only [gX9_lane, m_isLane hV (sm42 hm rfl), hc, Option.bind_some, Bool.false_eq_true, if_false]
      rw [show (-1 : Int32) = -nI 1 from rfl, r2]; rfl
theorem bitCount_ok : ∀ s, s < 1024 → gJ6_bitCount (nI s) = some (nI (pcn s 31)) := by decide +kernel
theorem isW_cases (hV : okV V) (a : Int32) : (∃ s, s < 2 ^ V.2.1 ∧ a = nI s) ∨ ¬ (a &&& (nI (2 ^ V.2.1 - 1) ^^^ (-1))) = 0 := by
  by_cases hq : (a &&& (nI (2 ^ V.2.1 - 1) ^^^ (-1))) = 0
  · exact Or.inl (set_of hV.2.2.1 hq)
  · exact Or.inr hq
/-- whether an argument is a way, on both sides -/
theorem way_both (hF : 2000 ≤ F) (hV : okV V) (hx : IX m 1 V) (hj : IJ m V) (a : Int32) : ∃ b : Bool, gX2_isWay m a = some b ∧ (∀ m2, IM m2 V → ∃ m3, gX9_isWay F m2 a = some (b, m3) ∧ E57 m2 m3) ∧ (b = true → ∃ s, s < 2 ^ V.2.1 ∧ a = nI s ∧ isW V s = true) := by
  rcases isW_cases hV a with ⟨s, hs, rfl⟩ | hq
  · exact ⟨isW V s, x_isWay hV hx hj hs, fun m2 hm2 => m_isWay hF hV hm2 hs, fun h => ⟨s, hs, rfl, h⟩⟩
  · exact ⟨false, x_isWayNot hV hx hq, fun m2 hm2 => ⟨m2, m_isWayNot hV hm2 hq, E57.rf _⟩, fun h => by cases h⟩
theorem pu_nights (hF : 2000 ≤ F) : PU_nights F (Inv PM PS) := by
  rintro m a1 a2 ⟨V, hI⟩
  obtain ⟨hV, hx, hm, hj, -⟩ := id hI
  obtain ⟨b1, p1, p2, p3⟩ := way_both hF hV hx hj a1
  obtain ⟨b2, q1, q2, q3⟩ := way_both hF hV hx hj a2
  cases b1 with
  | false =>
    obtain ⟨m3, s1, s2⟩ := p2 (mu m 42 3 (m.1 42 3 + 1)) (sm42 hm rfl)
    obtain ⟨r1, r2, r3⟩ := refI hI 3 (by decide) (by decide) s2.sm
    refine ⟨-nI 3, mu m 42 3 (m.1 42 3 + 1), _, ?_, ?_, r3⟩
    · simp only [gX8_nights, p1, Option.bind_some, Bool.false_eq_true, if_false]
      rw [show (-3 : Int32) = -nI 3 from rfl, r1]; rfl
    · simp only [gX9_nights, s1, Option.bind_some, Bool.false_eq_true, if_false]
      rw [show (-3 : Int32) = -nI 3 from rfl, r2]; rfl
  | true =>
    cases b2 with
    | false =>
      obtain ⟨m3, s1, s2⟩ := p2 (mu m 42 3 (m.1 42 3 + 1)) (sm42 hm rfl)
      obtain ⟨m4, t1, t2⟩ := q2 m3 (s2.im (sm42 hm rfl))
      obtain ⟨r1, r2, r3⟩ := refI hI 3 (by decide) (by decide) (s2.tr t2).sm
      refine ⟨-nI 3, mu m 42 3 (m.1 42 3 + 1), _, ?_, ?_, r3⟩
      · simp only [gX8_nights, p1, q1, Option.bind_some, Bool.false_eq_true, if_false, if_true]
        rw [show (-3 : Int32) = -nI 3 from rfl, r1]; rfl
      · simp only [gX9_nights, s1, t1, Option.bind_some, Bool.false_eq_true, if_false, if_true]
        rw [show (-3 : Int32) = -nI 3 from rfl, r2]; rfl
    | true =>
      obtain ⟨s, hs, rfl, -⟩ := p3 rfl
      obtain ⟨t, ht, rfl, -⟩ := q3 rfl
      obtain ⟨m3, s1, s2⟩ := p2 m hm
      obtain ⟨m4, t1, t2⟩ := q2 m3 (s2.im hm)
      have hb : wo s t < 1024 := Nat.lt_of_lt_of_le (wo_lt hs) (pow10 hV.2.2.1)
      refine ⟨nI (pcn (wo s t) 31), m, m4, ?_, ?_, V, hI.sm (s2.tr t2).sm⟩
      · simp only [gX8_nights, p1, q1, Option.bind_some, if_true, woI, bitCount_ok _ hb]
      · simp only [gX9_nights, s1, t1, Option.bind_some, if_true, woI, m_bits hF (show wo s t < 2 ^ 31 by omega)]
/-! lanes in all ways, in none -/
theorem fold_take {L : List Nat} {i s : Nat} (op : Int32 → Nat → Int32) (z : Int32) (h : L[i]? = some s) : (L.take (i + 1)).foldl op z = op ((L.take i).foldl op z) s := by rw [take1 h, List.foldl_append]; rfl
theorem x_and (hF : 2000 ≤ F) (hV : okV V) (hw : IW m V) (z : Int32) : iter F (bX7_lanesInAll_21 m) (z, 0) = some ((ways V).foldl (fun a s => a &&& nI s) z, nI (ways V).length) := by
  have hl := ways_le hV
  have q := iter_at (F := F) (f := bX7_lanesInAll_21 m) (fun i => (((ways V).take i).foldl (fun a s => a &&& nI s) z, nI i)) (ways V).length ((ways V).foldl (fun a s => a &&& nI s) z, nI (ways V).length) (fun i hi => ?_) ?_ (by omega)
  · exact q
  · obtain ⟨s, hs⟩ := ways_at (V := V) hi
    simp only [bX7_lanesInAll_21, lete]
    rw [hw.1, ite_leN (by omega) (by omega), if_neg (by omega), show (252 : Int32) = nI 252 from rfl, ite_leN (by omega) (by omega), if_neg (by omega), chk_pos (inb_nI (by omega) (by omega)), nI_clamp (by omega), (hw.2 i s hs).1, nI_1, fold_take _ _ hs]
  · simp only [bX7_lanesInAll_21]
    rw [hw.1, ite_leN (by omega) (by omega), if_pos (Nat.le_refl _), List.take_length]
theorem x_and2 (hF : 2000 ≤ F) (hV : okV V) (hw : IW m V) (z : Int32) : iter F (bX7_lanesInAll_21_11 m) (z, 0) = some ((ways V).foldl (fun a s => a &&& nI s) z, nI (ways V).length) := by
  have e : bX7_lanesInAll_21_11 m = bX7_lanesInAll_21 m := rfl
  rw [e]; exact x_and hF hV hw z
theorem m_and (hF : 2000 ≤ F) (hV : okV V) (hw : FW m V (ways V)) (z : Int32) : iter F (bX9_inAll_22 m) (z, 0) = some ((ways V).foldl (fun a s => a &&& nI s) z, nI (ways V).length) := by
  have hl := ways_le hV
  have q := iter_at (F := F) (f := bX9_inAll_22 m) (fun i => (((ways V).take i).foldl (fun a s => a &&& nI s) z, nI i)) (ways V).length ((ways V).foldl (fun a s => a &&& nI s) z, nI (ways V).length) (fun i hi => ?_) ?_ (by omega)
  · exact q
  · obtain ⟨s, hs⟩ := ways_at (V := V) hi
    simp only [bX9_inAll_22, lete]
    rw [hw.1, ite_leN (by omega) (by omega), if_neg (by omega), chk_pos (inb_nI (by omega) (by omega)), nI_clamp (by omega), (hw.2 i s hs).1, nI_1, fold_take _ _ hs]
  · simp only [bX9_inAll_22]
    rw [hw.1, ite_leN (by omega) (by omega), if_pos (Nat.le_refl _), List.take_length]
theorem m_and2 (hF : 2000 ≤ F) (hV : okV V) (hw : FW m V (ways V)) (z : Int32) : iter F (bX9_inAll_22_12 m) (z, 0) = some ((ways V).foldl (fun a s => a &&& nI s) z, nI (ways V).length) := by
  have e : bX9_inAll_22_12 m = bX9_inAll_22 m := rfl
  rw [e]; exact m_and hF hV hw z
theorem pu_inAll (hF : 2000 ≤ F) : PU_inAll F (Inv PM PS) := by
  rintro m ⟨V, hI⟩
  obtain ⟨hV, hx, hm, hj, hw, -⟩ := id hI
  obtain ⟨m', g1, g2, g3⟩ := m_findWays hF hV hm
  have hl := ways_le hV
  refine ⟨if (ways V).length = 0 then (ways V).foldl (fun a s => a &&& nI s) 0 else (ways V).foldl (fun a s => a &&& nI s) (nI (2 ^ V.2.1 - 1)), m', ?_, ?_, V, hI.sm g2.sm⟩
  · simp only [gX8_inAll, gX7_lanesInAll, hw.1, x_allLanes hV hx, Option.bind_some, x_and hF hV hw, x_and2 hF hV hw]
    rw [show (0 : Int32) = nI 0 from rfl, ite_eqN (by omega) (by omega)]
    split <;> rfl
  · simp only [gX9_inAll, g1, g3.1, m_allLanes hV (g2.im hm), Option.bind_some, m_and hF hV g3, m_and2 hF hV g3]
    rw [show (0 : Int32) = nI 0 from rfl, ite_eqN (by omega) (by omega)]
    split <;> rfl
theorem x_nand (hF : 2000 ≤ F) (hV : okV V) (hw : IW m V) (z : Int32) : iter F (bX7_lanesInNone_10 m) (z, 0) = some ((ways V).foldl (fun a s => a &&& (nI s ^^^ (-1))) z, nI (ways V).length) := by
  have hl := ways_le hV
  have q := iter_at (F := F) (f := bX7_lanesInNone_10 m) (fun i => (((ways V).take i).foldl (fun a s => a &&& (nI s ^^^ (-1))) z, nI i)) (ways V).length ((ways V).foldl (fun a s => a &&& (nI s ^^^ (-1))) z, nI (ways V).length) (fun i hi => ?_) ?_ (by omega)
  · exact q
  · obtain ⟨s, hs⟩ := ways_at (V := V) hi
    simp only [bX7_lanesInNone_10, lete]
    rw [hw.1, ite_leN (by omega) (by omega), if_neg (by omega), show (252 : Int32) = nI 252 from rfl, ite_leN (by omega) (by omega), if_neg (by omega), chk_pos (inb_nI (by omega) (by omega)), nI_clamp (by omega), (hw.2 i s hs).1, nI_1, fold_take _ _ hs]
  · simp only [bX7_lanesInNone_10]
    rw [hw.1, ite_leN (by omega) (by omega), if_pos (Nat.le_refl _), List.take_length]
theorem m_nand (hF : 2000 ≤ F) (hV : okV V) (hw : FW m V (ways V)) (z : Int32) : iter F (bX9_inNone_11 m) (z, 0) = some ((ways V).foldl (fun a s => a &&& (nI s ^^^ (-1))) z, nI (ways V).length) := by
  have hl := ways_le hV
  have q := iter_at (F := F) (f := bX9_inNone_11 m) (fun i => (((ways V).take i).foldl (fun a s => a &&& (nI s ^^^ (-1))) z, nI i)) (ways V).length ((ways V).foldl (fun a s => a &&& (nI s ^^^ (-1))) z, nI (ways V).length) (fun i hi => ?_) ?_ (by omega)
  · exact q
  · obtain ⟨s, hs⟩ := ways_at (V := V) hi
    simp only [bX9_inNone_11, lete]
    rw [hw.1, ite_leN (by omega) (by omega), if_neg (by omega), chk_pos (inb_nI (by omega) (by omega)), nI_clamp (by omega), (hw.2 i s hs).1, nI_1, fold_take _ _ hs]
  · simp only [bX9_inNone_11]
    rw [hw.1, ite_leN (by omega) (by omega), if_pos (Nat.le_refl _), List.take_length]
theorem pu_inNone (hF : 2000 ≤ F) : PU_inNone F (Inv PM PS) := by
  rintro m ⟨V, hI⟩
  obtain ⟨hV, hx, hm, hj, hw, -⟩ := id hI
  obtain ⟨m', g1, g2, g3⟩ := m_findWays hF hV hm
  refine ⟨(ways V).foldl (fun a s => a &&& (nI s ^^^ (-1))) (nI (2 ^ V.2.1 - 1)), m', ?_, ?_, V, hI.sm g2.sm⟩
  · simp only [gX8_inNone, gX7_lanesInNone, x_allLanes hV hx, Option.bind_some, x_nand hF hV hw]
  · simp only [gX9_inNone, g1, m_allLanes hV (g2.im hm), Option.bind_some, m_nand hF hV g3]
/-! likely, pair -/
theorem isPart_ok (p : Int32) : gX8_isPart p = some (decide (p = 0 ∨ p = 1)) ∧ gX9_isIn p 0 1 = some (decide (p = 0 ∨ p = 1)) := by
  unfold gX8_isPart gX9_isIn
  rcases arg_cases p 2 (by decide) with h0 | ⟨h0, h1⟩ | ⟨l, hl, rfl, h0, h1⟩
  · have a : ¬ p = 0 := fun e => by subst e; exact absurd h0 (by decide)
    have b : ¬ p = 1 := fun e => by subst e; exact absurd h0 (by decide)
    simp [h0, a, b]
  · have a : ¬ p = 0 := fun e => by subst e; exact absurd h1 (by decide)
    have b : ¬ p = 1 := fun e => by subst e; exact absurd h1 (by decide)
    have c : (1 : Int32) < p := by
      rw [Int32.lt_iff_toInt_lt]
      rw [Int32.le_iff_toInt_le, nI_toInt (by omega)] at h1
      have : (1 : Int32).toInt = 1 := by decide
      omega
    simp [h0, a, b, c]
  · have : l = 0 ∨ l = 1 := by omega
    rcases this with rfl | rfl
    · decide
    · decide
theorem EW.frame {m m' : Mem} (h : EW m m') : Sm m m' := h.sm
theorem share_both (hF : 2000 ≤ F) (hI : IAll PM PS m V) {a : Nat} (ha : a < 2 ^ 31) {p : Int32} (hp : decide (p = 0 ∨ p = 1) = true) : ∃ (r : Int64) (m1 m2 : Mem), gX8_likelyAll F m (nI a) p = some (r, m1) ∧ (m1 = m ∨ m1 = mu m 42 3 (m.1 42 3 + 1)) ∧ gX9_share F m1 (nI a) p = some (r, m2) ∧ Inv PM PS m2 := by
  obtain ⟨hV, hx, hm, hj, hw, -⟩ := id hI
  have hl := ways_le hV
  by_cases h0 : (ways V).length = 0
  · obtain ⟨m', g1, g2, g3⟩ := m_findWays hF hV (m := mu m 42 3 (m.1 42 3 + 1)) (sm42 hm rfl)
    obtain ⟨r1, r2, r3⟩ := refL hI 3 (by decide) (by decide) g2.sm
    refine ⟨4000000000000000000 - (-nI 3).toInt64, mu m 42 3 (m.1 42 3 + 1), _, ?_, Or.inr rfl, ?_, r3⟩
    · simp only [gX8_likelyAll, (isPart_ok p).1, hp, Option.bind_some, if_true, hw.1, h0]
      rw [show nI 0 = (0 : Int32) from rfl, if_pos rfl, show (-3 : Int32) = -nI 3 from rfl, r1]; rfl
    · simp only [gX9_share, g1, Option.bind_some, g3.1, h0]
      rw [show nI 0 = (0 : Int32) from rfl, if_pos rfl, show (-3 : Int32) = -nI 3 from rfl, r2]; rfl
  · obtain ⟨m', g1, g2, g3⟩ := m_findWays hF hV hm
    have hn : ¬ nI (ways V).length = 0 := by rw [show (0 : Int32) = nI 0 from rfl, eq_nI (by omega) (by omega)]; exact h0
    have b1 := smw_ways hV (fun s => decide (s &&& a = a))
    have b2 := smw_ways hV (fun _ => true)
    have b3 : 0 < smw (fun _ => true) (wrt V) (ways V) := by
      obtain ⟨s, r, hr⟩ : ∃ s r, ways V = s :: r := by
        cases hq : ways V with
        | nil => rw [hq] at h0; exact absurd rfl h0
        | cons s r => exact ⟨s, r, rfl⟩
      rw [hr]
      have : 1 ≤ wrt V s := by
        have hw1 : ∀ k, k ≤ V.2.1 → 1 ≤ wth V.2.2 s k := fun k => by
          induction k with
          | zero => intro _; exact Nat.le_refl 1
          | succ k ih =>
            intro hk
            have h1 := ih (by omega)
            have h2 := (hV.wt (l := k) (by omega)).1
            simp only [wth]
            split
            · exact Nat.mul_le_mul h1 h2
            · omega
        exact hw1 V.2.1 (Nat.le_refl _)
      simp only [smw, if_true]
      omega
    obtain ⟨e1, e2⟩ := both_least hF (a := smw (fun s => decide (s &&& a = a)) (wrt V) (ways V)) (b := smw (fun _ => true) (wrt V) (ways V)) (by omega) (by omega) b3 p
    refine ⟨lN (if p = 0 then smw (fun s => decide (s &&& a = a)) (wrt V) (ways V) / Nat.gcd (smw (fun s => decide (s &&& a = a)) (wrt V) (ways V)) (smw (fun _ => true) (wrt V) (ways V)) else smw (fun _ => true) (wrt V) (ways V) / Nat.gcd (smw (fun s => decide (s &&& a = a)) (wrt V) (ways V)) (smw (fun _ => true) (wrt V) (ways V))), m, m', ?_, Or.inl rfl, ?_, V, hI.sm g2.sm⟩
    · simp only [gX8_likelyAll, (isPart_ok p).1, hp, Option.bind_some, if_true, hw.1, hn, if_false, x_worthWith hF hV hw ha, x_sum0 hF hV hw, e1]
    · simp only [gX9_share, g1, Option.bind_some, g3.1, hn, if_false, m_sumA hF hV g3 ha, m_sum0 hF hV g3, e2]
theorem pu_likely (hF : 2000 ≤ F) : PU_likely F (Inv PM PS) := by
  rintro m a1 a2 ⟨V, hI⟩
  obtain ⟨hV, hx, hm, -⟩ := id hI
  have hn := hV.2.2.1
  rcases lane_cases hV a1 with ⟨l, hl, rfl, hc⟩ | hc
  · cases hp : decide (a2 = 0 ∨ a2 = 1) with
    | true =>
      have hlt : 2 ^ l < 2 ^ 31 := Nat.pow_lt_pow_right (by decide) (by omega)
      obtain ⟨r, m1, m2, k1, k2, k3, k4⟩ := share_both hF hI hlt hp
      have hm1 : IM m1 V := by rcases k2 with rfl | rfl; exact hm; exact sm42 hm rfl
      refine ⟨r, m1, m2, ?_, ?_, k4⟩
      · simp only [gX8_likely, x_hasLane hV hx, hc, Option.bind_some, if_true, sh1 (show l < 31 by omega), k1]
      · simp only [gX9_likely, m_isLane hV hm1, hc, Option.bind_some, if_true, (isPart_ok a2).2, hp, sh1 (show l < 31 by omega), k3]
    | false =>
      obtain ⟨r1, r2, r3⟩ := refL hI 2 (by decide) (by decide) (Sm.rf _)
      refine ⟨4000000000000000000 - (-nI 2).toInt64, mu m 42 2 (m.1 42 2 + 1), _, ?_, ?_, r3⟩
      · simp only [gX8_likely, x_hasLane hV hx, hc, Option.bind_some, if_true, gX8_likelyAll, (isPart_ok a2).1, hp, Bool.false_eq_true, if_false]
        rw [show (-2 : Int32) = -nI 2 from rfl, r1]; rfl
      · simp only [gX9_likely, m_isLane hV (sm42 hm rfl), hc, Option.bind_some, if_true, (isPart_ok a2).2, hp, Bool.false_eq_true, if_false]
        rw [show (-2 : Int32) = -nI 2 from rfl, r2]; rfl
  · obtain ⟨r1, r2, r3⟩ := refL hI 1 (by decide) (by decide) (Sm.rf _)
    refine ⟨4000000000000000000 - (-nI 1).toInt64, mu m 42 1 (m.1 42 1 + 1), _, ?_, ?_, r3⟩
    · simp only [gX8_likely, x_hasLane hV hx, hc, Option.bind_some, Bool.false_eq_true, if_false]
      rw [show (-1 : Int32) = -nI 1 from rfl, r1]; rfl
    · simp only [gX9_likely, m_isLane hV (sm42 hm rfl), hc, Option.bind_some, Bool.false_eq_true, if_false]
      rw [show (-1 : Int32) = -nI 1 from rfl, r2]; rfl
theorem pu_pair (hF : 2000 ≤ F) : PU_pair F (Inv PM PS) := by
  rintro m a1 a2 a3 ⟨V, hI⟩
  obtain ⟨hV, hx, hm, -⟩ := id hI
  have hn := hV.2.2.1
  rcases lane_cases hV a1 with ⟨l, hl, rfl, hc⟩ | hc
  · rcases lane_cases hV a2 with ⟨k, hk, rfl, hd⟩ | hd
    · cases hp : decide (a3 = 0 ∨ a3 = 1) with
      | true =>
        have hlt : 2 ^ l < 2 ^ 31 := Nat.pow_lt_pow_right (by decide) (by omega)
        have hkt : 2 ^ k < 2 ^ 31 := Nat.pow_lt_pow_right (by decide) (by omega)
        have hor : 2 ^ l ||| 2 ^ k < 2 ^ 31 := Nat.or_lt_two_pow hlt hkt
        obtain ⟨r, m1, m2, k1, k2, k3, k4⟩ := share_both hF hI hor hp
        have hm1 : IM m1 V := by rcases k2 with rfl | rfl; exact hm; exact sm42 hm rfl
        refine ⟨r, m1, m2, ?_, ?_, k4⟩
        · simp only [gX8_pair, x_hasLane hV hx, hc, hd, Option.bind_some, if_true, sh1 (show l < 31 by omega), sh1 (show k < 31 by omega), orI, k1]
        · simp only [gX9_pair, m_isLane hV hm1, hc, hd, Option.bind_some, if_true, (isPart_ok a3).2, hp, sh1 (show l < 31 by omega), sh1 (show k < 31 by omega), orI, k3]
      | false =>
        obtain ⟨r1, r2, r3⟩ := refL hI 2 (by decide) (by decide) (Sm.rf _)
        refine ⟨4000000000000000000 - (-nI 2).toInt64, mu m 42 2 (m.1 42 2 + 1), _, ?_, ?_, r3⟩
        · simp only [gX8_pair, x_hasLane hV hx, hc, hd, Option.bind_some, if_true, gX8_likelyAll, (isPart_ok a3).1, hp, Bool.false_eq_true, if_false]
          rw [show (-2 : Int32) = -nI 2 from rfl, r1]; rfl
        · simp only [gX9_pair, m_isLane hV (sm42 hm rfl), hc, hd, Option.bind_some, if_true, (isPart_ok a3).2, hp, Bool.false_eq_true, if_false]
          rw [show (-2 : Int32) = -nI 2 from rfl, r2]; rfl
    · obtain ⟨r1, r2, r3⟩ := refL hI 1 (by decide) (by decide) (Sm.rf _)
      refine ⟨4000000000000000000 - (-nI 1).toInt64, mu m 42 1 (m.1 42 1 + 1), _, ?_, ?_, r3⟩
      · simp only [gX8_pair, x_hasLane hV hx, hc, hd, Option.bind_some, if_true, Bool.false_eq_true, if_false]
        rw [show (-1 : Int32) = -nI 1 from rfl, r1]; rfl
      · simp only [gX9_pair, m_isLane hV (sm42 hm rfl), hc, hd, Option.bind_some, if_true, Bool.false_eq_true, if_false]
        rw [show (-1 : Int32) = -nI 1 from rfl, r2]; rfl
  · obtain ⟨r1, r2, r3⟩ := refL hI 1 (by decide) (by decide) (Sm.rf _)
    refine ⟨4000000000000000000 - (-nI 1).toInt64, mu m 42 1 (m.1 42 1 + 1), _, ?_, ?_, r3⟩
    · simp only [gX8_pair, x_hasLane hV hx, hc, Option.bind_some, Bool.false_eq_true, if_false]
      rw [show (-1 : Int32) = -nI 1 from rfl, r1]; rfl
    · simp only [gX9_pair, m_isLane hV (sm42 hm rfl), hc, Option.bind_some, Bool.false_eq_true, if_false]
      rw [show (-1 : Int32) = -nI 1 from rfl, r2]; rfl
end
