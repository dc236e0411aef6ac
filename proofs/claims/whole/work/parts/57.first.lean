/-! ===== the first methods ===== -/
section
variable {PM PS : Nat → Nat → Nat} {m : Mem} {V : Vd} {F : Nat}
/-- both refuse -/
theorem refI (hI : IAll PM PS m V) (k : Nat) (h1 : 1 ≤ k) (h2 : k ≤ 6) {m2 : Mem} (hs : Sm (mu m 42 k (m.1 42 k + 1)) m2) : gX8_refuse m (-nI k) = some (-nI k, mu m 42 k (m.1 42 k + 1)) ∧ gX9_no m2 (-nI k) = some (-nI k, mu m2 44 k (m2.1 44 k + 1)) ∧ Inv PM PS (mu m2 44 k (m2.1 44 k + 1)) := ⟨ref_x h1 h2, ref_m h1 h2, V, hI.refused rfl hs⟩
theorem refL (hI : IAll PM PS m V) (k : Nat) (h1 : 1 ≤ k) (h2 : k ≤ 6) {m2 : Mem} (hs : Sm (mu m 42 k (m.1 42 k + 1)) m2) : gX8_refuseLong m (-nI k) = some (4000000000000000000 - (-nI k).toInt64, mu m 42 k (m.1 42 k + 1)) ∧ gX9_lowest m2 (-nI k) = some (4000000000000000000 - (-nI k).toInt64, mu m2 44 k (m2.1 44 k + 1)) ∧ Inv PM PS (mu m2 44 k (m2.1 44 k + 1)) := ⟨ref_xl h1 h2, ref_ml h1 h2, V, hI.refused rfl hs⟩
theorem sm42 {j k : Nat} {v : Int32} (hm : IM m V) (hj : j = 42) : IM (mu m j k v) V := hm.sm (by rw [mu_row _ _ (by omega)]) (by rw [mu_row _ _ (by omega)]) (fun k hk => mu_row _ _ (by omega))
theorem pu_is (hF : 2000 ≤ F) : PU_is F (Inv PM PS) := by
  rintro m a1 ⟨V, hI⟩
  obtain ⟨hV, hx, hm, hj, -⟩ := id hI
  by_cases hq : (a1 &&& (nI (2 ^ V.2.1 - 1) ^^^ (-1))) = 0
  · obtain ⟨s, hs, rfl⟩ := set_of hV.2.2.1 hq
    obtain ⟨m', g1, g2⟩ := m_isWay hF hV hm hs
    refine ⟨if isW V s = true then 1 else 0, m, m', ?_, ?_, V, hI.sm g2.sm⟩
    · simp only [gX8_is, x_hasAll hV hx, hq, decide_true, Option.bind_some, if_true, x_isWay hV hx hj hs, gX8_yesNo]
      split <;> rfl
    · simp only [gX9_is, m_areLanes hV hm, hq, decide_true, Option.bind_some, if_true, g1]
      split <;> rfl
  · obtain ⟨r1, r2, r3⟩ := refI hI 1 (by decide) (by decide) (Sm.rf _)
    refine ⟨-nI 1, mu m 42 1 (m.1 42 1 + 1), _, ?_, ?_, r3⟩
    · simp only [gX8_is, x_hasAll hV hx, hq, decide_false, Option.bind_some, Bool.false_eq_true, if_false]
      rw [show (-1 : Int32) = -nI 1 from rfl, r1]; rfl
    · simp only [gX9_is, m_areLanes hV (sm42 hm rfl), hq, decide_false, Option.bind_some, Bool.false_eq_true, if_false]
      rw [show (-1 : Int32) = -nI 1 from rfl, r2]; rfl
theorem pu_hangs (hF : 2000 ≤ F) : PU_hangs F (Inv PM PS) := by
  rintro m a1 ⟨V, hI⟩
  obtain ⟨hV, hx, hm, hj, -⟩ := id hI
  by_cases hq : (a1 &&& (nI (2 ^ V.2.1 - 1) ^^^ (-1))) = 0
  · obtain ⟨s, hs, rfl⟩ := set_of hV.2.2.1 hq
    obtain ⟨m', g1, g2, -⟩ := m_partsOf hF hV hm hs
    refine ⟨if nI (prt V s) = 1 then 1 else 0, m, m', ?_, ?_, V, hI.sm g2.sm⟩
    · simp only [gX8_hangs, x_hasAll hV hx, hq, decide_true, Option.bind_some, if_true, x_partsLeft hV hj hs, gX8_yesNo]
      split <;> rfl
    · simp only [gX9_hangs, m_areLanes hV hm, hq, decide_true, Option.bind_some, if_true, g1]
      split <;> rfl
  · obtain ⟨r1, r2, r3⟩ := refI hI 1 (by decide) (by decide) (Sm.rf _)
    refine ⟨-nI 1, mu m 42 1 (m.1 42 1 + 1), _, ?_, ?_, r3⟩
    · simp only [gX8_hangs, x_hasAll hV hx, hq, decide_false, Option.bind_some, Bool.false_eq_true, if_false]
      rw [show (-1 : Int32) = -nI 1 from rfl, r1]; rfl
    · simp only [gX9_hangs, m_areLanes hV (sm42 hm rfl), hq, decide_false, Option.bind_some, Bool.false_eq_true, if_false]
      rw [show (-1 : Int32) = -nI 1 from rfl, r2]; rfl
theorem pu_parts (hF : 2000 ≤ F) : PU_parts F (Inv PM PS) := by
  rintro m a1 ⟨V, hI⟩
  obtain ⟨hV, hx, hm, hj, -⟩ := id hI
  by_cases hq : (a1 &&& (nI (2 ^ V.2.1 - 1) ^^^ (-1))) = 0
  · obtain ⟨s, hs, rfl⟩ := set_of hV.2.2.1 hq
    obtain ⟨m', g1, g2, -⟩ := m_partsOf hF hV hm hs
    refine ⟨nI (prt V s), m, m', ?_, ?_, V, hI.sm g2.sm⟩
    · simp only [gX8_parts, x_hasAll hV hx, hq, decide_true, Option.bind_some, if_true, x_partsLeft hV hj hs]
    · simp only [gX9_parts, m_areLanes hV hm, hq, decide_true, Option.bind_some, if_true, g1]
  · obtain ⟨r1, r2, r3⟩ := refI hI 1 (by decide) (by decide) (Sm.rf _)
    refine ⟨-nI 1, mu m 42 1 (m.1 42 1 + 1), _, ?_, ?_, r3⟩
    · simp only [gX8_parts, x_hasAll hV hx, hq, decide_false, Option.bind_some, Bool.false_eq_true, if_false]
      rw [show (-1 : Int32) = -nI 1 from rfl, r1]; rfl
    · simp only [gX9_parts, m_areLanes hV (sm42 hm rfl), hq, decide_false, Option.bind_some, Bool.false_eq_true, if_false]
      rw [show (-1 : Int32) = -nI 1 from rfl, r2]; rfl
theorem pu_many (hF : 2000 ≤ F) : PU_many F (Inv PM PS) := by
  rintro m ⟨V, hI⟩
  obtain ⟨hV, hx, hm, hj, hw, -⟩ := id hI
  obtain ⟨m', g1, g2, g3⟩ := m_findWays hF hV hm
  refine ⟨nI (ways V).length, m', ?_, ?_, V, hI.sm g2.sm⟩
  · simp only [gX8_many, hw.1]
  · simp only [gX9_many, g1, Option.bind_some, g3.1]
theorem ways_at {i : Nat} (hi : i < (ways V).length) : ∃ s, (ways V)[i]? = some s := ⟨_, List.getElem?_eq_getElem hi⟩
theorem pu_way (hF : 2000 ≤ F) : PU_way F (Inv PM PS) := by
  rintro m a1 ⟨V, hI⟩
  obtain ⟨hV, hx, hm, hj, hw, -⟩ := id hI
  have hl := ways_le hV
  rcases arg_cases a1 (ways V).length (by omega) with h0 | ⟨h0, h1⟩ | ⟨i, hi, rfl, h0, h1⟩
  · obtain ⟨r1, r2, r3⟩ := refI hI 4 (by decide) (by decide) (Sm.rf _)
    have hn : ¬ (0 : Int32) ≤ a1 := Int32.not_le.mpr h0
    refine ⟨-nI 4, mu m 42 4 (m.1 42 4 + 1), _, ?_, ?_, r3⟩
    · simp only [gX8_way, hn, if_false]
      rw [show (-4 : Int32) = -nI 4 from rfl, r1]; rfl
    · simp only [gX9_way, hn, if_false]
      rw [show (-4 : Int32) = -nI 4 from rfl, r2]; rfl
  · obtain ⟨m', g1, g2, g3⟩ := m_findWays hF hV hm
    have hn : (0 : Int32) ≤ a1 := Int32.not_lt.mp h0
    refine ⟨-9, m, m', ?_, ?_, V, hI.sm g2.sm⟩
    · simp only [gX8_way, hn, if_true, gX7_at, gX7_has, h0, if_false, hw.1, h1, Option.bind_some, Bool.false_eq_true]
    · simp only [gX9_way, hn, if_true, g1, Option.bind_some, g3.1, h1]
  · obtain ⟨m', g1, g2, g3⟩ := m_findWays hF hV hm
    obtain ⟨s, hs⟩ := ways_at hi
    have hn : (0 : Int32) ≤ nI i := Int32.not_lt.mp h0
    have h2 : ¬ (252 : Int32) ≤ nI i := by rw [show (252 : Int32) = nI 252 from rfl, le_nI (by omega) (by omega)]; omega
    refine ⟨nI s, m, m', ?_, ?_, V, hI.sm g2.sm⟩
    · simp only [gX8_way, hn, if_true, gX7_at, gX7_has, h0, if_false, hw.1, h1, h2, Option.bind_some]
      rw [chk_pos (inb_nI (by omega) (by omega)), nI_clamp (by omega), (hw.2 i s hs).1]; rfl
    · simp only [gX9_way, hn, if_true, g1, Option.bind_some, g3.1, h1, if_false]
      rw [chk_pos (inb_nI (by omega) (by omega)), nI_clamp (by omega), (g3.2 i s hs).1]
/-! the letters and the row -/
theorem IAll.letters {m1 : Mem} (h : IAll PM PS m V) (h1 : ∀ j, j ≠ 22 → j ≠ 23 → j ≠ 52 → j ≠ 43 → m1.1 j = m.1 j) (h2 : ∀ k, k ≠ 14 → m1.1 43 k = m.1 43 k) (hl : ILe m1) : IAll PM PS m1 V := by
  obtain ⟨a1, a2, a3, a4, a5, a6, a7, a8, a9, a10, a11⟩ := h
  have r : ∀ j, j ≠ 22 → j ≠ 23 → j ≠ 52 → j ≠ 43 → m1.1 j = m.1 j := h1
  refine ⟨a1, a2.sm (fun k hk => r _ (by omega) (by omega) (by omega) (by omega)), a3.sm (h2 8 (by decide)) (h2 9 (by decide)) (fun k hk => r _ (by omega) (by omega) (by omega) (by omega)), ?_, a5.sm (by rw [r 26 (by decide) (by decide) (by decide) (by decide)]) (r 27 (by decide) (by decide) (by decide) (by decide)) (r 28 (by decide) (by decide) (by decide) (by decide)), a6.sm (by rw [r 26 (by decide) (by decide) (by decide) (by decide)]) (r 29 (by decide) (by decide) (by decide) (by decide)), hl, a8.sm (by rw [r 0 (by decide) (by decide) (by decide) (by decide)]) (h2 18 (by decide)) (fun k hk => r _ (by omega) (by omega) (by omega) (by omega)) (fun k hk => by rw [r 56 (by decide) (by decide) (by decide) (by decide)]), a9.sm (by rw [r 35 (by decide) (by decide) (by decide) (by decide)]) (h2 34 (by decide)) (r 36 (by decide) (by decide) (by decide) (by decide)) (r 63 (by decide) (by decide) (by decide) (by decide)), a10.sm (r 42 (by decide) (by decide) (by decide) (by decide)) (r 44 (by decide) (by decide) (by decide) (by decide)), a11.sm (by rw [r 31 (by decide) (by decide) (by decide) (by decide)]) (r 33 (by decide) (by decide) (by decide) (by decide)) (r 34 (by decide) (by decide) (by decide) (by decide))⟩
  unfold IJ at a4 ⊢
  rw [r 25 (by decide) (by decide) (by decide) (by decide)]
  exact a4
theorem IAll.row {m1 : Mem} (h : IAll PM PS m V) (h1 : ∀ j, j ≠ 35 → j ≠ 36 → j ≠ 63 → j ≠ 43 → m1.1 j = m.1 j) (h2 : ∀ k, k ≠ 34 → m1.1 43 k = m.1 43 k) (hl : IRo m1) : IAll PM PS m1 V := by
  obtain ⟨a1, a2, a3, a4, a5, a6, a7, a8, a9, a10, a11⟩ := h
  have r : ∀ j, j ≠ 35 → j ≠ 36 → j ≠ 63 → j ≠ 43 → m1.1 j = m.1 j := h1
  refine ⟨a1, a2.sm (fun k hk => r _ (by omega) (by omega) (by omega) (by omega)), a3.sm (h2 8 (by decide)) (h2 9 (by decide)) (fun k hk => r _ (by omega) (by omega) (by omega) (by omega)), ?_, a5.sm (by rw [r 26 (by decide) (by decide) (by decide) (by decide)]) (r 27 (by decide) (by decide) (by decide) (by decide)) (r 28 (by decide) (by decide) (by decide) (by decide)), a6.sm (by rw [r 26 (by decide) (by decide) (by decide) (by decide)]) (r 29 (by decide) (by decide) (by decide) (by decide)), a7.sm (by rw [r 22 (by decide) (by decide) (by decide) (by decide)]) (h2 14 (by decide)) (r 23 (by decide) (by decide) (by decide) (by decide)) (r 52 (by decide) (by decide) (by decide) (by decide)), a8.sm (by rw [r 0 (by decide) (by decide) (by decide) (by decide)]) (h2 18 (by decide)) (fun k hk => r _ (by omega) (by omega) (by omega) (by omega)) (fun k hk => by rw [r 56 (by decide) (by decide) (by decide) (by decide)]), hl, a10.sm (r 42 (by decide) (by decide) (by decide) (by decide)) (r 44 (by decide) (by decide) (by decide) (by decide)), a11.sm (by rw [r 31 (by decide) (by decide) (by decide) (by decide)]) (r 33 (by decide) (by decide) (by decide) (by decide)) (r 34 (by decide) (by decide) (by decide) (by decide))⟩
  unfold IJ at a4 ⊢
  rw [r 25 (by decide) (by decide) (by decide) (by decide)]
  exact a4
theorem pu_feed : PU_feed F (Inv PM PS) := by
  rintro m a1 ⟨V, hI⟩
  obtain ⟨t, ht, l1, l2, l3⟩ : ILe m := hI.2.2.2.2.2.2.1
  rcases arg_cases a1 256 (by decide) with h0 | ⟨h0, h1⟩ | ⟨c, hc, rfl, h0, h1⟩
  · obtain ⟨r1, r2, r3⟩ := refI hI 4 (by decide) (by decide) (Sm.rf _)
    have hn : ¬ (0 : Int32) ≤ a1 := Int32.not_le.mpr h0
    refine ⟨-nI 4, mu m 42 4 (m.1 42 4 + 1), _, ?_, ?_, r3⟩
    · simp only [gX8_feed, hn, if_false]
      rw [show (-4 : Int32) = -nI 4 from rfl, r1]; rfl
    · simp only [gX9_feed, gX9_bound, hn, if_false, Option.bind_some]
      rw [show (-4 : Int32) = -nI 4 from rfl, r2, if_neg (by decide), if_neg (by decide)]; rfl
  · obtain ⟨r1, r2, r3⟩ := refI hI 6 (by decide) (by decide) (Sm.rf _)
    have hn : (0 : Int32) ≤ a1 := Int32.not_lt.mp h0
    have hb : (255 : Int32) < a1 := by
      rw [Int32.lt_iff_toInt_lt]
      rw [Int32.le_iff_toInt_le, nI_toInt (by omega)] at h1
      have : (255 : Int32).toInt = 255 := by decide
      omega
    have hb2 : ¬ a1 ≤ 255 := Int32.not_le.mpr hb
    refine ⟨-nI 6, mu m 42 6 (m.1 42 6 + 1), _, ?_, ?_, r3⟩
    · simp only [gX8_feed, hn, if_true, hb]
      rw [show (-6 : Int32) = -nI 6 from rfl, r1]; rfl
    · simp only [gX9_feed, gX9_bound, hn, if_true, hb2, if_false, Option.bind_some]
      rw [show (-6 : Int32) = -nI 6 from rfl, r2, if_neg (by decide), if_neg (by decide)]; rfl
  · have hn : (0 : Int32) ≤ nI c := Int32.not_lt.mp h0
    have hb : ¬ (255 : Int32) < nI c := by rw [show (255 : Int32) = nI 255 from rfl, lt_nI (by omega) (by omega)]; omega
    have hb2 : nI c ≤ (255 : Int32) := by rw [show (255 : Int32) = nI 255 from rfl, le_nI (by omega) (by omega)]; omega
    by_cases h72 : t = 72
    · subst h72
      obtain ⟨r1, r2, r3⟩ := refI hI 6 (by decide) (by decide) (Sm.rf _)
      have e14 : (mu m 42 6 (m.1 42 6 + 1)).1 43 14 = nI 72 := by rw [mu_ne _ _ (Or.inl (by decide))]; exact l2
      refine ⟨-nI 6, mu m 42 6 (m.1 42 6 + 1), _, ?_, ?_, r3⟩
      · simp only [gX8_feed, hn, if_true, hb, if_false, gX3_haveRoom, l1]
        rw [show (72 : Int32) = nI 72 from rfl, if_pos (Int32.le_refl _), Option.bind_some, if_neg (by decide), show (-6 : Int32) = -nI 6 from rfl, r1]; rfl
      · simp only [gX9_feed, gX9_bound, hn, if_true, hb2, Option.bind_some, e14]
        rw [show (72 : Int32) = nI 72 from rfl, if_pos rfl, show (-6 : Int32) = -nI 6 from rfl, r2]; rfl
    · have hle : ¬ (72 : Int32) ≤ nI t := by rw [show (72 : Int32) = nI 72 from rfl, le_nI (by omega) (by omega)]; omega
      have hne : ¬ nI t = (72 : Int32) := by rw [show (72 : Int32) = nI 72 from rfl, eq_nI (by omega) (by omega)]; omega
      have e1 : (mu m 23 t (nI c)).1 22 1 = nI t := by rw [mu_ne _ _ (Or.inl (by decide))]; exact l1
      have e2 : (mu (mu m 23 t (nI c)) 22 1 (nI (t + 1))).1 43 14 = nI t := by rw [mu_ne _ _ (Or.inl (by decide)), mu_ne _ _ (Or.inl (by decide))]; exact l2
      have e3 : (mu (mu (mu m 23 t (nI c)) 22 1 (nI (t + 1))) 52 t (nI c)).1 43 14 = nI t := by rw [mu_ne _ _ (Or.inl (by decide))]; exact e2
      refine ⟨nI (t + 1), mu (mu m 23 t (nI c)) 22 1 (nI (t + 1)), mu (mu (mu (mu m 23 t (nI c)) 22 1 (nI (t + 1))) 52 t (nI c)) 43 14 (nI (t + 1)), ?_, ?_, V, ?_⟩
      · simp only [gX8_feed, hn, if_true, hb, if_false, gX3_haveRoom, l1, hle, Option.bind_some, gX3_append, lete]
        rw [chk_pos (inb_nI (by omega) (by omega)), nI_clamp (by omega), e1, nI_1, mu_same]; rfl
      · simp only [gX9_feed, gX9_bound, hn, if_true, hb2, Option.bind_some, e2, hne, if_false, lete]
        rw [chk_pos (inb_nI (by omega) (by omega)), nI_clamp (by omega), e3, nI_1, mu_same]
      · refine hI.letters (fun j h1 h2 h3 h4 => by rw [mu_row _ _ h4, mu_row _ _ h3, mu_row _ _ h1, mu_row _ _ h2]) (fun k hk => by rw [mu_ne _ _ (Or.inr hk), mu_ne _ _ (Or.inl (by decide)), mu_ne _ _ (Or.inl (by decide)), mu_ne _ _ (Or.inl (by decide))]) ⟨t + 1, by omega, by simp [mu_g], by simp [mu_g], fun i hi => ?_⟩
        by_cases hq : i = t
        · subst hq
          exact ⟨c, by omega, by simp [mu_g], by simp [mu_g]⟩
        · obtain ⟨d, d1, d2, d3⟩ := l3 i (by omega)
          exact ⟨d, d1, by simp [mu_g, hq, d2], by simp [mu_g, hq, d3]⟩
theorem pu_row : PU_row F (Inv PM PS) := by
  rintro m a1 ⟨V, hI⟩
  obtain ⟨t, ht, l1, l2, l3⟩ : IRo m := hI.2.2.2.2.2.2.2.2.1
  rcases arg_cases a1 10 (by decide) with h0 | ⟨h0, h1⟩ | ⟨c, hc, rfl, h0, h1⟩
  · obtain ⟨r1, r2, r3⟩ := refI hI 4 (by decide) (by decide) (Sm.rf _)
    have hn : ¬ (0 : Int32) ≤ a1 := Int32.not_le.mpr h0
    refine ⟨-nI 4, mu m 42 4 (m.1 42 4 + 1), _, ?_, ?_, r3⟩
    · simp only [gX8_row, hn, if_false]
      rw [show (-4 : Int32) = -nI 4 from rfl, r1]; rfl
    · simp only [gX9_row, gX9_bound, hn, if_false, Option.bind_some]
      rw [show (-4 : Int32) = -nI 4 from rfl, r2, if_neg (by decide), if_neg (by decide)]; rfl
  · obtain ⟨r1, r2, r3⟩ := refI hI 6 (by decide) (by decide) (Sm.rf _)
    have hn : (0 : Int32) ≤ a1 := Int32.not_lt.mp h0
    have hb : (10 : Int32) ≤ a1 := h1
    have hb2 : ¬ a1 ≤ 9 := by
      rw [Int32.le_iff_toInt_le]
      rw [Int32.le_iff_toInt_le, nI_toInt (by omega)] at h1
      have : (9 : Int32).toInt = 9 := by decide
      omega
    refine ⟨-nI 6, mu m 42 6 (m.1 42 6 + 1), _, ?_, ?_, r3⟩
    · simp only [gX8_row, hn, if_true, hb]
      rw [show (-6 : Int32) = -nI 6 from rfl, r1]; rfl
    · simp only [gX9_row, gX9_bound, hn, if_true, hb2, if_false, Option.bind_some]
      rw [show (-6 : Int32) = -nI 6 from rfl, r2, if_neg (by decide), if_neg (by decide)]; rfl
  · have hn : (0 : Int32) ≤ nI c := Int32.not_lt.mp h0
    have hb : ¬ (10 : Int32) ≤ nI c := h1
    have hb2 : nI c ≤ (9 : Int32) := by rw [show (9 : Int32) = nI 9 from rfl, le_nI (by omega) (by omega)]; omega
    by_cases h10 : t = 10
    · subst h10
      obtain ⟨r1, r2, r3⟩ := refI hI 6 (by decide) (by decide) (Sm.rf _)
      have e14 : (mu m 42 6 (m.1 42 6 + 1)).1 43 34 = nI 10 := by rw [mu_ne _ _ (Or.inl (by decide))]; exact l2
      refine ⟨-nI 6, mu m 42 6 (m.1 42 6 + 1), _, ?_, ?_, r3⟩
      · simp only [gX8_row, hn, if_true, hb, if_false, gX5_hasRoom, l1]
        rw [show (10 : Int32) = nI 10 from rfl, if_pos (Int32.le_refl _), Option.bind_some, if_neg (by decide), show (-6 : Int32) = -nI 6 from rfl, r1]; rfl
      · simp only [gX9_row, gX9_bound, hn, if_true, hb2, Option.bind_some, e14]
        rw [show (10 : Int32) = nI 10 from rfl, if_pos rfl, show (-6 : Int32) = -nI 6 from rfl, r2]; rfl
    · have hle : ¬ (10 : Int32) ≤ nI t := by rw [show (10 : Int32) = nI 10 from rfl, le_nI (by omega) (by omega)]; omega
      have hne : ¬ nI t = (10 : Int32) := by rw [show (10 : Int32) = nI 10 from rfl, eq_nI (by omega) (by omega)]; omega
      have e1 : (mu m 36 t (nI c)).1 35 3 = nI t := by rw [mu_ne _ _ (Or.inl (by decide))]; exact l1
      have e2 : (mu (mu m 36 t (nI c)) 35 3 (nI (t + 1))).1 43 34 = nI t := by rw [mu_ne _ _ (Or.inl (by decide)), mu_ne _ _ (Or.inl (by decide))]; exact l2
      have e3 : (mu (mu (mu m 36 t (nI c)) 35 3 (nI (t + 1))) 63 t (nI c)).1 43 34 = nI t := by rw [mu_ne _ _ (Or.inl (by decide))]; exact e2
      refine ⟨nI (t + 1), mu (mu m 36 t (nI c)) 35 3 (nI (t + 1)), mu (mu (mu (mu m 36 t (nI c)) 35 3 (nI (t + 1))) 63 t (nI c)) 43 34 (nI (t + 1)), ?_, ?_, V, ?_⟩
      · simp only [gX8_row, hn, if_true, hb, if_false, gX5_hasRoom, l1, hle, Option.bind_some, gX5_append, lete]
        rw [chk_pos (inb_nI (by omega) (by omega)), nI_clamp (by omega), e1, nI_1, mu_same]; rfl
      · simp only [gX9_row, gX9_bound, hn, if_true, hb2, Option.bind_some, e2, hne, if_false, lete]
        rw [chk_pos (inb_nI (by omega) (by omega)), nI_clamp (by omega), e3, nI_1, mu_same]
      · refine hI.row (fun j h1 h2 h3 h4 => by rw [mu_row _ _ h4, mu_row _ _ h3, mu_row _ _ h1, mu_row _ _ h2]) (fun k hk => by rw [mu_ne _ _ (Or.inr hk), mu_ne _ _ (Or.inl (by decide)), mu_ne _ _ (Or.inl (by decide)), mu_ne _ _ (Or.inl (by decide))]) ⟨t + 1, by omega, by simp [mu_g], by simp [mu_g], fun i hi => ?_⟩
        by_cases hq : i = t
        · subst hq
          exact ⟨c, by omega, by simp [mu_g], by simp [mu_g]⟩
        · obtain ⟨d, d1, d2, d3⟩ := l3 i (by omega)
          exact ⟨d, d1, by simp [mu_g, hq, d2], by simp [mu_g, hq, d3]⟩
end
