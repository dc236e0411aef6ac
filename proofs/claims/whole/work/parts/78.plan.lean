section
variable {F : Nat} {V : Vd}
def plX (F : Nat) (m : Mem) (a1 a2 : Int32) : Option (Int32 × Mem) := (if 1 ≤ a1 then (if 10 < a1 then (gX8_refuse m (-6)).bind (fun q1 => some (q1.1, q1.2)) else (if 5 < (m.1 1 0) then (gX8_refuse m (-6)).bind (fun q2 => some (q2.1, q2.2)) else (gX8_pairsOf (m.1 1 0)).bind (fun x3 => (if a1 ≤ x3 then (gX4_makeFor F m (m.1 1 0)).bind (fun q4 => (if a2 = 0 then (gX4_mostWays q4 a1).bind (fun x6 => some (x6, q4)) else (gX4_firstSet q4 a1).bind (fun x5 => some (x5, q4)))) else (gX8_refuse m (-6)).bind (fun q7 => some (q7.1, q7.2)))))) else (gX8_refuse m (-4)).bind (fun q8 => some (q8.1, q8.2)))
theorem plX_is {m : Mem} {a1 a2 : Int32} (h : a2 = 0 ∨ a2 = 1) : gX8_plan F m a1 a2 = plX F m a1 a2 := by
  rcases h with rfl | rfl
  · rw [gX8_plan, if_pos rfl]; rfl
  · rw [gX8_plan, if_neg (by decide), if_pos rfl]; rfl
theorem pu_plan (hF : 2000 ≤ F) : PU_plan F (Inv PMd PSd) := by
  rintro m a1 a2 ⟨V, hI⟩
  obtain ⟨hV, hx, hm, -, -, -, -, -, -, -, hpq⟩ := id hI
  have hH := hV.2.1
  have p2 := (isPart_ok a2).2
  by_cases ha2 : a2 = 0 ∨ a2 = 1
  · rw [decide_eq_true ha2] at p2
    rw [plX_is ha2]
    by_cases h1 : (1 : Int32) ≤ a1
    · by_cases h10 : (10 : Int32) < a1
      · obtain ⟨r1, r2, r3⟩ := refI hI 6 (by decide) (by decide) (Sm.rf _)
        refine ⟨-nI 6, mu m 42 6 (m.1 42 6 + 1), _, ?_, ?_, r3⟩
        · rw [plX, if_pos h1, if_pos h10, show (-6 : Int32) = -nI 6 from rfl, r1]; rfl
        · rw [gX9_plan, p2, Option.bind_some, if_pos rfl, if_pos h1, if_pos h10, show (-6 : Int32) = -nI 6 from rfl, r2]; rfl
      · obtain ⟨k, hk1, hk, rfl⟩ : ∃ k, 1 ≤ k ∧ k ≤ 10 ∧ a1 = nI k := by
          rcases arg_cases a1 11 (by decide) with h0 | ⟨h0, h1'⟩ | ⟨k, hk, rfl, h0, h1'⟩
          · rw [Int32.le_iff_toInt_le] at h1
            rw [Int32.lt_iff_toInt_lt] at h0
            have e1 : (1 : Int32).toInt = 1 := by decide
            have e0 : (0 : Int32).toInt = 0 := by decide
            omega
          · rw [Int32.le_iff_toInt_le, nI_toInt (by omega)] at h1'
            rw [Int32.lt_iff_toInt_lt] at h10
            have e1 : (10 : Int32).toInt = 10 := by decide
            omega
          · refine ⟨k, ?_, by omega, rfl⟩
            rw [show (1 : Int32) = nI 1 from rfl, le_nI (by omega) (by omega)] at h1
            exact h1
        by_cases h5 : V.1 ≤ 5
        · have hVn : (Vp V.1).2.1 ≤ 10 := (Vp_ok hV.1 h5).2.2.1
          by_cases hkp : k ≤ (Vp V.1).2.1
          · obtain ⟨m1, x1, x2, x3, x4⟩ := x_makeFor hF hV.1 h5 hpq
            have hI1 : IAll PMd PSd m1 V := hI.plans x2 (Or.inr ⟨V.1, hV.1, h5, x3, x4⟩)
            have hm1 : IM m1 V := hI1.2.2.1
            obtain ⟨e, m2, b1, b2, b3, b4, b5⟩ := m_plan hF hV hm1 rfl h5 hk
            obtain ⟨w1, w2⟩ := x4 k hk
            have hX : plX F m (nI k) a2 = some (if a2 = 0 then nI (PMd V.1 k) else nI (PSd V.1 k), m1) := by
              rw [plX, if_pos h1, if_neg h10, hx.1, show (5 : Int32) = nI 5 from rfl, ite_ltN (by omega) (by omega), if_neg (by omega), gX8_pairsOf, pairs_of hV.1 h5, Option.bind_some, ite_leN (by omega) (by omega), if_pos hkp, x1, Option.bind_some, gX4_mostWays, gX4_firstSet, if_neg (nI_pos (by omega)), if_neg (nI_pos (by omega)), if_neg h10, if_neg h10, chk_pos (inb_nI (by omega) (by omega)), chk_pos (inb_nI (by omega) (by omega)), nI_clamp (by omega), w1, w2, Option.bind_some, Option.bind_some]
              by_cases c : a2 = 0
              · rw [if_pos c, if_pos c]
              · rw [if_neg c, if_neg c]
            have hM : gX9_plan F m1 (nI k) a2 = some (if a2 = 0 then nI (PMd V.1 k) else nI (PSd V.1 k), m2) := by
              rw [gX9_plan, p2, Option.bind_some, if_pos rfl, if_pos h1, if_neg h10, hm1.1, show (5 : Int32) = nI 5 from rfl, ite_ltN (by omega) (by omega), if_neg (by omega), pairs_of hV.1 h5, ite_leN (by omega) (by omega), if_pos hkp, lete_eq, b1, Option.bind_some, b2, Option.bind_some, b4, b5]
              by_cases c : a2 = 0
              · rw [if_pos c, if_pos c]
              · rw [if_neg c, if_neg c]
            exact ⟨_, m1, m2, hX, hM, V, hI1.sm b3.sm⟩
          · obtain ⟨r1, r2, r3⟩ := refI hI 6 (by decide) (by decide) (Sm.rf _)
            refine ⟨-nI 6, mu m 42 6 (m.1 42 6 + 1), _, ?_, ?_, r3⟩
            · rw [plX, if_pos h1, if_neg h10, hx.1, show (5 : Int32) = nI 5 from rfl, ite_ltN (by omega) (by omega), if_neg (by omega), gX8_pairsOf, pairs_of hV.1 h5, Option.bind_some, ite_leN (by omega) (by omega), if_neg hkp, show (-6 : Int32) = -nI 6 from rfl, r1]; rfl
            · rw [gX9_plan, p2, Option.bind_some, if_pos rfl, if_pos h1, if_neg h10, (sm42 hm rfl).1, show (5 : Int32) = nI 5 from rfl, ite_ltN (by omega) (by omega), if_neg (by omega), pairs_of hV.1 h5, ite_leN (by omega) (by omega), if_neg hkp, show (-6 : Int32) = -nI 6 from rfl, r2]; rfl
        · obtain ⟨r1, r2, r3⟩ := refI hI 6 (by decide) (by decide) (Sm.rf _)
          refine ⟨-nI 6, mu m 42 6 (m.1 42 6 + 1), _, ?_, ?_, r3⟩
          · rw [plX, if_pos h1, if_neg h10, hx.1, show (5 : Int32) = nI 5 from rfl, ite_ltN (by omega) (by omega), if_pos (by omega), show (-6 : Int32) = -nI 6 from rfl, r1]; rfl
          · rw [gX9_plan, p2, Option.bind_some, if_pos rfl, if_pos h1, if_neg h10, (sm42 hm rfl).1, show (5 : Int32) = nI 5 from rfl, ite_ltN (by omega) (by omega), if_pos (by omega), show (-6 : Int32) = -nI 6 from rfl, r2]; rfl
    · obtain ⟨r1, r2, r3⟩ := refI hI 4 (by decide) (by decide) (Sm.rf _)
      refine ⟨-nI 4, mu m 42 4 (m.1 42 4 + 1), _, ?_, ?_, r3⟩
      · rw [plX, if_neg h1, show (-4 : Int32) = -nI 4 from rfl, r1]; rfl
      · rw [gX9_plan, p2, Option.bind_some, if_pos rfl, if_neg h1, show (-4 : Int32) = -nI 4 from rfl, r2]; rfl
  · rw [decide_eq_false ha2] at p2
    obtain ⟨r1, r2, r3⟩ := refI hI 2 (by decide) (by decide) (Sm.rf _)
    refine ⟨-nI 2, mu m 42 2 (m.1 42 2 + 1), _, ?_, ?_, r3⟩
    · rw [gX8_plan, if_neg (fun z => ha2 (Or.inl z)), if_neg (fun z => ha2 (Or.inr z)), show (-2 : Int32) = -nI 2 from rfl, r1]; rfl
    · rw [gX9_plan, p2, Option.bind_some, if_neg (fun z => by cases z), show (-2 : Int32) = -nI 2 from rfl, r2]; rfl
end
