section
variable {PM PS : Nat → Nat → Nat} {F : Nat} {m : Mem} {V : Vd}
def chX (F : Nat) (m : Mem) (a1 a2 : Int32) : Option (Int32 × Mem) := (if 0 ≤ a1 then (if a2 = 0 then (gX7_bitsByCost F m a1).bind (fun q2 => some (q2.1, q2.2)) else (gX7_costByCost F m a1).bind (fun q1 => some (q1.1, q1.2))) else (gX8_refuse m (-4)).bind (fun q3 => some (q3.1, q3.2)))
theorem chX_is {a1 a2 : Int32} (h : a2 = 0 ∨ a2 = 1) : gX8_cheap F m a1 a2 = chX F m a1 a2 := by
  rcases h with rfl | rfl
  · rw [gX8_cheap, if_pos rfl]; rfl
  · rw [gX8_cheap, if_neg (by decide), if_pos rfl]; rfl
theorem x_hasW (hw : IW m V) (a : Int32) : gX7_has m a = some (decide (¬ a < 0 ∧ ¬ nI (ways V).length ≤ a ∧ ¬ (252 : Int32) ≤ a)) := by
  rw [gX7_has, hw.1]
  by_cases h0 : a < 0
  · simp [h0]
  · by_cases h1 : nI (ways V).length ≤ a
    · simp [h0, h1]
    · by_cases h2 : (252 : Int32) ≤ a <;> simp [h0, h1, h2]
/-- the i-th way by cost: both sides know it -/
theorem x_byCost (hF : 2000 ≤ F) (hI : IAll PM PS m V) {i : Nat} (hi : i < (ways V).length) : ∃ m1 p, IAll PM PS m1 V ∧ p < (ways V).length ∧ gX7_bitsByCost F m (nI i) = some (nI (wq V p), m1) ∧ gX7_costByCost F m (nI i) = some (nI (cos V (wq V p)), m1) ∧ (∀ m2, IM m2 V → FW m2 V (ways V) → gX9_cheapest F m2 (nI i) = some (nI p)) ∧ ES m m1 := by
  obtain ⟨hV, hx, hm, hj, hw, hso, -⟩ := id hI
  have hl := ways_le hV
  obtain ⟨m1, s1, s2, s3, ks, s4⟩ := x_sort hF hV hx hw hso
  have hI1 := hI.sorted s2 s3 ⟨ks, s4⟩
  have hw1 : IW m1 V := hI1.2.2.2.2.1
  obtain ⟨k1, k2, k3⟩ := s4
  have hlen : ks.length = (ways V).length := by rw [k1.length_eq, List.length_map]
  obtain ⟨k, hk⟩ : ∃ k, ks[i]? = some k := ⟨_, List.getElem?_eq_getElem (by omega)⟩
  have hin : k ∈ (ways V).map (key V) := (k1.mem_iff).mp (List.mem_of_getElem? hk)
  obtain ⟨s, hs, hsk⟩ := List.mem_map.mp hin
  obtain ⟨p, hp⟩ := List.getElem?_of_mem hs
  have hpN := (List.getElem?_eq_some_iff.mp hp).1
  have hwp : wq V p = s := by
    have := wq_at hpN
    rw [hp] at this
    simpa using this.symm
  obtain ⟨b1, b2, b3⟩ := key_lt hV (way_mem hs).1
  have hh : gX7_has m1 (nI i) = some true := by
    rw [x_hasW hw1]
    congr 1
    apply decide_eq_true
    refine ⟨nI_pos (by omega), nI_ge hi (by omega), ?_⟩
    rw [show (252 : Int32) = nI 252 from rfl, le_nI (by omega) (by omega)]
    omega
  have e29 : m1.1 29 i = nI (key V s) := by rw [k3 i k hk, hsk]
  refine ⟨m1, p, hI1, hpN, ?_, ?_, fun m2 hm2 hw2 => ?_, s2⟩
  · rw [gX7_bitsByCost, s1, Option.bind_some, hh, Option.bind_some, if_pos rfl, chk_pos (inb_nI (by omega) (by omega)), nI_clamp (by omega), e29, rem_key b1 b3, hwp]
  · rw [gX7_costByCost, s1, Option.bind_some, hh, Option.bind_some, if_pos rfl, chk_pos (inb_nI (by omega) (by omega)), nI_clamp (by omega), e29, div_key b1, b2, hwp]
  · obtain ⟨p', g1, g2, g3⟩ := m_cheapest hF hV hm2 hw2 k1 k2 hi
    rw [hk] at g3
    have e : kq V p' = key V s := by rw [hsk]; simpa using g3.symm
    have e2 : wq V p' = s := by
      have := (key_lt hV (wq_lt hV g2).1).2.2
      have e3 : key V (wq V p') = key V s := e
      rw [e3, b3] at this
      exact this.symm
    have : p' = p := by
      rcases Nat.lt_trichotomy p' p with g | g | g
      · have := wq_mono g hpN; omega
      · exact g
      · have := wq_mono g g2; omega
    rw [g1, this]
theorem x_noCost (hF : 2000 ≤ F) (hI : IAll PM PS m V) {a : Int32} (h0 : ¬ a < 0) (h1 : nI (ways V).length ≤ a) : ∃ m1, IAll PM PS m1 V ∧ gX7_bitsByCost F m a = some (-9, m1) ∧ gX7_costByCost F m a = some (-9, m1) ∧ ES m m1 := by
  obtain ⟨hV, hx, hm, hj, hw, hso, -⟩ := id hI
  obtain ⟨m1, s1, s2, s3, s4⟩ := x_sort hF hV hx hw hso
  have hI1 := hI.sorted s2 s3 s4
  have hw1 : IW m1 V := hI1.2.2.2.2.1
  have hh : gX7_has m1 a = some false := by
    rw [x_hasW hw1]
    congr 1
    exact decide_eq_false (fun z => z.2.1 h1)
  refine ⟨m1, hI1, ?_, ?_, s2⟩
  · rw [gX7_bitsByCost, s1, Option.bind_some, hh, Option.bind_some, if_neg (fun z => by cases z)]
  · rw [gX7_costByCost, s1, Option.bind_some, hh, Option.bind_some, if_neg (fun z => by cases z)]
theorem pu_cheap (hF : 2000 ≤ F) : PU_cheap F (Inv PM PS) := by
  rintro m a1 a2 ⟨V, hI⟩
  obtain ⟨hV, hx, hm, hj, hw, hso, -⟩ := id hI
  have hl := ways_le hV
  have p2 := (isPart_ok a2).2
  by_cases ha2 : a2 = 0 ∨ a2 = 1
  · rw [decide_eq_true ha2] at p2
    rw [chX_is ha2]
    rcases arg_cases a1 (ways V).length (by omega) with h0 | ⟨h0, h1⟩ | ⟨i, hi, rfl, h0, h1⟩
    · obtain ⟨r1, r2, r3⟩ := refI hI 4 (by decide) (by decide) (Sm.rf _)
      have hn : ¬ (0 : Int32) ≤ a1 := Int32.not_le.mpr h0
      refine ⟨-nI 4, mu m 42 4 (m.1 42 4 + 1), _, ?_, ?_, r3⟩
      · rw [chX, if_neg hn, show (-4 : Int32) = -nI 4 from rfl, r1]; rfl
      · rw [gX9_cheap, p2, Option.bind_some, if_pos rfl, if_neg hn, show (-4 : Int32) = -nI 4 from rfl, r2]; rfl
    · have hn : (0 : Int32) ≤ a1 := Int32.not_lt.mp h0
      obtain ⟨m1, x1, x2, x3, -⟩ := x_noCost hF hI h0 h1
      obtain ⟨m2, g1, g2, g3⟩ := m_findWays hF hV (x1.2.2.1)
      refine ⟨-9, m1, m2, ?_, ?_, V, x1.sm g2.sm⟩
      · rw [chX, if_pos hn, x2, x3, Option.bind_some]
        by_cases c : a2 = 0
        · rw [if_pos c]
        · rw [if_neg c]
      · rw [gX9_cheap, p2, Option.bind_some, if_pos rfl, if_pos hn, g1, Option.bind_some, g3.1, if_neg (Int32.not_lt.mpr h1)]
    · have hn : (0 : Int32) ≤ nI i := Int32.not_lt.mp h0
      obtain ⟨m1, p, x1, x2, x3, x4, x5, -⟩ := x_byCost hF hI hi
      obtain ⟨m2, g1, g2, g3⟩ := m_findWays hF hV (x1.2.2.1)
      have hm2 := g2.im x1.2.2.1
      have e58 : m2.1 58 p = nI (wq V p) := (g3.2 p _ (wq_at x2)).1
      refine ⟨if a2 = 0 then nI (wq V p) else nI (cos V (wq V p)), m1, m2, ?_, ?_, V, x1.sm g2.sm⟩
      · rw [chX, if_pos hn, x3, x4, Option.bind_some, Option.bind_some]
        by_cases c : a2 = 0
        · rw [if_pos c, if_pos c]
        · rw [if_neg c, if_neg c]
      · rw [gX9_cheap, p2, Option.bind_some, if_pos rfl, if_pos hn, g1, Option.bind_some, g3.1, if_pos (Int32.not_le.mp h1), x5 m2 hm2 g3, Option.bind_some, chk_pos (inb_nI (by omega) (by omega)), lete_eq, nI_clamp (by omega), e58, m_costsOf hF hV hm2 (wq_lt hV x2).1, Option.bind_some]
        by_cases c : a2 = 0
        · rw [if_pos c, if_pos c]
        · rw [if_neg c, if_neg c]
  · rw [decide_eq_false ha2] at p2
    obtain ⟨r1, r2, r3⟩ := refI hI 2 (by decide) (by decide) (Sm.rf _)
    refine ⟨-nI 2, mu m 42 2 (m.1 42 2 + 1), _, ?_, ?_, r3⟩
    · rw [gX8_cheap, if_neg (fun z => ha2 (Or.inl z)), if_neg (fun z => ha2 (Or.inr z)), show (-2 : Int32) = -nI 2 from rfl, r1]; rfl
    · rw [gX9_cheap, p2, Option.bind_some, if_neg (fun z => by cases z), show (-2 : Int32) = -nI 2 from rfl, r2]; rfl
end
