section
variable {PM PS : Nat → Nat → Nat} {F : Nat} {m : Mem} {V : Vd} {c : Nat → Nat} {t : Nat}
theorem IAll.told {m1 : Mem} (h : IAll PM PS m V) (hm : IM m1 V) (hl : ILe m1) (r : ∀ j, (j ≤ 7 ∨ (15 ≤ j ∧ j ≤ 21) ∨ (24 ≤ j ∧ j ≤ 36) ∨ j = 42 ∨ j = 44 ∨ j = 63) → m1.1 j = m.1 j) (f18 : m1.1 43 18 = m.1 43 18) (f34 : m1.1 43 34 = m.1 43 34) (k : ∀ q, q < 79 → m1.1 56 q = m.1 56 q) : IAll PM PS m1 V := by
  obtain ⟨a1, a2, a3, a4, a5, a6, a7, a8, a9, a10, a11⟩ := h
  refine ⟨a1, a2.sm (fun q hq => r _ (by omega)), hm, ?_, a5.sm (by rw [r 26 (by omega)]) (r 27 (by omega)) (r 28 (by omega)), a6.sm (by rw [r 26 (by omega)]) (r 29 (by omega)), hl, a8.sm (by rw [r 0 (by omega)]) f18 (fun k hk => r _ (by omega)) k, a9.sm (by rw [r 35 (by omega)]) f34 (r 36 (by omega)) (r 63 (by omega)), a10.sm (r 42 (by omega)) (r 44 (by omega)), a11.sm (by rw [r 31 (by omega)]) (r 33 (by omega)) (r 34 (by omega))⟩
  unfold IJ at a4 ⊢
  rw [r 25 (by omega)]
  exact a4
theorem rd_begin (h14 : m.1 43 14 = nI t) (h72 : t ≤ 72) (h52 : ∀ i, i < t → m.1 52 i = nI (c i) ∧ c i ≤ 255) : RD c t (mu (mu m 43 15 0) 43 16 0) 0 (1, mu (mu m 43 15 0) 43 16 0) := by
  refine ⟨rfl, ⟨?_, ?_, h72, Nat.zero_le _, fun i hi => ?_⟩, mu_same _ _ _ _, ⟨fun _ _ _ _ _ => rfl, fun _ _ _ _ => rfl⟩, fun j hj => absurd hj (by omega)⟩
  · show (mu (mu m 43 15 0) 43 16 0).1 43 14 = nI t
    rw [mu_ne _ _ (Or.inr (by decide)), mu_ne _ _ (Or.inr (by decide))]; exact h14
  · show (mu (mu m 43 15 0) 43 16 0).1 43 15 = nI 0
    rw [mu_ne _ _ (Or.inr (by decide)), mu_same]; rfl
  · show (mu (mu m 43 15 0) 43 16 0).1 52 i = nI (c i) ∧ c i ≤ 255
    rw [mu_ne _ _ (Or.inl (by decide)), mu_ne _ _ (Or.inl (by decide))]; exact h52 i hi
theorem m_villageBad (hF : 2000 ≤ F) (h14 : m.1 43 14 = nI t) (h72 : t ≤ 72) (h52 : ∀ i, i < t → m.1 52 i = nI (c i) ∧ c i ≤ 255) {K : Nat} (hK : K ≤ 24) (hgo : ∀ j, j < K → sgo c t j = true) (hlast : qs c t K < t ∨ K = 0) (hb : (stm c t (qs c t K)).1 = false) : ∃ m', gX9_village F m = some ((-1000) - nI (stm c t (qs c t K)).2, m') ∧ FM m m' ∧ m'.1 43 14 = nI 0 := by
  obtain ⟨m1, a1, a2, a3⟩ := m_readBad hF hK hgo hlast hb (rd_begin h14 h72 h52)
  have e15 : (mu m1 43 14 0).1 43 15 = nI (stm c t (qs c t K)).2 := by rw [mu_ne _ _ (Or.inr (by decide))]; exact a2.2.1
  have f0 : FM m (mu (mu m 43 15 0) 43 16 0) := (fm_mu (by decide)).tr (fm_mu (by decide))
  refine ⟨mu m1 43 14 0, ?_, f0.tr (a3.tr (fm_mu (by decide))), mu_same _ _ _ _⟩
  rw [gX9_village, lete_eq, lete_eq, a1, Option.bind_some, lete_eq, if_pos rfl, e15]
theorem m_villageGood (hF : 2000 ≤ F) (hV : okV V) (hm : IM m V) (h14 : m.1 43 14 = nI t) (h72 : t ≤ 72) (h52 : ∀ i, i < t → m.1 52 i = nI (c i) ∧ c i ≤ 255) {K J : Nat} (hK : K ≤ 24) (hgo : ∀ j, j < K → sgo c t j = true) (h1 : 1 ≤ K) (hend : qs c t K = t) (hJ : J ≤ K) (hok : ∀ j, j < J → okS V c t j = true) (hbad : J < K → okS V c t J = false) : ∃ m', gX9_village F m = some (if J < K then (-2000) - nI (qs c t J) else nI K, m') ∧ (∀ j, ¬ (45 ≤ j ∧ j ≤ 51) → j ≠ 43 → ¬ (53 ≤ j ∧ j ≤ 56) → m'.1 j = m.1 j) ∧ (∀ k, k ≠ 8 → k ≠ 9 → k ≠ 14 → k ≠ 15 → k ≠ 16 → k ≠ 19 → k ≠ 20 → m'.1 43 k = m.1 43 k) ∧ m'.1 43 14 = nI 0 ∧ (∀ q, q < 100 → m'.1 56 q = m.1 56 q) ∧ IM m' (if J < K then V else vs V c t K) := by
  obtain ⟨s, a1, a2⟩ := m_readGood hF hK hgo h1 hend (rd_begin h14 h72 h52)
  obtain ⟨y, m1⟩ := s
  obtain ⟨b1, b2, b3, b4, b5⟩ := a2
  dsimp only at b1 b2 b3 b4 b5
  subst b1
  have f0 : FM m (mu (mu m 43 15 0) 43 16 0) := (fm_mu (by decide)).tr (fm_mu (by decide))
  have f1 : FM m (mu m1 43 14 0) := f0.tr (b4.tr (fm_mu (by decide)))
  have hm1 : IM (mu m1 43 14 0) V := hm.sm (f1.2 8 (by decide) (by decide) (by decide)) (f1.2 9 (by decide) (by decide) (by decide)) (fun k hk => f1.1 _ (by omega) (by omega) (by omega) (by omega))
  obtain ⟨m2, k1, k2, k3, k4, k5⟩ := m_keepAll hF hm1 hV (w := 1) (by omega)
  have k1' : gX9_passesAll F (mu m1 43 14 0) 1 true = some m2 := k1
  have hm2 : IM m2 V := hm1.sm (k4 8 (by decide) (by decide)) (k4 9 (by decide) (by decide)) (fun k hk => k3 _ (by omega) (by omega))
  have e16 : m2.1 43 16 = nI K := by rw [k4 16 (by decide) (by decide), mu_ne _ _ (Or.inr (by decide))]; exact b3
  have hd2 : DT c t K m2 := b5.of (by rw [k3 53 (by decide) (by decide), mu_row _ _ (by decide)]) (by rw [k3 54 (by decide) (by decide), mu_row _ _ (by decide)]) (by rw [k3 55 (by decide) (by decide), mu_row _ _ (by decide)])
  obtain ⟨m', c1, c2, c3, c4⟩ := m_comeAll hF hV hm2 hK e16 hd2 hgo hJ hok hbad k2
  refine ⟨m', ?_, fun j h1 h2 h3 => ?_, fun k q1 q2 q3 q4 q5 q6 q7 => ?_, ?_, fun q hq => ?_, c4⟩
  · rw [gX9_village, lete_eq, lete_eq, a1, Option.bind_some, lete_eq, if_neg (show ¬ (1 : Int32) = 0 by decide), k1', Option.bind_some]
    exact c1
  · rw [c2 j h1 h2, k3 j h2 (by omega)]
    exact f1.1 j h2 (by omega) (by omega) (by omega)
  · rw [c3 k q1 q2 q6 q7, k4 k q6 q7]
    exact f1.2 k q3 q4 q5
  · rw [c3 14 (by decide) (by decide) (by decide) (by decide), k4 14 (by decide) (by decide), mu_same]
    rfl
  · rw [c2 56 (by omega) (by decide), k5 q (by omega)]
    rw [f1.1 56 (by decide) (by decide) (by decide) (by decide)]
theorem neg1 : ∀ w, w < 73 → (-1000 : Int32) - nI w ≤ 0 ∧ (-2000 : Int32) - nI w ≤ 0 := by decide
theorem letters_of (h : ILe m) : ∃ (t : Nat) (c : Nat → Nat), t ≤ 72 ∧ m.1 22 1 = nI t ∧ m.1 43 14 = nI t ∧ ∀ i, i < t → c i ≤ 255 ∧ m.1 23 i = nI (c i) ∧ m.1 52 i = nI (c i) := by
  obtain ⟨t, ht, l1, l2, l3⟩ := h
  refine ⟨t, fun i => Int32.toNatClampNeg (m.1 23 i), ht, l1, l2, fun i hi => ?_⟩
  obtain ⟨c, c1, c2, c3⟩ := l3 i hi
  dsimp only
  rw [c2, nI_clamp (by omega)]
  exact ⟨c1, rfl, c3⟩
theorem le_zero {m1 : Mem} (h1 : m1.1 22 1 = 0) (h2 : m1.1 43 14 = nI 0) : ILe m1 := ⟨0, by omega, h1, h2, fun i hi => absurd hi (by omega)⟩
theorem pu_village (hF : 2000 ≤ F) : PU_village F (Inv PM PS) := by
  rintro m ⟨V, hI⟩
  obtain ⟨hV, hx, hm, hj, hw, hso, hle, him, hro, hre, hpq⟩ := id hI
  obtain ⟨t, c, h72, l1, l2, l3⟩ := letters_of hle
  obtain ⟨q1, x1, x2, x3⟩ := x_copy hF (v := 8) (w := 1) (by omega) hV hx
  have hl : LX c t q1 := ⟨by rw [x2.1 22 (by omega)]; exact l1, h72, fun i hi => by rw [x2.1 23 (by omega)]; exact ⟨(l3 i hi).2.1, (l3 i hi).1⟩⟩
  obtain ⟨K, hK, hgo, hend⟩ := qs_end (c := c) h72
  have h52 : ∀ {mX : Mem}, mX.1 52 = m.1 52 → ∀ i, i < t → mX.1 52 i = nI (c i) ∧ c i ≤ 255 := fun h i hi => by rw [h]; exact ⟨(l3 i hi).2.2, (l3 i hi).1⟩
  rcases hend with ⟨hK1, hKt⟩ | ⟨hlast, hb, hB⟩
  · obtain ⟨J, hJ, hok, hbad⟩ := first_bad (fun j => okS V c t j) K
    have h3t := (qs_ok K hgo).2.2
    have hf : gX3_placeOfWrongForm F q1 = some (-1) := by
      rw [x_form hF hl (Nat.le_refl t) (by rw [← hKt]; exact (qs_ok K hgo).2.1) (fun z => absurd z (Nat.lt_irrefl t)), if_neg (Nat.lt_irrefl t), if_pos ⟨rfl, by omega⟩]
    obtain ⟨q2, y1, y2, y3⟩ := x_tellAll hF hV hl x3 hgo hKt hJ hok hbad
    have hT : gX3_tellTo F q1 = some (if J < K then (-2000) - nI (qs c t J) else nI K, q2) := by
      rw [gX3_tellTo, hf, Option.bind_some, if_pos (by decide)]
      exact y1
    have r1 : ∀ j, ¬ (8 ≤ j ∧ j ≤ 14) → q2.1 j = m.1 j := fun j h => by rw [y2.1 j (by omega), x2.1 j (by omega)]
    by_cases hJK : J < K
    · rw [if_pos hJK] at hT
      have hq72 : qs c t J ≤ 72 := by
        have := qs_lt hgo hJ (Nat.le_refl K)
        omega
      have r2 : ∀ j, ¬ (8 ≤ j ∧ j ≤ 14) → j ≠ 22 → (mu q2 22 1 0).1 j = m.1 j := fun j h h22 => by rw [mu_row _ _ h22, r1 j h]
      have hmX : IM (mu q2 22 1 0) V := hm.sm (by rw [r2 43 (by omega) (by decide)]) (by rw [r2 43 (by omega) (by decide)]) (fun k hk => r2 _ (by omega) (by omega))
      obtain ⟨m', g1, g2, g3, g4, g5, g6⟩ := m_villageGood hF hV hmX (by rw [r2 43 (by omega) (by decide)]; exact l2) h72 (h52 (r2 52 (by omega) (by decide))) hK hgo hK1 hKt hJ hok hbad
      rw [if_pos hJK] at g1 g6
      refine ⟨(-2000) - nI (qs c t J), mu q2 22 1 0, m', ?_, g1, V, ?_⟩
      · rw [gX8_village, x1, Option.bind_some, hT, Option.bind_some, gX3_clear, lete_eq, Option.bind_some, if_pos (neg1 _ (by omega)).2]
      · refine hI.told g6 (le_zero (by rw [g2 22 (by omega) (by decide) (by omega), mu_same]) g4) (fun j hj => by rw [g2 j (by omega) (by omega) (by omega), r2 j (by omega) (by omega)]) (by rw [g3 18 (by decide) (by decide) (by decide) (by decide) (by decide) (by decide) (by decide), r2 43 (by omega) (by decide)]) (by rw [g3 34 (by decide) (by decide) (by decide) (by decide) (by decide) (by decide) (by decide), r2 43 (by omega) (by decide)]) (fun q hq => by rw [g5 q (by omega), r2 56 (by omega) (by decide)])
    · have hJe : J = K := by omega
      rw [if_neg hJK] at hT
      have hW : okV (vs V c t K) := vs_ok hV K (fun j hj => ⟨hgo j hj, hok j (by omega)⟩)
      have hx8 : IX (mu q2 22 1 0) 8 (vs V c t K) := (y3 hJe).sm (fun k hk => mu_row _ _ (by omega))
      obtain ⟨q4, z1, z2, z3⟩ := x_copy hF (v := 1) (w := 8) (by omega) hW hx8
      obtain ⟨q5, b1, b2, b3⟩ := x_build hF hW z3
      have hx5 : IX q5 1 (vs V c t K) := z3.sm (fun k hk => b2.1 _ (by omega))
      obtain ⟨q6, d1, d2, d3, d4⟩ := x_list hF hW hx5 b3
      have hx6 := d2.ix hx5
      have r2 : ∀ j, ¬ (1 ≤ j ∧ j ≤ 14) → ¬ (25 ≤ j ∧ j ≤ 28) → j ≠ 22 → q6.1 j = m.1 j := fun j h1 h2 h22 => by rw [d2.1 j (by omega) (by omega) (by omega), b2.1 j (by omega), z2.1 j (by omega), mu_row _ _ h22, r1 j (by omega)]
      have e22 : q6.1 22 1 = 0 := by rw [d2.1 22 (by omega) (by omega) (by omega), b2.1 22 (by omega), z2.1 22 (by omega), mu_same]
      have hmX : IM q6 V := hm.sm (by rw [r2 43 (by omega) (by omega) (by decide)]) (by rw [r2 43 (by omega) (by omega) (by decide)]) (fun k hk => r2 _ (by omega) (by omega) (by omega))
      obtain ⟨m', g1, g2, g3, g4, g5, g6⟩ := m_villageGood hF hV hmX (by rw [r2 43 (by omega) (by omega) (by decide)]; exact l2) h72 (h52 (r2 52 (by omega) (by omega) (by decide))) hK hgo hK1 hKt hJ hok hbad
      rw [if_neg hJK] at g1 g6
      have hpos : ¬ nI K ≤ 0 := by
        rw [show (0 : Int32) = nI 0 from rfl, le_nI (by omega) (by omega)]
        omega
      refine ⟨nI K, q6, m', ?_, g1, vs V c t K, ?_⟩
      · rw [gX8_village, x1, Option.bind_some, hT, Option.bind_some, gX3_clear, lete_eq, Option.bind_some, if_neg hpos, z1, Option.bind_some, gX8_lanesChanged, b1, Option.bind_some, d1, Option.bind_some, Option.bind_some]
      · refine hI.now hW (hx6.sm (fun k hk => g2 _ (by omega) (by omega) (by omega))) g6 ?_ (d3.sm (by rw [g2 26 (by omega) (by decide) (by omega)]) (g2 27 (by omega) (by decide) (by omega)) (g2 28 (by omega) (by decide) (by omega))) (by rw [g2 26 (by omega) (by decide) (by omega)]; exact d4) (le_zero (by rw [g2 22 (by omega) (by decide) (by omega)]; exact e22) g4) (fun j hj => by rw [g2 j (by omega) (by omega) (by omega), r2 j (by omega) (by omega) (by omega)]) (by rw [g3 18 (by decide) (by decide) (by decide) (by decide) (by decide) (by decide) (by decide), r2 43 (by omega) (by omega) (by decide)]) (by rw [g3 34 (by decide) (by decide) (by decide) (by decide) (by decide) (by decide) (by decide), r2 43 (by omega) (by omega) (by decide)]) (fun q hq => by rw [g5 q (by omega), r2 56 (by omega) (by omega) (by decide)])
        unfold IJ
        rw [g2 25 (by omega) (by decide) (by omega)]
        exact d2.ij b3
  · obtain ⟨w1, s, w2, w3, w4⟩ := hB
    have hf : gX3_placeOfWrongForm F q1 = some (nI (stm c t (qs c t K)).2) := by
      rw [x_form hF hl w1 w2 w3]
      by_cases z : (stm c t (qs c t K)).2 < t
      · rw [if_pos z]
      · have zt : (stm c t (qs c t K)).2 = t := by omega
        have hno : ¬ (s = 0 ∧ 0 < t) := by
          rintro ⟨q1, q2⟩
          rcases w4 zt with h | h
          · exact h q1
          · rw [zt] at h
            rcases hlast with g | g
            · omega
            · rw [g] at h
              have : qs c t 0 = 0 := rfl
              omega
        rw [if_neg z, if_neg hno, zt]
    have hT : gX3_tellTo F q1 = some ((-1000) - nI (stm c t (qs c t K)).2, q1) := by
      rw [gX3_tellTo, hf, Option.bind_some, if_neg (nI_pos (by omega))]
    have r2 : ∀ j, ¬ (8 ≤ j ∧ j ≤ 14) → j ≠ 22 → (mu q1 22 1 0).1 j = m.1 j := fun j h h22 => by rw [mu_row _ _ h22, x2.1 j (by omega)]
    obtain ⟨m', g1, g2, g3⟩ := m_villageBad (m := mu q1 22 1 0) hF (by rw [r2 43 (by omega) (by decide)]; exact l2) h72 (h52 (r2 52 (by omega) (by decide))) hK hgo hlast hb
    refine ⟨(-1000) - nI (stm c t (qs c t K)).2, mu q1 22 1 0, m', ?_, g1, V, ?_⟩
    · rw [gX8_village, x1, Option.bind_some, hT, Option.bind_some, gX3_clear, lete_eq, Option.bind_some, if_pos (neg1 _ (by omega)).1]
    · have r3 : ∀ j, ¬ (8 ≤ j ∧ j ≤ 14) → j ≠ 22 → j ≠ 43 → ¬ (53 ≤ j ∧ j ≤ 55) → m'.1 j = m.1 j := fun j h1 h2 h3 h4 => by rw [g2.1 j h3 (by omega) (by omega) (by omega), r2 j h1 h2]
      have f3 : ∀ k, k ≠ 14 → k ≠ 15 → k ≠ 16 → m'.1 43 k = m.1 43 k := fun k h1 h2 h3 => by rw [g2.2 k h1 h2 h3, r2 43 (by omega) (by decide)]
      exact hI.told (hm.sm (f3 8 (by decide) (by decide) (by decide)) (f3 9 (by decide) (by decide) (by decide)) (fun k hk => r3 _ (by omega) (by omega) (by omega) (by omega))) (le_zero (by rw [g2.1 22 (by decide) (by decide) (by decide) (by decide), mu_same]) g3) (fun j hj => r3 j (by omega) (by omega) (by omega) (by omega)) (f3 18 (by decide) (by decide) (by decide)) (f3 34 (by decide) (by decide) (by decide)) (fun q hq => by rw [r3 56 (by omega) (by decide) (by decide) (by omega)])
end
