section
variable {PM PS : Nat → Nat → Nat} {F : Nat} {V : Vd}
theorem x_begin (hF : 2000 ≤ F) {m : Mem} (hI : IAll PM PS m V) (z : Int32) : ∃ (t : Nat) (c : Nat → Nat) (m' : Mem), t ≤ 10 ∧ gX0_begin F m z = some m' ∧ XS PM PS V t c m' ∧ m'.1 37 3 = z := by
  obtain ⟨t, c, ht, l1, l2, l3⟩ := IRo.told hI.2.2.2.2.2.2.2.2.1
  have e0 : E1 37 m (mu m 37 3 z) := E1.mu
  have hx0 : IX (mu m 37 3 z) 1 V := hI.2.1.sm (fun k hk => e0.1 _ (by omega))
  obtain ⟨m', g1, g2, g3⟩ := x_lookRound hF hI.1 hx0
  have r : ∀ j, j ≠ 37 → j ≠ 38 → j ≠ 39 → m'.1 j = m.1 j := fun j h1 h2 h3 => (g2.1 j h2 h3).trans (e0.1 j h1)
  have hs : Sm m m' := ⟨fun j hj => r j (fun e => by subst e; cases hj) (fun e => by subst e; cases hj) (fun e => by subst e; cases hj), fun k _ => by rw [r 43 (by decide) (by decide) (by decide)], fun k _ => by rw [r 56 (by decide) (by decide) (by decide)]⟩
  refine ⟨t, c, m', ht, ?_, ⟨hI.sm hs, g3, ⟨?_, fun i hi => ?_⟩, ?_, fun i hi => ?_⟩, ?_⟩
  · rw [gX0_begin, lete_eq, g1]; rfl
  · rw [r 35 (by decide) (by decide) (by decide)]; exact l1
  · rw [r 36 (by decide) (by decide) (by decide)]; exact ⟨(l3 i hi).1, (l3 i hi).2.1⟩
  · rw [r 43 (by decide) (by decide) (by decide)]; exact l2
  · rw [r 63 (by decide) (by decide) (by decide)]; exact ⟨(l3 i hi).1, (l3 i hi).2.2⟩
  · rw [g2.1 37 (by decide) (by decide), mu_same]
theorem MR.sm {t : Nat} {c : Nat → Nat} {m m' : Mem} (h : MR t c m) (hs : Sm m m') : MR t c m' := by
  unfold MR at h ⊢
  rw [hs.2.1 34 rfl, hs.1 63 rfl]
  exact h
theorem IM.ofSm {m m' : Mem} (h : IM m V) (hs : Sm m m') : IM m' V := h.sm (hs.2.1 8 rfl) (hs.2.1 9 rfl) (fun k hk => hs.1 _ (by
  have : ∀ k, k < 7 → rdC (45 + k) = true := by decide
  exact this k hk))
theorem drawer_both (a : Int32) : (∃ j, j < 6 ∧ a = nI j ∧ gX0_isDrawer a = some true ∧ gX9_isDrawer a = some true) ∨ (gX0_isDrawer a = some false ∧ gX9_isDrawer a = some false) := by
  rcases arg_cases a 6 (by decide) with h0 | ⟨h0, h1⟩ | ⟨j, hj, rfl, h0, h1⟩
  · exact Or.inr ⟨by rw [gX0_isDrawer, if_pos h0], by rw [gX9_isDrawer, if_pos h0]⟩
  · refine Or.inr ⟨?_, ?_⟩
    · rw [gX0_isDrawer, if_neg h0, if_pos]
      rw [Int32.le_iff_toInt_le, nI_toInt (by omega)] at h1
      rw [Int32.lt_iff_toInt_lt]
      have : (5 : Int32).toInt = 5 := by decide
      omega
    · rw [gX9_isDrawer, if_neg h0]
      exact if_pos h1
  · refine Or.inl ⟨j, hj, rfl, ?_, ?_⟩
    · rw [gX0_isDrawer, if_neg h0, show (5 : Int32) = nI 5 from rfl, ite_ltN (by omega) (by omega), if_neg (by omega)]
    · rw [gX9_isDrawer, if_neg h0]
      exact if_neg h1
theorem pu_draw (hF : 2000 ≤ F) : PU_draw F (Inv PM PS) := by
  rintro m a1 a2 ⟨V, hI⟩
  rcases drawer_both a1 with ⟨a, ha, rfl, d1, d2⟩ | ⟨d1, d2⟩
  · obtain ⟨t, c, m1, ht, b1, b2, b3⟩ := x_begin hF hI a2
    obtain ⟨r, z', -, h2, h3⟩ := mb_all hF hI (c := c) ht ha a2
    obtain ⟨m2, x1, x2, x3⟩ := h2 m1 b2 b3
    have e0 : E43 m2 (mu m2 43 32 a2) := E43.mu
    obtain ⟨m3, y1, y2, y3⟩ := h3 (mu m2 43 32 a2) (e0.im x2.1.2.2.1) (x2.2.2.2.sm e0.sm) (mu_same _ _ _ _)
    refine ⟨r, m2, m3, ?_, ?_, V, x2.1.sm (e0.sm.tr y2)⟩
    · rw [gX8_draw, d1, Option.bind_some, if_pos rfl, b1, Option.bind_some, x1]; rfl
    · rw [gX9_draw, d2, Option.bind_some, if_pos rfl, lete_eq, y1]; rfl
  · obtain ⟨r1, r2, r3⟩ := refI hI 2 (by decide) (by decide) (Sm.rf _)
    refine ⟨-nI 2, mu m 42 2 (m.1 42 2 + 1), _, ?_, ?_, r3⟩
    · rw [gX8_draw, d1, Option.bind_some, if_neg (fun z => by cases z), show (-2 : Int32) = -nI 2 from rfl, r1]; rfl
    · rw [gX9_draw, d2, Option.bind_some, if_neg (fun z => by cases z), show (-2 : Int32) = -nI 2 from rfl, r2]; rfl
/-! how often -/
def itZ (Z : Int32 → Int32) (z : Int32) : Nat → Int32
  | 0 => z
  | i + 1 => Z (itZ Z z i)
def hit (r : Int32) (l : Nat) : Bool := !decide (r = -9) && !decide ((r &&& ((1 : Int32) <<< (nI l &&& 31))) = 0)
def oft (R Z : Int32 → Int32) (z : Int32) (l : Nat) : Nat → Nat
  | 0 => 0
  | i + 1 => oft R Z z l i + (if hit (R (itZ Z z i)) l = true then 1 else 0)
theorem m9_nI {s : Nat} (hs : s < 2 ^ 31) : ¬ nI s = -9 := fun e => by
  have := congrArg Int32.toInt e
  rw [nI_toInt hs] at this
  have e9 : (-9 : Int32).toInt = -9 := by decide
  omega
theorem pu_often (hF : 2000 ≤ F) : PU_often F (Inv PM PS) := by
  rintro m a1 a2 a3 a4 ⟨V, hI⟩
  obtain ⟨hV, hx, hm, -⟩ := id hI
  have hn := hV.2.2.1
  rcases drawer_both a1 with ⟨a, ha, rfl, d1, d2⟩ | ⟨d1, d2⟩
  · rcases lane_cases hV a2 with ⟨l, hl, rfl, hlq⟩ | hlq
    · have xl : gX6_hasLane m 1 (nI l) = some true := by rw [x_hasLane hV hx, hlq]
      have ml : ∀ m2, IM m2 V → gX9_isLane m2 (nI l) = some true := fun m2 h2 => by rw [m_isLane hV h2, hlq]
      by_cases h1 : (1 : Int32) ≤ a3
      · by_cases h30 : a3 ≤ 30
        · obtain ⟨k, hk, rfl⟩ : ∃ k, k ≤ 30 ∧ a3 = nI k := by
            refine nI_of2 (M := 30) (n := 30) (by decide) (fun h0 => ?_) h30
            rw [Int32.le_iff_toInt_le] at h1
            rw [Int32.lt_iff_toInt_lt] at h0
            have e1 : (1 : Int32).toInt = 1 := by decide
            have e0 : (0 : Int32).toInt = 0 := by decide
            omega
          obtain ⟨t, c, m1, ht, b1, b2, b3⟩ := x_begin hF hI a4
          have hall := fun z => mb_all hF hI (c := c) ht ha z
          let R : Int32 → Int32 := fun z => Classical.choose (hall z)
          let Z : Int32 → Int32 := fun z => Classical.choose (Classical.choose_spec (hall z))
          have hMB : ∀ z, MB PM PS F V t c a z (R z) (Z z) := fun z => Classical.choose_spec (Classical.choose_spec (hall z))
          clear_value R Z
          obtain ⟨e, k1, k2, k3⟩ := iter_inv (f := bX8_often_75 F (nI a) (nI l) (nI k)) (fun i s => s.1 = nI (oft R Z a4 l i) ∧ s.2.1 = nI i ∧ XS PM PS V t c s.2.2 ∧ s.2.2.1 37 3 = itZ Z a4 i) k (fun e => e.1 = nI (oft R Z a4 l k) ∧ XS PM PS V t c e.2.2) (by
              rintro i ⟨y, w, m2⟩ hi ⟨rfl, hw, hs, hz⟩
              dsimp only at hw hs hz
              subst hw
              refine Or.inl ?_
              obtain ⟨o1, o2, -⟩ := hMB (itZ Z a4 i)
              obtain ⟨m3, g1, g2, g3⟩ := o2 m2 hs hz
              rw [bX8_often_75, ite_leN (by omega) (by omega), if_neg (by omega), g1, Option.bind_some]
              dsimp only
              rw [nI_1, nI_1, oft]
              unfold hit
              by_cases c9 : R (itZ Z a4 i) = -9
              · rw [if_pos c9]
                exact ⟨_, rfl, by simp [c9], rfl, g2, g3⟩
              · rw [if_neg c9]
                by_cases cb : (R (itZ Z a4 i) &&& ((1 : Int32) <<< (nI l &&& 31))) = 0
                · rw [if_pos cb]
                  exact ⟨_, rfl, by simp [cb], rfl, g2, g3⟩
                · rw [if_neg cb]
                  exact ⟨_, rfl, by simp [c9, cb], rfl, g2, g3⟩) (by
              rintro ⟨y, w, m2⟩ ⟨rfl, hw, hs, hz⟩
              dsimp only at hw hs hz
              subst hw
              refine ⟨(nI (oft R Z a4 l k), nI k, m2), ?_, rfl, hs⟩
              rw [bX8_often_75, ite_leN (by omega) (by omega), if_pos (Nat.le_refl _)]) F 0 (0, 0, m1) (Nat.zero_le _) (by omega) ⟨rfl, rfl, b2, b3⟩
          have e0 : E43 e.2.2 (mu e.2.2 43 32 a4) := E43.mu
          obtain ⟨d, j1, j2, j3⟩ := iter_inv (f := bX9_often_57 F (nI a) (nI l) (nI k)) (fun i s => s.1 = nI (oft R Z a4 l i) ∧ s.2.1 = nI i ∧ Sm e.2.2 s.2.2 ∧ s.2.2.1 43 32 = itZ Z a4 i) k (fun d => d.1 = nI (oft R Z a4 l k) ∧ Sm e.2.2 d.2.2) (by
              rintro i ⟨y, w, m2⟩ hi ⟨rfl, hw, hs, hz⟩
              dsimp only at hw hs hz
              subst hw
              refine Or.inl ?_
              obtain ⟨o1, -, o3⟩ := hMB (itZ Z a4 i)
              obtain ⟨m3, g1, g2, g3⟩ := o3 m2 (k3.1.2.2.1.ofSm hs) (k3.2.2.2.sm hs) hz
              rw [bX9_often_57, ite_leN (by omega) (by omega), if_neg (by omega), g1, Option.bind_some]
              dsimp only
              rw [nI_1, oft, lete_eq, lete_eq]
              unfold hit
              rcases o1 with c9 | ⟨s, hs2, es⟩
              · rw [c9, if_pos (by decide)]
                exact ⟨_, rfl, by simp, rfl, hs.tr g2, g3⟩
              · have h10 := hV.sl hs2
                rw [es, if_neg (nI_pos (by omega)), bitq (by omega) (by omega), nI_add]
                refine ⟨_, rfl, ?_, rfl, hs.tr g2, g3⟩
                dsimp only
                congr 2
                have hb := bitb (s := s) (l := l) (by omega) (by omega)
                have n9 := m9_nI (s := s) (by omega)
                by_cases tb : s.testBit l = true
                · have : ¬ (nI s &&& (1 : Int32) <<< (nI l &&& 31)) = 0 := fun z => by rw [hb, tb] at z; cases z
                  rw [tb_div] at tb
                  simp only [decide_eq_true_eq] at tb
                  simp [n9, this, tb]
                · have : (nI s &&& (1 : Int32) <<< (nI l &&& 31)) = 0 := hb.mpr (by simpa using tb)
                  rw [tb_div] at tb
                  simp only [decide_eq_true_eq] at tb
                  rw [this]
                  simp
                  omega) (by
              rintro ⟨y, w, m2⟩ ⟨rfl, hw, hs, hz⟩
              dsimp only at hw hs hz
              subst hw
              refine ⟨(nI (oft R Z a4 l k), nI k, m2), ?_, rfl, hs⟩
              rw [bX9_often_57, ite_leN (by omega) (by omega), if_pos (Nat.le_refl _)]) F 0 (0, 0, mu e.2.2 43 32 a4) (Nat.zero_le _) (by omega) ⟨rfl, rfl, e0.sm, mu_same _ _ _ _⟩
          refine ⟨nI (oft R Z a4 l k), e.2.2, d.2.2, ?_, ?_, V, k3.1.sm j3⟩
          · rw [gX8_often, d1, Option.bind_some, if_pos rfl, xl, Option.bind_some, if_pos rfl, if_pos h1, if_pos h30, b1, Option.bind_some, k1, Option.bind_some, k2]
          · rw [gX9_often, d2, Option.bind_some, if_pos rfl, ml _ k3.1.2.2.1, Option.bind_some, if_pos rfl, gX9_bound, if_pos h1, if_pos h30, Option.bind_some, if_pos rfl, lete_eq, j1, Option.bind_some, j2]
        · obtain ⟨r1, r2, r3⟩ := refI hI 6 (by decide) (by decide) (Sm.rf _)
          refine ⟨-nI 6, mu m 42 6 (m.1 42 6 + 1), _, ?_, ?_, r3⟩
          · rw [gX8_often, d1, Option.bind_some, if_pos rfl, xl, Option.bind_some, if_pos rfl, if_pos h1, if_neg h30, show (-6 : Int32) = -nI 6 from rfl, r1]; rfl
          · rw [gX9_often, d2, Option.bind_some, if_pos rfl, ml _ (sm42 hm rfl), Option.bind_some, if_pos rfl, gX9_bound, if_pos h1, if_neg h30, Option.bind_some, if_neg (by decide), show (-6 : Int32) = -nI 6 from rfl, r2]; rfl
      · obtain ⟨r1, r2, r3⟩ := refI hI 4 (by decide) (by decide) (Sm.rf _)
        refine ⟨-nI 4, mu m 42 4 (m.1 42 4 + 1), _, ?_, ?_, r3⟩
        · rw [gX8_often, d1, Option.bind_some, if_pos rfl, xl, Option.bind_some, if_pos rfl, if_neg h1, show (-4 : Int32) = -nI 4 from rfl, r1]; rfl
        · rw [gX9_often, d2, Option.bind_some, if_pos rfl, ml _ (sm42 hm rfl), Option.bind_some, if_pos rfl, gX9_bound, if_neg h1, Option.bind_some, if_neg (by decide), show (-4 : Int32) = -nI 4 from rfl, r2]; rfl
    · obtain ⟨r1, r2, r3⟩ := refI hI 1 (by decide) (by decide) (Sm.rf _)
      refine ⟨-nI 1, mu m 42 1 (m.1 42 1 + 1), _, ?_, ?_, r3⟩
      · rw [gX8_often, d1, Option.bind_some, if_pos rfl, x_hasLane hV hx, hlq, Option.bind_some, if_neg (fun z => by cases z), show (-1 : Int32) = -nI 1 from rfl, r1]; rfl
      · rw [gX9_often, d2, Option.bind_some, if_pos rfl, m_isLane hV (sm42 hm rfl), hlq, Option.bind_some, if_neg (fun z => by cases z), show (-1 : Int32) = -nI 1 from rfl, r2]; rfl
  · obtain ⟨r1, r2, r3⟩ := refI hI 2 (by decide) (by decide) (Sm.rf _)
    refine ⟨-nI 2, mu m 42 2 (m.1 42 2 + 1), _, ?_, ?_, r3⟩
    · rw [gX8_often, d1, Option.bind_some, if_neg (fun z => by cases z), show (-2 : Int32) = -nI 2 from rfl, r1]; rfl
    · rw [gX9_often, d2, Option.bind_some, if_neg (fun z => by cases z), show (-2 : Int32) = -nI 2 from rfl, r2]; rfl
end
