/-! ===== the drawers ===== -/
section
variable {PM PS : Nat → Nat → Nat} {F : Nat} {m : Mem} {V : Vd}
theorem not_m1 {c : Nat} (hc : c < 2 ^ 31) : ¬ nI c ≤ -1 := by
  rw [Int32.le_iff_toInt_le, nI_toInt hc]
  have : (-1 : Int32).toInt = -1 := by decide
  omega
theorem x_dearest (hF : 2000 ≤ F) (hV : okV V) (hI : IAll PM PS m V) (hN : 0 < (ways V).length) : ∃ m1 s, gX7_dearest F m = some (nI s, m1) ∧ Dst V s ∧ IAll PM PS m1 V ∧ ES m m1 := by
  obtain ⟨-, hx, hm, hj, hw, hso, -⟩ := id hI
  have hl := ways_le hV
  obtain ⟨m1, s1, s2, s3, ks, s4⟩ := x_sort hF hV hx hw hso
  have hI1 := hI.sorted s2 s3 ⟨ks, s4⟩
  have hw1 : IW m1 V := hI1.2.2.2.2.1
  obtain ⟨k1, k2, k3⟩ := s4
  have hlt := ks_lt hV k1 k2
  have hlen : ks.length = (ways V).length := by rw [k1.length_eq, List.length_map]
  have hat : ∀ i, i < (ways V).length → ∃ s, s ∈ ways V ∧ ks[i]? = some (key V s) := by
    intro i hi
    obtain ⟨k, hk⟩ : ∃ k, ks[i]? = some k := ⟨_, List.getElem?_eq_getElem (by omega)⟩
    obtain ⟨s, hs, hsk⟩ := List.mem_map.mp ((k1.mem_iff).mp (List.mem_of_getElem? hk))
    exact ⟨s, hs, by rw [hk, hsk]⟩
  obtain ⟨e, g1, j, s, g2, g3, g4, g5, g6⟩ := iter_inv (f := bX7_dearest_11 m1) (fun i q => q.2.2 = nI i ∧ ((i = 0 ∧ q.1 = -9 ∧ q.2.1 = -1) ∨ ∃ j s, j < i ∧ s ∈ ways V ∧ ks[j]? = some (key V s) ∧ q.1 = nI s ∧ q.2.1 = nI (cos V s) ∧ ∀ p w, p < i → w ∈ ways V → ks[p]? = some (key V w) → cos V w < cos V s ∨ (cos V w = cos V s ∧ j ≤ p))) (ways V).length (fun q => ∃ j s, j < (ways V).length ∧ s ∈ ways V ∧ ks[j]? = some (key V s) ∧ q.1 = nI s ∧ ∀ p w, p < (ways V).length → w ∈ ways V → ks[p]? = some (key V w) → cos V w < cos V s ∨ (cos V w = cos V s ∧ j ≤ p)) (by
      rintro i ⟨y2, y3, y4⟩ hi ⟨hz, hq⟩
      dsimp only at hz hq
      subst hz
      refine Or.inl ?_
      obtain ⟨t, ht, hti⟩ := hat i hi
      obtain ⟨b1, b2, b3⟩ := key_lt hV (way_mem ht).1
      have ct := cos_le hV t
      have ib : inb (nI i) 252 := inb_nI (by omega) (by omega)
      have e29 : m1.1 29 i = nI (key V t) := k3 i _ hti
      have hsame : ∀ w, w ∈ ways V → ks[i]? = some (key V w) → w = t := by
        intro w hw2 hk
        rw [hti] at hk
        have e : key V t = key V w := by simpa using hk
        have := (key_lt hV (way_mem hw2).1).2.2
        rw [← e, b3] at this
        exact this.symm
      rw [bX7_dearest_11, hw1.1, ite_leN (by omega) (by omega), if_neg (by omega), show (252 : Int32) = nI 252 from rfl, ite_leN (by omega) (by omega), if_neg (by omega), chk_pos ib, chk_pos ib, nI_clamp (by omega), e29, rem_key b1 b3, div_key b1, b2, lete_eq, chk_pos ib, lete_eq, nI_1]
      rcases hq with ⟨h0, hy, hy3⟩ | ⟨j, s, q1, q2, q3, q4, q5, q6⟩
      · rw [hy3, if_neg (not_m1 (by omega))]
        refine ⟨_, rfl, rfl, Or.inr ⟨i, t, by omega, ht, hti, rfl, rfl, fun p w hp hw2 hk => ?_⟩⟩
        have : p = i := by omega
        subst this
        rw [hsame w hw2 hk]
        exact Or.inr ⟨rfl, Nat.le_refl _⟩
      · have cs := cos_le hV s
        rw [q5, ite_leN (by omega) (by omega)]
        by_cases c : cos V t ≤ cos V s
        · rw [if_pos c]
          refine ⟨_, rfl, rfl, Or.inr ⟨j, s, by omega, q2, q3, q4, rfl, fun p w hp hw2 hk => ?_⟩⟩
          by_cases e : p = i
          · subst e
            rw [hsame w hw2 hk]
            omega
          · exact q6 p w (by omega) hw2 hk
        · rw [if_neg c]
          refine ⟨_, rfl, rfl, Or.inr ⟨i, t, by omega, ht, hti, rfl, rfl, fun p w hp hw2 hk => ?_⟩⟩
          by_cases e : p = i
          · subst e
            rw [hsame w hw2 hk]
            exact Or.inr ⟨rfl, Nat.le_refl _⟩
          · have := q6 p w (by omega) hw2 hk
            omega) (by
      rintro ⟨y2, y3, y4⟩ ⟨hz, hq⟩
      dsimp only at hz hq
      subst hz
      rcases hq with ⟨h0, -, -⟩ | ⟨j, s, q1, q2, q3, q4, q5, q6⟩
      · omega
      · refine ⟨(y2, y3, nI (ways V).length), ?_, j, s, q1, q2, q3, q4, q6⟩
        rw [bX7_dearest_11, hw1.1, ite_leN (by omega) (by omega), if_pos (Nat.le_refl _)]) F 0 (-9, -1, 0) (Nat.zero_le _) (by omega) ⟨rfl, Or.inl ⟨rfl, rfl, rfl⟩⟩
  refine ⟨m1, s, ?_, ⟨g3, fun w hw2 => ?_⟩, hI1, s2⟩
  · rw [gX7_dearest, s1, Option.bind_some, g1, Option.bind_some, g5]
  · have hin : key V w ∈ ks := (k1.mem_iff).mpr (List.mem_map.mpr ⟨w, hw2, rfl⟩)
    obtain ⟨p, hp⟩ := List.getElem?_of_mem hin
    have hpN := (List.getElem?_eq_some_iff.mp hp).1
    rcases g6 p w (by omega) hw2 hp with t | ⟨t, u⟩
    · exact Or.inl t
    · refine Or.inr ⟨t, ?_⟩
      by_cases e : j = p
      · subst e
        rw [g4] at hp
        have e1 : key V s = key V w := by simpa using hp
        unfold key at e1
        omega
      · have := pw_at hlt (show j < p by omega) g4 hp
        unfold key at this
        omega
theorem x_dearNone (hF : 2000 ≤ F) (hI : IAll PM PS m V) (hN : (ways V).length = 0) : ∃ m1, gX7_dearest F m = some (-9, m1) ∧ IAll PM PS m1 V ∧ ES m m1 := by
  obtain ⟨hV, hx, hm, hj, hw, hso, -⟩ := id hI
  obtain ⟨m1, s1, s2, s3, s4⟩ := x_sort hF hV hx hw hso
  have hI1 := hI.sorted s2 s3 s4
  have hw1 : IW m1 V := hI1.2.2.2.2.1
  refine ⟨m1, ?_, hI1, s2⟩
  have q := iter_at (F := F) (f := bX7_dearest_11 m1) (fun _ => (-9, -1, 0)) 0 (-9, -1, 0) (fun i hi => absurd hi (by omega)) (by
    rw [bX7_dearest_11, hw1.1, hN, if_pos (by decide)]) (by omega)
  rw [gX7_dearest, s1, Option.bind_some, q, Option.bind_some]
/-! a way that was told -/
theorem ahd_lt {c : Nat → Nat} : ∀ k, (∀ i, i < k → c i ≤ 9) → ahd c k < 2 ^ 10
  | 0, _ => by show 0 < 2 ^ 10; decide
  | k + 1, h => Nat.or_lt_two_pow (ahd_lt k (fun i hi => h i (by omega))) (Nat.pow_lt_pow_right (by decide) (by have := h k (by omega); omega))
def XR (t : Nat) (c : Nat → Nat) (m : Mem) : Prop := m.1 35 3 = nI t ∧ ∀ i, i < t → c i ≤ 9 ∧ m.1 36 i = nI (c i)
def MR (t : Nat) (c : Nat → Nat) (m : Mem) : Prop := m.1 43 34 = nI t ∧ ∀ i, i < t → c i ≤ 9 ∧ m.1 63 i = nI (c i)
theorem x_told (hF : 2000 ≤ F) {t : Nat} {c : Nat → Nat} (ht : t ≤ 10) (hr : XR t c m) : iter F (bX5_asWay_4 m) (0, 0) = some (nI (ahd c t), nI t) := by
  have q := iter_at (F := F) (f := bX5_asWay_4 m) (fun i => (nI (ahd c i), nI i)) t (nI (ahd c t), nI t) (fun i hi => ?_) ?_ (by omega)
  · exact q
  · obtain ⟨c1, c2⟩ := hr.2 i hi
    rw [bX5_asWay_4, hr.1, ite_leN (by omega) (by omega), if_neg (by omega), show (10 : Int32) = nI 10 from rfl, ite_leN (by omega) (by omega), if_neg (by omega), chk_pos (inb_nI (by omega) (by omega)), lete_eq, nI_clamp (by omega), c2, sh1 (by omega), orI, nI_1, ahd]
  · rw [bX5_asWay_4, hr.1, ite_leN (by omega) (by omega), if_pos (Nat.le_refl _)]
theorem m_told (hF : 2000 ≤ F) {t : Nat} {c : Nat → Nat} (ht : t ≤ 10) (hr : MR t c m) : iter F (bX9_rowWay_4 m) (0, 0) = some (nI (ahd c t), nI t) := by
  have q := iter_at (F := F) (f := bX9_rowWay_4 m) (fun i => (nI (ahd c i), nI i)) t (nI (ahd c t), nI t) (fun i hi => ?_) ?_ (by omega)
  · exact q
  · obtain ⟨c1, c2⟩ := hr.2 i hi
    rw [bX9_rowWay_4, hr.1, ite_leN (by omega) (by omega), if_neg (by omega), chk_pos (inb_nI (by omega) (by omega)), lete_eq, nI_clamp (by omega), c2, sh1 (by omega), orI, nI_1, ahd]
  · rw [bX9_rowWay_4, hr.1, ite_leN (by omega) (by omega), if_pos (Nat.le_refl _)]
theorem told_both (hF : 2000 ≤ F) (hV : okV V) {t : Nat} {c : Nat → Nat} (ht : t ≤ 10) : ∃ r, (r = -9 ∨ ∃ s, s < 2 ^ V.2.1 ∧ r = nI s) ∧ (∀ m, IX m 1 V → IJ m V → XR t c m → gX5_asWay F m = some r) ∧ (∀ m, IM m V → MR t c m → ∃ m', gX9_rowWay F m = some (r, m') ∧ E57 m m') := by
  by_cases hq : (nI (ahd c t) &&& (nI (2 ^ V.2.1 - 1) ^^^ (-1))) = 0
  · obtain ⟨s, hs, es⟩ := set_of hV.2.2.1 hq
    refine ⟨if isW V s = true then nI s else -9, ?_, fun m hx hj hr => ?_, fun m hm hr => ?_⟩
    · by_cases w : isW V s = true
      · rw [if_pos w]; exact Or.inr ⟨s, hs, rfl⟩
      · rw [if_neg w]; exact Or.inl rfl
    · rw [gX5_asWay, x_told hF ht hr, Option.bind_some]
      dsimp only
      rw [es, x_isWay hV hx hj hs, Option.bind_some]
      by_cases w : isW V s = true
      · rw [if_pos w, if_pos w]
      · rw [if_neg w, if_neg w]
    · obtain ⟨m', g1, g2⟩ := m_isWay hF hV hm hs
      refine ⟨m', ?_, g2⟩
      rw [gX9_rowWay, m_told hF ht hr, Option.bind_some]
      dsimp only
      rw [es, g1, Option.bind_some]
      dsimp only
      by_cases w : isW V s = true
      · rw [if_pos w, if_pos w]
      · rw [if_neg w, if_neg w]
  · refine ⟨-9, Or.inl rfl, fun m hx hj hr => ?_, fun m hm hr => ⟨m, ?_, E57.rf m⟩⟩
    · rw [gX5_asWay, x_told hF ht hr, Option.bind_some]
      dsimp only
      rw [x_isWayNot hV hx hq, Option.bind_some, if_neg (fun z => by cases z)]
    · rw [gX9_rowWay, m_told hF ht hr, Option.bind_some]
      dsimp only
      rw [m_isWayNot hV hm hq, Option.bind_some, if_neg (fun z => by cases z)]
end
