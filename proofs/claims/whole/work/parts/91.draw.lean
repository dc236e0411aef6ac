section
variable {PM PS : Nat → Nat → Nat} {F : Nat} {V : Vd}
def XS (PM PS : Nat → Nat → Nat) (V : Vd) (t : Nat) (c : Nat → Nat) (m : Mem) : Prop := IAll PM PS m V ∧ LR V m ∧ XR t c m ∧ MR t c m
theorem XS.of {t : Nat} {c : Nat → Nat} {m m' : Mem} (h : XS PM PS V t c m) (hI : IAll PM PS m' V) (r : ∀ j, (j = 38 ∨ j = 39 ∨ j = 35 ∨ j = 36 ∨ j = 43 ∨ j = 63) → m'.1 j = m.1 j) : XS PM PS V t c m' := by
  obtain ⟨-, h2, h3, h4⟩ := h
  refine ⟨hI, ?_, ?_, ?_⟩
  · unfold LR at h2 ⊢
    rw [r 38 (by omega), r 39 (by omega)]
    exact h2
  · unfold XR at h3 ⊢
    rw [r 35 (by omega), r 36 (by omega)]
    exact h3
  · unfold MR at h4 ⊢
    rw [r 43 (by omega), r 63 (by omega)]
    exact h4
theorem E1.sm37 {m m' : Mem} (h : E1 37 m m') : Sm m m' := ⟨fun j hj => h.1 j (fun e => by subst e; cases hj), fun k _ => by rw [h.1 43 (by decide)], fun k _ => by rw [h.1 56 (by decide)]⟩
theorem EQ.sm {m m' : Mem} (h : EQ m m') : Sm m m' := ⟨fun j hj => h.1 j (fun e => by subst e; cases hj) (fun e => by subst e; cases hj) (fun e => by subst e; cases hj), fun k _ => by rw [h.1 43 (by decide) (by decide) (by decide)], fun k _ => by rw [h.1 56 (by decide) (by decide) (by decide)]⟩
theorem x_atN {m : Mem} (hV : okV V) (hw : IW m V) {i s : Nat} (hs : (ways V)[i]? = some s) : gX7_at m (nI i) = some (nI s) := by
  have hl := ways_le hV
  have hi := (List.getElem?_eq_some_iff.mp hs).1
  have hh : gX7_has m (nI i) = some true := by
    rw [x_hasW hw]
    congr 1
    apply decide_eq_true
    refine ⟨nI_pos (by omega), nI_ge hi (by omega), ?_⟩
    rw [show (252 : Int32) = nI 252 from rfl, le_nI (by omega) (by omega)]
    omega
  rw [gX7_at, hh, Option.bind_some, if_pos rfl, chk_pos (inb_nI (by omega) (by omega)), nI_clamp (by omega), (hw.2 i s hs).1]
/-- what a drawer makes, and the seed after it -/
def MB (PM PS : Nat → Nat → Nat) (F : Nat) (V : Vd) (t : Nat) (c : Nat → Nat) (a : Nat) (z r z' : Int32) : Prop := (r = -9 ∨ ∃ s, s < 2 ^ V.2.1 ∧ r = nI s) ∧ (∀ m, XS PM PS V t c m → m.1 37 3 = z → ∃ m', gX0_makeNext F m (nI a) = some (r, m') ∧ XS PM PS V t c m' ∧ m'.1 37 3 = z') ∧ (∀ m, IM m V → MR t c m → m.1 43 32 = z → ∃ m', gX9_makes F m (nI a) = some (r, m') ∧ Sm m m' ∧ m'.1 43 32 = z')
theorem mb_walk (hF : 2000 ≤ F) (hV : okV V) {t : Nat} {c : Nat → Nat} (z : Int32) : ∃ r z', MB PM PS F V t c 0 z r z' := by
  obtain ⟨r, z', h1, h2, h3⟩ := walk_both hF hV z
  refine ⟨r, z', h1, fun m hs hz => ?_, fun m hm hr hz => ?_⟩
  · obtain ⟨m', g1, g2, g3⟩ := h2 m hs.1.2.1 hs.2.1 hz
    refine ⟨m', ?_, hs.of (hs.1.sm g2.sm37) (fun j hj => g2.1 j (by omega)), g3⟩
    rw [gX0_makeNext, if_pos (show nI 0 = (0 : Int32) from rfl), g1]; rfl
  · obtain ⟨m', g1, g2, g3⟩ := h3 m hm hz
    refine ⟨m', ?_, g2.sm, g3⟩
    rw [gX9_makes, if_pos (show nI 0 = (0 : Int32) from rfl), g1]; rfl
theorem m_none (hF : 2000 ≤ F) (hV : okV V) {m : Mem} (hm : IM m V) (hN : (ways V).length = 0) {a : Int32} (h0 : ¬ a = 0) (h5 : ¬ a = 5) {z : Int32} (hz : m.1 43 32 = z) : ∃ m', gX9_makes F m a = some (-9, m') ∧ Sm m m' ∧ m'.1 43 32 = z := by
  obtain ⟨m', g1, g2, g3⟩ := m_findWays hF hV hm
  refine ⟨m', ?_, g2.sm, by rw [g2.2.1 32 (by decide)]; exact hz⟩
  rw [gX9_makes, if_neg h0, if_neg h5, g1, Option.bind_some, g3.1, hN, if_pos (show nI 0 = (0 : Int32) from rfl)]
theorem m_some (hF : 2000 ≤ F) (hV : okV V) {m : Mem} (hm : IM m V) (hN : 0 < (ways V).length) {a : Int32} (h0 : ¬ a = 0) (h5 : ¬ a = 5) : ∃ q1, gX9_findWays F m = some q1 ∧ EW m q1 ∧ FW q1 V (ways V) ∧ gX9_makes F m a = (if a = 1 then (gX9_steps F q1).bind (fun q3 => some (q3.1, q3.2)) else (if a = 2 then (gX9_cheapest F q1 0).bind (fun x5 => chk (inb x5 1024) (some (q1.1 58 (Int32.toNatClampNeg x5), q1))) else (if a = 3 then (gX9_dearest F q1).bind (fun x8 => some (x8, q1)) else (gX9_drawn q1 ((q1.1 43 24).toInt64)).bind (fun q9 => chk (inb q9.1 1024) (some (q9.2.1 58 (Int32.toNatClampNeg q9.1), q9.2)))))) := by
  have hl := ways_le hV
  obtain ⟨q1, g1, g2, g3⟩ := m_findWays hF hV hm
  have hne : ¬ q1.1 43 24 = 0 := fun e => by
    rw [g3.1, show (0 : Int32) = nI 0 from rfl] at e
    have := (nI_eq (by omega) (by omega)).mp e
    omega
  refine ⟨q1, g1, g2, g3, ?_⟩
  rw [gX9_makes, if_neg h0, if_neg h5, g1, Option.bind_some, if_neg hne]
theorem mb_step (hF : 2000 ≤ F) (hV : okV V) {t : Nat} {c : Nat → Nat} (z : Int32) : ∃ r z', MB PM PS F V t c 1 z r z' := by
  by_cases hN : (ways V).length = 0
  · refine ⟨-9, z, Or.inl rfl, fun m hs hz => ?_, fun m hm hr hz => m_none hF hV hm hN (by decide) (by decide) hz⟩
    have hw := hs.1.2.2.2.2.1
    obtain ⟨m1, a1, a2, a3, a4⟩ := x_copyTo hF hV hw
    refine ⟨m1, ?_, hs.of (hs.1.sm a2.sm) (fun j hj => a2.1 j (by omega) (by omega) (by omega)), by rw [a3]; exact hz⟩
    have hsum : ∃ v, gX0_poolWorthWith F m1 0 (nI 0) = some v := by
      have := x_poolWorth (V := V) hF (a := 0) (L := []) (by simp) (fun t ht => by simp at ht) (by omega) (m := m1) (fun i s h => by simp at h)
      exact ⟨_, this⟩
    obtain ⟨v, hv⟩ := hsum
    have q := iter_at (F := F) (f := bX0_laneByLane_25 F) (fun _ => (nI 0, v, 0, m1)) 0 (nI 0, v, 0, m1) (fun i hi => absurd hi (by omega)) (by
      rw [bX0_laneByLane_25]
      by_cases cc : m1.1 1 1 ≤ 0
      · rw [if_pos cc]
      · rw [if_neg cc, if_pos (by decide)]) (by omega)
    rw [gX0_makeNext, if_neg (by decide), if_pos (show nI 1 = (1 : Int32) from rfl), gX0_laneByLane, a1, Option.bind_some]
    dsimp only
    rw [hN, hv, Option.bind_some, q, Option.bind_some, if_pos (show nI 0 ≤ (0 : Int32) by decide), Option.bind_some]
  · have hP : 0 < (ways V).length := by omega
    have hok := dst_ok (V := V) (z := z) hP hV V.2.1
    refine ⟨nI (dst V z V.2.1).1, (dst V z V.2.1).2.2, Or.inr ⟨_, hok.1, rfl⟩, fun m hs hz => ?_, fun m hm hr hz => ?_⟩
    · obtain ⟨m', g1, g2, g3⟩ := x_laneByLane hF hV hs.1.2.1 hs.1.2.2.2.2.1 hP hz
      refine ⟨m', ?_, hs.of (hs.1.sm g2.sm) (fun j hj => g2.1 j (by omega) (by omega) (by omega)), g3⟩
      rw [gX0_makeNext, if_neg (by decide), if_pos (show nI 1 = (1 : Int32) from rfl), g1]; rfl
    · obtain ⟨q1, e1, e2, e3, e4⟩ := m_some hF hV hm hP (a := nI 1) (by decide) (by decide)
      obtain ⟨m', g1, g2, g3⟩ := m_steps hF hV (e2.im hm) e3 hP (z := z) (by rw [e2.2.1 32 (by decide)]; exact hz)
      refine ⟨m', ?_, e2.sm.tr g2.sm, g3⟩
      rw [e4, if_pos (show nI 1 = (1 : Int32) from rfl), g1]; rfl
theorem es_r {m m' : Mem} (h : ES m m') : ∀ j, (j = 38 ∨ j = 39 ∨ j = 35 ∨ j = 36 ∨ j = 43 ∨ j = 63) → m'.1 j = m.1 j := fun j hj => h.1 j (by omega) (by omega)
theorem mb_cheap (hF : 2000 ≤ F) {m0 : Mem} (hI0 : IAll PM PS m0 V) {t : Nat} {c : Nat → Nat} (z : Int32) : ∃ r z', MB PM PS F V t c 2 z r z' := by
  have hV := hI0.1
  have hl := ways_le hV
  by_cases hN : (ways V).length = 0
  · refine ⟨-9, z, Or.inl rfl, fun m hs hz => ?_, fun m hm hr hz => m_none hF hV hm hN (by decide) (by decide) hz⟩
    obtain ⟨m1, x1, x2, -, x4⟩ := x_noCost hF hs.1 (a := 0) (by decide) (by rw [hN]; decide)
    refine ⟨m1, ?_, hs.of x1 (es_r x4), by rw [x4.1 37 (by decide) (by decide)]; exact hz⟩
    rw [gX0_makeNext, if_neg (by decide), if_neg (by decide), if_pos (show nI 2 = (2 : Int32) from rfl), x2]; rfl
  · have hP : 0 < (ways V).length := by omega
    obtain ⟨ma, p, xa, xp, -, -, xc, -⟩ := x_byCost hF hI0 hP
    refine ⟨nI (wq V p), z, Or.inr ⟨_, (wq_lt hV xp).1, rfl⟩, fun m hs hz => ?_, fun m hm hr hz => ?_⟩
    · obtain ⟨m1, p', x1, x2, x3, -, x5, x6⟩ := x_byCost hF hs.1 hP
      refine ⟨m1, ?_, hs.of x1 (es_r x6), by rw [x6.1 37 (by decide) (by decide)]; exact hz⟩
      obtain ⟨q1, g1, g2, g3⟩ := m_findWays hF hV hs.1.2.2.1
      have e1 := xc q1 (g2.im hs.1.2.2.1) g3
      have e2 := x5 q1 (g2.im hs.1.2.2.1) g3
      rw [e1] at e2
      have e3 : nI p = nI p' := by simpa using e2
      have e4 := (nI_eq (show p < 2 ^ 31 by omega) (show p' < 2 ^ 31 by omega)).mp e3
      rw [gX0_makeNext, if_neg (by decide), if_neg (by decide), if_pos (show nI 2 = (2 : Int32) from rfl)]
      have x3' : gX7_bitsByCost F m 0 = some (nI (wq V p'), m1) := x3
      rw [x3', e4]; rfl
    · obtain ⟨q1, e1, e2, e3, e4⟩ := m_some hF hV hm hP (a := nI 2) (by decide) (by decide)
      refine ⟨q1, ?_, e2.sm, by rw [e2.2.1 32 (by decide)]; exact hz⟩
      have xc' : gX9_cheapest F q1 0 = some (nI p) := xc q1 (e2.im hm) e3
      rw [e4, if_neg (by decide), if_pos (show nI 2 = (2 : Int32) from rfl), xc', Option.bind_some, chk_pos (inb_nI (by omega) (by omega)), nI_clamp (by omega), (e3.2 p _ (wq_at xp)).1]
theorem mb_dear (hF : 2000 ≤ F) {m0 : Mem} (hI0 : IAll PM PS m0 V) {t : Nat} {c : Nat → Nat} (z : Int32) : ∃ r z', MB PM PS F V t c 3 z r z' := by
  have hV := hI0.1
  by_cases hN : (ways V).length = 0
  · refine ⟨-9, z, Or.inl rfl, fun m hs hz => ?_, fun m hm hr hz => m_none hF hV hm hN (by decide) (by decide) hz⟩
    obtain ⟨m1, x1, x2, x3⟩ := x_dearNone hF hs.1 hN
    refine ⟨m1, ?_, hs.of x2 (es_r x3), by rw [x3.1 37 (by decide) (by decide)]; exact hz⟩
    rw [gX0_makeNext, if_neg (by decide), if_neg (by decide), if_neg (by decide), if_pos (show nI 3 = (3 : Int32) from rfl), x1]; rfl
  · have hP : 0 < (ways V).length := by omega
    obtain ⟨ma, s, -, hd, -, -⟩ := x_dearest hF hV hI0 hP
    refine ⟨nI s, z, Or.inr ⟨s, (way_mem hd.1).1, rfl⟩, fun m hs hz => ?_, fun m hm hr hz => ?_⟩
    · obtain ⟨m1, s', x1, x2, x3, x4⟩ := x_dearest hF hV hs.1 hP
      refine ⟨m1, ?_, hs.of x3 (es_r x4), by rw [x4.1 37 (by decide) (by decide)]; exact hz⟩
      rw [gX0_makeNext, if_neg (by decide), if_neg (by decide), if_neg (by decide), if_pos (show nI 3 = (3 : Int32) from rfl), x1, hd.uniq x2]; rfl
    · obtain ⟨q1, e1, e2, e3, e4⟩ := m_some hF hV hm hP (a := nI 3) (by decide) (by decide)
      obtain ⟨s', g1, g2⟩ := m_dearest hF hV (e2.im hm) e3 hP
      refine ⟨q1, ?_, e2.sm, by rw [e2.2.1 32 (by decide)]; exact hz⟩
      rw [e4, if_neg (by decide), if_neg (by decide), if_pos (show nI 3 = (3 : Int32) from rfl), g1, hd.uniq g2]; rfl
theorem mb_fair (hF : 2000 ≤ F) (hV : okV V) {t : Nat} {c : Nat → Nat} (z : Int32) : ∃ r z', MB PM PS F V t c 4 z r z' := by
  have hl := ways_le hV
  by_cases hN : (ways V).length = 0
  · refine ⟨-9, z, Or.inl rfl, fun m hs hz => ⟨m, ?_, hs, hz⟩, fun m hm hr hz => m_none hF hV hm hN (by decide) (by decide) hz⟩
    rw [gX0_makeNext, if_neg (by decide), if_neg (by decide), if_neg (by decide), if_neg (by decide), if_pos (show nI 4 = (4 : Int32) from rfl), hs.1.2.2.2.2.1.1, hN, if_pos (show nI 0 = (0 : Int32) from rfl)]
  · have hP : 0 < (ways V).length := by omega
    generalize ez : lcg z = z'
    have hi := Nat.mod_lt (rA z') hP
    generalize er : rA z' % (ways V).length = i at hi
    obtain ⟨s, hs⟩ := ways_at hi
    refine ⟨nI s, z', Or.inr ⟨s, (ways_in hs).1, rfl⟩, fun m hx hz => ?_, fun m hm hr hz => ?_⟩
    · have hw := hx.1.2.2.2.2.1
      have hb : gX0_below m (nI (ways V).length) = some (nI i, mu m 37 3 z') := by rw [x_below hP (by omega), hz, ez, er]
      have he : E1 37 m (mu m 37 3 z') := E1.mu
      have hI' := hx.1.sm he.sm37
      have hne : ¬ nI (ways V).length = 0 := fun e => by
        rw [show (0 : Int32) = nI 0 from rfl] at e
        exact hN ((nI_eq (by omega) (by omega)).mp e)
      refine ⟨mu m 37 3 z', ?_, hx.of hI' (fun j hj => he.1 j (by omega)), mu_same _ _ _ _⟩
      rw [gX0_makeNext, if_neg (by decide), if_neg (by decide), if_neg (by decide), if_neg (by decide), if_pos (show nI 4 = (4 : Int32) from rfl), hw.1, if_neg hne, hb, Option.bind_some]
      dsimp only
      rw [x_atN hV hI'.2.2.2.2.1 hs, Option.bind_some]
    · obtain ⟨q1, e1, e2, e3, e4⟩ := m_some hF hV hm hP (a := nI 4) (by decide) (by decide)
      have hb : gX9_drawn q1 (lN (ways V).length) = some (nI i, mu q1 43 32 z') := by rw [m_drawn hP (by omega), e2.2.1 32 (by decide), hz, ez, er]
      have e43 : E43 q1 (mu q1 43 32 z') := E43.mu
      refine ⟨mu q1 43 32 z', ?_, e2.sm.tr e43.sm, mu_same _ _ _ _⟩
      rw [e4, if_neg (by decide), if_neg (by decide), if_neg (by decide), e3.1, nI_l (by omega), hb, Option.bind_some]
      dsimp only
      rw [chk_pos (inb_nI (by omega) (by omega)), nI_clamp (by omega), ((e43.fw e3).2 i s hs).1]
theorem mb_told (hF : 2000 ≤ F) (hV : okV V) {t : Nat} {c : Nat → Nat} (ht : t ≤ 10) (z : Int32) : ∃ r z', MB PM PS F V t c 5 z r z' := by
  obtain ⟨r, h1, h2, h3⟩ := told_both hF hV (c := c) ht
  refine ⟨r, z, h1, fun m hs hz => ⟨m, ?_, hs, hz⟩, fun m hm hr hz => ?_⟩
  · rw [gX0_makeNext, if_neg (by decide), if_neg (by decide), if_neg (by decide), if_neg (by decide), if_neg (by decide), if_pos (show nI 5 = (5 : Int32) from rfl), h2 m hs.1.2.1 hs.1.2.2.2.1 hs.2.2.1]; rfl
  · obtain ⟨m', g1, g2⟩ := h3 m hm hr
    refine ⟨m', ?_, g2.sm, by rw [g2.1 43 (by decide)]; exact hz⟩
    rw [gX9_makes, if_neg (by decide), if_pos (show nI 5 = (5 : Int32) from rfl), g1]; rfl
theorem mb_all (hF : 2000 ≤ F) {m0 : Mem} (hI0 : IAll PM PS m0 V) {t : Nat} {c : Nat → Nat} (ht : t ≤ 10) {a : Nat} (ha : a < 6) (z : Int32) : ∃ r z', MB PM PS F V t c a z r z' := by
  have : a = 0 ∨ a = 1 ∨ a = 2 ∨ a = 3 ∨ a = 4 ∨ a = 5 := by omega
  rcases this with rfl | rfl | rfl | rfl | rfl | rfl
  · exact mb_walk hF hI0.1 z
  · exact mb_step hF hI0.1 z
  · exact mb_cheap hF hI0 z
  · exact mb_dear hF hI0 z
  · exact mb_fair hF hI0.1 z
  · exact mb_told hF hI0.1 ht z
end
