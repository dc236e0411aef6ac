/-! ===== toward a house ===== -/
section
variable {PM PS : Nat → Nat → Nat} {m : Mem} {V : Vd} {F : Nat}
/-- whether a lane hinders -/
def hnd (V : Vd) (g s k : Nat) : Bool := s.testBit k && (decide (V.2.2 k 0 = 3) && !decide (lb V.2.2 (wo s (2 ^ k)) V.2.1 (V.2.2 k 2) = lb V.2.2 (wo s (2 ^ k)) V.2.1 g))
def twd (V : Vd) (g s : Nat) : Nat → Bool
  | 0 => true
  | k + 1 => twd V g s k && !hnd V g s k
theorem twd_down {g s k : Nat} (h : twd V g s k = false) : ∀ d, twd V g s (k + d) = false
  | 0 => h
  | d + 1 => by rw [← Nat.add_assoc, twd, twd_down h d]; rfl
theorem wo_same {s k : Nat} : wo s (2 ^ k) = s ↔ s.testBit k = false := by
  constructor
  · intro h
    rw [← h, wo_bit, Nat.testBit_two_pow_self]; simp
  · intro h
    apply Nat.eq_of_testBit_eq
    intro i
    rw [wo_bit, Nat.testBit_two_pow]
    by_cases hi : k = i
    · subst hi; simp [h]
    · simp [hi]
theorem x_leadsTo (hF : 2000 ≤ F) (hV : okV V) (hx : IX m 1 V) (hj : IJ m V) {s g : Nat} (hs : s < 2 ^ V.2.1) (hg : g < V.1) : gX7_leadsTo F m (nI g) (nI s) = some (twd V g s V.2.1) := by
  have hn := hV.2.2.1
  have hH := hV.2.1
  have h10 := hV.sl hs
  obtain ⟨e, h1, h2⟩ := iter_inv (f := bX7_leadsTo_2 m (nI g) (nI s)) (fun i q => q = nI i ∧ twd V g s i = true) V.2.1 (fun e => (Sum.elim (fun _ => some true) (fun q => some q) e : Option Bool) = some (twd V g s V.2.1)) (by
      rintro i q hi ⟨rfl, ha⟩
      have ok := hV.2.2.2 i hi
      have e2 : m.1 2 i = nI (V.2.2 i 0) := (hx.2.2.2.2 i hi).1
      have e4 : m.1 4 i = nI (V.2.2 i 2) := (hx.2.2.2.2 i hi).2.2.1
      have hk := ok.1
      have hc2 := ok.2.2.1
      have hib : inb (nI i) 10 := inb_nI (by omega) (by omega)
      have hw := wo_lt (b := 2 ^ i) hs
      have hw10 := hV.sl hw
      simp only [bX7_leadsTo_2]
      rw [hx.2.1, ite_leN (by omega) (by omega), if_neg (by omega), show (10 : Int32) = nI 10 from rfl, ite_leN (by omega) (by omega), if_neg (by omega), lete_eq, sh1 (by omega), woI, chk_pos hib, nI_clamp (by omega), e2, show (3 : Int32) = nI 3 from rfl, ite_eqN (by omega) (by omega), ite_eqN (by omega) (by omega), chk_pos hib, e4, x_areTogether hV hj hw (by omega) (by omega), Option.bind_some, nI_1]
      have next : hnd V g s i = false → twd V g s (i + 1) = true := fun z => by rw [twd, ha, z]; rfl
      by_cases c1 : V.2.2 i 0 = 3
      · rw [if_pos c1]
        by_cases c2 : wo s (2 ^ i) = s
        · rw [if_pos c2]
          exact Or.inl ⟨_, rfl, rfl, next (by unfold hnd; rw [wo_same.mp c2]; rfl)⟩
        · rw [if_neg c2]
          have c3 : s.testBit i = true := by
            cases hb : s.testBit i with
            | true => rfl
            | false => exact absurd (wo_same.mpr hb) c2
          by_cases c4 : lb V.2.2 (wo s (2 ^ i)) V.2.1 (V.2.2 i 2) = lb V.2.2 (wo s (2 ^ i)) V.2.1 g
          · rw [if_pos (decide_eq_true c4)]
            exact Or.inl ⟨_, rfl, rfl, next (by unfold hnd; rw [decide_eq_true c4]; simp)⟩
          · rw [if_neg (by simp [c4])]
            refine Or.inr ⟨_, rfl, ?_⟩
            have : twd V g s (i + 1) = false := by rw [twd, hnd, c3, decide_eq_true c1, decide_eq_false c4]; simp
            have h7 := twd_down this (V.2.1 - (i + 1))
            rw [show i + 1 + (V.2.1 - (i + 1)) = V.2.1 by omega] at h7
            rw [h7]; rfl
      · rw [if_neg c1]
        exact Or.inl ⟨_, rfl, rfl, next (by unfold hnd; rw [decide_eq_false c1]; simp)⟩) (by
      rintro q ⟨rfl, ha⟩
      refine ⟨_, by simp only [bX7_leadsTo_2]; rw [hx.2.1, ite_leN (by omega) (by omega), if_pos (by omega)], ?_⟩
      rw [ha]; rfl) F 0 0 (Nat.zero_le _) (by omega) ⟨rfl, rfl⟩
  rw [gX7_leadsTo, h1, Option.bind_some, h2]
set_option maxHeartbeats 1000000 in
theorem m_isToward (hF : 2000 ≤ F) (hV : okV V) (hm : IM m V) {s g : Nat} (hs : s < 2 ^ V.2.1) (hg : g < V.1) : ∃ m', gX9_isToward F m (nI s) (nI g) = some (twd V g s V.2.1, m') ∧ E57 m m' := by
  have hn := hV.2.2.1
  have hH := hV.2.1
  have h10 := hV.sl hs
  obtain ⟨e, h1, h2⟩ := iter_inv (f := bX9_isToward_2 F (nI s) (nI g)) (fun i q => q.1 = nI i ∧ E57 m q.2 ∧ twd V g s i = true) V.2.1 (fun e => ∃ m', (Sum.elim (fun s10 => some (true, s10.2)) (fun q => some q) e : Option (Bool × Mem)) = some (twd V g s V.2.1, m') ∧ E57 m m') (by
      rintro i ⟨y, m1⟩ hi ⟨rfl, he, ha⟩
      dsimp only at he
      have hm1 := he.im hm
      have ok := hV.2.2.2 i hi
      have hk := ok.1
      have hc2 := ok.2.2.1
      have e45 : m1.1 45 i = nI (V.2.2 i 0) := hm1.at (k := 0) hi (by decide)
      have hib : inb (nI i) 11 := inb_nI (by omega) (by omega)
      have hw := wo_lt (b := 2 ^ i) hs
      obtain ⟨m2, g1, g2, g3⟩ := m_partsOf hF hV hm1 hw
      have e47 : m2.1 47 i = nI (V.2.2 i 2) := (g2.im hm1).at (k := 2) hi (by decide)
      have pb := pl_lt V.2.2 (wo s (2 ^ i)) V.1 V.2.1 (fun l hl => ⟨(hV.2.2.2 l hl).2.1, (hV.2.2.2 l hl).2.2.1⟩)
      have p1 := pb _ hc2
      have p2 := pb _ hg
      have pj := pl_lb V.2.2 (wo s (2 ^ i)) V.2.1 (V.2.2 i 2) g
      simp only [bX9_isToward_2]
      rw [hm1.2.1, ite_leN (by omega) (by omega), if_neg (by omega), ite_bit0 (by omega) (by omega), chk_pos hib, nI_clamp (by omega), e45, show (3 : Int32) = nI 3 from rfl, ite_eqN (by omega) (by omega), sh1 (by omega), woI, g1, Option.bind_some, chk_pos hib, e47, chk_pos (inb_nI (by omega) (by omega)), chk_pos (inb_nI (by omega) (by omega)), nI_clamp (by omega), nI_clamp (by omega), g3 _ hc2, g3 _ hg, ite_eqN (by omega) (by omega), nI_1]
      have next : hnd V g s i = false → twd V g s (i + 1) = true := fun z => by rw [twd, ha, z]; rfl
      by_cases c3 : s.testBit i = true
      · rw [if_pos c3]
        by_cases c1 : V.2.2 i 0 = 3
        · rw [if_pos c1]
          by_cases c4 : pl V.2.2 (wo s (2 ^ i)) V.2.1 (V.2.2 i 2) = pl V.2.2 (wo s (2 ^ i)) V.2.1 g
          · rw [if_pos c4]
            exact Or.inl ⟨_, rfl, rfl, he.tr g2, next (by unfold hnd; rw [decide_eq_true (pj.mp c4)]; simp)⟩
          · rw [if_neg c4]
            refine Or.inr ⟨_, rfl, m2, ?_, he.tr g2⟩
            have : twd V g s (i + 1) = false := by rw [twd, hnd, c3, decide_eq_true c1, decide_eq_false (fun z => c4 (pj.mpr z))]; simp
            have h7 := twd_down this (V.2.1 - (i + 1))
            rw [show i + 1 + (V.2.1 - (i + 1)) = V.2.1 by omega] at h7
            rw [h7]; rfl
        · rw [if_neg c1]
          exact Or.inl ⟨_, rfl, rfl, he, next (by unfold hnd; rw [decide_eq_false c1]; simp)⟩
      · rw [if_neg c3]
        exact Or.inl ⟨_, rfl, rfl, he, next (by unfold hnd; simp [c3])⟩) (by
      rintro ⟨y, m1⟩ ⟨rfl, he, ha⟩
      dsimp only at he
      refine ⟨.inl (nI V.2.1, m1), by simp only [bX9_isToward_2]; rw [(he.im hm).2.1, ite_leN (by omega) (by omega), if_pos (by omega)], m1, ?_, he⟩
      rw [ha]; rfl) F 0 (0, m) (Nat.zero_le _) (by omega) ⟨rfl, E57.rf m, rfl⟩
  obtain ⟨m', h3, h4⟩ := h2
  exact ⟨m', by rw [gX9_isToward, h1, Option.bind_some, h3], h4⟩
theorem x_manyToward (hF : 2000 ≤ F) (hV : okV V) (hx : IX m 1 V) (hj : IJ m V) (hw : IW m V) {g : Nat} (hg : g < V.1) : gX7_manyToward F m (nI g) = some (nI (smw (fun s => twd V g s V.2.1) (fun _ => 1) (ways V))) := by
  have hl := ways_le hV
  unfold gX7_manyToward
  have q := iter_at (F := F) (f := bX7_manyToward_4 F m (nI g)) (fun i => (nI (smw (fun s => twd V g s V.2.1) (fun _ => 1) ((ways V).take i)), nI i)) (ways V).length (nI (smw (fun s => twd V g s V.2.1) (fun _ => 1) (ways V)), nI (ways V).length) (fun i hi => ?_) ?_ (by omega)
  · have e0 : iter F (bX7_manyToward_4 F m (nI g)) (0, 0) = _ := q
    rw [e0]; rfl
  · obtain ⟨s, hs⟩ := ways_at (V := V) hi
    have hsl := (ways_in hs).1
    simp only [bX7_manyToward_4]
    rw [hw.1, ite_leN (by omega) (by omega), if_neg (by omega), show (252 : Int32) = nI 252 from rfl, ite_leN (by omega) (by omega), if_neg (by omega), chk_pos (inb_nI (by omega) (by omega)), nI_clamp (by omega), (hw.2 i s hs).1, x_leadsTo hF hV hx hj hsl hg, Option.bind_some, nI_1, nI_1, smw_take hs]
    by_cases c : twd V g s V.2.1 = true <;> simp [c]
  · simp only [bX7_manyToward_4]
    rw [hw.1, ite_leN (by omega) (by omega), if_pos (Nat.le_refl _), List.take_length]
theorem x_worthToward (hF : 2000 ≤ F) (hV : okV V) (hx : IX m 1 V) (hj : IJ m V) (hw : IW m V) {g : Nat} (hg : g < V.1) : gX7_worthToward F m (nI g) = some (lN (smw (fun s => twd V g s V.2.1) (wrt V) (ways V))) := by
  have hl := ways_le hV
  unfold gX7_worthToward
  have q := iter_at (F := F) (f := bX7_worthToward_5 F m (nI g)) (fun i => (lN (smw (fun s => twd V g s V.2.1) (wrt V) ((ways V).take i)), nI i)) (ways V).length (lN (smw (fun s => twd V g s V.2.1) (wrt V) (ways V)), nI (ways V).length) (fun i hi => ?_) ?_ (by omega)
  · have e0 : iter F (bX7_worthToward_5 F m (nI g)) (0, 0) = _ := q
    rw [e0]; rfl
  · obtain ⟨s, hs⟩ := ways_at (V := V) hi
    have hsl := (ways_in hs).1
    have hb := way_wrt hV (List.mem_of_getElem? hs)
    simp only [bX7_worthToward_5]
    rw [hw.1, ite_leN (by omega) (by omega), if_neg (by omega), show (252 : Int32) = nI 252 from rfl, ite_leN (by omega) (by omega), if_neg (by omega), chk_pos (inb_nI (by omega) (by omega)), nI_clamp (by omega), (hw.2 i s hs).1, x_leadsTo hF hV hx hj hsl hg, Option.bind_some, chk_pos (inb_nI (by omega) (by omega)), lete_eq, (hw.2 i s hs).2, nI_l (by omega), lN_add, nI_1, smw_take hs]
    by_cases c : twd V g s V.2.1 = true <;> simp [c]
  · simp only [bX7_worthToward_5]
    rw [hw.1, ite_leN (by omega) (by omega), if_pos (Nat.le_refl _), List.take_length]
theorem E57.fw {m m' : Mem} {L : List Nat} (h : E57 m m') (hw : FW m V L) : FW m' V L := by
  unfold FW at hw ⊢
  rw [h.1 43 (by decide), h.1 58 (by decide), h.2]
  exact hw
set_option maxHeartbeats 1000000 in
theorem m_toward (hF : 2000 ≤ F) (hV : okV V) (hm : IM m V) (hw : FW m V (ways V)) {g : Nat} (hg : g < V.1) (a2 : Int32) : ∃ e, iter F (bX9_toward_39 F (nI g) a2) (0, 0, m) = some e ∧ e.1 = lN (smw (fun s => twd V g s V.2.1) (if a2 = 0 then (fun _ => 1) else wrt V) (ways V)) ∧ E57 m e.2.2 := by
  have hl := ways_le hV
  exact iter_inv (f := bX9_toward_39 F (nI g) a2) (fun i q => q.1 = lN (smw (fun s => twd V g s V.2.1) (if a2 = 0 then (fun _ => 1) else wrt V) ((ways V).take i)) ∧ q.2.1 = nI i ∧ E57 m q.2.2) (ways V).length (fun e => e.1 = lN (smw (fun s => twd V g s V.2.1) (if a2 = 0 then (fun _ => 1) else wrt V) (ways V)) ∧ E57 m e.2.2) (by
      rintro i ⟨y, z, m1⟩ hi ⟨rfl, hz, he⟩
      dsimp only at hz he
      subst hz
      refine Or.inl ?_
      have hm1 := he.im hm
      have hw1 := he.fw hw
      obtain ⟨s, hs⟩ := ways_at (V := V) hi
      have hsl := (ways_in hs).1
      obtain ⟨m2, g1, g2⟩ := m_isToward hF hV hm1 hsl hg
      have hw2 := g2.fw hw1
      have hib : inb (nI i) 1024 := inb_nI (by omega) (by omega)
      simp only [bX9_toward_39]
      rw [hw1.1, ite_leN (by omega) (by omega), if_neg (by omega), chk_pos hib, nI_clamp (by omega), (hw1.2 i s hs).1, g1, Option.bind_some]
      simp only [lete_eq, chk_pos hib]
      rw [(hw2.2 i s hs).2, nI_1, smw_take hs]
      by_cases c : twd V g s V.2.1 = true
      · rw [if_pos c, if_pos c]
        by_cases c2 : a2 = 0
        · simp only [if_pos c2]
          exact ⟨_, rfl, by simp [lN_1], rfl, he.tr g2⟩
        · simp only [if_neg c2]
          exact ⟨_, rfl, by simp [lN_add], rfl, he.tr g2⟩
      · rw [if_neg c, if_neg c]
        exact ⟨_, rfl, by simp, rfl, he.tr g2⟩) (by
      rintro ⟨y, z, m1⟩ ⟨rfl, hz, he⟩
      dsimp only at hz he
      subst hz
      refine ⟨(lN (smw (fun s => twd V g s V.2.1) (if a2 = 0 then (fun _ => 1) else wrt V) ((ways V).take (ways V).length)), nI (ways V).length, m1), ?_, by rw [List.take_length], he⟩
      simp only [bX9_toward_39]
      rw [(he.fw hw).1, ite_leN (by omega) (by omega), if_pos (Nat.le_refl _)]) F 0 (0, 0, m) (Nat.zero_le _) (by omega) ⟨rfl, rfl, E57.rf m⟩
theorem pu_toward (hF : 2000 ≤ F) : PU_toward F (Inv PM PS) := by
  rintro m a1 a2 ⟨V, hI⟩
  obtain ⟨hV, hx, hm, hj, hw, -⟩ := id hI
  have hl := ways_le hV
  obtain ⟨p1, p2⟩ := isPart_ok a2
  rcases house_cases hV a1 with ⟨g, hg, rfl, hc⟩ | hc
  · cases hp : decide (a2 = 0 ∨ a2 = 1) with
    | false =>
      obtain ⟨r1, r2, r3⟩ := refL hI 2 (by decide) (by decide) (Sm.rf _)
      have q := of_decide_eq_false hp
      simp only [not_or] at q
      refine ⟨4000000000000000000 - (-nI 2).toInt64, mu m 42 2 (m.1 42 2 + 1), _, ?_, ?_, r3⟩
      · rw [gX8_toward, x_hasHouse hx, hc, Option.bind_some, if_pos rfl, if_neg q.1, if_neg q.2, show (-2 : Int32) = -nI 2 from rfl, r1]; rfl
      · rw [gX9_toward, m_isHouse (sm42 hm rfl), hc, Option.bind_some, if_pos rfl, p2, hp, Option.bind_some, if_neg (by decide), show (-2 : Int32) = -nI 2 from rfl, r2]; rfl
    | true =>
      obtain ⟨m', g1, g2, g3⟩ := m_findWays hF hV hm
      obtain ⟨e, e1, e2, e3⟩ := m_toward hF hV (g2.im hm) g3 hg a2
      refine ⟨lN (smw (fun s => twd V g s V.2.1) (if a2 = 0 then (fun _ => 1) else wrt V) (ways V)), m, e.2.2, ?_, ?_, V, hI.sm (g2.sm.tr e3.sm)⟩
      · have hb : smw (fun s => twd V g s V.2.1) (fun _ => 1) (ways V) ≤ 1 * (ways V).length := smw_le _ (fun _ _ => Nat.le_refl 1)
        rw [gX8_toward, x_hasHouse hx, hc, Option.bind_some, if_pos rfl]
        by_cases c : a2 = 0
        · rw [if_pos c, if_pos c, if_pos c, x_manyToward hF hV hx hj hw hg, Option.bind_some, nI_l (by omega)]
        · have c1 : a2 = 1 := by
            rcases of_decide_eq_true hp with q | q
            · exact absurd q c
            · exact q
          rw [if_neg c, if_pos c1, if_neg c, if_neg c, x_worthToward hF hV hx hj hw hg, Option.bind_some]
      · rw [gX9_toward, m_isHouse hm, hc, Option.bind_some, if_pos rfl, p2, hp, Option.bind_some, if_pos rfl, g1, Option.bind_some, e1, Option.bind_some, e2]
  · obtain ⟨r1, r2, r3⟩ := refL hI 1 (by decide) (by decide) (Sm.rf _)
    refine ⟨4000000000000000000 - (-nI 1).toInt64, mu m 42 1 (m.1 42 1 + 1), _, ?_, ?_, r3⟩
    · rw [gX8_toward, x_hasHouse hx, hc, Option.bind_some, if_neg (by decide), show (-1 : Int32) = -nI 1 from rfl, r1]; rfl
    · rw [gX9_toward, m_isHouse (sm42 hm rfl), hc, Option.bind_some, if_neg (by decide), show (-1 : Int32) = -nI 1 from rfl, r2]; rfl
end
