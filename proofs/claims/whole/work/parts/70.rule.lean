/-! ===== rules set, lanes taken up ===== -/
theorem join_congr {f g : Nat → Nat → Nat} {s : Nat} : ∀ k, (∀ l, l < k → f l 1 = g l 1 ∧ f l 2 = g l 2) → (∀ h, lb f s k h = lb g s k h) ∧ jn f s k = jn g s k ∧ rg f s k = rg g s k
  | 0, _ => ⟨fun _ => rfl, rfl, rfl⟩
  | k + 1, h => by
    obtain ⟨h1, h2, h3⟩ := join_congr (s := s) k (fun l hl => h l (by omega))
    obtain ⟨e1, e2⟩ := h k (by omega)
    refine ⟨fun x => ?_, ?_, ?_⟩
    · simp only [lb, e1, e2, h1]
    · simp only [jn, e1, e2, h1, h2]
    · simp only [rg, e1, e2, h1, h3]
theorem stt_congr {V W : Vd} {s : Nat} (h1 : V.1 = W.1) (h2 : V.2.1 = W.2.1) (h : ∀ l, l < V.2.1 → V.2.2 l 1 = W.2.2 l 1 ∧ V.2.2 l 2 = W.2.2 l 2) : stt V s = stt W s := by
  obtain ⟨a, b, c⟩ := join_congr (s := s) V.2.1 h
  unfold stt
  rw [← h1, ← h2, b, c, show lb V.2.2 s V.2.1 = lb W.2.2 s V.2.1 from funext a]
/-- a lane ruled anew -/
def upR (V : Vd) (L x : Nat) : Vd := (V.1, V.2.1, fun l k => if l = L ∧ k = 6 then x else V.2.2 l k)
theorem upR_ne {V : Vd} {L x l k : Nat} (h : k ≠ 6) : (upR V L x).2.2 l k = V.2.2 l k := by unfold upR; simp [h]
theorem upR_6 {V : Vd} {L x l : Nat} : (upR V L x).2.2 l 6 = if l = L then x else V.2.2 l 6 := by unfold upR; simp
theorem upR_row {V : Vd} {L x l : Nat} : wt ((upR V L x).2.2 l) = wt (V.2.2 l) ∧ ct ((upR V L x).2.2 l) = ct (V.2.2 l) ∧ dr ((upR V L x).2.2 l) = dr (V.2.2 l) := by
  unfold wt ct dr
  rw [upR_ne (by decide), upR_ne (by decide), upR_ne (by decide), upR_ne (by decide)]
  exact ⟨rfl, rfl, rfl⟩
theorem upR_ok {V : Vd} {L x : Nat} (hV : okV V) (hx : x ≤ 2) : okV (upR V L x) := by
  obtain ⟨a, b, c, d⟩ := hV
  refine ⟨a, b, c, fun l hl => ?_⟩
  have h := d l hl
  unfold okL at h ⊢
  rw [upR_ne (by decide), upR_ne (by decide), upR_ne (by decide), upR_ne (by decide), upR_ne (by decide), upR_ne (by decide), upR_6]
  refine ⟨h.1, h.2.1, h.2.2.1, h.2.2.2.1, h.2.2.2.2.1, h.2.2.2.2.2.1, h.2.2.2.2.2.2.1, h.2.2.2.2.2.2.2.1, ?_⟩
  have := h.2.2.2.2.2.2.2.2
  split <;> omega
theorem rB_up {V : Vd} {L x y : Nat} (hL : L < V.2.1) : rB (upR V L x).2.2 y V.2.1 = if x = y then rB V.2.2 y V.2.1 ||| 2 ^ L else wo (rB V.2.2 y V.2.1) (2 ^ L) := by
  apply Nat.eq_of_testBit_eq
  intro i
  rw [rB_bit, upR_6]
  by_cases hxy : x = y
  · rw [if_pos hxy, or_bit, rB_bit]
    by_cases hi : i = L
    · subst hi; simp [hL, hxy]
    · have : ¬ L = i := fun z => hi z.symm
      simp [hi, this]
  · rw [if_neg hxy, wo_bit, Nat.testBit_two_pow, rB_bit]
    by_cases hi : i = L
    · subst hi; simp [hxy]
    · have : ¬ L = i := fun z => hi z.symm
      simp [hi, this]
section
variable {PM PS : Nat → Nat → Nat} {m : Mem} {V : Vd} {F : Nat}
theorem x_setRule {v M B L x : Nat} (h2 : m.1 v 2 = nI M) (h3 : m.1 v 3 = nI B) (hL : L < 31) (hx : x ≤ 2) : ∃ m', gX6_setRule m v (nI L) (nI x) = some m' ∧ E1 v m m' ∧ m'.1 v 2 = nI (if x = 1 then M ||| 2 ^ L else wo M (2 ^ L)) ∧ m'.1 v 3 = nI (if x = 2 then B ||| 2 ^ L else wo B (2 ^ L)) ∧ ∀ k, k ≠ 2 → k ≠ 3 → m'.1 v k = m.1 v k := by
  refine ⟨mu (mu m v 2 (nI (if x = 1 then M ||| 2 ^ L else wo M (2 ^ L)))) v 3 (nI (if x = 2 then B ||| 2 ^ L else wo B (2 ^ L))), ?_, E1.mu.tr E1.mu, ?_, mu_same _ _ _ _, fun k k2 k3 => ?_⟩
  · have e3 : ∀ a, (mu m v 2 a).1 v 3 = nI B := fun a => by rw [mu_ne _ _ (Or.inr (by decide))]; exact h3
    rw [gX6_setRule, lete_eq, sh1 hL, h2, orI, woI]
    simp only [lete_eq, e3]
    rw [orI, woI, show (2 : Int32) = nI 2 from rfl, ite_eqN (by omega) (by omega), ite_eqN (by omega) (by omega), show (1 : Int32) = nI 1 from rfl, ite_eqN (by omega) (by omega)]
    by_cases c1 : x = 1
    · by_cases c2 : x = 2
      · omega
      · simp only [if_pos c1, if_neg c2]
    · by_cases c2 : x = 2
      · simp only [if_neg c1, if_pos c2]
      · simp only [if_neg c1, if_neg c2]
  · rw [mu_ne _ _ (Or.inr (by decide)), mu_same]
  · rw [mu_ne _ _ (Or.inr k3), mu_ne _ _ (Or.inr k2)]
theorem x_ruled (hV : okV V) {v L x : Nat} (hx : IX m v V) (hL : L < V.2.1) (h2 : x ≤ 2) : ∃ m', gX6_setRule m v (nI L) (nI x) = some m' ∧ E1 v m m' ∧ IX m' v (upR V L x) := by
  have hn := hV.2.2.1
  obtain ⟨m', g1, g2, g3, g4, g5⟩ := x_setRule (L := L) (x := x) hx.2.2.1 hx.2.2.2.1 (by omega) h2
  refine ⟨m', g1, g2, ?_, ?_, ?_, ?_, ?_⟩
  · rw [g5 0 (by decide) (by decide)]; exact hx.1
  · rw [g5 1 (by decide) (by decide)]; exact hx.2.1
  · rw [g3]
    unfold mus
    show _ = nI (rB (upR V L x).2.2 1 V.2.1)
    rw [rB_up hL]
  · rw [g4]
    unfold bar
    show _ = nI (rB (upR V L x).2.2 2 V.2.1)
    rw [rB_up hL]
  · intro l hl
    rw [g2.1 (v + 1) (by omega), g2.1 (v + 2) (by omega), g2.1 (v + 3) (by omega), g2.1 (v + 4) (by omega), g2.1 (v + 5) (by omega), g2.1 (v + 6) (by omega), upR_ne (by decide), upR_ne (by decide), upR_ne (by decide), upR_row.1, upR_row.2.1, upR_row.2.2]
    exact hx.2.2.2.2 l hl
theorem IJ.up (hj : IJ m V) {L x : Nat} : IJ m (upR V L x) := fun s hs => by
  rw [hj s hs]
  congr 1
  exact stt_congr rfl rfl (fun l _ => ⟨(upR_ne (by decide)).symm, (upR_ne (by decide)).symm⟩)
theorem IM.up (hm : IM m V) {L x : Nat} (hL : L < V.2.1) : IM (mu m 51 L (nI x)) (upR V L x) := by
  refine ⟨by rw [mu_ne _ _ (Or.inl (by decide))]; exact hm.1, by rw [mu_ne _ _ (Or.inl (by decide))]; exact hm.2.1, fun l k hl hk => ?_⟩
  have := hm.2.2 l k hl hk
  rw [mu_g]
  unfold upR
  dsimp only
  by_cases c1 : k = 6
  · subst c1
    by_cases c2 : l = L
    · subst c2; simp
    · simp [c2, this]
  · have : ¬ 45 + k = 51 := by omega
    simp [this, c1, hm.2.2 l k hl hk]
theorem isIn02 (a : Int32) : gX9_isIn a 0 2 = some (decide (¬ a < 0 ∧ a ≤ 2)) := by
  unfold gX9_isIn
  by_cases h0 : a < 0
  · simp [h0]
  · by_cases h1 : a ≤ 2
    · have : ¬ (2 : Int32) < a := Int32.not_lt.mpr h1
      simp [h0, h1, this]
    · have : (2 : Int32) < a := Int32.not_le.mp h1
      simp [h0, h1, this]
/-- all of it, with the village and what is told of it changed -/
theorem IAll.now {m1 : Mem} {W : Vd} (h : IAll PM PS m V) (b1 : okV W) (b2 : IX m1 1 W) (b3 : IM m1 W) (b4 : IJ m1 W) (b5 : IW m1 W) (b6 : m1.1 26 6 = 0) (b7 : ILe m1) (r : ∀ j, (j = 0 ∨ (15 ≤ j ∧ j ≤ 21) ∨ (31 ≤ j ∧ j ≤ 36) ∨ j = 42 ∨ j = 44 ∨ j = 63) → m1.1 j = m.1 j) (f18 : m1.1 43 18 = m.1 43 18) (f34 : m1.1 43 34 = m.1 43 34) (k : ∀ q, q < 79 → m1.1 56 q = m.1 56 q) : IAll PM PS m1 W := by
  obtain ⟨a1, a2, a3, a4, a5, a6, a7, a8, a9, a10, a11⟩ := h
  exact ⟨b1, b2, b3, b4, b5, Or.inl b6, b7, a8.sm (by rw [r 0 (by omega)]) f18 (fun k hk => r _ (by omega)) k, a9.sm (by rw [r 35 (by omega)]) f34 (r 36 (by omega)) (r 63 (by omega)), a10.sm (r 42 (by omega)) (r 44 (by omega)), a11.sm (by rw [r 31 (by omega)]) (r 33 (by omega)) (r 34 (by omega))⟩
theorem pu_rule (hF : 2000 ≤ F) : PU_rule F (Inv PM PS) := by
  rintro m a1 a2 ⟨V, hI⟩
  obtain ⟨hV, hx, hm, hj, hw, hso, hle, him, hro, hre, hpq⟩ := id hI
  have hn := hV.2.2.1
  rcases lane_cases hV a1 with ⟨L, hL, rfl, hc⟩ | hc
  · by_cases h0 : a2 < 0
    · obtain ⟨r1, r2, r3⟩ := refI hI 2 (by decide) (by decide) (Sm.rf _)
      refine ⟨-nI 2, mu m 42 2 (m.1 42 2 + 1), _, ?_, ?_, r3⟩
      · rw [gX8_rule, x_hasLane hV hx, hc, Option.bind_some, if_pos rfl, if_pos h0, show (-2 : Int32) = -nI 2 from rfl, r1]; rfl
      · rw [gX9_rule, m_isLane hV (sm42 hm rfl), hc, Option.bind_some, if_pos rfl, isIn02, decide_eq_false (fun z => z.1 h0), Option.bind_some, if_neg (by decide), show (-2 : Int32) = -nI 2 from rfl, r2]; rfl
    · by_cases h1 : a2 ≤ 2
      · obtain ⟨x, hx2, rfl⟩ : ∃ x, x ≤ 2 ∧ a2 = nI x := by
          rcases arg_cases a2 3 (by decide) with q | ⟨_, q⟩ | ⟨x, q1, q2, _⟩
          · exact absurd q h0
          · exfalso
            rw [Int32.le_iff_toInt_le] at q h1
            have e3 : (nI 3).toInt = 3 := by decide
            have e2 : (2 : Int32).toInt = 2 := by decide
            omega
          · exact ⟨x, by omega, q2⟩
        obtain ⟨m1, g1, g2, g3⟩ := x_ruled hV hx hL hx2
        have hj1 : IJ m1 (upR V L x) := by
          unfold IJ
          rw [g2.1 25 (by decide)]
          exact hj.up
        obtain ⟨m2, k1, k2, k3, k4⟩ := x_list hF (upR_ok hV hx2) g3 hj1
        have same : ∀ j, j ≠ 1 → j ≠ 26 → j ≠ 27 → j ≠ 28 → m2.1 j = m.1 j := fun j q1 q2 q3 q4 => by rw [k2.1 j q2 q3 q4, g2.1 j q1]
        have hm2 : IM m2 V := hm.sm (by rw [same 43 (by decide) (by decide) (by decide) (by decide)]) (by rw [same 43 (by decide) (by decide) (by decide) (by decide)]) (fun k hk => same _ (by omega) (by omega) (by omega) (by omega))
        have e51 : m2.1 51 L = nI (V.2.2 L 6) := hm2.at (k := 6) hL (by decide)
        refine ⟨nI (V.2.2 L 6), m2, mu m2 51 L (nI x), ?_, ?_, upR V L x, ?_⟩
        · rw [gX8_rule, x_hasLane hV hx, hc, Option.bind_some, if_pos rfl, if_neg h0, if_pos h1, x_ruleOf hV hx hL, Option.bind_some, g1, Option.bind_some, k1, Option.bind_some]
        · rw [gX9_rule, m_isLane hV hm2, hc, Option.bind_some, if_pos rfl, isIn02, decide_eq_true ⟨h0, h1⟩, Option.bind_some, if_pos rfl, chk_pos (inb_nI (by omega) (by omega)), lete_eq, nI_clamp (by omega), e51, chk_pos (inb_nI (by omega) (by omega)), lete_eq]
        · have same2 : ∀ j, j ≠ 51 → (mu m2 51 L (nI x)).1 j = m2.1 j := fun j q => mu_row _ _ q
          refine hI.now (upR_ok hV hx2) ((k2.ix g3).sm (fun k hk => same2 _ (by omega))) (hm2.up hL) ?_ (k3.sm (by rw [same2 26 (by decide)]) (same2 27 (by decide)) (same2 28 (by decide))) (by rw [same2 26 (by decide)]; exact k4) (hle.sm (by rw [same2 22 (by decide), same 22 (by decide) (by decide) (by decide) (by decide)]) (by rw [same2 43 (by decide), same 43 (by decide) (by decide) (by decide) (by decide)]) (by rw [same2 23 (by decide), same 23 (by decide) (by decide) (by decide) (by decide)]) (by rw [same2 52 (by decide), same 52 (by decide) (by decide) (by decide) (by decide)])) (fun j hj => by rw [same2 j (by omega), same j (by omega) (by omega) (by omega) (by omega)]) (by rw [same2 43 (by decide), same 43 (by decide) (by decide) (by decide) (by decide)]) (by rw [same2 43 (by decide), same 43 (by decide) (by decide) (by decide) (by decide)]) (fun q _ => by rw [same2 56 (by decide), same 56 (by decide) (by decide) (by decide) (by decide)])
          unfold IJ
          rw [same2 25 (by decide)]
          exact k2.ij hj1
      · obtain ⟨r1, r2, r3⟩ := refI hI 2 (by decide) (by decide) (Sm.rf _)
        refine ⟨-nI 2, mu m 42 2 (m.1 42 2 + 1), _, ?_, ?_, r3⟩
        · rw [gX8_rule, x_hasLane hV hx, hc, Option.bind_some, if_pos rfl, if_neg h0, if_neg h1, show (-2 : Int32) = -nI 2 from rfl, r1]; rfl
        · rw [gX9_rule, m_isLane hV (sm42 hm rfl), hc, Option.bind_some, if_pos rfl, isIn02, decide_eq_false (fun z => h1 z.2), Option.bind_some, if_neg (by decide), show (-2 : Int32) = -nI 2 from rfl, r2]; rfl
  · obtain ⟨r1, r2, r3⟩ := refI hI 1 (by decide) (by decide) (Sm.rf _)
    refine ⟨-nI 1, mu m 42 1 (m.1 42 1 + 1), _, ?_, ?_, r3⟩
    · rw [gX8_rule, x_hasLane hV hx, hc, Option.bind_some, if_neg (by decide), show (-1 : Int32) = -nI 1 from rfl, r1]; rfl
    · rw [gX9_rule, m_isLane hV (sm42 hm rfl), hc, Option.bind_some, if_neg (by decide), show (-1 : Int32) = -nI 1 from rfl, r2]; rfl
/-- without its last lane -/
def dnL (V : Vd) : Vd := (V.1, V.2.1 - 1, V.2.2)
theorem dnL_ok (hV : okV V) : okV (dnL V) := ⟨hV.1, hV.2.1, by have := hV.2.2.1; show V.2.1 - 1 ≤ 10; omega, fun l hl => hV.2.2.2 l (by have : l < V.2.1 - 1 := hl; omega)⟩
theorem rB_dn {f : Nat → Nat → Nat} {x k : Nat} : wo (rB f x (k + 1)) (2 ^ k) = rB f x k := by
  apply Nat.eq_of_testBit_eq
  intro i
  rw [wo_bit, rB_bit, rB_bit, Nat.testBit_two_pow]
  by_cases hi : k = i
  · subst hi; simp
  · by_cases h2 : i < k
    · have : i < k + 1 := by omega
      simp [hi, h2, this]
    · have : ¬ i < k + 1 := by omega
      simp [h2, this]
theorem pu_takeUp (hF : 2000 ≤ F) : PU_takeUp F (Inv PM PS) := by
  rintro m ⟨V, hI⟩
  obtain ⟨hV, hx, hm, hj, hw, hso, hle, him, hro, hre, hpq⟩ := id hI
  have hn := hV.2.2.1
  by_cases h0 : V.2.1 = 0
  · obtain ⟨r1, r2, r3⟩ := refI hI 3 (by decide) (by decide) (Sm.rf _)
    refine ⟨-nI 3, mu m 42 3 (m.1 42 3 + 1), _, ?_, ?_, r3⟩
    · rw [gX8_takeUp, hx.2.1, h0, if_pos (show nI 0 = (0 : Int32) from rfl), show (-3 : Int32) = -nI 3 from rfl, r1]; rfl
    · rw [gX9_takeUp, (sm42 hm rfl).2.1, h0, if_pos (show nI 0 = (0 : Int32) from rfl), show (-3 : Int32) = -nI 3 from rfl, r2]; rfl
  · obtain ⟨k, hk⟩ : ∃ k, V.2.1 = k + 1 := ⟨V.2.1 - 1, by omega⟩
    have e1 : nI V.2.1 - 1 = nI k := by rw [hk, show (1 : Int32) = nI 1 from rfl, pk_sub (by omega)]; rfl
    have c2 : (mu m 1 1 (nI k)).1 1 2 = nI (mus V) := by rw [mu_ne _ _ (Or.inr (by decide))]; exact hx.2.2.1
    have c3 : (mu m 1 1 (nI k)).1 1 3 = nI (bar V) := by rw [mu_ne _ _ (Or.inr (by decide))]; exact hx.2.2.2.1
    obtain ⟨m1, g1, g2, g3, g4, g5⟩ := x_setRule (L := k) (x := 0) c2 c3 (by omega) (by omega)
    rw [if_neg (by decide)] at g3 g4
    have edn : (dnL V).2.1 = k := by show V.2.1 - 1 = k; omega
    have s1 : ∀ j, j ≠ 1 → m1.1 j = m.1 j := fun j hj => by rw [g2.1 j hj, mu_row _ _ hj]
    have hx1 : IX m1 1 (dnL V) := by
      refine ⟨?_, ?_, ?_, ?_, ?_⟩
      · rw [g5 0 (by decide) (by decide), mu_ne _ _ (Or.inr (by decide))]; exact hx.1
      · rw [g5 1 (by decide) (by decide), mu_same, edn]
      · rw [g3]
        unfold mus
        rw [edn, hk, rB_dn]
        rfl
      · rw [g4]
        unfold bar
        rw [edn, hk, rB_dn]
        rfl
      · intro l hl
        rw [s1 (1 + 1) (by decide), s1 (1 + 2) (by decide), s1 (1 + 3) (by decide), s1 (1 + 4) (by decide), s1 (1 + 5) (by decide), s1 (1 + 6) (by decide)]
        exact hx.2.2.2.2 l (by rw [edn] at hl; omega)
    have hj1 : IJ m1 (dnL V) := fun s hs => by
      rw [edn] at hs
      rw [s1 25 (by decide), hj s (by rw [hk, Nat.pow_succ]; omega), stt_sts, stt_sts, hk, sts_without hs, edn]
      rfl
    obtain ⟨m2, k1, k2, k3, k4⟩ := x_list hF (dnL_ok hV) hx1 hj1
    have same : ∀ j, j ≠ 1 → j ≠ 26 → j ≠ 27 → j ≠ 28 → m2.1 j = m.1 j := fun j q1 q2 q3 q4 => by rw [k2.1 j q2 q3 q4, s1 j q1]
    have hx2 := k2.ix hx1
    have s43 := same 43 (by decide) (by decide) (by decide) (by decide)
    have hne : ¬ nI V.2.1 = 0 := by rw [show (0 : Int32) = nI 0 from rfl, eq_nI (by omega) (by omega)]; exact h0
    have hng : ¬ nI V.2.1 ≤ 0 := by rw [show (0 : Int32) = nI 0 from rfl, le_nI (by omega) (by omega)]; omega
    have e9 : m2.1 43 9 = nI V.2.1 := by rw [s43]; exact hm.2.1
    refine ⟨nI k, m2, mu m2 43 9 (nI k), ?_, ?_, dnL V, ?_⟩
    · rw [gX8_takeUp, hx.2.1, if_neg hne, gX6_removeLatest, hx.2.1, if_neg hng, lete_eq, e1, mu_same, show (0 : Int32) = nI 0 from rfl, g1, Option.bind_some, Option.bind_some, k1, Option.bind_some, hx2.2.1, edn]
    · rw [gX9_takeUp, e9, if_neg hne, lete_eq, e1, mu_same]
    · have same2 : ∀ j, j ≠ 43 → (mu m2 43 9 (nI k)).1 j = m2.1 j := fun j q => mu_row _ _ q
      refine hI.now (dnL_ok hV) (hx2.sm (fun k hk => same2 _ (by omega))) ?_ ?_ (k3.sm (by rw [same2 26 (by decide)]) (same2 27 (by decide)) (same2 28 (by decide))) (by rw [same2 26 (by decide)]; exact k4) (hle.sm (by rw [same2 22 (by decide), same 22 (by decide) (by decide) (by decide) (by decide)]) (by rw [mu_ne _ _ (Or.inr (by decide)), s43]) (by rw [same2 23 (by decide), same 23 (by decide) (by decide) (by decide) (by decide)]) (by rw [same2 52 (by decide), same 52 (by decide) (by decide) (by decide) (by decide)])) (fun j hj => by rw [same2 j (by omega), same j (by omega) (by omega) (by omega) (by omega)]) (by rw [mu_ne _ _ (Or.inr (by decide)), s43]) (by rw [mu_ne _ _ (Or.inr (by decide)), s43]) (fun q _ => by rw [same2 56 (by decide), same 56 (by decide) (by decide) (by decide) (by decide)])
      · refine ⟨by rw [mu_ne _ _ (Or.inr (by decide)), s43]; exact hm.1, by rw [mu_same, edn], fun l q hl hq => ?_⟩
        rw [edn] at hl
        rw [same2 _ (by omega), same _ (by omega) (by omega) (by omega) (by omega)]
        exact hm.2.2 l q (by omega) hq
      · unfold IJ
        rw [same2 25 (by decide)]
        exact k2.ij hj1
end
