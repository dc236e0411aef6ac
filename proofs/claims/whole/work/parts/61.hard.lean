/-! ===== how hard, a lane more, ploughs ===== -/
section
variable {PM PS : Nat → Nat → Nat} {m : Mem} {V : Vd} {F : Nat}
theorem both_ex (hF : 2000 ≤ F) {a b : Nat} (ha : a < 2 ^ 63) (hb : b < 2 ^ 63) (h0 : 0 < b) (p : Int32) : ∃ r, gX8_leastTerms F (lN a) (lN b) p = some r ∧ gX9_inLeast F (lN a) (lN b) p = some r := ⟨_, both_least hF ha hb h0 p⟩
theorem x_hasHouse {v : Nat} (hx : IX m v V) (a : Int32) : gX6_hasHouse m v a = some (decide (¬ a < 0 ∧ ¬ nI V.1 ≤ a)) := by
  unfold gX6_hasHouse
  rw [hx.1]
  by_cases h0 : a < 0
  · simp [h0]
  · by_cases h1 : nI V.1 ≤ a <;> simp [h0, h1]
theorem m_isHouse (hm : IM m V) (a : Int32) : gX9_isHouse m a = some (decide (¬ a < 0 ∧ ¬ nI V.1 ≤ a)) := by
  unfold gX9_isHouse
  rw [hm.1]
  by_cases h0 : a < 0
  · simp [h0]
  · by_cases h1 : nI V.1 ≤ a <;> simp [h0, h1]
theorem house_cases (hV : okV V) (a : Int32) : (∃ l, l < V.1 ∧ a = nI l ∧ decide (¬ a < 0 ∧ ¬ nI V.1 ≤ a) = true) ∨ decide (¬ a < 0 ∧ ¬ nI V.1 ≤ a) = false := by
  have hn := hV.2.1
  rcases arg_cases a V.1 (by omega) with h0 | ⟨h0, h1⟩ | ⟨l, hl, rfl, h0, h1⟩
  · exact Or.inr (by simp [h0])
  · exact Or.inr (by simp [h1])
  · exact Or.inl ⟨l, hl, rfl, by simp [h0, h1]⟩
theorem two_both (hV : okV V) (a b : Int32) : ∃ t : Bool, (∀ m, IX m 1 V → gX8_areTwoHouses m a b = some t) ∧ (∀ m, IM m V → gX9_areTwo m a b = some t) ∧ (t = true → ∃ x y, x < V.1 ∧ y < V.1 ∧ a = nI x ∧ b = nI y) := by
  rcases house_cases hV a with ⟨x, hx, rfl, hc⟩ | hc
  · rcases house_cases hV b with ⟨y, hy, rfl, hd⟩ | hd
    · by_cases he : nI x = nI y
      · exact ⟨false, fun m hx => by simp only [gX8_areTwoHouses, x_hasHouse hx, hc, hd, Option.bind_some, if_true, if_pos he], fun m hm => by simp only [gX9_areTwo, m_isHouse hm, hc, hd, Option.bind_some, if_true, if_pos he], fun h => by cases h⟩
      · exact ⟨true, fun m hx => by simp only [gX8_areTwoHouses, x_hasHouse hx, hc, hd, Option.bind_some, if_true, if_neg he], fun m hm => by simp only [gX9_areTwo, m_isHouse hm, hc, hd, Option.bind_some, if_true, if_neg he], fun h => ⟨x, y, hx, hy, rfl, rfl⟩⟩
    · exact ⟨false, fun m hx => by simp only [gX8_areTwoHouses, x_hasHouse hx, hc, hd, Option.bind_some, if_true, Bool.false_eq_true, if_false], fun m hm => by simp only [gX9_areTwo, m_isHouse hm, hc, hd, Option.bind_some, if_true, Bool.false_eq_true, if_false], fun h => by cases h⟩
  · exact ⟨false, fun m hx => by simp only [gX8_areTwoHouses, x_hasHouse hx, hc, Option.bind_some, Bool.false_eq_true, if_false], fun m hm => by simp only [gX9_areTwo, m_isHouse hm, hc, Option.bind_some, Bool.false_eq_true, if_false], fun h => by cases h⟩
theorem apt_le (hV : okV V) {M a b : Nat} : sst (apt V M a b) (wrt V) (2 ^ V.2.1) ≤ 531441 * 1024 := by
  refine Nat.le_trans (sst_le (B := 531441) _ (fun s _ hs => ?_)) (Nat.mul_le_mul_left _ (pow10 hV.2.2.1))
  unfold apt at hs
  simp only [Bool.and_eq_true] at hs
  exact wrt_le hV (by decide) hs.2.1
theorem whole_le (hV : okV V) : sst (fun s => opn V 0 s && frs V s 1) (wrt V) (2 ^ V.2.1) ≤ 531441 * 1024 := by
  refine Nat.le_trans (sst_le (B := 531441) _ (fun s _ hs => ?_)) (Nat.mul_le_mul_left _ (pow10 hV.2.2.1))
  simp only [Bool.and_eq_true] at hs
  exact wrt_le hV (by decide) hs.2
set_option maxHeartbeats 1000000 in
theorem pu_hard (hF : 2000 ≤ F) : PU_hard F (Inv PM PS) := by
  rintro m a1 a2 a3 ⟨V, hI⟩
  obtain ⟨hV, hx, hm, hj, -⟩ := id hI
  have hH := hV.2.1
  obtain ⟨t, t1, t2, t3⟩ := two_both hV a1 a2
  obtain ⟨p1, p2⟩ := isPart_ok a3
  cases t with
  | false =>
    obtain ⟨r1, r2, r3⟩ := refL hI 1 (by decide) (by decide) (Sm.rf _)
    refine ⟨4000000000000000000 - (-nI 1).toInt64, mu m 42 1 (m.1 42 1 + 1), _, ?_, ?_, r3⟩
    · simp only [gX8_hard, t1 m hx, Option.bind_some, Bool.false_eq_true, if_false]
      rw [show (-1 : Int32) = -nI 1 from rfl, r1]; rfl
    · simp only [gX9_hard, t2 _ (sm42 hm rfl), Option.bind_some, Bool.false_eq_true, if_false]
      rw [show (-1 : Int32) = -nI 1 from rfl, r2]; rfl
  | true =>
    cases hp : decide (a3 = 0 ∨ a3 = 1) with
    | false =>
      obtain ⟨r1, r2, r3⟩ := refL hI 2 (by decide) (by decide) (Sm.rf _)
      refine ⟨4000000000000000000 - (-nI 2).toInt64, mu m 42 2 (m.1 42 2 + 1), _, ?_, ?_, r3⟩
      · simp only [gX8_hard, t1 m hx, p1, hp, Option.bind_some, if_true, Bool.false_eq_true, if_false]
        rw [show (-2 : Int32) = -nI 2 from rfl, r1]; rfl
      · simp only [gX9_hard, t2 _ (sm42 hm rfl), p2, hp, Option.bind_some, if_true, Bool.false_eq_true, if_false]
        rw [show (-2 : Int32) = -nI 2 from rfl, r2]; rfl
    | true =>
      obtain ⟨x, y, hx7, hy7, rfl, rfl⟩ := t3 rfl
      have b1 := whole_le hV
      have b2 := apt_le hV (M := 0) (a := x) (b := y)
      by_cases h0 : sst (fun s => opn V 0 s && frs V s 1) (wrt V) (2 ^ V.2.1) = 0
      · obtain ⟨m', s1, s2⟩ := m_sumTogether hF hV (m := mu m 42 3 (m.1 42 3 + 1)) (sm42 hm rfl)
        obtain ⟨r1, r2, r3⟩ := refL hI 3 (by decide) (by decide) s2.sm
        refine ⟨4000000000000000000 - (-nI 3).toInt64, mu m 42 3 (m.1 42 3 + 1), _, ?_, ?_, r3⟩
        · simp only [gX8_hard, t1 m hx, p1, hp, Option.bind_some, if_true, x_worthOfWhole hF hV hx hj]
          rw [if_pos ((lg0 _ (by omega)).mpr h0), show (-3 : Int32) = -nI 3 from rfl, r1]; rfl
        · simp only [gX9_hard, t2 _ (sm42 hm rfl), p2, hp, Option.bind_some, if_true, s1]
          rw [if_pos ((lg0 _ (by omega)).mpr h0), show (-3 : Int32) = -nI 3 from rfl, r2]; rfl
      · obtain ⟨m', s1, s2⟩ := m_sumTogether hF hV hm
        obtain ⟨m'', u1, u2⟩ := m_sumApart hF hV (s2.im hm) hx7 hy7 false
        simp only [Bool.false_eq_true, if_false] at u1
        obtain ⟨r, e1, e2⟩ := both_ex hF (a := sst (apt V 0 x y) (wrt V) (2 ^ V.2.1)) (b := sst (fun s => opn V 0 s && frs V s 1) (wrt V) (2 ^ V.2.1)) (by omega) (by omega) (by omega) a3
        refine ⟨r, m, m'', ?_, ?_, V, hI.sm (s2.tr u2).sm⟩
        rotate_left
        · simp only [gX9_hard, t2 _ hm, p2, hp, Option.bind_some, if_true, s1]
          rw [if_neg (fun z => h0 ((lg0 _ (by omega)).mp z)), u1, Option.bind_some]
          dsimp only
          rw [e2, Option.bind_some]
        · simp only [gX8_hard, t1 m hx, p1, hp, Option.bind_some, if_true, x_worthOfWhole hF hV hx hj]
          rw [if_neg (fun z => h0 ((lg0 _ (by omega)).mp z))]
          have := x_worthApart hF hV hx hj (a := x) (b := y) (M := 0) (by omega) (by omega) (by omega)
          rw [show (nI 0 : Int32) = 0 from rfl] at this
          rw [this, Option.bind_some, e1, Option.bind_some]
theorem wrt_pos (hV : okV V) (s : Nat) : 1 ≤ wrt V s := by
  have hw1 : ∀ k, k ≤ V.2.1 → 1 ≤ wth V.2.2 s k := fun k => by
    induction k with
    | zero => intro _; exact Nat.le_refl 1
    | succ k ih =>
      intro hk
      have h1 := ih (by omega)
      have h2 := (hV.wt (l := k) (by omega)).1
      simp only [wth]
      split
      · exact Nat.mul_le_mul h1 h2
      · omega
  exact hw1 V.2.1 (Nat.le_refl _)
theorem sum_pos (hV : okV V) : smw (fun _ => true) (wrt V) (ways V) = 0 ↔ (ways V).length = 0 := by
  cases hq : ways V with
  | nil => simp [smw]
  | cons s r =>
    have := wrt_pos hV s
    simp only [smw, if_true, List.length_cons]
    omega
set_option maxHeartbeats 1000000 in
theorem pu_more (hF : 2000 ≤ F) : PU_more F (Inv PM PS) := by
  rintro m a1 a2 a3 ⟨V, hI⟩
  obtain ⟨hV, hx, hm, hj, hw, -⟩ := id hI
  have hH := hV.2.1
  have hl := ways_le hV
  obtain ⟨t, t1, t2, t3⟩ := two_both hV a1 a2
  obtain ⟨p1, p2⟩ := isPart_ok a3
  cases t with
  | false =>
    obtain ⟨r1, r2, r3⟩ := refL hI 1 (by decide) (by decide) (Sm.rf _)
    refine ⟨4000000000000000000 - (-nI 1).toInt64, mu m 42 1 (m.1 42 1 + 1), _, ?_, ?_, r3⟩
    · simp only [gX8_more, t1 m hx, Option.bind_some, Bool.false_eq_true, if_false]
      rw [show (-1 : Int32) = -nI 1 from rfl, r1]; rfl
    · simp only [gX9_more, t2 _ (sm42 hm rfl), Option.bind_some, Bool.false_eq_true, if_false]
      rw [show (-1 : Int32) = -nI 1 from rfl, r2]; rfl
  | true =>
    cases hp : decide (a3 = 0 ∨ a3 = 1) with
    | false =>
      obtain ⟨r1, r2, r3⟩ := refL hI 2 (by decide) (by decide) (Sm.rf _)
      refine ⟨4000000000000000000 - (-nI 2).toInt64, mu m 42 2 (m.1 42 2 + 1), _, ?_, ?_, r3⟩
      · simp only [gX8_more, t1 m hx, p1, hp, Option.bind_some, if_true, Bool.false_eq_true, if_false]
        rw [show (-2 : Int32) = -nI 2 from rfl, r1]; rfl
      · simp only [gX9_more, t2 _ (sm42 hm rfl), p2, hp, Option.bind_some, if_true, Bool.false_eq_true, if_false]
        rw [show (-2 : Int32) = -nI 2 from rfl, r2]; rfl
    | true =>
      obtain ⟨x, y, hx7, hy7, rfl, rfl⟩ := t3 rfl
      have b1 := smw_ways hV (fun _ => true)
      have b2 := apt_le hV (M := mus V) (a := x) (b := y)
      have hM := Nat.lt_of_lt_of_le (mus_lt (V := V)) (pow10 hV.2.2.1)
      by_cases h0 : smw (fun _ => true) (wrt V) (ways V) = 0
      · obtain ⟨m', s1, s2, s3⟩ := m_findWays hF hV (m := mu m 42 3 (m.1 42 3 + 1)) (sm42 hm rfl)
        obtain ⟨r1, r2, r3⟩ := refL hI 3 (by decide) (by decide) s2.sm
        refine ⟨4000000000000000000 - (-nI 3).toInt64, mu m 42 3 (m.1 42 3 + 1), _, ?_, ?_, r3⟩
        · simp only [gX8_more, t1 m hx, p1, hp, Option.bind_some, if_true, hw.1, (sum_pos hV).mp h0]
          rw [if_pos (show nI 0 = (0 : Int32) from rfl), show (-3 : Int32) = -nI 3 from rfl, r1]; rfl
        · simp only [gX9_more, t2 _ (sm42 hm rfl), p2, hp, Option.bind_some, if_true, s1, m_sum0 hF hV s3]
          rw [if_pos ((lg0 _ (by omega)).mpr h0), show (-3 : Int32) = -nI 3 from rfl, r2]; rfl
      · obtain ⟨m', s1, s2, s3⟩ := m_findWays hF hV hm
        obtain ⟨m'', u1, u2⟩ := m_sumApart hF hV (s2.im hm) hx7 hy7 true
        simp only [if_true] at u1
        have hn : ¬ nI (ways V).length = 0 := by
          rw [show (0 : Int32) = nI 0 from rfl, eq_nI (by omega) (by omega)]
          exact fun z => h0 ((sum_pos hV).mpr z)
        obtain ⟨r, e1, e2⟩ := both_ex hF (a := smw (fun _ => true) (wrt V) (ways V) + sst (apt V (mus V) x y) (wrt V) (2 ^ V.2.1)) (b := smw (fun _ => true) (wrt V) (ways V)) (by omega) (by omega) (by omega) a3
        refine ⟨r, m, m'', ?_, ?_, V, hI.sm (s2.sm.tr u2.sm)⟩
        rotate_left
        · simp only [gX9_more, t2 _ hm, p2, hp, Option.bind_some, if_true, s1, m_sum0 hF hV s3]
          rw [if_neg (fun z => h0 ((lg0 _ (by omega)).mp z)), u1, Option.bind_some]
          dsimp only
          rw [lN_add, e2, Option.bind_some]
        · simp only [gX8_more, t1 m hx, p1, hp, Option.bind_some, if_true, hw.1, if_neg hn, x_sum0 hF hV hw, hx.2.2.1]
          rw [x_worthApart hF hV hx hj (a := x) (b := y) (M := mus V) (by omega) (by omega) (by omega), Option.bind_some, lN_add, e1, Option.bind_some]
end
