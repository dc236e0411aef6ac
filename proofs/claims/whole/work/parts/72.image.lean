/-! ===== image and restore ===== -/
section
variable {PM PS : Nat → Nat → Nat} {m : Mem} {V : Vd} {F : Nat}
/-- k rows are kept -/
def KQ (c k : Nat) (m mk : Mem) : Prop := mk.1 43 20 = nI (c + 11 * k) ∧ (∀ q, q ≠ 20 → mk.1 43 q = m.1 43 q) ∧ (∀ i, i ≠ 43 → i ≠ 56 → mk.1 i = m.1 i) ∧ mk.2 = m.2 ∧ (∀ q, ¬ (c ≤ q ∧ q < c + 11 * k) → mk.1 56 q = m.1 56 q) ∧ ∀ q p, q < k → p < 11 → mk.1 56 (c + 11 * q + p) = m.1 (45 + q) p
theorem KQ.more (hF : 2000 ≤ F) {c k : Nat} {mk : Mem} (h : KQ c k m mk) (hk : k < 7) (hc : c ≤ 100) (h19 : m.1 43 19 = 1) : ∃ m', gX9_passes F mk (45 + k) = some m' ∧ KQ c (k + 1) m m' := by
  obtain ⟨a1, a2, a3, a4, a5, a6⟩ := h
  obtain ⟨m', g1, g2, g3, g4, g5, g6, g7⟩ := m_keep hF (m := mk) (j := 45 + k) (c := c + 11 * k) (by omega) (by omega) (by rw [a2 19 (by decide)]; exact h19) a1
  refine ⟨m', g1, by rw [g2]; rfl, fun q hq => by rw [g3 q hq, a2 q hq], fun i i1 i2 => by rw [g4 i i1 i2, a3 i i1 i2], g5.trans a4, fun q hq => by rw [g6 q (by omega), a5 q (by omega)], fun q p hq hp => ?_⟩
  by_cases e : q = k
  · subst e
    rw [g7 p hp, a3 _ (by omega) (by omega)]
  · rw [g6 _ (by omega)]
    exact a6 q p (by omega) hp
theorem m_keepAll (hF : 2000 ≤ F) (hm : IM m V) (hV : okV V) {w : Nat} (hw : w ≤ 1) : ∃ m', gX9_passesAll F m (nI w) true = some m' ∧ IK m' (100 * w) V ∧ (∀ i, i ≠ 43 → i ≠ 56 → m'.1 i = m.1 i) ∧ (∀ k, k ≠ 19 → k ≠ 20 → m'.1 43 k = m.1 43 k) ∧ ∀ q, ¬ (100 * w ≤ q ∧ q < 100 * w + 79) → m'.1 56 q = m.1 56 q := by
  have hn := hV.2.2.1
  have hm2 : ∃ m2, mu (mu m 43 20 (nI (100 * w))) 43 19 1 = m2 := ⟨_, rfl⟩
  obtain ⟨m2, hm2⟩ := hm2
  have f19 : m2.1 43 19 = 1 := by rw [← hm2]; simp [mu_g]
  have f20 : m2.1 43 20 = nI (100 * w) := by rw [← hm2]; simp [mu_g]
  have fo : ∀ k, k ≠ 19 → k ≠ 20 → m2.1 43 k = m.1 43 k := fun k h1 h2 => by rw [← hm2, mu_ne _ _ (Or.inr h1), mu_ne _ _ (Or.inr h2)]
  have fr : ∀ i, i ≠ 43 → m2.1 i = m.1 i := fun i h => by rw [← hm2, mu_row _ _ h, mu_row _ _ h]
  have q0 : KQ (100 * w) 0 m2 m2 := ⟨f20, fun _ _ => rfl, fun _ _ _ => rfl, rfl, fun _ _ => rfl, fun q p hq => absurd hq (by omega)⟩
  obtain ⟨k1, p1, q1⟩ := q0.more hF (by decide) (by omega) f19
  obtain ⟨k2, p2, q2⟩ := q1.more hF (by decide) (by omega) f19
  obtain ⟨k3, p3, q3⟩ := q2.more hF (by decide) (by omega) f19
  obtain ⟨k4, p4, q4⟩ := q3.more hF (by decide) (by omega) f19
  obtain ⟨k5, p5, q5⟩ := q4.more hF (by decide) (by omega) f19
  obtain ⟨k6, p6, q6⟩ := q5.more hF (by decide) (by omega) f19
  obtain ⟨k7, p7, q7⟩ := q6.more hF (by decide) (by omega) f19
  obtain ⟨a1, a2, a3, a4, a5, a6⟩ := q7
  have e8 : k7.1 43 8 = nI V.1 := by rw [a2 8 (by decide), fo 8 (by decide) (by decide)]; exact hm.1
  have e9 : k7.1 43 9 = nI V.2.1 := by rw [a2 9 (by decide), fo 9 (by decide) (by decide)]; exact hm.2.1
  have e19 : k7.1 43 19 = 1 := by rw [a2 19 (by decide)]; exact f19
  have hA : ∃ n1, mu (mu k7 56 (100 * w + 77) (nI V.1)) 43 20 (nI (100 * w + 78)) = n1 := ⟨_, rfl⟩
  obtain ⟨n1, hA⟩ := hA
  have o1 : gX9_passOne k7 (nI V.1) = some (nI V.1, n1) := by
    have x20 : ∀ x, (mu k7 56 (100 * w + 77) x).1 43 20 = nI (100 * w + 77) := fun x => by rw [mu_ne _ _ (Or.inl (by decide))]; exact a1
    rw [gX9_passOne, e19, if_neg (by decide), if_neg (by decide), a1, chk_pos (inb_nI (by omega) (by omega)), nI_clamp (by omega), lete_eq, x20, lete_eq, nI_1, hA]
  have hB : ∃ n2, mu n1 43 8 (nI V.1) = n2 := ⟨_, rfl⟩
  obtain ⟨n2, hB⟩ := hB
  have b20 : n2.1 43 20 = nI (100 * w + 78) := by rw [← hB, ← hA]; simp [mu_g]
  have b19 : n2.1 43 19 = 1 := by rw [← hB, ← hA]; simp [mu_g, e19]
  have b9 : n2.1 43 9 = nI V.2.1 := by rw [← hB, ← hA]; simp [mu_g, e9]
  have b56 : ∀ q, n2.1 56 q = if q = 100 * w + 77 then nI V.1 else k7.1 56 q := fun q => by rw [← hB, ← hA]; simp [mu_g]
  have b43 : ∀ k, k ≠ 19 → k ≠ 20 → n2.1 43 k = m.1 43 k := fun k h1 h2 => by
    rw [← hB, mu_g, if_pos rfl]
    by_cases c : k = 8
    · rw [if_pos c, c]; exact hm.1.symm
    · rw [if_neg c, ← hA, mu_ne _ _ (Or.inr h2), mu_ne _ _ (Or.inl (by decide)), a2 k h2, fo k h1 h2]
  have bo : ∀ i, i ≠ 43 → i ≠ 56 → n2.1 i = m.1 i := fun i h1 h2 => by rw [← hB, mu_row _ _ h1, ← hA, mu_row _ _ h1, mu_row _ _ h2, a3 i h1 h2, fr i h1]
  have o2 : gX9_passOne n2 (nI V.2.1) = some (nI V.2.1, mu (mu n2 56 (100 * w + 78) (nI V.2.1)) 43 20 (nI (100 * w + 79))) := by
    have x20 : ∀ x, (mu n2 56 (100 * w + 78) x).1 43 20 = nI (100 * w + 78) := fun x => by rw [mu_ne _ _ (Or.inl (by decide))]; exact b20
    rw [gX9_passOne, b19, if_neg (by decide), if_neg (by decide), b20, chk_pos (inb_nI (by omega) (by omega)), nI_clamp (by omega), lete_eq, x20, lete_eq, nI_1]
  refine ⟨mu (mu (mu n2 56 (100 * w + 78) (nI V.2.1)) 43 20 (nI (100 * w + 79))) 43 9 (nI V.2.1), ?_, ⟨?_, ?_, fun l k hl hk => ?_⟩, fun i h1 h2 => ?_, fun k h1 h2 => ?_, fun q hq => ?_⟩
  · rw [gX9_passesAll, show (100 : Int32) = nI 100 from rfl, pk_mul, lete_eq, lete_eq, show b2i true = 1 from rfl, hm2, p1, Option.bind_some, p2, Option.bind_some, p3, Option.bind_some, p4, Option.bind_some, p5, Option.bind_some, p6, Option.bind_some, p7, Option.bind_some, e8, o1, Option.bind_some, lete_eq]
    dsimp only
    rw [hB, b9, o2, Option.bind_some, lete_eq]
  · rw [mu_ne _ _ (Or.inl (by decide)), mu_ne _ _ (Or.inl (by decide)), mu_ne _ _ (Or.inr (by omega)), b56, if_pos rfl]
  · rw [mu_ne _ _ (Or.inl (by decide)), mu_ne _ _ (Or.inl (by decide)), mu_same]
  · rw [mu_ne _ _ (Or.inl (by decide)), mu_ne _ _ (Or.inl (by decide)), mu_ne _ _ (Or.inr (by omega)), b56, if_neg (by omega), a6 k l hk (by omega), fr _ (by omega)]
    exact hm.2.2 l k hl hk
  · rw [mu_row _ _ h1, mu_row _ _ h1, mu_row _ _ h2, bo i h1 h2]
  · rw [mu_g, if_pos rfl]
    by_cases c : k = 9
    · rw [if_pos c, c]; exact hm.2.1.symm
    · rw [if_neg c, mu_ne _ _ (Or.inr h2), mu_ne _ _ (Or.inl (by decide)), b43 k h1 h2]
  · rw [mu_ne _ _ (Or.inl (by decide)), mu_ne _ _ (Or.inl (by decide)), mu_ne _ _ (Or.inr (by omega)), b56, if_neg (by omega), a5 q (by omega), fr 56 (by decide)]
/-- k rows are taken back -/
def TQ (c k : Nat) (m mk : Mem) : Prop := mk.1 43 20 = nI (c + 11 * k) ∧ (∀ q, q ≠ 20 → mk.1 43 q = m.1 43 q) ∧ (∀ i, i ≠ 43 → ¬ (45 ≤ i ∧ i < 45 + k) → mk.1 i = m.1 i) ∧ mk.2 = m.2 ∧ ∀ q p, q < k → p < 11 → mk.1 (45 + q) p = m.1 56 (c + 11 * q + p)
theorem TQ.more (hF : 2000 ≤ F) {c k : Nat} {mk : Mem} (h : TQ c k m mk) (hk : k < 7) (hc : c ≤ 100) (h19 : m.1 43 19 = 0) : ∃ m', gX9_passes F mk (45 + k) = some m' ∧ TQ c (k + 1) m m' := by
  obtain ⟨a1, a2, a3, a4, a6⟩ := h
  obtain ⟨m', g1, g2, g3, g4, g5, g7⟩ := m_take hF (m := mk) (j := 45 + k) (c := c + 11 * k) (by omega) (by omega) (by rw [a2 19 (by decide)]; exact h19) a1
  refine ⟨m', g1, by rw [g2]; rfl, fun q hq => by rw [g3 q hq, a2 q hq], fun i i1 i2 => by rw [g4 i i1 (by omega), a3 i i1 (by omega)], g5.trans a4, fun q p hq hp => ?_⟩
  by_cases e : q = k
  · subst e
    rw [g7 p hp, a3 56 (by omega) (by omega)]
  · rw [g4 _ (by omega) (by omega)]
    exact a6 q p (by omega) hp
theorem m_takeAll (hF : 2000 ≤ F) {w : Nat} (hw : w ≤ 1) (hk : IK m (100 * w) V) (hV : okV V) : ∃ m', gX9_passesAll F m (nI w) false = some m' ∧ IM m' V ∧ (∀ i, i ≠ 43 → ¬ (45 ≤ i ∧ i < 52) → m'.1 i = m.1 i) ∧ ∀ k, k ≠ 8 → k ≠ 9 → k ≠ 19 → k ≠ 20 → m'.1 43 k = m.1 43 k := by
  have hn := hV.2.2.1
  have hm2 : ∃ m2, mu (mu m 43 20 (nI (100 * w))) 43 19 0 = m2 := ⟨_, rfl⟩
  obtain ⟨m2, hm2⟩ := hm2
  have f19 : m2.1 43 19 = 0 := by rw [← hm2]; simp [mu_g]
  have f20 : m2.1 43 20 = nI (100 * w) := by rw [← hm2]; simp [mu_g]
  have fo : ∀ k, k ≠ 19 → k ≠ 20 → m2.1 43 k = m.1 43 k := fun k h1 h2 => by rw [← hm2, mu_ne _ _ (Or.inr h1), mu_ne _ _ (Or.inr h2)]
  have fr : ∀ i, i ≠ 43 → m2.1 i = m.1 i := fun i h => by rw [← hm2, mu_row _ _ h, mu_row _ _ h]
  have q0 : TQ (100 * w) 0 m2 m2 := ⟨f20, fun _ _ => rfl, fun _ _ _ => rfl, rfl, fun q p hq => absurd hq (by omega)⟩
  obtain ⟨k1, p1, q1⟩ := q0.more hF (by decide) (by omega) f19
  obtain ⟨k2, p2, q2⟩ := q1.more hF (by decide) (by omega) f19
  obtain ⟨k3, p3, q3⟩ := q2.more hF (by decide) (by omega) f19
  obtain ⟨k4, p4, q4⟩ := q3.more hF (by decide) (by omega) f19
  obtain ⟨k5, p5, q5⟩ := q4.more hF (by decide) (by omega) f19
  obtain ⟨k6, p6, q6⟩ := q5.more hF (by decide) (by omega) f19
  obtain ⟨k7, p7, q7⟩ := q6.more hF (by decide) (by omega) f19
  obtain ⟨a1, a2, a3, a4, a6⟩ := q7
  have e19 : k7.1 43 19 = 0 := by rw [a2 19 (by decide)]; exact f19
  have e77 : k7.1 56 (100 * w + 77) = nI V.1 := by rw [a3 56 (by decide) (by omega), fr 56 (by decide)]; exact hk.1
  have e78 : k7.1 56 (100 * w + 78) = nI V.2.1 := by rw [a3 56 (by decide) (by omega), fr 56 (by decide)]; exact hk.2.1
  have o1 : gX9_passOne k7 (k7.1 43 8) = some (nI V.1, mu k7 43 20 (nI (100 * w + 78))) := by
    rw [gX9_passOne, e19, if_pos rfl, a1, chk_pos (inb_nI (by omega) (by omega)), nI_clamp (by omega), lete_eq, if_pos rfl, lete_eq, nI_1, show 100 * w + 11 * 7 = 100 * w + 77 by omega, e77]
  have hB : ∃ n2, mu (mu k7 43 20 (nI (100 * w + 78))) 43 8 (nI V.1) = n2 := ⟨_, rfl⟩
  obtain ⟨n2, hB⟩ := hB
  have b20 : n2.1 43 20 = nI (100 * w + 78) := by rw [← hB]; simp [mu_g]
  have b19 : n2.1 43 19 = 0 := by rw [← hB]; simp [mu_g, e19]
  have b56 : n2.1 56 (100 * w + 78) = nI V.2.1 := by rw [← hB, mu_row _ _ (by decide), mu_row _ _ (by decide)]; exact e78
  have b8 : n2.1 43 8 = nI V.1 := by rw [← hB, mu_same]
  have bo : ∀ i, i ≠ 43 → n2.1 i = k7.1 i := fun i h1 => by rw [← hB, mu_row _ _ h1, mu_row _ _ h1]
  have o2 : gX9_passOne n2 (n2.1 43 9) = some (nI V.2.1, mu n2 43 20 (nI (100 * w + 79))) := by
    rw [gX9_passOne, b19, if_pos rfl, b20, chk_pos (inb_nI (by omega) (by omega)), nI_clamp (by omega), lete_eq, if_pos rfl, lete_eq, nI_1, b56]
  refine ⟨mu (mu n2 43 20 (nI (100 * w + 79))) 43 9 (nI V.2.1), ?_, ⟨?_, ?_, fun l k hl hk7 => ?_⟩, fun i h1 h2 => ?_, fun k h1 h2 h3 h4 => ?_⟩
  · rw [gX9_passesAll, show (100 : Int32) = nI 100 from rfl, pk_mul, lete_eq, lete_eq, show b2i false = 0 from rfl, hm2, p1, Option.bind_some, p2, Option.bind_some, p3, Option.bind_some, p4, Option.bind_some, p5, Option.bind_some, p6, Option.bind_some, p7, Option.bind_some, o1, Option.bind_some, lete_eq]
    dsimp only
    rw [hB, o2, Option.bind_some, lete_eq]
  · rw [mu_ne _ _ (Or.inr (by decide)), mu_ne _ _ (Or.inr (by decide)), b8]
  · rw [mu_same]
  · rw [mu_row _ _ (by omega), mu_row _ _ (by omega), bo _ (by omega), a6 k l hk7 (by omega), fr 56 (by decide)]
    exact hk.2.2 l k hl hk7
  · rw [mu_row _ _ h1, mu_row _ _ h1, bo i h1, a3 i h1 (by omega), fr i h1]
  · rw [mu_ne _ _ (Or.inr h2), mu_ne _ _ (Or.inr h4), ← hB, mu_ne _ _ (Or.inr h1), mu_ne _ _ (Or.inr h4), a2 k h4, fo k h3 h4]
theorem pu_image (hF : 2000 ≤ F) : PU_image F (Inv PM PS) := by
  rintro m ⟨V, hI⟩
  obtain ⟨hV, hx, hm, hj, hw, hso, hle, him, hro, hre, hpq⟩ := id hI
  obtain ⟨m1, g1, g2, g3⟩ := x_copy hF (v := 15) (w := 1) (by omega) hV hx
  have hm3 : ∃ m3, mu (mu m1 0 3 1) 43 18 1 = m3 := ⟨_, rfl⟩
  obtain ⟨m3, hm3⟩ := hm3
  have same3 : ∀ j, ¬ (15 ≤ j ∧ j ≤ 21) → j ≠ 0 → j ≠ 43 → m3.1 j = m.1 j := fun j h1 h2 h3 => by rw [← hm3, mu_row _ _ h3, mu_row _ _ h2, g2.1 j (by omega)]
  have f43 : ∀ k, k ≠ 18 → m3.1 43 k = m.1 43 k := fun k hk => by rw [← hm3, mu_ne _ _ (Or.inr hk), mu_ne _ _ (Or.inl (by decide)), g2.1 43 (by omega)]
  have hmm : IM m3 V := hm.sm (f43 8 (by decide)) (f43 9 (by decide)) (fun k hk => same3 _ (by omega) (by omega) (by omega))
  obtain ⟨m4, k1, k2, k3, k4, k5⟩ := m_keepAll hF hmm hV (w := 0) (by omega)
  have r : ∀ j, ¬ (15 ≤ j ∧ j ≤ 21) → j ≠ 0 → j ≠ 43 → j ≠ 56 → m4.1 j = m.1 j := fun j h1 h2 h3 h4 => by rw [k3 j h3 h4, same3 j h1 h2 h3]
  have f : ∀ k, k ≠ 18 → k ≠ 19 → k ≠ 20 → m4.1 43 k = m.1 43 k := fun k h1 h2 h3 => by rw [k4 k h2 h3, f43 k h1]
  have e9 : m4.1 43 9 = nI V.2.1 := by rw [f 9 (by decide) (by decide) (by decide)]; exact hm.2.1
  have e11 : (mu m1 0 3 1).1 1 1 = nI V.2.1 := by rw [mu_ne _ _ (Or.inl (by decide)), g2.1 1 (by omega)]; exact hx.2.1
  refine ⟨nI V.2.1, mu m1 0 3 1, m4, ?_, ?_, V, ?_⟩
  · rw [gX8_image, g1, Option.bind_some, lete_eq, e11]
  · rw [gX9_image, lete_eq, hm3, show (0 : Int32) = nI 0 from rfl, k1, Option.bind_some, e9]
  · refine ⟨hV, hx.sm (fun k hk => r _ (by omega) (by omega) (by omega) (by omega)), hm.sm (f 8 (by decide) (by decide) (by decide)) (f 9 (by decide) (by decide) (by decide)) (fun k hk => r _ (by omega) (by omega) (by omega) (by omega)), ?_, hw.sm (by rw [r 26 (by omega) (by omega) (by omega) (by omega)]) (r 27 (by omega) (by omega) (by omega) (by omega)) (r 28 (by omega) (by omega) (by omega) (by omega)), hso.sm (by rw [r 26 (by omega) (by omega) (by omega) (by omega)]) (r 29 (by omega) (by omega) (by omega) (by omega)), hle.sm (by rw [r 22 (by omega) (by omega) (by omega) (by omega)]) (f 14 (by decide) (by decide) (by decide)) (r 23 (by omega) (by omega) (by omega) (by omega)) (r 52 (by omega) (by omega) (by omega) (by omega)), Or.inr ⟨?_, ?_, V, hV, g3.sm (fun k hk => ?_), k2⟩, hro.sm (by rw [r 35 (by omega) (by omega) (by omega) (by omega)]) (f 34 (by decide) (by decide) (by decide)) (r 36 (by omega) (by omega) (by omega) (by omega)) (r 63 (by omega) (by omega) (by omega) (by omega)), hre.sm (r 42 (by omega) (by omega) (by omega) (by omega)) (r 44 (by omega) (by omega) (by omega) (by omega)), hpq.sm (by rw [r 31 (by omega) (by omega) (by omega) (by omega)]) (r 33 (by omega) (by omega) (by omega) (by omega)) (r 34 (by omega) (by omega) (by omega) (by omega))⟩
    · unfold IJ
      rw [r 25 (by omega) (by omega) (by omega) (by omega)]
      exact hj
    · rw [k3 0 (by decide) (by decide), ← hm3, mu_ne _ _ (Or.inl (by decide)), mu_same]
    · rw [k4 18 (by decide) (by decide), ← hm3, mu_same]
    · rw [k3 _ (by omega) (by omega), ← hm3, mu_row _ _ (by omega), mu_row _ _ (by omega)]
theorem pu_restore (hF : 2000 ≤ F) : PU_restore F (Inv PM PS) := by
  rintro m ⟨V, hI⟩
  obtain ⟨hV, hx, hm, hj, hw, hso, hle, him, hro, hre, hpq⟩ := id hI
  rcases him with ⟨i0, i1⟩ | ⟨i0, i1, W, hW, hxW, hkW⟩
  · obtain ⟨r1, r2, r3⟩ := refI hI 3 (by decide) (by decide) (Sm.rf _)
    refine ⟨-nI 3, mu m 42 3 (m.1 42 3 + 1), _, ?_, ?_, r3⟩
    · rw [gX8_restore, i0, if_pos rfl, show (-3 : Int32) = -nI 3 from rfl, r1]; rfl
    · rw [gX9_restore, mu_ne _ _ (Or.inl (by decide)), i1, if_pos rfl, show (-3 : Int32) = -nI 3 from rfl, r2]; rfl
  · obtain ⟨m1, g1, g2, g3⟩ := x_copy hF (v := 1) (w := 15) (by omega) hW hxW
    obtain ⟨m2, k1, k2, k3⟩ := x_build hF hW g3
    have hx2 : IX m2 1 W := g3.sm (fun k hk => k2.1 _ (by omega))
    obtain ⟨m3, l1, l2, l3, l4⟩ := x_list hF hW hx2 k3
    have same : ∀ j, ¬ (1 ≤ j ∧ j ≤ 7) → ¬ (25 ≤ j ∧ j ≤ 28) → m3.1 j = m.1 j := fun j h1 h2 => by rw [l2.1 j (by omega) (by omega) (by omega), k2.1 j (by omega), g2.1 j (by omega)]
    have hk3 : IK m3 (100 * 0) W := by
      unfold IK at hkW ⊢
      rw [same 56 (by omega) (by omega)]
      exact hkW
    obtain ⟨m4, p1, p2, p3, p4⟩ := m_takeAll hF (w := 0) (by omega) hk3 hW
    have hx3 := l2.ix hx2
    have r : ∀ j, ¬ (1 ≤ j ∧ j ≤ 7) → ¬ (25 ≤ j ∧ j ≤ 28) → j ≠ 43 → ¬ (45 ≤ j ∧ j < 52) → m4.1 j = m.1 j := fun j h1 h2 h3 h4 => by rw [p3 j h3 h4, same j h1 h2]
    have f : ∀ k, k ≠ 8 → k ≠ 9 → k ≠ 19 → k ≠ 20 → m4.1 43 k = m.1 43 k := fun k h1 h2 h3 h4 => by rw [p4 k h1 h2 h3 h4, same 43 (by omega) (by omega)]
    have e18 : m3.1 43 18 = 1 := by rw [same 43 (by omega) (by omega)]; exact i1
    refine ⟨nI W.2.1, m3, m4, ?_, ?_, W, ?_⟩
    · rw [gX8_restore, i0, if_neg (by decide), g1, Option.bind_some, gX8_lanesChanged, k1, Option.bind_some, l1, Option.bind_some, Option.bind_some, hx3.2.1]
    · rw [gX9_restore, e18, if_neg (by decide), show (0 : Int32) = nI 0 from rfl, p1, Option.bind_some, p2.2.1]
    · refine hI.now hW (hx3.sm (fun k hk => p3 _ (by omega) (by omega))) p2 ?_ (l3.sm (by rw [p3 26 (by omega) (by omega)]) (p3 27 (by omega) (by omega)) (p3 28 (by omega) (by omega))) (by rw [p3 26 (by omega) (by omega)]; exact l4) (hle.sm (by rw [r 22 (by omega) (by omega) (by omega) (by omega)]) (f 14 (by decide) (by decide) (by decide) (by decide)) (r 23 (by omega) (by omega) (by omega) (by omega)) (r 52 (by omega) (by omega) (by omega) (by omega))) (fun j hj => r j (by omega) (by omega) (by omega) (by omega)) (f 18 (by decide) (by decide) (by decide) (by decide)) (f 34 (by decide) (by decide) (by decide) (by decide)) (fun q _ => by rw [r 56 (by omega) (by omega) (by omega) (by omega)])
      unfold IJ
      rw [p3 25 (by omega) (by omega)]
      exact l2.ij k3
end
