/-! ===== villages told in letters: the reference's statements come ===== -/
section
variable {F : Nat} {m : Mem} {V : Vd}
/-- only the reference's village differs -/
def EV (m m' : Mem) : Prop := (∀ j, ¬ (45 ≤ j ∧ j ≤ 51) → j ≠ 43 → m'.1 j = m.1 j) ∧ (∀ k, k ≠ 8 → k ≠ 9 → m'.1 43 k = m.1 43 k) ∧ m'.2 = m.2
theorem EV.rf (m : Mem) : EV m m := ⟨fun _ _ _ => rfl, fun _ _ _ => rfl, rfl⟩
theorem EV.tr {a b c : Mem} (h : EV a b) (g : EV b c) : EV a c := ⟨fun j h1 h2 => (g.1 j h1 h2).trans (h.1 j h1 h2), fun k h1 h2 => (g.2.1 k h1 h2).trans (h.2.1 k h1 h2), g.2.2.trans h.2.2⟩
theorem ev_mu43 {m : Mem} {k : Nat} {x : Int32} (h : k = 8 ∨ k = 9) : EV m (mu m 43 k x) := ⟨fun i _ h2 => mu_row _ _ h2, fun q h1 h2 => mu_ne _ _ (Or.inr (by omega)), rfl⟩
theorem EV.mu {m : Mem} {j k : Nat} {x : Int32} (h : 45 ≤ j ∧ j ≤ 51) : EV m (mu m j k x) := ⟨fun i h1 _ => mu_row _ _ (by omega), fun q _ _ => mu_ne _ _ (Or.inl (by omega)), rfl⟩
def w7 (M : Mem) (i : Nat) (g : Nat → Int32) : Mem := mu (mu (mu (mu (mu (mu (mu M 45 i (g 0)) 46 i (g 1)) 47 i (g 2)) 48 i (g 3)) 49 i (g 4)) 50 i (g 5)) 51 i (g 6)
theorem w7_ev {M : Mem} {i : Nat} {g : Nat → Int32} : EV M (w7 M i g) := ((((((EV.mu (by decide)).tr (EV.mu (by decide))).tr (EV.mu (by decide))).tr (EV.mu (by decide))).tr (EV.mu (by decide))).tr (EV.mu (by decide))).tr (EV.mu (by decide))
theorem w7_43 {M : Mem} {i : Nat} {g : Nat → Int32} : (w7 M i g).1 43 = M.1 43 := by
  unfold w7
  rw [mu_row _ _ (by omega), mu_row _ _ (by omega), mu_row _ _ (by omega), mu_row _ _ (by omega), mu_row _ _ (by omega), mu_row _ _ (by omega), mu_row _ _ (by omega)]
theorem w7_get {M : Mem} {i : Nat} {g : Nat → Int32} {q p : Nat} (h6 : q < 7) : (w7 M i g).1 (45 + q) p = if p = i then g q else M.1 (45 + q) p := by
  have : q = 0 ∨ q = 1 ∨ q = 2 ∨ q = 3 ∨ q = 4 ∨ q = 5 ∨ q = 6 := by omega
  unfold w7
  rcases this with rfl | rfl | rfl | rfl | rfl | rfl | rfl <;> simp [mu_g]
theorem m_toldHouses (hF : 2000 ≤ F) (hV : okV V) (hm : IM m V) : gX9_toldHouses F m = some (nI (tH V V.2.1)) := by
  have hn := hV.2.2.1
  have hH := hV.2.1
  have q := iter_at (F := F) (f := bX9_toldHouses_4 m) (fun i => (nI (tH V i), nI i)) V.2.1 (nI (tH V V.2.1), nI V.2.1) (fun i hi => ?_) ?_ (by omega)
  · have e0 : iter F (bX9_toldHouses_4 m) (2, 0) = _ := q
    rw [gX9_toldHouses, e0, Option.bind_some]
  · have e1 : m.1 46 i = nI (V.2.2 i 1) := hm.at (k := 1) hi (by decide)
    have e2 : m.1 47 i = nI (V.2.2 i 2) := hm.at (k := 2) hi (by decide)
    obtain ⟨b1, b2⟩ := hV.ends i hi
    have hme := mEn_le hV i (by omega)
    have hti : tH V i ≤ 7 := by rw [tH_is]; omega
    have ib : inb (nI i) 11 := inb_nI (by omega) (by omega)
    rw [bX9_toldHouses_4, hm.2.1, ite_leN (by omega) (by omega), if_neg (by omega), chk_pos ib, chk_pos ib, chk_pos ib, chk_pos ib, nI_clamp (by omega), e1, e2, lete_eq, lete_eq, nI_1, nI_1, nI_1, ite_ltN (by omega) (by omega), ite_ltN (by omega) (by omega), ite_ltN (by omega) (by omega), tH]
    by_cases c1 : V.2.2 i 1 < tH V i
    · rw [if_pos c1]
      by_cases c2 : V.2.2 i 2 < tH V i
      · rw [if_pos c2, show max (max (tH V i) (V.2.2 i 1 + 1)) (V.2.2 i 2 + 1) = tH V i by omega]
      · rw [if_neg c2, show max (max (tH V i) (V.2.2 i 1 + 1)) (V.2.2 i 2 + 1) = V.2.2 i 2 + 1 by omega]
    · rw [if_neg c1]
      by_cases c2 : V.2.2 i 2 < V.2.2 i 1 + 1
      · rw [if_pos c2, show max (max (tH V i) (V.2.2 i 1 + 1)) (V.2.2 i 2 + 1) = V.2.2 i 1 + 1 by omega, chk_pos ib]
      · rw [if_neg c2, show max (max (tH V i) (V.2.2 i 1 + 1)) (V.2.2 i 2 + 1) = V.2.2 i 2 + 1 by omega, chk_pos ib]
  · rw [bX9_toldHouses_4, hm.2.1, ite_leN (by omega) (by omega), if_pos (Nat.le_refl _)]
theorem m_isInN {x a b : Nat} (hx : x < 2 ^ 31) (ha : a < 2 ^ 31) (hb : b < 2 ^ 31) : gX9_isIn (nI x) (nI a) (nI b) = some (decide (a ≤ x ∧ x ≤ b)) := by
  rw [gX9_isIn, ite_ltN hx ha, ite_ltN hb hx]
  by_cases c1 : x < a
  · rw [if_pos c1, decide_eq_false (by omega)]
  · rw [if_neg c1]
    by_cases c2 : b < x
    · rw [if_pos c2, decide_eq_false (by omega)]
    · rw [if_neg c2, decide_eq_true (by omega)]
theorem m_comesLane (hV : okV V) (hm : IM m V) {v : Nat → Nat} {q : Nat} (hq : q + 5 < 216) (hv : ∀ i, v i < 1000) (hd : ∀ i, i < 6 → m.1 55 (q + i) = nI (v i)) : ∃ m', gX9_comesLane m (nI q) = some (apO V 108 v, m') ∧ EV m m' ∧ (apO V 108 v = true → IM m' (addV V v)) := by
  have hn := hV.2.2.1
  have hH := hV.2.1
  have v0 := hv 0
  have v1 := hv 1
  have v2 := hv 2
  have v3 := hv 3
  have eO : apO V 108 v = decide (V.2.1 < 10 ∧ v 0 ≤ 5 ∧ v 1 < V.1 ∧ v 2 < V.1 ∧ v 1 ≠ v 2 ∧ 1 ≤ v 3 ∧ v 3 ≤ 4) := rfl
  rw [eO]
  have no : ∀ (h : ¬ (V.2.1 < 10 ∧ v 0 ≤ 5 ∧ v 1 < V.1 ∧ v 2 < V.1 ∧ v 1 ≠ v 2 ∧ 1 ≤ v 3 ∧ v 3 ≤ 4)), ∃ m', (some (false, m) : Option (Bool × Mem)) = some (decide (V.2.1 < 10 ∧ v 0 ≤ 5 ∧ v 1 < V.1 ∧ v 2 < V.1 ∧ v 1 ≠ v 2 ∧ 1 ≤ v 3 ∧ v 3 ≤ 4), m') ∧ EV m m' ∧ (decide (V.2.1 < 10 ∧ v 0 ≤ 5 ∧ v 1 < V.1 ∧ v 2 < V.1 ∧ v 1 ≠ v 2 ∧ 1 ≤ v 3 ∧ v 3 ≤ 4) = true → IM m' (addV V v)) := fun h => ⟨m, by rw [decide_eq_false h], EV.rf _, fun z => absurd (of_decide_eq_true z) h⟩
  have i0 : inb (nI q) 216 := inb_nI (by omega) (by omega)
  have i1 : inb (nI (q + 1)) 216 := inb_nI (by omega) (by omega)
  have i2 : inb (nI (q + 2)) 216 := inb_nI (by omega) (by omega)
  have i3 : inb (nI (q + 3)) 216 := inb_nI (by omega) (by omega)
  have i4 : inb (nI (q + 4)) 216 := inb_nI (by omega) (by omega)
  have i5 : inb (nI (q + 5)) 216 := inb_nI (by omega) (by omega)
  have s1 : nI q + 1 = nI (q + 1) := nI_1 q
  have s2 : nI q + 2 = nI (q + 2) := nI_add q 2
  have s3 : nI q + 3 = nI (q + 3) := nI_add q 3
  have s4 : nI q + 4 = nI (q + 4) := nI_add q 4
  have s5 : nI q + 5 = nI (q + 5) := nI_add q 5
  have k0 : Int32.toNatClampNeg (nI q) = q := nI_clamp (by omega)
  have k1 : Int32.toNatClampNeg (nI (q + 1)) = q + 1 := nI_clamp (by omega)
  have k2 : Int32.toNatClampNeg (nI (q + 2)) = q + 2 := nI_clamp (by omega)
  have k3 : Int32.toNatClampNeg (nI (q + 3)) = q + 3 := nI_clamp (by omega)
  have k4 : Int32.toNatClampNeg (nI (q + 4)) = q + 4 := nI_clamp (by omega)
  have k5 : Int32.toNatClampNeg (nI (q + 5)) = q + 5 := nI_clamp (by omega)
  have d0 : m.1 55 q = nI (v 0) := hd 0 (by omega)
  have d1 : m.1 55 (q + 1) = nI (v 1) := hd 1 (by omega)
  have d2 : m.1 55 (q + 2) = nI (v 2) := hd 2 (by omega)
  have d3 : m.1 55 (q + 3) = nI (v 3) := hd 3 (by omega)
  have d4 : m.1 55 (q + 4) = nI (v 4) := hd 4 (by omega)
  have d5 : m.1 55 (q + 5) = nI (v 5) := hd 5 (by omega)
  rw [gX9_comesLane, s1, s2, s3, s4, s5, k0, k1, k2, k3, k4, k5, d0, d1, d2, d3, chk_pos i0, show (5 : Int32) = nI 5 from rfl, ite_ltN (by omega) (by omega)]
  by_cases c1 : 5 < v 0
  · rw [if_pos c1]; exact no (by omega)
  · rw [if_neg c1, chk_pos i1, m_isHouse hm, dec_lt (by omega) (by omega), Option.bind_some]
    by_cases c4 : v 1 < V.1
    · rw [decide_eq_true c4, if_pos rfl, chk_pos i2, m_isHouse hm, dec_lt (by omega) (by omega), Option.bind_some]
      by_cases c5 : v 2 < V.1
      · rw [decide_eq_true c5, if_pos rfl, chk_pos i1, chk_pos i2, ite_eqN (by omega) (by omega)]
        by_cases c6 : v 1 = v 2
        · rw [if_pos c6]; exact no (fun z => z.2.2.2.2.1 c6)
        · rw [if_neg c6, chk_pos i3]
          have hin : gX9_isIn (nI (v 3)) 1 4 = some (decide (1 ≤ v 3 ∧ v 3 ≤ 4)) := m_isInN (a := 1) (b := 4) (by omega) (by omega) (by omega)
          rw [hin, Option.bind_some]
          by_cases c3 : 1 ≤ v 3 ∧ v 3 ≤ 4
          · rw [decide_eq_true c3, if_pos rfl, hm.2.1, show (10 : Int32) = nI 10 from rfl, ite_eqN (by omega) (by omega)]
            by_cases c0 : V.2.1 = 10
            · rw [if_pos c0]; exact no (by omega)
            · have hyes : V.2.1 < 10 ∧ v 0 ≤ 5 ∧ v 1 < V.1 ∧ v 2 < V.1 ∧ v 1 ≠ v 2 ∧ 1 ≤ v 3 ∧ v 3 ≤ 4 := ⟨by omega, by omega, c4, c5, c6, by omega, by omega⟩
              have ib : inb (nI V.2.1) 11 := inb_nI (by omega) (by omega)
              have kn : Int32.toNatClampNeg (nI V.2.1) = V.2.1 := nI_clamp (by omega)
              have r1 : ∀ {M : Mem} {j k : Nat} {x : Int32}, 45 ≤ j ∧ j ≤ 51 → (M.1 43 9 = nI V.2.1 ∧ M.1 55 = m.1 55) → ((mu M j k x).1 43 9 = nI V.2.1 ∧ (mu M j k x).1 55 = m.1 55) := fun hj h => ⟨by rw [mu_ne _ _ (Or.inl (by omega))]; exact h.1, by rw [mu_row _ _ (by omega)]; exact h.2⟩
              have q1 := r1 (j := 45) (k := V.2.1) (x := nI (v 0)) (by decide) (⟨hm.2.1, rfl⟩ : m.1 43 9 = nI V.2.1 ∧ m.1 55 = m.1 55)
              have q2 := r1 (j := 46) (k := V.2.1) (x := nI (v 1)) (by decide) q1
              have q3 := r1 (j := 47) (k := V.2.1) (x := nI (v 2)) (by decide) q2
              have q4 := r1 (j := 48) (k := V.2.1) (x := nI (v 3)) (by decide) q3
              have q5 := r1 (j := 49) (k := V.2.1) (x := nI (v 4)) (by decide) q4
              have q6 := r1 (j := 50) (k := V.2.1) (x := nI (v 5)) (by decide) q5
              have q7 := r1 (j := 51) (k := V.2.1) (x := 0) (by decide) q6
              rw [if_neg c0, chk_pos i0, chk_pos ib, lete_eq, kn, chk_pos i1, q1.1, chk_pos ib, lete_eq, kn, q1.2, d1, chk_pos i2, q2.1, chk_pos ib, lete_eq, kn, q2.2, d2, chk_pos i3, q3.1, chk_pos ib, lete_eq, kn, q3.2, d3, chk_pos i4, q4.1, chk_pos ib, lete_eq, kn, q4.2, d4, chk_pos i5, q5.1, chk_pos ib, lete_eq, kn, q5.2, d5, q6.1, chk_pos ib, lete_eq, kn, lete_eq, q7.1, nI_1, decide_eq_true hyes]
              let g : Nat → Int32 := fun k => if k < 6 then nI (v k) else 0
              refine ⟨mu (w7 m V.2.1 g) 43 9 (nI (V.2.1 + 1)), rfl, w7_ev.tr (ev_mu43 (Or.inr rfl)), fun _ => ⟨?_, mu_same _ _ _ _, fun l k hl hk => ?_⟩⟩
              · rw [mu_ne _ _ (Or.inr (by decide)), w7_43]; exact hm.1
              · have hl : l < V.2.1 + 1 := hl
                rw [mu_row _ _ (by omega), w7_get hk]
                by_cases e : l = V.2.1
                · have er : (addV V v).2.2 l = fun k => if k < 6 then v k else 0 := by
                    unfold addV
                    dsimp only
                    rw [if_pos e]
                  rw [if_pos e, er]
                  show (if k < 6 then nI (v k) else 0) = nI (if k < 6 then v k else 0)
                  by_cases k6 : k < 6
                  · rw [if_pos k6, if_pos k6]
                  · rw [if_neg k6, if_neg k6]; rfl
                · have er : (addV V v).2.2 l = V.2.2 l := by
                    unfold addV
                    dsimp only
                    rw [if_neg e]
                  rw [if_neg e, er]
                  exact hm.2.2 l k (by omega) hk
          · rw [decide_eq_false c3, if_neg (fun z => by cases z)]; exact no (fun z => c3 ⟨z.2.2.2.2.2.1, z.2.2.2.2.2.2⟩)
      · rw [decide_eq_false c5, if_neg (fun z => by cases z)]; exact no (fun z => c5 z.2.2.2.1)
    · rw [decide_eq_false c4, if_neg (fun z => by cases z)]; exact no (fun z => c4 z.2.2.1)
theorem m_comes (hF : 2000 ≤ F) (hV : okV V) (hm : IM m V) {v : Nat → Nat} {L k : Nat} (hk : k < 36) (hL : isQ L = true ∨ L = 108) (h53 : m.1 53 k = nI L) (v0 : v 0 < 1000) (h55 : m.1 55 (6 * k) = nI (v 0)) (hl : L = 108 → (∀ i, v i < 1000) ∧ ∀ i, i < 6 → m.1 55 (6 * k + i) = nI (v i)) : ∃ m', gX9_comes F m (nI k) = some (apO V L v, m') ∧ EV m m' ∧ (apO V L v = true → IM m' (apV V L v)) := by
  have hn := hV.2.2.1
  have hH := hV.2.1
  have hLs : L = 102 ∨ L = 104 ∨ L = 107 ∨ L = 120 ∨ L = 108 := by
    rcases hL with h | h
    · unfold isQ at h
      simp only [Bool.or_eq_true, decide_eq_true_eq] at h
      omega
    · omega
  have ik : inb (nI k) 36 := inb_nI hk (by omega)
  have iq : inb (nI (6 * k)) 216 := inb_nI (by omega) (by omega)
  have kk : Int32.toNatClampNeg (nI k) = k := nI_clamp (by omega)
  have kq : Int32.toNatClampNeg (nI (6 * k)) = 6 * k := nI_clamp (by omega)
  have s6 : 6 * nI k = nI (6 * k) := pk_mul 6 k
  rw [gX9_comes, lete_eq, s6, chk_pos ik, kk, kq, h53, h55]
  by_cases c1 : L = 104
  · have e1 : apO V L v = decide (tH V V.2.1 ≤ v 0 ∧ v 0 ≤ 7) := by unfold apO; rw [if_pos c1]
    have e2 : apV V L v = (v 0, V.2.1, V.2.2) := by unfold apV; rw [if_pos c1]
    have hti : tH V V.2.1 ≤ 7 := by
      have := mEn_le hV V.2.1 (Nat.le_refl _)
      rw [tH_is]; omega
    have hin : gX9_isIn (nI (v 0)) (nI (tH V V.2.1)) 7 = some (decide (tH V V.2.1 ≤ v 0 ∧ v 0 ≤ 7)) := m_isInN (b := 7) (by omega) (by omega) (by omega)
    rw [e1, e2, c1, if_pos (by decide), chk_pos iq, m_toldHouses hF hV hm, Option.bind_some, hin, Option.bind_some]
    by_cases z : tH V V.2.1 ≤ v 0 ∧ v 0 ≤ 7
    · rw [decide_eq_true z, if_pos rfl, chk_pos iq, lete_eq]
      refine ⟨_, rfl, ev_mu43 (Or.inl rfl), fun _ => ⟨mu_same _ _ _ _, ?_, fun l q hl hq => ?_⟩⟩
      · rw [mu_ne _ _ (Or.inr (by decide))]; exact hm.2.1
      · rw [mu_row _ _ (by omega)]; exact hm.2.2 l q hl hq
    · rw [decide_eq_false z, if_neg (fun z => by cases z)]
      exact ⟨m, rfl, EV.rf m, fun z => by cases z⟩
  · have n1 : ¬ nI L = 104 := fun z => c1 ((nI_eq (show L < 2 ^ 31 by omega) (show 104 < 2 ^ 31 by omega)).mp z)
    rw [if_neg n1]
    by_cases c2 : L = 108
    · obtain ⟨hv, hd⟩ := hl c2
      obtain ⟨m', g1, g2, g3⟩ := m_comesLane hV hm (q := 6 * k) (by omega) hv hd
      have e2 : apV V L v = addV V v := by unfold apV; rw [if_neg c1, if_pos c2]
      rw [e2, c2, if_pos (by decide), g1, Option.bind_some]
      exact ⟨m', rfl, g2, g3⟩
    · have n2 : ¬ nI L = 108 := fun z => c2 ((nI_eq (show L < 2 ^ 31 by omega) (show 108 < 2 ^ 31 by omega)).mp z)
      have e1 : apO V L v = decide (v 0 < V.2.1) := by unfold apO; rw [if_neg c1, if_neg c2]
      have e2 : apV V L v = upR V (v 0) (rl L) := by unfold apV; rw [if_neg c1, if_neg c2]
      rw [e1, e2, if_neg n2, chk_pos iq, m_isLane hV hm, Option.bind_some, dec_lt (by omega) (by omega)]
      by_cases z : v 0 < V.2.1
      · have i11 : inb (nI (v 0)) 11 := inb_nI (by omega) (by omega)
        have kv : Int32.toNatClampNeg (nI (v 0)) = v 0 := nI_clamp (by omega)
        rw [decide_eq_true z, if_pos rfl, chk_pos iq, chk_pos ik, chk_pos i11, lete_eq, chk_pos ik, chk_pos i11, lete_eq, chk_pos i11, lete_eq, kv, show (107 : Int32) = nI 107 from rfl, ite_eqN (by omega) (by omega), show (120 : Int32) = nI 120 from rfl, ite_eqN (by omega) (by omega)]
        refine ⟨mu m 51 (v 0) (nI (rl L)), ?_, EV.mu (by decide), fun _ => hm.up z⟩
        unfold rl
        by_cases a : L = 107
        · rw [if_pos a, if_pos a]; rfl
        · rw [if_neg a, if_neg a]
          by_cases b : L = 120
          · rw [if_pos b, if_pos b]; rfl
          · rw [if_neg b, if_neg b]; rfl
      · rw [decide_eq_false z, if_neg (fun z => by cases z)]
        exact ⟨m, rfl, EV.rf m, fun z => by cases z⟩
end
