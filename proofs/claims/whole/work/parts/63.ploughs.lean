/-! ===== the counts; ploughs ===== -/
section
variable {PM PS : Nat → Nat → Nat} {m : Mem} {V : Vd} {F : Nat}
def csum (f : Nat → Nat → Nat) : Nat → Nat
  | 0 => 0
  | k + 1 => csum f k + ct (f k)
theorem cst_full {f : Nat → Nat → Nat} {n : Nat} : ∀ k, k ≤ n → cst f (2 ^ n - 1) k = csum f k
  | 0, _ => rfl
  | k + 1, h => by
    have e : (2 ^ n - 1).testBit k = true := by rw [Nat.testBit_two_pow_sub_one]; exact decide_eq_true (by omega)
    have i := cst_full (f := f) (n := n) k (by omega)
    simp only [cst, csum, e, if_true, i]
theorem m_costAll (hF : 2000 ≤ F) (hV : okV V) (hm : IM m V) : ∃ e, iter F (bX9_count_98 m) (0, 0) = some e ∧ e.1 = nI (csum V.2.2 V.2.1) := by
  have hn := hV.2.2.1
  refine ⟨(nI (csum V.2.2 V.2.1), nI V.2.1), ?_, rfl⟩
  have q := iter_at (F := F) (f := bX9_count_98 m) (fun i => (nI (csum V.2.2 i), nI i)) V.2.1 (nI (csum V.2.2 V.2.1), nI V.2.1) (fun i hi => ?_) ?_ (by omega)
  · exact q
  · simp only [bX9_count_98]
    rw [hm.2.1, ite_leN (by omega) (by omega), if_neg (by omega), m_costOf hV hm hi, Option.bind_some, lete_eq, nI_add, nI_1]
    rfl
  · simp only [bX9_count_98]
    rw [hm.2.1, ite_leN (by omega) (by omega), if_pos (by omega)]
theorem pu_count (hF : 2000 ≤ F) : PU_count F (Inv PM PS) := by
  rintro m a1 ⟨V, hI⟩
  obtain ⟨hV, hx, hm, hj, hw, hso, ⟨t, ht, l1, l2, l3⟩, him, ⟨u, hu, k1, k2, k3⟩, hre, hpq⟩ := id hI
  have hn := hV.2.2.1
  have hM := Nat.lt_of_lt_of_le (mus_lt (V := V)) (pow10 hn)
  have hB := Nat.lt_of_lt_of_le (bar_lt (V := V)) (pow10 hn)
  have ex2 : m.1 1 2 = nI (mus V) := hx.2.2.1
  have ex3 : m.1 1 3 = nI (bar V) := hx.2.2.2.1
  have em1 : gX9_ruledAs F m 1 = some (nI (mus V)) := m_ruledAs hF hV hm (x := 1) (by omega)
  have em2 : gX9_ruledAs F m 2 = some (nI (bar V)) := m_ruledAs hF hV hm (x := 2) (by omega)
  by_cases hq : a1 = 0 ∨ a1 = 1 ∨ a1 = 2 ∨ a1 = 3 ∨ a1 = 4 ∨ a1 = 5 ∨ a1 = 6
  · have hin : gX9_isIn a1 11 16 = some false := by
      rcases hq with rfl | rfl | rfl | rfl | rfl | rfl | rfl <;> rfl
    rcases hq with rfl | rfl | rfl | rfl | rfl | rfl | rfl
    · exact ⟨nI V.1, by rw [gX8_count, if_pos rfl, hx.1], by rw [gX9_count, hin, Option.bind_some, if_neg (by decide), if_pos rfl, hm.1], V, hI⟩
    · exact ⟨nI V.2.1, by rw [gX8_count, if_neg (by decide), if_pos rfl, hx.2.1], by rw [gX9_count, hin, Option.bind_some, if_neg (by decide), if_neg (by decide), if_pos rfl, hm.2.1], V, hI⟩
    · refine ⟨nI (pcn (mus V) 31), ?_, ?_, V, hI⟩
      · rw [gX8_count, if_neg (by decide), if_neg (by decide), if_pos rfl, ex2, bitCount_ok _ hM, Option.bind_some]
      · rw [gX9_count, hin, Option.bind_some, if_neg (by decide), if_neg (by decide), if_neg (by decide), if_pos rfl, em1, Option.bind_some, m_bits hF (by omega), Option.bind_some]
    · refine ⟨nI (pcn (bar V) 31), ?_, ?_, V, hI⟩
      · rw [gX8_count, if_neg (by decide), if_neg (by decide), if_neg (by decide), if_pos rfl, ex3, bitCount_ok _ hB, Option.bind_some]
      · rw [gX9_count, hin, Option.bind_some, if_neg (by decide), if_neg (by decide), if_neg (by decide), if_neg (by decide), if_pos rfl, em2, Option.bind_some, m_bits hF (by omega), Option.bind_some]
    · obtain ⟨e, e1, e2⟩ := m_costAll hF hV hm
      have h1p := Nat.one_le_two_pow (n := V.2.1)
      refine ⟨nI (csum V.2.2 V.2.1), ?_, ?_, V, hI⟩
      · rw [gX8_count, if_neg (by decide), if_neg (by decide), if_neg (by decide), if_neg (by decide), if_pos rfl, gX6_costOfAll, x_allLanes hV hx, Option.bind_some, x_costOf hF hV hx (by omega), Option.bind_some, Option.bind_some, cos, cst_full _ (Nat.le_refl _)]
      · rw [gX9_count, hin, Option.bind_some, if_neg (by decide), if_neg (by decide), if_neg (by decide), if_neg (by decide), if_neg (by decide), if_pos rfl, e1, Option.bind_some, e2]
    · exact ⟨nI t, by rw [gX8_count, if_neg (by decide), if_neg (by decide), if_neg (by decide), if_neg (by decide), if_neg (by decide), if_pos rfl, l1], by rw [gX9_count, hin, Option.bind_some, if_neg (by decide), if_neg (by decide), if_neg (by decide), if_neg (by decide), if_neg (by decide), if_neg (by decide), if_pos rfl, l2], V, hI⟩
    · exact ⟨nI u, by rw [gX8_count, if_neg (by decide), if_neg (by decide), if_neg (by decide), if_neg (by decide), if_neg (by decide), if_neg (by decide), if_pos rfl, k1], by rw [gX9_count, hin, Option.bind_some, if_neg (by decide), if_neg (by decide), if_neg (by decide), if_neg (by decide), if_neg (by decide), if_neg (by decide), if_neg (by decide), if_pos rfl, k2], V, hI⟩
  · simp only [not_or] at hq
    obtain ⟨q0, q1, q2, q3, q4, q5, q6⟩ := hq
    by_cases h2 : ∃ k, 1 ≤ k ∧ k ≤ 6 ∧ a1 = nI (10 + k)
    · obtain ⟨k, h1, h6, rfl⟩ := h2
      have es : nI (10 + k) - 10 = nI k := by rw [show (10 : Int32) = nI 10 from rfl, pk_sub (by omega)]; congr 1; omega
      have hin : gX9_isIn (nI (10 + k)) 11 16 = some true := by
        unfold gX9_isIn
        rw [show (11 : Int32) = nI 11 from rfl, show (16 : Int32) = nI 16 from rfl, ite_ltN (by omega) (by omega), if_neg (by omega), ite_ltN (by omega) (by omega), if_neg (by omega)]
      refine ⟨m.1 42 k, ?_, ?_, V, hI⟩
      · rw [gX8_count, if_neg q0, if_neg q1, if_neg q2, if_neg q3, if_neg q4, if_neg q5, if_neg q6, es, gX8_refusalsOf, show (1 : Int32) = nI 1 from rfl, show (7 : Int32) = nI 7 from rfl, ite_ltN (by omega) (by omega), if_neg (by omega), ite_leN (by omega) (by omega), if_neg (by omega), chk_pos (inb_nI (by omega) (by omega)), nI_clamp (by omega), Option.bind_some]
      · rw [gX9_count, hin, Option.bind_some, if_pos rfl, es, chk_pos (inb_nI (by omega) (by omega)), nI_clamp (by omega), hre k h1 h6]
    · have hin : gX9_isIn a1 11 16 = some false := by
        unfold gX9_isIn
        by_cases c1 : a1 < 11
        · rw [if_pos c1]
        · rw [if_neg c1]
          by_cases c2 : 16 < a1
          · rw [if_pos c2]
          · exfalso
            rw [Int32.lt_iff_toInt_lt] at c1 c2
            have e11 : (11 : Int32).toInt = 11 := by decide
            have e16 : (16 : Int32).toInt = 16 := by decide
            refine h2 ⟨(a1.toInt - 10).toNat, by omega, by omega, ?_⟩
            apply Int32.toInt_inj.mp
            rw [nI_toInt (by omega)]
            omega
      have hrf : gX8_refusalsOf m (a1 - 10) = some (-9) := by
        unfold gX8_refusalsOf
        by_cases c1 : a1 - 10 < 1
        · rw [if_pos c1]
        · rw [if_neg c1]
          by_cases c2 : 7 ≤ a1 - 10
          · rw [if_pos c2]
          · exfalso
            rw [Int32.lt_iff_toInt_lt] at c1
            rw [Int32.le_iff_toInt_le] at c2
            have e1 : (1 : Int32).toInt = 1 := by decide
            have e7 : (7 : Int32).toInt = 7 := by decide
            have e10 : nI 10 = (10 : Int32) := rfl
            refine h2 ⟨(a1 - 10).toInt.toNat, by omega, by omega, ?_⟩
            have : a1 - 10 = nI (a1 - 10).toInt.toNat := by
              apply Int32.toInt_inj.mp
              rw [nI_toInt (by omega)]
              omega
            have h3 : a1 = (a1 - 10) + 10 := (Int32.sub_add_cancel a1 10).symm
            generalize (a1 - 10).toInt.toNat = T at *
            calc a1 = (a1 - 10) + 10 := h3
              _ = nI T + nI 10 := by rw [this]; rfl
              _ = nI (10 + T) := by rw [nI_add, Nat.add_comm]
      refine ⟨-9, ?_, ?_, V, hI⟩
      · rw [gX8_count, if_neg q0, if_neg q1, if_neg q2, if_neg q3, if_neg q4, if_neg q5, if_neg q6, hrf, Option.bind_some]
      · rw [gX9_count, hin, Option.bind_some, if_neg (by decide), if_neg q0, if_neg q1, if_neg q2, if_neg q3, if_neg q4, if_neg q5, if_neg q6]
end
