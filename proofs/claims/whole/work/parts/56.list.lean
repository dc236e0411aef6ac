/-! ===== the class's list of ways ===== -/
theorem frs_pc {V : Vd} (h : okV V) {s p : Nat} (hf : frs V s p = true) : pcn s V.2.1 + p = V.1 := by
  unfold frs at hf
  simp only [decide_eq_true_eq] at hf
  have h1 := pc_jr V.2.2 s V.2.1
  have h2 := h.jn s
  have h3 := hf.2
  unfold prt at h3
  omega
theorem cnt252 : ∀ n, n < 11 → ∀ k, k < 7 → ((List.range (2 ^ n)).filter (fun s => decide (pcn s n = k))).length ≤ 252 := by decide +kernel
theorem ways_le {V : Vd} (h : okV V) : (ways V).length ≤ 252 := by
  have h1 := cnt252 V.2.1 (by have := h.2.2.1; omega) (V.1 - 1) (by have := h.2.1; omega)
  refine Nat.le_trans ?_ h1
  unfold ways
  rw [← List.countP_eq_length_filter, ← List.countP_eq_length_filter]
  apply List.countP_mono_left
  intro s _ hs
  unfold isW at hs
  simp only [Bool.and_eq_true] at hs
  have := frs_pc h hs.2
  simp only [decide_eq_true_eq]
  omega
theorem ways_in {V : Vd} {i s : Nat} (h : (ways V)[i]? = some s) : s < 2 ^ V.2.1 ∧ isW V s = true := by
  have := List.mem_of_getElem? h
  unfold ways at this
  simpa using this
theorem wth_le {V : Vd} (h : okV V) (s : Nat) : ∀ k, k ≤ V.2.1 → wth V.2.2 s k ≤ 9 ^ pcn s k
  | 0, _ => by simp [wth, pcn]
  | k + 1, hk => by
    have h1 := wth_le h s k (by omega)
    have h2 := (h.wt (l := k) (by omega)).2
    simp only [wth, pcn]
    by_cases hb : s.testBit k = true
    · rw [if_pos hb, if_pos hb, Nat.pow_succ]
      exact Nat.mul_le_mul h1 h2
    · rw [if_neg hb, if_neg hb, Nat.mul_one, Nat.add_zero]
      exact h1
theorem wrt_le {V : Vd} (h : okV V) {s p : Nat} (hp : 1 ≤ p) (hf : frs V s p = true) : wrt V s ≤ 531441 := by
  have h1 := wth_le h s V.2.1 (Nat.le_refl _)
  have h2 := frs_pc h hf
  have h3 : 9 ^ pcn s V.2.1 ≤ 9 ^ 6 := Nat.pow_le_pow_right (by decide) (by have := h.2.1; omega)
  unfold wrt
  omega
theorem cst_le {V : Vd} (h : okV V) (s : Nat) : ∀ k, k ≤ V.2.1 → cst V.2.2 s k ≤ 218 * k
  | 0, _ => by simp [cst]
  | k + 1, hk => by
    have h1 := cst_le h s k (by omega)
    have h2 := h.ct (l := k) (by omega)
    simp only [cst]
    split <;> omega
theorem cos_le {V : Vd} (h : okV V) (s : Nat) : cos V s ≤ 2180 := by
  have := cst_le h s V.2.1 (Nat.le_refl _)
  have := h.2.2.1
  unfold cos
  omega
theorem wys_pre (V : Vd) {i : Nat} (hi : i ≤ 2 ^ V.2.1) : ∃ r, ways V = wys V i ++ r := by
  refine ⟨((List.range (2 ^ V.2.1 - i)).map (i + ·)).filter (isW V), ?_⟩
  unfold ways wys
  rw [← List.filter_append]
  congr 1
  have := List.range_add (n := i) (m := 2 ^ V.2.1 - i)
  rw [show i + (2 ^ V.2.1 - i) = 2 ^ V.2.1 by omega] at this
  exact this
def EL (m m' : Mem) : Prop := (∀ j, j ≠ 26 → j ≠ 27 → j ≠ 28 → m'.1 j = m.1 j) ∧ m'.2 = m.2
theorem EL.rf (m : Mem) : EL m m := ⟨fun _ _ _ _ => rfl, rfl⟩
theorem EL.tr {a b c : Mem} (h : EL a b) (g : EL b c) : EL a c := ⟨fun j h1 h2 h3 => (g.1 j h1 h2 h3).trans (h.1 j h1 h2 h3), g.2.trans h.2⟩
theorem EL.mu {m : Mem} {j k : Nat} {v : Int32} (h : j = 26 ∨ j = 27 ∨ j = 28) : EL m (mu m j k v) := ⟨fun i h1 h2 h3 => mu_row m v (by omega), rfl⟩
theorem EL.ix {m m' : Mem} {V : Vd} (h : EL m m') (hx : IX m 1 V) : IX m' 1 V := hx.sm (fun k hk => h.1 _ (by omega) (by omega) (by omega))
theorem EL.ij {m m' : Mem} {V : Vd} (h : EL m m') (hj : IJ m V) : IJ m' V := by
  unfold IJ at hj ⊢
  rw [h.1 25 (by decide) (by decide) (by decide)]
  exact hj
set_option maxHeartbeats 2000000 in
theorem x_list {F : Nat} (hF : 2000 ≤ F) {V : Vd} {m : Mem} (h : okV V) (hx : IX m 1 V) (hj : IJ m V) : ∃ m', gX7_list F m = some m' ∧ EL m m' ∧ IW m' V ∧ m'.1 26 6 = 0 := by
  have hn := h.2.2.1
  have hp := pow10 hn
  have hw252 := ways_le h
  have h0 : EL m (mu (mu m 26 2 0) 26 6 0) := (EL.mu (Or.inl rfl)).tr (EL.mu (Or.inl rfl))
  obtain ⟨e, h1, h2, h3, h4⟩ := iter_inv (f := bX7_list_20 F (nI (2 ^ V.2.1))) (fun i q => q.1 = nI i ∧ EL m q.2 ∧ q.2.1 26 6 = 0 ∧ q.2.1 26 2 = nI (wys V i).length ∧ ∀ k s, (wys V i)[k]? = some s → q.2.1 27 k = nI s ∧ q.2.1 28 k = nI (wrt V s)) (2 ^ V.2.1) (fun q => EL m q.2 ∧ IW q.2 V ∧ q.2.1 26 6 = 0) (by
      rintro i ⟨y, m1⟩ hi ⟨rfl, he, h6, hl, hv⟩
      dsimp only at he h6 hl hv
      have hlen := wys_len V i
      have hx1 := he.ix hx
      have hj1 := he.ij hj
      obtain ⟨r, hr⟩ := wys_pre V (Nat.le_of_lt hi)
      have hrl : (wys V i).length + r.length ≤ 252 := by
        rw [hr, List.length_append] at hw252
        exact hw252
      simp only [bX7_list_20, lete]
      rw [ite_leN (by omega) (by omega), if_neg (by omega), hl, show (252 : Int32) = nI 252 from rfl, ite_leN (by omega) (by omega)]
      by_cases hc : 252 ≤ (wys V i).length
      · refine Or.inr ?_
        rw [if_pos hc]
        have hr0 : r = [] := List.length_eq_zero_iff.mp (by omega)
        rw [hr0, List.append_nil] at hr
        refine ⟨_, rfl, he, ⟨?_, ?_⟩, h6⟩
        · rw [hr]; exact hl
        · rw [hr]; exact hv
      · refine Or.inl ?_
        rw [if_neg hc, x_allows h hx1 hi, Option.bind_some, show (1 : Int32) = nI 1 from rfl, x_leavesForest h hj1 hi (by omega), Option.bind_some]
        by_cases hq : isW V i = true
        · have hq2 := hq
          unfold isW at hq2
          simp only [Bool.and_eq_true] at hq2
          have hx2 : IX (mu m1 27 (wys V i).length (nI i)) 1 V := (EL.mu (Or.inr (Or.inl rfl))).ix hx1
          have e2 : (mu m1 27 (wys V i).length (nI i)).1 26 2 = nI (wys V i).length := by rw [mu_ne _ _ (Or.inl (by decide))]; exact hl
          rw [if_pos hq2.1, if_pos hq2.2, chk_pos (inb_nI (by omega) (by omega)), nI_clamp (by omega), x_worthOf hF h hx2 hi, Option.bind_some, e2, chk_pos (inb_nI (by omega) (by omega)), nI_clamp (by omega)]
          have e3 : (mu (mu m1 27 (wys V i).length (nI i)) 28 (wys V i).length (nI (wrt V i))).1 26 2 = nI (wys V i).length := by rw [mu_ne _ _ (Or.inl (by decide))]; exact e2
          rw [e3, nI_add, nI_add]
          refine ⟨_, rfl, rfl, he.tr ((EL.mu (Or.inr (Or.inl rfl))).tr ((EL.mu (Or.inr (Or.inr rfl))).tr (EL.mu (Or.inl rfl)))), ?_, ?_, ?_⟩
          · rw [mu_ne _ _ (Or.inr (by decide)), mu_ne _ _ (Or.inl (by decide)), mu_ne _ _ (Or.inl (by decide))]; exact h6
          · rw [mu_same, wys_succ, if_pos hq, List.length_append]
            rfl
          · intro k s hk
            rw [wys_succ, if_pos hq] at hk
            dsimp only
            have q27 : (mu (mu (mu m1 27 (wys V i).length (nI i)) 28 (wys V i).length (nI (wrt V i))) 26 2 (nI ((wys V i).length + 1))).1 27 k = if k = (wys V i).length then nI i else m1.1 27 k := by simp [mu_g]
            have q28 : (mu (mu (mu m1 27 (wys V i).length (nI i)) 28 (wys V i).length (nI (wrt V i))) 26 2 (nI ((wys V i).length + 1))).1 28 k = if k = (wys V i).length then nI (wrt V i) else m1.1 28 k := by simp [mu_g]
            rw [q27, q28]
            rcases Nat.lt_or_ge k (wys V i).length with hz | hz
            · rw [List.getElem?_append_left hz] at hk
              have := hv k s hk
              simp [Nat.ne_of_lt hz, this]
            · rw [List.getElem?_append_right hz] at hk
              have hz2 : k - (wys V i).length = 0 := by
                have := (List.getElem?_eq_some_iff.mp hk).1
                simp at this; omega
              rw [hz2] at hk
              have e4 : k = (wys V i).length := by omega
              have e5 : i = s := by simpa using hk
              subst e4; subst e5
              simp
        · have : (wys V (i + 1)) = wys V i := by rw [wys_succ, if_neg hq, List.append_nil]
          rw [nI_add]
          by_cases ha : alw V i = true
          · have hf : ¬ frs V i 1 = true := fun z => hq (by unfold isW; rw [ha, z]; rfl)
            rw [if_pos ha, if_neg hf]
            exact ⟨_, rfl, rfl, he, h6, by rw [this]; exact hl, by rw [this]; exact hv⟩
          · rw [if_neg ha]
            exact ⟨_, rfl, rfl, he, h6, by rw [this]; exact hl, by rw [this]; exact hv⟩) (by
      rintro ⟨y, m1⟩ ⟨rfl, he, h6, hl, hv⟩
      dsimp only at he h6 hl hv
      refine ⟨(nI (2 ^ V.2.1), m1), ?_, he, ⟨hl, hv⟩, h6⟩
      simp only [bX7_list_20]
      rw [ite_leN (by omega) (by omega), if_pos (Nat.le_refl _)]) F 0 (nI 0, mu (mu m 26 2 0) 26 6 0) (Nat.zero_le _) (by omega) ⟨rfl, h0, mu_same _ _ _ _, by rw [mu_ne _ _ (Or.inr (by decide)), mu_same]; rfl, fun k s hs => by simp [wys] at hs⟩
  refine ⟨e.2, ?_, h2, h3, h4⟩
  simp only [gX7_list, lete]
  rw [x_sets h (h0.ix hx), Option.bind_some]
  rw [show (nI 0, mu (mu m 26 2 0) 26 6 0) = ((0 : Int32), mu (mu m 26 2 0) 26 6 0) from rfl] at h1
  rw [h1, Option.bind_some]
