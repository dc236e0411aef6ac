/-! ===== parts of houses, in numbers ===== -/
theorem rB_lt (f : Nat → Nat → Nat) (x : Nat) : ∀ n, rB f x n < 2 ^ n
  | 0 => by simp [rB]
  | n + 1 => by
    have := rB_lt f x n
    simp only [rB, Nat.pow_succ]
    split <;> omega
theorem rB_bit (f : Nat → Nat → Nat) (x : Nat) : ∀ n l, (rB f x n).testBit l = (decide (l < n) && decide (f l 6 = x))
  | 0, l => by simp [rB]
  | n + 1, l => by
    have h1 := rB_lt f x n
    have h2 := rB_bit f x n l
    simp only [rB]
    by_cases hx : f n 6 = x
    · have e : rB f x n + 2 ^ n = 2 ^ n ||| rB f x n := by
        have := Nat.two_pow_add_eq_or_of_lt h1 1
        rw [Nat.mul_one] at this
        rw [Nat.add_comm]; exact this
      rw [if_pos hx, e, Nat.testBit_or, Nat.testBit_two_pow, h2]
      by_cases hl : n = l
      · subst hl; simp [hx]
      · have : (l < n + 1) ↔ (l < n) := by omega
        simp [this, hl]
    · rw [if_neg hx, Nat.add_zero, h2]
      by_cases hl : l = n
      · subst hl; simp [hx]
      · have : (l < n + 1) ↔ (l < n) := by omega
        simp [this]
section
variable (f : Nat → Nat → Nat) (s : Nat)
theorem lb_le : ∀ k h, lb f s k h ≤ h
  | 0, h => Nat.le_refl h
  | k + 1, h => by
    have h1 := lb_le k h
    simp only [lb]
    split
    · split
      · rename_i e
        omega
      · exact h1
    · exact h1
theorem lb_lb : ∀ k h, lb f s k (lb f s k h) = lb f s k h
  | 0, h => rfl
  | k + 1, h => by
    have i := lb_lb k
    have ia := i (f k 1)
    have ib := i (f k 2)
    have ih := i h
    simp only [lb]
    by_cases hb : s.testBit k = true
    · simp only [hb, if_true]
      generalize ea : lb f s k (f k 1) = a at *
      generalize eb : lb f s k (f k 2) = b at *
      by_cases hM : lb f s k h = max a b
      · rw [if_pos hM]
        have hm : lb f s k (min a b) = min a b := by
          rcases Nat.le_total a b with q | q
          · rw [Nat.min_eq_left q]; exact ia
          · rw [Nat.min_eq_right q]; exact ib
        rw [hm]
        split
        · rfl
        · rfl
      · rw [if_neg hM, ih, if_neg hM]
    · simp only [hb]
      exact ih
/-- how many of the first houses are the least of their part -/
def rtc (P : Nat → Bool) : Nat → Nat
  | 0 => 0
  | h + 1 => rtc P h + (if P h = true then 1 else 0)
theorem rtc_same {P P' : Nat → Bool} : ∀ H, (∀ h, h < H → P' h = P h) → rtc P' H = rtc P H
  | 0, _ => rfl
  | H + 1, g => by rw [rtc, rtc, rtc_same H (fun h hh => g h (by omega)), g H (by omega)]
theorem rtc_less {P P' : Nat → Bool} {c : Nat} (h1 : P c = true) (h2 : P' c = false) : ∀ H, c < H → (∀ h, h < H → h ≠ c → P' h = P h) → rtc P' H + 1 = rtc P H
  | 0, hc, _ => absurd hc (by omega)
  | H + 1, hc, g => by
    by_cases e : c = H
    · subst e
      rw [rtc, rtc, rtc_same c (fun h hh => g h (by omega) (by omega)), h1, h2]
      simp
    · have := rtc_less h1 h2 H (by omega) (fun h hh hn => g h (by omega) hn)
      rw [rtc, rtc, g H (by omega) (fun q => e q.symm)]
      omega
theorem jn_rt {H : Nat} : ∀ k, (∀ l, l < k → f l 1 < H ∧ f l 2 < H) → jn f s k + rtc (fun h => decide (lb f s k h = h)) H = H
  | 0, _ => by
    simp only [jn, lb]
    have : ∀ H, rtc (fun _ => decide True) H = H := fun H => by
      induction H with
      | zero => rfl
      | succ H ih => rw [rtc, ih]; simp
    rw [this]; omega
  | k + 1, g => by
    have ih := jn_rt k (fun l hl => g l (by omega))
    have gk := g k (by omega)
    have ia := lb_lb f s k (f k 1)
    have ib := lb_lb f s k (f k 2)
    have la := lb_le f s k (f k 1)
    have lb' := lb_le f s k (f k 2)
    by_cases hb : s.testBit k = true
    · by_cases he : lb f s k (f k 1) = lb f s k (f k 2)
      · simp only [jn, lb, hb, if_true, he, ne_eq, not_true_eq_false, and_false, if_false, Nat.add_zero, Nat.max_self, Nat.min_self]
        have e9 : rtc (fun h => decide ((if lb f s k h = lb f s k (f k 2) then lb f s k (f k 2) else lb f s k h) = h)) H = rtc (fun h => decide (lb f s k h = h)) H := by
          apply rtc_same
          intro h _
          split
          · rename_i e; rw [e]
          · rfl
        rw [e9]
        exact ih
      · have hl := rtc_less (P := fun h => decide (lb f s k h = h)) (P' := fun h => decide (lb f s (k + 1) h = h)) (c := max (lb f s k (f k 1)) (lb f s k (f k 2))) (by
          simp only [decide_eq_true_eq]
          rcases Nat.le_total (lb f s k (f k 1)) (lb f s k (f k 2)) with q | q
          · rw [Nat.max_eq_right q]; exact ib
          · rw [Nat.max_eq_left q]; exact ia) (by
          simp only [decide_eq_false_iff_not, lb, hb, if_true]
          have hM : lb f s k (max (lb f s k (f k 1)) (lb f s k (f k 2))) = max (lb f s k (f k 1)) (lb f s k (f k 2)) := by
            rcases Nat.le_total (lb f s k (f k 1)) (lb f s k (f k 2)) with q | q
            · rw [Nat.max_eq_right q]; exact ib
            · rw [Nat.max_eq_left q]; exact ia
          rw [if_pos hM]
          omega) H (by omega) (by
          intro h _ hn
          simp only [lb, hb, if_true]
          by_cases hM : lb f s k h = max (lb f s k (f k 1)) (lb f s k (f k 2))
          · rw [if_pos hM]
            have h3 := lb_le f s k h
            have e1 : decide (lb f s k h = h) = false := by
              simp only [decide_eq_false_iff_not]
              omega
            rw [e1]
            simp only [decide_eq_false_iff_not]
            omega
          · rw [if_neg hM])
        have ej : jn f s (k + 1) = jn f s k + 1 := by simp [jn, hb, he]
        rw [ej]
        omega
    · have el : ∀ h, lb f s (k + 1) h = lb f s k h := fun h => by simp [lb, hb]
      have ej : jn f s (k + 1) = jn f s k := by simp [jn, hb]
      rw [ej, rtc_same (P' := fun h => decide (lb f s (k + 1) h = h)) (P := fun h => decide (lb f s k h = h)) H (fun h _ => by simp only [el])]
      exact ih
/-- how many lanes a set has -/
def pcn : Nat → Nat
  | 0 => 0
  | k + 1 => pcn k + (if s.testBit k = true then 1 else 0)
theorem pc_jr : ∀ k, pcn s k = jn f s k + rg f s k
  | 0 => rfl
  | k + 1 => by
    have := pc_jr k
    simp only [pcn, jn, rg]
    by_cases hb : s.testBit k = true
    · by_cases he : lb f s k (f k 1) = lb f s k (f k 2)
      · simp [hb, he]; omega
      · simp [hb, he]; omega
    · simp [hb]; omega
/-- the parts as the reference marks them -/
def pl : Nat → Nat → Nat
  | 0, h => h
  | k + 1, h => if s.testBit k = true ∧ pl k (f k 1) ≠ pl k (f k 2) then (if pl k h = pl k (f k 2) then pl k (f k 1) else pl k h) else pl k h
theorem pl_lb : ∀ k h g, (pl f s k h = pl f s k g) ↔ (lb f s k h = lb f s k g)
  | 0, h, g => Iff.rfl
  | k + 1, h, g => by
    have i := pl_lb k
    have i0 := i h g
    have i1 := i h (f k 1)
    have i2 := i h (f k 2)
    have i3 := i g (f k 1)
    have i4 := i g (f k 2)
    have i5 := i (f k 1) (f k 2)
    simp only [pl, lb]
    by_cases hb : s.testBit k = true
    · simp only [hb, true_and, if_true]
      generalize pl f s k (f k 1) = a at *
      generalize pl f s k (f k 2) = b at *
      generalize lb f s k (f k 1) = c at *
      generalize lb f s k (f k 2) = d at *
      generalize pl f s k h = ph at *
      generalize pl f s k g = pg at *
      generalize lb f s k h = lh at *
      generalize lb f s k g = lg at *
      by_cases hab : a = b
      · have hcd := i5.mp hab
        subst hcd
        simp only [hab, ne_eq, not_true_eq_false, if_false, Nat.max_self, Nat.min_self]
        rw [i0]
        constructor
        · intro e; rw [e]
        · intro e
          split at e <;> split at e <;> omega
      · have hcd : ¬ c = d := fun q => hab (i5.mpr q)
        simp only [ne_eq, hab, not_false_eq_true, if_true]
        rcases Nat.le_total c d with q | q
        · rw [Nat.max_eq_right q, Nat.min_eq_left q]
          (repeat' split) <;> omega
        · rw [Nat.max_eq_left q, Nat.min_eq_right q]
          (repeat' split) <;> omega
    · simp only [hb, false_and, if_false]
      exact i0
end
theorem enc_lt {l : Nat → Nat} : ∀ k, (∀ i, i < k → l i < 8) → enc l k < 8 ^ k
  | 0, _ => by simp [enc]
  | k + 1, h => by
    have h1 := enc_lt k (fun i hi => h i (by omega))
    have h2 := h k (by omega)
    simp only [enc, Nat.pow_succ]
    have : l k * 8 ^ k ≤ 7 * 8 ^ k := Nat.mul_le_mul_right _ (by omega)
    omega
theorem enc_digit {l : Nat → Nat} : ∀ k c h, h < k → (∀ i, i < k → l i < 8) → (enc l k + c * 8 ^ k) / 8 ^ h % 8 = l h
  | 0, _, _, h, _ => absurd h (by omega)
  | k + 1, c, h, hh, g => by
    have e : enc l (k + 1) + c * 8 ^ (k + 1) = enc l k + (l k + 8 * c) * 8 ^ k := by
      simp only [enc, Nat.pow_succ, Nat.add_mul]
      rw [Nat.mul_comm (8 ^ k) 8, ← Nat.mul_assoc, Nat.mul_comm c 8]
      omega
    rw [e]
    by_cases hk : h = k
    · subst hk
      have h1 := enc_lt h (fun i hi => g i (by omega))
      rw [Nat.add_mul_div_right _ _ (Nat.pow_pos (by decide)), Nat.div_eq_of_lt h1]
      have := g h (by omega)
      omega
    · exact enc_digit k _ h (by omega) (fun i hi => g i (by omega))
