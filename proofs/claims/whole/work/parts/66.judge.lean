/-! ===== a lane more, in whatever order ===== -/
/-- joined by the lanes of a set: in every sameness that joins their ends -/
def Cg (f : Nat → Nat → Nat) (s k a b : Nat) : Prop := ∀ R : Nat → Nat → Prop, (∀ x, R x x) → (∀ x y, R x y → R y x) → (∀ x y z, R x y → R y z → R x z) → (∀ l, l < k → s.testBit l = true → R (f l 1) (f l 2)) → R a b
section
variable {f : Nat → Nat → Nat} {s : Nat}
theorem lb_keep {a b : Nat} : ∀ k d, lb f s k a = lb f s k b → lb f s (k + d) a = lb f s (k + d) b
  | _, 0, h => h
  | k, d + 1, h => by
    have i := lb_keep k d h
    rw [← Nat.add_assoc]
    simp only [lb, i]
theorem lb_edge {k l : Nat} (hl : l < k) (hb : s.testBit l = true) : lb f s k (f l 1) = lb f s k (f l 2) := by
  have h1 : lb f s (l + 1) (f l 1) = lb f s (l + 1) (f l 2) := by
    simp only [lb, hb, if_true]
    split <;> split <;> omega
  have := lb_keep (l + 1) (k - (l + 1)) h1
  rw [show l + 1 + (k - (l + 1)) = k by omega] at this
  exact this
theorem cg_lb (R : Nat → Nat → Prop) (h1 : ∀ x, R x x) (h2 : ∀ x y, R x y → R y x) (h3 : ∀ x y z, R x y → R y z → R x z) : ∀ k, (∀ l, l < k → s.testBit l = true → R (f l 1) (f l 2)) → ∀ a, R a (lb f s k a)
  | 0, _, a => h1 a
  | k + 1, g, a => by
    have i := cg_lb R h1 h2 h3 k (fun l hl => g l (by omega))
    simp only [lb]
    by_cases hb : s.testBit k = true
    · rw [if_pos hb]
      have e := g k (by omega) hb
      have e12 : R (lb f s k (f k 1)) (lb f s k (f k 2)) := h3 _ _ _ (h2 _ _ (i (f k 1))) (h3 _ _ _ e (i (f k 2)))
      have ia := i a
      split
      · rename_i hq
        rw [hq] at ia
        refine h3 _ _ _ ia ?_
        rcases Nat.le_total (lb f s k (f k 1)) (lb f s k (f k 2)) with q | q
        · rw [Nat.max_eq_right q, Nat.min_eq_left q]; exact h2 _ _ e12
        · rw [Nat.max_eq_left q, Nat.min_eq_right q]; exact e12
      · exact ia
    · rw [if_neg hb]
      exact i a
theorem lb_iff {k a b : Nat} : lb f s k a = lb f s k b ↔ Cg f s k a b := by
  constructor
  · intro h R h1 h2 h3 g
    have ia := cg_lb R h1 h2 h3 k g a
    have ib := cg_lb R h1 h2 h3 k g b
    rw [h] at ia
    exact h3 _ _ _ ia (h2 _ _ ib)
  · intro h
    exact h (fun x y => lb f s k x = lb f s k y) (fun _ => rfl) (fun _ _ e => e.symm) (fun _ _ _ e1 e2 => e1.trans e2) (fun l hl hb => lb_edge hl hb)
end
theorem uniq {L L' : Nat → Nat} (a1 : ∀ h, L h ≤ h) (a2 : ∀ h, L (L h) = L h) (b1 : ∀ h, L' h ≤ h) (b2 : ∀ h, L' (L' h) = L' h) (k : ∀ x y, L x = L y ↔ L' x = L' y) : ∀ h, L h = L' h := by
  intro h
  have c1 : L (L' h) = L h := (k (L' h) h).mpr (b2 h)
  have c2 : L' (L h) = L' h := (k (L h) h).mp (a2 h)
  have d1 := a1 (L' h)
  have d2 := b1 (L h)
  omega
theorem or_bit {s l i : Nat} : (s ||| 2 ^ l).testBit i = (s.testBit i || decide (l = i)) := by rw [Nat.testBit_or, Nat.testBit_two_pow]
section
variable {f : Nat → Nat → Nat} {s l n : Nat}
theorem cg_more {x y : Nat} (h : Cg f s n x y) : Cg f (s ||| 2 ^ l) n x y := fun R h1 h2 h3 g => h R h1 h2 h3 (fun q hq hb => g q hq (by rw [or_bit, hb]; rfl))
theorem cg_new (hl : l < n) : Cg f (s ||| 2 ^ l) n (f l 1) (f l 2) := fun R _ _ _ g => g l hl (by rw [or_bit]; simp)
theorem lb_or_same (h : lb f s n (f l 1) = lb f s n (f l 2)) (x : Nat) : lb f (s ||| 2 ^ l) n x = lb f s n x := by
  refine uniq (lb_le _ _ _) (lb_lb _ _ _) (lb_le _ _ _) (lb_lb _ _ _) (fun x y => ?_) x
  constructor
  · intro e
    refine lb_iff.mp e (fun x y => lb f s n x = lb f s n y) (fun _ => rfl) (fun _ _ e => e.symm) (fun _ _ _ e1 e2 => e1.trans e2) (fun q hq hb => ?_)
    rw [or_bit, Bool.or_eq_true, decide_eq_true_eq] at hb
    rcases hb with hb | rfl
    · exact lb_edge hq hb
    · exact h
  · intro e
    exact lb_iff.mpr (cg_more (lb_iff.mp e))
theorem lb_or_join (hl : l < n) (h : lb f s n (f l 1) ≠ lb f s n (f l 2)) (x : Nat) : lb f (s ||| 2 ^ l) n x = lj (lb f s n) (f l 1) (f l 2) x := by
  have i1 := lb_lb f s n
  have la := i1 (f l 1)
  have lbb := i1 (f l 2)
  generalize hL : lb f s n = L at *
  have hj : ∀ x, lj L (f l 1) (f l 2) x = if L x = max (L (f l 1)) (L (f l 2)) then min (L (f l 1)) (L (f l 2)) else L x := fun _ => rfl
  have hle : ∀ x, L x ≤ x := fun x => by rw [← hL]; exact lb_le _ _ _ x
  have hcs : (max (L (f l 1)) (L (f l 2)) = L (f l 1) ∧ min (L (f l 1)) (L (f l 2)) = L (f l 2)) ∨ (max (L (f l 1)) (L (f l 2)) = L (f l 2) ∧ min (L (f l 1)) (L (f l 2)) = L (f l 1)) := by
    rcases Nat.le_total (L (f l 1)) (L (f l 2)) with q | q
    · exact Or.inr ⟨Nat.max_eq_right q, Nat.min_eq_left q⟩
    · exact Or.inl ⟨Nat.max_eq_left q, Nat.min_eq_right q⟩
  have edge : Cg f (s ||| 2 ^ l) n (f l 1) (f l 2) := cg_new hl
  have up : ∀ x y, L x = L y → Cg f (s ||| 2 ^ l) n x y := fun x y e => cg_more (lb_iff.mp (by rw [hL]; exact e))
  have tr : ∀ x y z, Cg f (s ||| 2 ^ l) n x y → Cg f (s ||| 2 ^ l) n y z → Cg f (s ||| 2 ^ l) n x z := fun x y z p q => lb_iff.mp ((lb_iff.mpr p).trans (lb_iff.mpr q))
  have sy : ∀ x y, Cg f (s ||| 2 ^ l) n x y → Cg f (s ||| 2 ^ l) n y x := fun x y p => lb_iff.mp (lb_iff.mpr p).symm
  have reach : ∀ x, Cg f (s ||| 2 ^ l) n x (lj L (f l 1) (f l 2) x) := by
    intro x
    rw [hj]
    split
    · rename_i e
      rcases hcs with ⟨q1, q2⟩ | ⟨q1, q2⟩
      · rw [q2]
        refine tr x (f l 1) _ (up _ _ (by rw [e, q1])) (tr _ (f l 2) _ edge (up _ _ lbb.symm))
      · rw [q2]
        refine tr x (f l 2) _ (up _ _ (by rw [e, q1])) (tr _ (f l 1) _ (sy _ _ edge) (up _ _ la.symm))
    · exact up _ _ (i1 x).symm
  refine uniq (lb_le _ _ _) (lb_lb _ _ _) (fun h => ?_) (fun h => ?_) (fun x y => ?_) x
  · rw [hj]
    have := hle h
    split <;> omega
  · rw [hj h]
    split
    · rw [hj]
      rcases hcs with ⟨q1, q2⟩ | ⟨q1, q2⟩
      · rw [q1, q2, lbb, if_neg (by omega)]
      · rw [q1, q2, la, if_neg (by omega)]
    · rename_i e
      rw [hj, i1 h, if_neg e]
  · constructor
    · intro e
      refine lb_iff.mp e (fun x y => lj L (f l 1) (f l 2) x = lj L (f l 1) (f l 2) y) (fun _ => rfl) (fun _ _ e => e.symm) (fun _ _ _ e1 e2 => e1.trans e2) (fun q hq hb => ?_)
      rw [or_bit, Bool.or_eq_true, decide_eq_true_eq] at hb
      rcases hb with hb | rfl
      · have : L (f q 1) = L (f q 2) := by rw [← hL]; exact lb_edge hq hb
        rw [hj, hj, this]
      · rw [hj, hj]
        rcases hcs with ⟨q1, q2⟩ | ⟨q1, q2⟩
        · rw [q1, q2, if_pos rfl, if_neg (fun z => h z.symm)]
        · rw [q1, q2, if_pos rfl, if_neg h]
    · intro e
      exact lb_iff.mpr (tr _ _ _ (reach x) (by rw [e]; exact sy _ _ (reach y)))
theorem pcn_or (hb : s.testBit l = false) : ∀ k, pcn (s ||| 2 ^ l) k = pcn s k + (if l < k then 1 else 0)
  | 0 => by simp [pcn]
  | k + 1 => by
    have i := pcn_or hb k
    simp only [pcn, i, or_bit]
    by_cases hk : l = k
    · subst hk; simp [hb]
    · by_cases hlk : l < k
      · have : l < k + 1 := by omega
        simp [hk, hlk, this]; omega
      · have : ¬ l < k + 1 := by omega
        simp [hk, hlk, this]
/-- a lane more makes a ring just where its ends were together -/
theorem rg_or {H : Nat} (hH : ∀ q, q < n → f q 1 < H ∧ f q 2 < H) (hl : l < n) (hb : s.testBit l = false) (h0 : rg f s n = 0) : rg f (s ||| 2 ^ l) n = 0 ↔ lb f s n (f l 1) ≠ lb f s n (f l 2) := by
  have p1 := pc_jr f s n
  have p2 := pc_jr f (s ||| 2 ^ l) n
  rw [pcn_or hb, if_pos hl] at p2
  have j1 := jn_rt f s (H := H) n hH
  have j2 := jn_rt f (s ||| 2 ^ l) (H := H) n hH
  by_cases e : lb f s n (f l 1) = lb f s n (f l 2)
  · have : (fun h => decide (lb f (s ||| 2 ^ l) n h = h)) = fun h => decide (lb f s n h = h) := by
      funext h
      rw [lb_or_same e]
    rw [this] at j2
    constructor
    · intro; omega
    · intro z; exact absurd e z
  · have i1 := lb_lb f s n
    have la := i1 (f l 1)
    have lbb := i1 (f l 2)
    have ba := lb_le f s n (f l 1)
    have bb := lb_le f s n (f l 2)
    have c1 := (hH l hl).1
    have c2 := (hH l hl).2
    have jj := lb_or_join hl e
    have := rtc_less (P := fun h => decide (lb f s n h = h)) (P' := fun h => decide (lb f (s ||| 2 ^ l) n h = h)) (c := max (lb f s n (f l 1)) (lb f s n (f l 2))) (by
        simp only [decide_eq_true_eq]
        rcases Nat.le_total (lb f s n (f l 1)) (lb f s n (f l 2)) with q | q
        · rw [Nat.max_eq_right q]; exact lbb
        · rw [Nat.max_eq_left q]; exact la) (by
        simp only [decide_eq_false_iff_not]
        rw [jj]
        unfold lj
        rcases Nat.le_total (lb f s n (f l 1)) (lb f s n (f l 2)) with q | q
        · rw [Nat.max_eq_right q, lbb, if_pos rfl]; omega
        · rw [Nat.max_eq_left q, la, if_pos rfl]; omega) H (by omega) (fun h hh hne => by
        apply decide_eq_decide.mpr
        rw [jj]
        unfold lj
        split
        · rename_i q
          constructor
          · intro z
            exfalso
            have e2 : lb f s n h = h := by
              rw [← z]
              rcases Nat.le_total (lb f s n (f l 1)) (lb f s n (f l 2)) with q | q
              · rw [Nat.min_eq_left q]; exact la
              · rw [Nat.min_eq_right q]; exact lbb
            omega
          · intro z
            exfalso
            omega
        · exact Iff.rfl)
    constructor
    · intro; exact e
    · intro; omega
end
