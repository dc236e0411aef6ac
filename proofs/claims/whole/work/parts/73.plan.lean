/-! ===== the best plans: counted in numbers ===== -/
def prs : Nat → List (Nat × Nat)
  | 2 => [(0, 1)]
  | 3 => [(0, 1), (0, 2), (1, 2)]
  | 4 => [(0, 1), (0, 2), (0, 3), (1, 2), (1, 3), (2, 3)]
  | 5 => [(0, 1), (0, 2), (0, 3), (0, 4), (1, 2), (1, 3), (1, 4), (2, 3), (2, 4), (3, 4)]
  | _ => []
def Vp (h : Nat) : Vd := (h, (prs h).length, fun l k => if k = 1 then ((prs h).getD l (0, 1)).1 else if k = 2 then ((prs h).getD l (0, 1)).2 else if k = 3 then 1 else 0)
def off (h : Nat) : Nat → Nat
  | 0 => 0
  | a + 1 => off h a + (h - 1 - a)
theorem h25 {h : Nat} (h2 : 2 ≤ h) (h5 : h ≤ 5) : h = 2 ∨ h = 3 ∨ h = 4 ∨ h = 5 := by omega
theorem Vp_ok {h : Nat} (h2 : 2 ≤ h) (h5 : h ≤ 5) : okV (Vp h) := by
  rcases h25 h2 h5 with rfl | rfl | rfl | rfl
  · refine ⟨by decide, by decide, by decide, ?_⟩
    unfold okL
    decide
  · refine ⟨by decide, by decide, by decide, ?_⟩
    unfold okL
    decide
  · refine ⟨by decide, by decide, by decide, ?_⟩
    unfold okL
    decide
  · refine ⟨by decide, by decide, by decide, ?_⟩
    unfold okL
    decide
theorem Vp_n {h : Nat} (h2 : 2 ≤ h) (h5 : h ≤ 5) : (Vp h).2.1 = h * (h - 1) / 2 ∧ off h h = (Vp h).2.1 := by
  rcases h25 h2 h5 with rfl | rfl | rfl | rfl <;> decide
theorem Vp_at {h a b : Nat} (h2 : 2 ≤ h) (h5 : h ≤ 5) (hab : a < b) (hb : b < h) : off h a + (b - a - 1) < (Vp h).2.1 ∧ (Vp h).2.2 (off h a + (b - a - 1)) 1 = a ∧ (Vp h).2.2 (off h a + (b - a - 1)) 2 = b := by
  have key : ∀ h, h < 6 → ∀ b, b < h → ∀ a, a < b → off h a + (b - a - 1) < (Vp h).2.1 ∧ (Vp h).2.2 (off h a + (b - a - 1)) 1 = a ∧ (Vp h).2.2 (off h a + (b - a - 1)) 2 = b := by decide
  exact key h (by omega) b hb a hab
/-! the tables of sums over the sets in a set -/
def Zr (T : Nat → Bool) : Nat → Nat → Nat
  | 0, s => if T s = true then 1 else 0
  | p + 1, s => Zr T p s + (if s.testBit p = true then Zr T p (wo s (2 ^ p)) else 0)
def Qp (p s t : Nat) : Bool := decide (t &&& s = t) && decide (t / 2 ^ p = s / 2 ^ p)
theorem div_bits (p s t : Nat) : t / 2 ^ p = s / 2 ^ p ↔ ∀ i, p ≤ i → t.testBit i = s.testBit i := by
  constructor
  · intro h i hi
    have := congrArg (fun x => x.testBit (i - p)) h
    simp only [Nat.testBit_div_two_pow] at this
    rw [show i - p + p = i by omega] at this
    exact this
  · intro h
    apply Nat.eq_of_testBit_eq
    intro i
    rw [Nat.testBit_div_two_pow, Nat.testBit_div_two_pow]
    exact h _ (by omega)
theorem sub_bits (s t : Nat) : t &&& s = t ↔ ∀ i, t.testBit i = true → s.testBit i = true := by
  constructor
  · intro h i hi
    have h1 : (t &&& s).testBit i = t.testBit i := by rw [h]
    rw [Nat.testBit_and, hi, Bool.true_and] at h1
    exact h1
  · intro h
    apply Nat.eq_of_testBit_eq
    intro i
    rw [Nat.testBit_and]
    have := h i
    cases hx : t.testBit i <;> simp_all
theorem Qp_false {p s t : Nat} (hb : s.testBit p = false) : Qp (p + 1) s t = Qp p s t := by
  rw [Bool.eq_iff_iff]
  unfold Qp
  simp only [Bool.and_eq_true, decide_eq_true_eq]
  rw [sub_bits, div_bits, div_bits]
  constructor
  · rintro ⟨h1, h2⟩
    refine ⟨h1, fun i hi => ?_⟩
    by_cases e : i = p
    · subst e
      rw [hb]
      cases ht : t.testBit i with
      | false => rfl
      | true => rw [h1 i ht] at hb; cases hb
    · exact h2 i (by omega)
  · rintro ⟨h1, h2⟩
    exact ⟨h1, fun i hi => h2 i (by omega)⟩
theorem Qp_true {p s t : Nat} (hb : s.testBit p = true) : (if Qp (p + 1) s t = true then 1 else 0) = (if Qp p s t = true then 1 else 0) + (if Qp p (wo s (2 ^ p)) t = true then 1 else 0) := by
  have wb : ∀ i, (wo s (2 ^ p)).testBit i = (s.testBit i && !decide (p = i)) := fun i => by rw [wo_bit, Nat.testBit_two_pow]
  have e0 : Qp (p + 1) s t = true ↔ (∀ i, t.testBit i = true → s.testBit i = true) ∧ ∀ i, p + 1 ≤ i → t.testBit i = s.testBit i := by
    unfold Qp; simp only [Bool.and_eq_true, decide_eq_true_eq]; rw [sub_bits, div_bits]
  have e1 : Qp p s t = true ↔ (∀ i, t.testBit i = true → s.testBit i = true) ∧ ∀ i, p ≤ i → t.testBit i = s.testBit i := by
    unfold Qp; simp only [Bool.and_eq_true, decide_eq_true_eq]; rw [sub_bits, div_bits]
  have e2 : Qp p (wo s (2 ^ p)) t = true ↔ (∀ i, t.testBit i = true → (s.testBit i && !decide (p = i)) = true) ∧ ∀ i, p ≤ i → t.testBit i = (s.testBit i && !decide (p = i)) := by
    unfold Qp; simp only [Bool.and_eq_true, decide_eq_true_eq]; rw [sub_bits, div_bits]
    simp only [wb, Bool.and_eq_true, decide_eq_true_eq]
  by_cases ht : t.testBit p = true
  · have n2 : ¬ Qp p (wo s (2 ^ p)) t = true := fun z => by
      have := (e2.mp z).1 p ht
      simp at this
    have q : Qp (p + 1) s t = true ↔ Qp p s t = true := by
      rw [e0, e1]
      constructor
      · rintro ⟨h1, h2⟩
        refine ⟨h1, fun i hi => ?_⟩
        by_cases e : i = p
        · subst e; rw [ht, hb]
        · exact h2 i (by omega)
      · rintro ⟨h1, h2⟩
        exact ⟨h1, fun i hi => h2 i (by omega)⟩
    rw [if_neg n2]
    by_cases c : Qp p s t = true
    · rw [if_pos c, if_pos (q.mpr c)]
    · rw [if_neg c, if_neg (fun z => c (q.mp z))]
  · have n1 : ¬ Qp p s t = true := fun z => by
      have := (e1.mp z).2 p (Nat.le_refl p)
      rw [hb] at this
      exact ht this
    have q : Qp (p + 1) s t = true ↔ Qp p (wo s (2 ^ p)) t = true := by
      rw [e0, e2]
      constructor
      · rintro ⟨h1, h2⟩
        refine ⟨fun i hi => ?_, fun i hi => ?_⟩
        · have : ¬ p = i := fun z => by subst z; exact ht hi
          simp [h1 i hi, this]
        · by_cases e : p = i
          · subst e
            simpa using ht
          · rw [h2 i (by omega)]; simp [e]
      · rintro ⟨h1, h2⟩
        refine ⟨fun i hi => ?_, fun i hi => ?_⟩
        · have := h1 i hi
          simp only [Bool.and_eq_true] at this
          exact this.1
        · have : ¬ p = i := by omega
          rw [h2 i (by omega)]; simp [this]
    rw [if_neg n1, Nat.zero_add]
    by_cases c : Qp p (wo s (2 ^ p)) t = true
    · rw [if_pos c, if_pos (q.mpr c)]
    · rw [if_neg c, if_neg (fun z => c (q.mp z))]
theorem sst_plus {A B C : Nat → Bool} : ∀ N, (∀ t, t < N → (if C t = true then 1 else 0) = (if A t = true then 1 else 0) + (if B t = true then 1 else 0)) → sst C (fun _ => 1) N = sst A (fun _ => 1) N + sst B (fun _ => 1) N
  | 0, _ => rfl
  | N + 1, h => by
    have i := sst_plus N (fun t ht => h t (by omega))
    have := h N (by omega)
    simp only [sst, i]
    omega
theorem sst_one {T : Nat → Bool} {s : Nat} : ∀ N, sst (fun t => T t && decide (t = s)) (fun _ => 1) N = if s < N ∧ T s = true then 1 else 0
  | 0 => by simp [sst]
  | N + 1 => by
    rw [sst, sst_one N]
    by_cases e : N = s
    · subst e
      by_cases c : T N = true <;> simp [c]
    · by_cases c : T s = true
      · by_cases l : s < N
        · have : s < N + 1 := by omega
          simp [e, c, l, this]
        · have : ¬ s < N + 1 := by omega
          simp [e, c, l, this]
      · simp [e, c]
theorem Zr_sum {T : Nat → Bool} {n : Nat} : ∀ p s, s < 2 ^ n → Zr T p s = sst (fun t => T t && Qp p s t) (fun _ => 1) (2 ^ n)
  | 0, s, hs => by
    have e : (fun t => T t && Qp 0 s t) = fun t => T t && decide (t = s) := by
      funext t
      congr 1
      unfold Qp
      rw [Bool.eq_iff_iff]
      simp only [Bool.and_eq_true, decide_eq_true_eq, Nat.pow_zero, Nat.div_one]
      constructor
      · exact fun h => h.2
      · intro h; subst h; exact ⟨Nat.and_self t, rfl⟩
    rw [e, sst_one, Zr]
    by_cases c : T s = true <;> simp [c, hs]
  | p + 1, s, hs => by
    have i1 := Zr_sum (T := T) (n := n) p s hs
    have i2 := Zr_sum (T := T) (n := n) p (wo s (2 ^ p)) (wo_lt hs)
    rw [Zr, i1]
    by_cases hb : s.testBit p = true
    · rw [if_pos hb, i2]
      symm
      apply sst_plus
      intro t _
      have q := Qp_true (t := t) hb
      by_cases c : T t = true
      · simp only [c, Bool.true_and]; exact q
      · simp [c]
    · rw [if_neg hb, Nat.add_zero]
      apply sst_congr _ _ (fun _ _ _ => rfl)
      intro t _
      rw [Qp_false (by simpa using hb)]
/-- how many of the sets lie in a set -/
def cnT (T : Nat → Bool) (n s : Nat) : Nat := sst (fun t => T t && decide (t &&& s = t)) (fun _ => 1) (2 ^ n)
theorem Zr_all {T : Nat → Bool} {n s : Nat} (hs : s < 2 ^ n) : Zr T n s = cnT T n s := by
  rw [Zr_sum (n := n) n s hs]
  unfold cnT
  apply sst_congr _ _ (fun _ _ _ => rfl)
  intro t ht
  congr 1
  unfold Qp
  rw [Nat.div_eq_of_lt ht, Nat.div_eq_of_lt hs]
  simp
theorem Zr_le {T : Nat → Bool} : ∀ p s, Zr T p s ≤ 2 ^ p
  | 0, s => by rw [Zr]; split <;> simp
  | p + 1, s => by
    have i1 := Zr_le (T := T) p s
    have i2 := Zr_le (T := T) p (wo s (2 ^ p))
    rw [Zr, Nat.pow_succ]
    split <;> omega
/-- the most, and the first set that has it, among the sets below i with k lanes -/
def bst (C : Nat → Nat) (k : Nat) : Nat → Nat × Nat
  | 0 => (0, 0)
  | i + 1 => if pcn i 31 = k ∧ (bst C k i).1 < C i then (C i, i) else bst C k i
theorem bst_le {C : Nat → Nat} {k B : Nat} (hC : ∀ i, C i ≤ B) : ∀ i, (bst C k i).1 ≤ B ∧ (bst C k i).2 ≤ i
  | 0 => ⟨Nat.zero_le _, Nat.le_refl _⟩
  | i + 1 => by
    obtain ⟨h1, h2⟩ := bst_le (k := k) hC i
    rw [bst]
    split
    · exact ⟨hC i, by simp⟩
    · exact ⟨h1, by omega⟩
/-! how many ways there are with five houses -/
def jl (L : List Nat) (a b : Nat) : List Nat := L.map (fun v => if v = max (L.getD a 0) (L.getD b 0) then min (L.getD a 0) (L.getD b 0) else v)
def tab (f : Nat → Nat → Nat) (H : Nat) : Nat → List (List Nat × Nat × Nat)
  | 0 => [(List.range H, 0, 0)]
  | k + 1 => tab f H k ++ (tab f H k).map (fun q => if q.1.getD (f k 1) 0 = q.1.getD (f k 2) 0 then (q.1, q.2.1 + 1, q.2.2) else (jl q.1 (f k 1) (f k 2), q.2.1, q.2.2 + 1))
theorem getD_map {g : Nat → Nat} {H a : Nat} (h : a < H) : ((List.range H).map g).getD a 0 = g a := by
  rw [List.getD_eq_getElem?_getD, List.getElem?_map, List.getElem?_range h]
  rfl
theorem tab_is {f : Nat → Nat → Nat} {H : Nat} : ∀ k, (∀ l, l < k → f l 1 < H ∧ f l 2 < H) → tab f H k = (List.range (2 ^ k)).map (fun s => ((List.range H).map (lb f s k), rg f s k, jn f s k))
  | 0, _ => by
    have e : (fun h => lb f 0 0 h) = fun h => h := rfl
    simp only [tab, Nat.pow_zero, List.range_one, List.map_cons, List.map_nil, rg, jn]
    rw [show lb f 0 0 = fun h => h from rfl, List.map_id']
  | k + 1, h => by
    have i := tab_is (f := f) (H := H) k (fun l hl => h l (by omega))
    obtain ⟨c1, c2⟩ := h k (by omega)
    rw [tab, i, Nat.pow_succ, Nat.mul_two, List.range_add, List.map_append, List.map_map, List.map_map]
    congr 1
    · apply List.map_congr_left
      intro s hs
      have hs2 : s < 2 ^ k := List.mem_range.mp hs
      have hb : s.testBit k = false := tb_hi hs2 (Nat.le_refl k)
      have e1 : lb f s (k + 1) = lb f s k := funext fun h => by simp [lb, hb]
      have e2 : jn f s (k + 1) = jn f s k := by simp [jn, hb]
      have e3 : rg f s (k + 1) = rg f s k := by simp [rg, hb]
      rw [e1, e2, e3]
    · apply List.map_congr_left
      intro s hs
      have hs2 : s < 2 ^ k := List.mem_range.mp hs
      have hb : (2 ^ k + s).testBit k = true := by rw [tb_add hs2]; simp
      obtain ⟨h1, h2, h3⟩ := low_same (f := f) (s := 2 ^ k + s) (t := s) k (fun i hi => by rw [tb_add hs2, if_pos hi])
      have l1 : lb f (2 ^ k + s) (k + 1) = fun h => if lb f s k h = max (lb f s k (f k 1)) (lb f s k (f k 2)) then min (lb f s k (f k 1)) (lb f s k (f k 2)) else lb f s k h := funext fun h => by simp [lb, hb, h1]
      have l2 : jn f (2 ^ k + s) (k + 1) = jn f s k + (if lb f s k (f k 1) ≠ lb f s k (f k 2) then 1 else 0) := by simp [jn, hb, h1, h2]
      have l3 : rg f (2 ^ k + s) (k + 1) = rg f s k + (if lb f s k (f k 1) = lb f s k (f k 2) then 1 else 0) := by simp [rg, hb, h1, h3]
      simp only [Function.comp]
      rw [l1, l2, l3, getD_map c1, getD_map c2]
      by_cases e : lb f s k (f k 1) = lb f s k (f k 2)
      · rw [if_pos e, if_pos e, if_neg (c := lb f s k (f k 1) ≠ lb f s k (f k 2)) (fun z => z e), Nat.add_zero]
        congr 1
        apply List.map_congr_left
        intro x _
        rw [e, Nat.max_self, Nat.min_self]
        split
        · rename_i z; exact z
        · rfl
      · rw [if_neg e, if_pos e, if_neg e, Nat.add_zero]
        congr 1
        unfold jl
        rw [List.map_map, getD_map c1, getD_map c2]
        rfl
theorem five_trees : ((tab (Vp 5).2.2 5 10).countP (fun q => decide (q.2.1 = 0) && decide (5 - q.2.2 = 1))) ≤ 130 := by decide +kernel
theorem trees_le {h : Nat} (h2 : 2 ≤ h) (h5 : h ≤ 5) : ((List.range (2 ^ (Vp h).2.1)).filter (fun s => frs (Vp h) s 1)).length ≤ 130 := by
  by_cases e : h = 5
  · subst e
    have q := five_trees
    rw [tab_is (f := (Vp 5).2.2) (H := 5) 10 (Vp_ok (h := 5) h2 h5).ends, List.countP_map] at q
    rw [← List.countP_eq_length_filter]
    refine Nat.le_trans (Nat.le_of_eq ?_) q
    congr 1
    funext s
    unfold frs prt
    simp only [Function.comp]
    rw [Bool.eq_iff_iff]
    simp only [Bool.and_eq_true, decide_eq_true_eq]
    exact Iff.rfl
  · refine Nat.le_trans (List.length_filter_le _ _) ?_
    rw [List.length_range]
    have : h = 2 ∨ h = 3 ∨ h = 4 := by omega
    rcases this with rfl | rfl | rfl <;> decide
def Tp (h s : Nat) : Bool := frs (Vp h) s 1
def Cp (h s : Nat) : Nat := Zr (Tp h) (Vp h).2.1 s
def PMd (h k : Nat) : Nat := (bst (Cp h) k (2 ^ (Vp h).2.1)).1
def PSd (h k : Nat) : Nat := (bst (Cp h) k (2 ^ (Vp h).2.1)).2
theorem wo_sub : ∀ s, s < 1024 → ∀ p, p < 10 → s.testBit p = true → wo s (2 ^ p) + 2 ^ p = s := by decide +kernel
