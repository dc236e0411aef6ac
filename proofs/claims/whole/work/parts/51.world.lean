/-! ===== a village in numbers: houses, lanes, and of each lane its kind 0, from 1, to 2, w 3, c 4, d 5, rule 6 ===== -/
abbrev Vd : Type := Nat × Nat × (Nat → Nat → Nat)
def okL (H : Nat) (g : Nat → Nat) : Prop := g 0 ≤ 5 ∧ g 1 < H ∧ g 2 < H ∧ g 1 ≠ g 2 ∧ 1 ≤ g 3 ∧ g 3 ≤ 4 ∧ g 4 ≤ 99 ∧ g 5 ≤ 99 ∧ g 6 ≤ 2
def okV (V : Vd) : Prop := 2 ≤ V.1 ∧ V.1 ≤ 7 ∧ V.2.1 ≤ 10 ∧ ∀ l, l < V.2.1 → okL V.1 (V.2.2 l)
def wt (g : Nat → Nat) : Nat := if g 0 = 1 then 2 * g 3 else if g 0 = 5 then 2 * g 3 + 1 else g 3
def ct (g : Nat → Nat) : Nat := if g 0 = 2 then g 4 + 10 else if g 0 = 4 then 2 * (g 4 + 10) else if g 0 = 5 then g 4 / 2 else g 4
def dr (g : Nat → Nat) : Nat := if g 0 = 4 then (if g 5 + 20 < 99 then g 5 + 20 else 99) else g 5
/-- the lanes of a rule, as bits -/
def rB (f : Nat → Nat → Nat) (x : Nat) : Nat → Nat
  | 0 => 0
  | k + 1 => rB f x k + (if f k 6 = x then 2 ^ k else 0)
/-- in which part a house is by the lanes of a set (the least house of it), after k lanes; the joins that join, the rings -/
def lb (f : Nat → Nat → Nat) (s : Nat) : Nat → Nat → Nat
  | 0, h => h
  | k + 1, h => if s.testBit k = true then (if lb f s k h = max (lb f s k (f k 1)) (lb f s k (f k 2)) then min (lb f s k (f k 1)) (lb f s k (f k 2)) else lb f s k h) else lb f s k h
def jn (f : Nat → Nat → Nat) (s : Nat) : Nat → Nat
  | 0 => 0
  | k + 1 => jn f s k + (if s.testBit k = true ∧ lb f s k (f k 1) ≠ lb f s k (f k 2) then 1 else 0)
def rg (f : Nat → Nat → Nat) (s : Nat) : Nat → Nat
  | 0 => 0
  | k + 1 => rg f s k + (if s.testBit k = true ∧ lb f s k (f k 1) = lb f s k (f k 2) then 1 else 0)
def enc (l : Nat → Nat) : Nat → Nat
  | 0 => 0
  | k + 1 => enc l k + l k * 8 ^ k
def stt (V : Vd) (s : Nat) : Nat := enc (lb V.2.2 s V.2.1) 7 + (if rg V.2.2 s V.2.1 = 0 then 0 else 1) * 8 ^ 7 + (V.1 - jn V.2.2 s V.2.1) * 2 ^ 22
def prt (V : Vd) (s : Nat) : Nat := V.1 - jn V.2.2 s V.2.1
def frs (V : Vd) (s p : Nat) : Bool := decide (rg V.2.2 s V.2.1 = 0 ∧ prt V s = p)
def mus (V : Vd) : Nat := rB V.2.2 1 V.2.1
def bar (V : Vd) : Nat := rB V.2.2 2 V.2.1
def alw (V : Vd) (s : Nat) : Bool := decide (s &&& mus V = mus V ∧ s &&& bar V = 0)
def isW (V : Vd) (s : Nat) : Bool := alw V s && frs V s 1
def ways (V : Vd) : List Nat := (List.range (2 ^ V.2.1)).filter (isW V)
def wth (f : Nat → Nat → Nat) (s : Nat) : Nat → Nat
  | 0 => 1
  | k + 1 => wth f s k * (if s.testBit k = true then wt (f k) else 1)
def cst (f : Nat → Nat → Nat) (s : Nat) : Nat → Nat
  | 0 => 0
  | k + 1 => cst f s k + (if s.testBit k = true then ct (f k) else 0)
def wrt (V : Vd) (s : Nat) : Nat := wth V.2.2 s V.2.1
def cos (V : Vd) (s : Nat) : Nat := cst V.2.2 s V.2.1
def key (V : Vd) (s : Nat) : Nat := cos V s * 1024 + s
/-! ===== what holds between the two memories ===== -/
def IX (m : Mem) (v : Nat) (V : Vd) : Prop := m.1 v 0 = nI V.1 ∧ m.1 v 1 = nI V.2.1 ∧ m.1 v 2 = nI (mus V) ∧ m.1 v 3 = nI (bar V) ∧ ∀ l, l < V.2.1 → m.1 (v + 1) l = nI (V.2.2 l 0) ∧ m.1 (v + 2) l = nI (V.2.2 l 1) ∧ m.1 (v + 3) l = nI (V.2.2 l 2) ∧ m.1 (v + 4) l = nI (wt (V.2.2 l)) ∧ m.1 (v + 5) l = nI (ct (V.2.2 l)) ∧ m.1 (v + 6) l = nI (dr (V.2.2 l))
def IM (m : Mem) (V : Vd) : Prop := m.1 43 8 = nI V.1 ∧ m.1 43 9 = nI V.2.1 ∧ ∀ l k, l < V.2.1 → k < 7 → m.1 (45 + k) l = nI (V.2.2 l k)
def IK (m : Mem) (o : Nat) (V : Vd) : Prop := m.1 56 (o + 77) = nI V.1 ∧ m.1 56 (o + 78) = nI V.2.1 ∧ ∀ l k, l < V.2.1 → k < 7 → m.1 56 (o + 11 * k + l) = nI (V.2.2 l k)
def IJ (m : Mem) (V : Vd) : Prop := ∀ s, s < 2 ^ V.2.1 → m.1 25 s = nI (stt V s)
def IW (m : Mem) (V : Vd) : Prop := m.1 26 2 = nI (ways V).length ∧ ∀ i s, (ways V)[i]? = some s → m.1 27 i = nI s ∧ m.1 28 i = nI (wrt V s)
def ISo (m : Mem) (V : Vd) : Prop := m.1 26 6 = 0 ∨ (m.1 26 6 = 1 ∧ ∃ ks : List Nat, ks.Perm ((ways V).map (key V)) ∧ ks.Pairwise (· ≤ ·) ∧ ∀ i k, ks[i]? = some k → m.1 29 i = nI k)
def ILe (m : Mem) : Prop := ∃ t, t ≤ 72 ∧ m.1 22 1 = nI t ∧ m.1 43 14 = nI t ∧ ∀ i, i < t → ∃ c, c ≤ 255 ∧ m.1 23 i = nI c ∧ m.1 52 i = nI c
def IIm (m : Mem) : Prop := (m.1 0 3 = 0 ∧ m.1 43 18 = 0) ∨ (m.1 0 3 = 1 ∧ m.1 43 18 = 1 ∧ ∃ V, okV V ∧ IX m 15 V ∧ IK m 0 V)
def IRo (m : Mem) : Prop := ∃ t, t ≤ 10 ∧ m.1 35 3 = nI t ∧ m.1 43 34 = nI t ∧ ∀ i, i < t → ∃ c, c ≤ 9 ∧ m.1 36 i = nI c ∧ m.1 63 i = nI c
def IRe (m : Mem) : Prop := ∀ k, 1 ≤ k → k ≤ 6 → m.1 42 k = m.1 44 k
/-- the best plans, as the reference finds them -/
def IPq (PM PS : Nat → Nat → Nat) (m : Mem) : Prop := m.1 31 0 = 0 ∨ ∃ h, 2 ≤ h ∧ h ≤ 5 ∧ m.1 31 0 = nI h ∧ ∀ k, k ≤ 10 → m.1 33 k = nI (PM h k) ∧ m.1 34 k = nI (PS h k)
/-! ===== the cells that are read by it ===== -/
def rdC (j : Nat) : Bool := decide (j ≤ 7) || (decide (15 ≤ j) && decide (j ≤ 31)) || (decide (33 ≤ j) && decide (j ≤ 36)) || decide (j = 42) || (decide (44 ≤ j) && decide (j ≤ 52)) || decide (j = 63)
def rdF (k : Nat) : Bool := decide (k = 8) || decide (k = 9) || decide (k = 14) || decide (k = 18) || decide (k = 34)
def Sm (m m' : Mem) : Prop := (∀ j, rdC j = true → m'.1 j = m.1 j) ∧ (∀ k, rdF k = true → m'.1 43 k = m.1 43 k) ∧ ∀ k, k < 100 → m'.1 56 k = m.1 56 k
theorem Sm.rf (m : Mem) : Sm m m := ⟨fun _ _ => rfl, fun _ _ => rfl, fun _ _ => rfl⟩
theorem Sm.tr {a b c : Mem} (h : Sm a b) (g : Sm b c) : Sm a c := ⟨fun j hj => (g.1 j hj).trans (h.1 j hj), fun k hk => (g.2.1 k hk).trans (h.2.1 k hk), fun k hk => (g.2.2 k hk).trans (h.2.2 k hk)⟩
theorem Sm.mu {m : Mem} {j k : Nat} {v : Int32} (h : rdC j = false) (h1 : j = 43 → rdF k = false) (h2 : j = 56 → 100 ≤ k) : Sm m (mu m j k v) := by
  refine ⟨fun i hi => mu_row m v (fun e => ?_), fun q hq => mu_ne m v ?_, fun q hq => mu_ne m v ?_⟩
  · subst e; rw [h] at hi; cases hi
  · by_cases e : 43 = j
    · refine Or.inr (fun e2 => ?_)
      subst e2
      rw [h1 e.symm] at hq; cases hq
    · exact Or.inl e
  · by_cases e : 56 = j
    · have := h2 e.symm
      exact Or.inr (by omega)
    · exact Or.inl e
theorem Sm.muL {m : Mem} {j k : Nat} {v : Int64} : Sm m (muL m j k v) := ⟨fun _ _ => rfl, fun _ _ => rfl, fun _ _ => rfl⟩
theorem IX.sm {m m' : Mem} {v : Nat} {V : Vd} (h : IX m v V) (hs : ∀ k, k ≤ 6 → m'.1 (v + k) = m.1 (v + k)) : IX m' v V := by
  unfold IX at h ⊢
  rw [show m'.1 v = m.1 v from hs 0 (by omega), hs 1 (by omega), hs 2 (by omega), hs 3 (by omega), hs 4 (by omega), hs 5 (by omega), hs 6 (by omega)]
  exact h
theorem IM.sm {m m' : Mem} {V : Vd} (h : IM m V) (h8 : m'.1 43 8 = m.1 43 8) (h9 : m'.1 43 9 = m.1 43 9) (hs : ∀ k, k < 7 → m'.1 (45 + k) = m.1 (45 + k)) : IM m' V := by
  unfold IM at h ⊢
  rw [h8, h9]
  exact ⟨h.1, h.2.1, fun l k hl hk => by rw [hs k hk]; exact h.2.2 l k hl hk⟩
theorem IK.sm {m m' : Mem} {o : Nat} {V : Vd} (h : IK m o V) (hn : V.2.1 ≤ 10) (hs : ∀ k, k < 79 → m'.1 56 (o + k) = m.1 56 (o + k)) : IK m' o V := by
  unfold IK at h ⊢
  rw [hs 77 (by omega), hs 78 (by omega)]
  refine ⟨h.1, h.2.1, fun l k hl hk => ?_⟩
  rw [Nat.add_assoc, hs (11 * k + l) (by omega), ← Nat.add_assoc]
  exact h.2.2 l k hl hk
/-- all but the villages -/
def IAll (PM PS : Nat → Nat → Nat) (m : Mem) (V : Vd) : Prop := okV V ∧ IX m 1 V ∧ IM m V ∧ IJ m V ∧ IW m V ∧ ISo m V ∧ ILe m ∧ IIm m ∧ IRo m ∧ IRe m ∧ IPq PM PS m
def Inv (PM PS : Nat → Nat → Nat) (m : Mem) : Prop := ∃ V, IAll PM PS m V
theorem rd_r (a b : Nat) (h : ∀ j, a ≤ j → j ≤ b → rdC j = true) {m m' : Mem} (hs : Sm m m') {j : Nat} (h1 : a ≤ j) (h2 : j ≤ b) : m'.1 j = m.1 j := hs.1 j (h j h1 h2)
theorem ILe.sm {m m' : Mem} (h : ILe m) (h1 : m'.1 22 1 = m.1 22 1) (h2 : m'.1 43 14 = m.1 43 14) (h3 : m'.1 23 = m.1 23) (h4 : m'.1 52 = m.1 52) : ILe m' := by
  unfold ILe at h ⊢; rw [h1, h2, h3, h4]; exact h
theorem IIm.sm {m m' : Mem} (h : IIm m) (h1 : m'.1 0 3 = m.1 0 3) (h2 : m'.1 43 18 = m.1 43 18) (h3 : ∀ k, k ≤ 6 → m'.1 (15 + k) = m.1 (15 + k)) (h4 : ∀ k, k < 79 → m'.1 56 k = m.1 56 k) : IIm m' := by
  unfold IIm at h ⊢
  rw [h1, h2]
  rcases h with h | ⟨a, b, V, hV, hx, hk⟩
  · exact Or.inl h
  · exact Or.inr ⟨a, b, V, hV, hx.sm h3, hk.sm hV.2.2.1 (fun k hk => by rw [Nat.zero_add]; exact h4 k hk)⟩
theorem IRo.sm {m m' : Mem} (h : IRo m) (h1 : m'.1 35 3 = m.1 35 3) (h2 : m'.1 43 34 = m.1 43 34) (h3 : m'.1 36 = m.1 36) (h4 : m'.1 63 = m.1 63) : IRo m' := by
  unfold IRo at h ⊢; rw [h1, h2, h3, h4]; exact h
theorem IRe.sm {m m' : Mem} (h : IRe m) (h1 : m'.1 42 = m.1 42) (h2 : m'.1 44 = m.1 44) : IRe m' := by
  unfold IRe at h ⊢; rw [h1, h2]; exact h
theorem IPq.sm {PM PS : Nat → Nat → Nat} {m m' : Mem} (h : IPq PM PS m) (h1 : m'.1 31 0 = m.1 31 0) (h2 : m'.1 33 = m.1 33) (h3 : m'.1 34 = m.1 34) : IPq PM PS m' := by
  unfold IPq at h ⊢; rw [h1, h2, h3]; exact h
theorem IW.sm {m m' : Mem} {V : Vd} (h : IW m V) (h1 : m'.1 26 2 = m.1 26 2) (h2 : m'.1 27 = m.1 27) (h3 : m'.1 28 = m.1 28) : IW m' V := by
  unfold IW at h ⊢; rw [h1, h2, h3]; exact h
theorem ISo.sm {m m' : Mem} {V : Vd} (h : ISo m V) (h1 : m'.1 26 6 = m.1 26 6) (h2 : m'.1 29 = m.1 29) : ISo m' V := by
  unfold ISo at h ⊢; rw [h1, h2]; exact h
theorem IAll.sm {PM PS : Nat → Nat → Nat} {m m' : Mem} {V : Vd} (h : IAll PM PS m V) (hs : Sm m m') : IAll PM PS m' V := by
  obtain ⟨a1, a2, a3, a4, a5, a6, a7, a8, a9, a10, a11⟩ := h
  have r : ∀ j, rdC j = true → m'.1 j = m.1 j := hs.1
  have f : ∀ k, rdF k = true → m'.1 43 k = m.1 43 k := hs.2.1
  have s7 : ∀ k, k < 7 → rdC (45 + k) = true := by decide
  have s6 : ∀ k, k ≤ 6 → rdC (1 + k) = true := by
    intro k hk
    have : k = 0 ∨ k = 1 ∨ k = 2 ∨ k = 3 ∨ k = 4 ∨ k = 5 ∨ k = 6 := by omega
    rcases this with rfl | rfl | rfl | rfl | rfl | rfl | rfl <;> rfl
  have s15 : ∀ k, k ≤ 6 → rdC (15 + k) = true := by
    intro k hk
    have : k = 0 ∨ k = 1 ∨ k = 2 ∨ k = 3 ∨ k = 4 ∨ k = 5 ∨ k = 6 := by omega
    rcases this with rfl | rfl | rfl | rfl | rfl | rfl | rfl <;> rfl
  refine ⟨a1, a2.sm (fun k hk => r _ (s6 k hk)), a3.sm (f 8 rfl) (f 9 rfl) (fun k hk => r _ (s7 k hk)), ?_, a5.sm (by rw [r 26 rfl]) (r 27 rfl) (r 28 rfl), a6.sm (by rw [r 26 rfl]) (r 29 rfl), a7.sm (by rw [r 22 rfl]) (f 14 rfl) (r 23 rfl) (r 52 rfl), a8.sm (by rw [r 0 rfl]) (f 18 rfl) (fun k hk => r _ (s15 k hk)) (fun k hk => hs.2.2 k (by omega)), a9.sm (by rw [r 35 rfl]) (f 34 rfl) (r 36 rfl) (r 63 rfl), a10.sm (r 42 rfl) (r 44 rfl), a11.sm (by rw [r 31 rfl]) (r 33 rfl) (r 34 rfl)⟩
  unfold IJ at a4 ⊢
  rw [r 25 rfl]
  exact a4
/-! ===== a refusal, on both sides ===== -/
theorem ref_x {m : Mem} {k : Nat} (h1 : 1 ≤ k) (h2 : k ≤ 6) : gX8_refuse m (-nI k) = some (-nI k, mu m 42 k (m.1 42 k + 1)) := by
  have e : -(-nI k) = nI k := Int32.neg_neg
  simp only [gX8_refuse, lete]
  rw [e, show (1 : Int32) = nI 1 from rfl, show (7 : Int32) = nI 7 from rfl]
  rw [if_neg (by rw [lt_nI (by omega) (by omega)]; omega), if_neg (by rw [le_nI (by omega) (by omega)]; omega), chk_pos (inb_nI (by omega) (by omega)), chk_pos (inb_nI (by omega) (by omega)), nI_clamp (by omega)]
theorem ref_m {m : Mem} {k : Nat} (h1 : 1 ≤ k) (h2 : k ≤ 6) : gX9_no m (-nI k) = some (-nI k, mu m 44 k (m.1 44 k + 1)) := by
  have e : -(-nI k) = nI k := Int32.neg_neg
  simp only [gX9_no, lete]
  rw [e, chk_pos (inb_nI (by omega) (by omega)), chk_pos (inb_nI (by omega) (by omega)), nI_clamp (by omega)]
theorem ref_xl {m : Mem} {k : Nat} (h1 : 1 ≤ k) (h2 : k ≤ 6) : gX8_refuseLong m (-nI k) = some (4000000000000000000 - (-nI k).toInt64, mu m 42 k (m.1 42 k + 1)) := by
  unfold gX8_refuseLong
  rw [ref_x h1 h2]
  rfl
theorem ref_ml {m : Mem} {k : Nat} (h1 : 1 ≤ k) (h2 : k ≤ 6) : gX9_lowest m (-nI k) = some (4000000000000000000 - (-nI k).toInt64, mu m 44 k (m.1 44 k + 1)) := by
  have e : -(-nI k) = nI k := Int32.neg_neg
  simp only [gX9_lowest, lete]
  rw [e, chk_pos (inb_nI (by omega) (by omega)), chk_pos (inb_nI (by omega) (by omega)), nI_clamp (by omega)]
theorem IAll.refused {PM PS : Nat → Nat → Nat} {m m1 m2 : Mem} {V : Vd} {k : Nat} (h : IAll PM PS m V) (h1 : m1 = mu m 42 k (m.1 42 k + 1)) (hs : Sm m1 m2) : IAll PM PS (mu m2 44 k (m2.1 44 k + 1)) V := by
  have h3 : IAll PM PS (mu m1 44 k (m1.1 44 k + 1)) V := by
    subst h1
    obtain ⟨a1, a2, a3, a4, a5, a6, a7, a8, a9, a10, a11⟩ := h
    have r : ∀ j, j ≠ 42 → j ≠ 44 → (mu (mu m 42 k (m.1 42 k + 1)) 44 k ((mu m 42 k (m.1 42 k + 1)).1 44 k + 1)).1 j = m.1 j := fun j h1 h2 => by rw [mu_row _ _ h2, mu_row _ _ h1]
    refine ⟨a1, a2.sm (fun k hk => r _ (by omega) (by omega)), a3.sm (by rw [r 43 (by decide) (by decide)]) (by rw [r 43 (by decide) (by decide)]) (fun k hk => r _ (by omega) (by omega)), ?_, a5.sm (by rw [r 26 (by decide) (by decide)]) (r 27 (by decide) (by decide)) (r 28 (by decide) (by decide)), a6.sm (by rw [r 26 (by decide) (by decide)]) (r 29 (by decide) (by decide)), a7.sm (by rw [r 22 (by decide) (by decide)]) (by rw [r 43 (by decide) (by decide)]) (r 23 (by decide) (by decide)) (r 52 (by decide) (by decide)), a8.sm (by rw [r 0 (by decide) (by decide)]) (by rw [r 43 (by decide) (by decide)]) (fun k hk => r _ (by omega) (by omega)) (fun k hk => by rw [r 56 (by decide) (by decide)]), a9.sm (by rw [r 35 (by decide) (by decide)]) (by rw [r 43 (by decide) (by decide)]) (r 36 (by decide) (by decide)) (r 63 (by decide) (by decide)), ?_, a11.sm (by rw [r 31 (by decide) (by decide)]) (r 33 (by decide) (by decide)) (r 34 (by decide) (by decide))⟩
    · unfold IJ at a4 ⊢
      rw [r 25 (by decide) (by decide)]
      exact a4
    · intro q hq1 hq2
      rw [mu_g, mu_g, mu_g, mu_g, mu_g]
      have := a10 q hq1 hq2
      by_cases hq : q = k
      · subst hq; simp [this]
      · simp [hq, this]
  refine h3.sm ⟨fun j hj => ?_, fun q hq => ?_, fun q hq => ?_⟩
  · by_cases e : j = 44
    · subst e
      funext q
      rw [mu_g, mu_g, hs.1 44 hj]
    · rw [mu_row _ _ e, mu_row _ _ e]; exact hs.1 j hj
  · rw [mu_ne _ _ (Or.inl (by decide)), mu_ne _ _ (Or.inl (by decide))]; exact hs.2.1 q hq
  · rw [mu_ne _ _ (Or.inl (by decide)), mu_ne _ _ (Or.inl (by decide))]; exact hs.2.2 q hq
