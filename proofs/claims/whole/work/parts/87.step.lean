section
variable {F : Nat} {m : Mem} {V : Vd}
/-- the pool holds these ways -/
def PL (V : Vd) (L : List Nat) (m : Mem) : Prop := ∀ i s, L[i]? = some s → m.1 40 i = nI s ∧ m.1 41 i = nI (wrt V s)
/-- only the pool and the class's seed differ -/
def EQ (m m' : Mem) : Prop := (∀ j, j ≠ 37 → j ≠ 40 → j ≠ 41 → m'.1 j = m.1 j) ∧ m'.2 = m.2
theorem EQ.rf (m : Mem) : EQ m m := ⟨fun _ _ _ _ => rfl, rfl⟩
theorem EQ.tr {a b c : Mem} (h : EQ a b) (g : EQ b c) : EQ a c := ⟨fun j h1 h2 h3 => (g.1 j h1 h2 h3).trans (h.1 j h1 h2 h3), g.2.trans h.2⟩
theorem EQ.mu {m : Mem} {v : Int32} : EQ m (mu m 37 3 v) := ⟨fun _ h _ _ => mu_row _ _ h, rfl⟩
def q2 (m : Mem) (k : Nat) (v w : Int32) : Mem := mu (mu m 40 k v) 41 k w
theorem q2_eq {k : Nat} {v w : Int32} : EQ m (q2 m k v w) := ⟨fun j _ h1 h2 => by unfold q2; rw [mu_row _ _ h2, mu_row _ _ h1], rfl⟩
theorem q2_37 {k : Nat} {v w : Int32} : (q2 m k v w).1 37 = m.1 37 := by unfold q2; rw [mu_row _ _ (by decide), mu_row _ _ (by decide)]
theorem q2_40 {k q : Nat} {v w : Int32} : (q2 m k v w).1 40 q = if q = k then v else m.1 40 q := by unfold q2; rw [mu_ne _ _ (Or.inl (by decide)), mu_g, if_pos rfl]
theorem q2_41 {k q : Nat} {v w : Int32} : (q2 m k v w).1 41 q = if q = k then w else m.1 41 q := by
  unfold q2
  rw [mu_g, if_pos rfl]
  by_cases e : q = k
  · rw [if_pos e, if_pos e]
  · rw [if_neg e, if_neg e, mu_ne _ _ (Or.inl (by decide))]
theorem x_copyTo (hF : 2000 ≤ F) (hV : okV V) (hw : IW m V) : ∃ m', gX7_copyTo F m = some (nI (ways V).length, m') ∧ EQ m m' ∧ m'.1 37 = m.1 37 ∧ PL V (ways V) m' := by
  have hl := ways_le hV
  obtain ⟨e, k1, k2, k3, k4⟩ := iter_inv (f := bX7_copyTo_2) (fun i s => s.1 = nI i ∧ EQ m s.2 ∧ s.2.1 37 = m.1 37 ∧ ∀ q t, q < i → (ways V)[q]? = some t → s.2.1 40 q = nI t ∧ s.2.1 41 q = nI (wrt V t)) (ways V).length (fun e => EQ m e.2 ∧ e.2.1 37 = m.1 37 ∧ PL V (ways V) e.2) (by
      rintro i ⟨y, m1⟩ hi ⟨rfl, he, h37, hp⟩
      dsimp only at he h37 hp
      refine Or.inl ?_
      obtain ⟨s, hs⟩ := ways_at hi
      have e2 : m1.1 26 2 = nI (ways V).length := by rw [he.1 26 (by decide) (by decide) (by decide)]; exact hw.1
      have e27 : m1.1 27 i = nI s := by rw [he.1 27 (by decide) (by decide) (by decide)]; exact (hw.2 i s hs).1
      have e28 : (mu m1 40 i (nI s)).1 28 i = nI (wrt V s) := by rw [mu_ne _ _ (Or.inl (by decide)), he.1 28 (by decide) (by decide) (by decide)]; exact (hw.2 i s hs).2
      have ib : inb (nI i) 252 := inb_nI (by omega) (by omega)
      rw [bX7_copyTo_2, e2, ite_leN (by omega) (by omega), if_neg (by omega), show (252 : Int32) = nI 252 from rfl, ite_leN (by omega) (by omega), if_neg (by omega), ite_leN (by omega) (by omega), if_neg (by omega), chk_pos ib, chk_pos ib, lete_eq, nI_clamp (by omega), e27, chk_pos ib, chk_pos ib, lete_eq, e28, nI_1]
      refine ⟨_, rfl, rfl, he.tr q2_eq, q2_37.trans h37, fun q t hq ht => ?_⟩
      show (q2 m1 i (nI s) (nI (wrt V s))).1 40 q = nI t ∧ (q2 m1 i (nI s) (nI (wrt V s))).1 41 q = nI (wrt V t)
      rw [q2_40, q2_41]
      by_cases e : q = i
      · subst e
        rw [hs] at ht
        have : s = t := by simpa using ht
        subst this
        rw [if_pos rfl, if_pos rfl]; exact ⟨rfl, rfl⟩
      · rw [if_neg e, if_neg e]; exact hp q t (by omega) ht) (by
      rintro ⟨y, m1⟩ ⟨rfl, he, h37, hp⟩
      dsimp only at he h37 hp
      have e2 : m1.1 26 2 = nI (ways V).length := by rw [he.1 26 (by decide) (by decide) (by decide)]; exact hw.1
      refine ⟨(nI (ways V).length, m1), ?_, he, h37, fun q t ht => hp q t (List.getElem?_eq_some_iff.mp ht).1 ht⟩
      rw [bX7_copyTo_2, e2, ite_leN (by omega) (by omega), if_pos (Nat.le_refl _)]) F 0 (0, m) (Nat.zero_le _) (by omega) ⟨rfl, EQ.rf m, rfl, fun q t hq _ => absurd hq (by omega)⟩
  refine ⟨e.2, ?_, k2, k3, k4⟩
  rw [gX7_copyTo, k1, Option.bind_some, k2.1 26 (by decide) (by decide) (by decide), hw.1]
theorem x_poolWorth (hF : 2000 ≤ F) {L : List Nat} {a : Nat} (hL : L.length ≤ 252) (h1024 : ∀ t ∈ L, t < 1024) (ha : a < 2 ^ 31) (hp : PL V L m) : gX0_poolWorthWith F m (nI a) (nI L.length) = some (nI (smw (fun s => decide (s &&& a = a)) (wrt V) L)) := by
  have q := iter_at (F := F) (f := bX0_poolWorthWith_5 m (nI a) (nI L.length)) (fun i => (nI (smw (fun s => decide (s &&& a = a)) (wrt V) (L.take i)), nI i)) L.length (nI (smw (fun s => decide (s &&& a = a)) (wrt V) L), nI L.length) (fun i hi => ?_) ?_ (by omega)
  · have e0 : iter F (bX0_poolWorthWith_5 m (nI a) (nI L.length)) (0, 0) = _ := q
    rw [gX0_poolWorthWith, e0]; rfl
  · obtain ⟨t, et⟩ : ∃ t, L[i]? = some t := ⟨_, List.getElem?_eq_getElem hi⟩
    have hb := h1024 t (List.mem_of_getElem? et)
    have hle : t &&& a ≤ t := Nat.and_le_left
    obtain ⟨e1, e2⟩ := hp i t et
    have ib : inb (nI i) 252 := inb_nI (by omega) (by omega)
    rw [bX0_poolWorthWith_5, ite_leN (by omega) (by omega), if_neg (by omega), show (252 : Int32) = nI 252 from rfl, ite_leN (by omega) (by omega), if_neg (by omega), chk_pos ib, chk_pos ib, nI_clamp (by omega), e1, e2, andI, ite_eqN (by omega) ha, lete_eq, nI_add, nI_1, smw_take et]
    by_cases c : t &&& a = a
    · rw [if_pos c]; simp [c]
    · rw [if_neg c]; simp [c]
  · rw [bX0_poolWorthWith_5, ite_leN (by omega) (by omega), if_pos (Nat.le_refl _), List.take_length]
theorem fil_take {L : List Nat} {i s : Nat} {Q : Nat → Bool} (h : L[i]? = some s) : (L.take (i + 1)).filter Q = (L.take i).filter Q ++ (if Q s = true then [s] else []) := by
  rw [take1 h, List.filter_append]
  congr 1
  by_cases c : Q s = true <;> simp [c]
theorem app_at {K : List Nat} {s q t : Nat} (h : (K ++ [s])[q]? = some t) : (q < K.length ∧ K[q]? = some t) ∨ (q = K.length ∧ s = t) := by
  rcases Nat.lt_or_ge q K.length with hz | hz
  · rw [List.getElem?_append_left hz] at h
    exact Or.inl ⟨hz, h⟩
  · rw [List.getElem?_append_right hz] at h
    have hz2 : q - K.length = 0 := by
      have := (List.getElem?_eq_some_iff.mp h).1
      simp at this; omega
    rw [hz2] at h
    exact Or.inr ⟨by omega, by simpa using h⟩
set_option maxHeartbeats 2000000 in
theorem x_narrow (hF : 2000 ≤ F) {L : List Nat} {l : Nat} (hl : l < 31) (hL : L.length ≤ 252) (h1024 : ∀ t ∈ L, t < 1024) (hp : PL V L m) (b : Bool) : ∃ m', gX0_narrow F m (nI (2 ^ l)) (nI L.length) b = some (nI (L.filter (fun s => s.testBit l == b)).length, m') ∧ EQ m m' ∧ m'.1 37 = m.1 37 ∧ PL V (L.filter (fun s => s.testBit l == b)) m' := by
  have h2l : 2 ^ l < 2 ^ 31 := Nat.pow_lt_pow_right (by decide) hl
  obtain ⟨e, k1, k2, k3, k4, k5⟩ := iter_inv (f := bX0_narrow_6 (nI (2 ^ l)) (nI L.length) b) (fun i s => s.1 = nI ((L.take i).filter (fun s => s.testBit l == b)).length ∧ s.2.1 = nI i ∧ EQ m s.2.2 ∧ s.2.2.1 37 = m.1 37 ∧ PL V ((L.take i).filter (fun s => s.testBit l == b)) s.2.2 ∧ ∀ q t, i ≤ q → L[q]? = some t → s.2.2.1 40 q = nI t ∧ s.2.2.1 41 q = nI (wrt V t)) L.length (fun e => e.1 = nI (L.filter (fun s => s.testBit l == b)).length ∧ EQ m e.2.2 ∧ e.2.2.1 37 = m.1 37 ∧ PL V (L.filter (fun s => s.testBit l == b)) e.2.2) (by
      rintro i ⟨y, z, m1⟩ hi ⟨rfl, hz, he, h37, hk, hr⟩
      dsimp only at hz he h37 hk hr
      subst hz
      refine Or.inl ?_
      obtain ⟨t, et⟩ : ∃ t, L[i]? = some t := ⟨_, List.getElem?_eq_getElem hi⟩
      have hb := h1024 t (List.mem_of_getElem? et)
      have hle : t &&& 2 ^ l ≤ t := Nat.and_le_left
      obtain ⟨e1, e2⟩ := hr i t (Nat.le_refl i) et
      have ib : inb (nI i) 252 := inb_nI (by omega) (by omega)
      have hf := fil_take (Q := fun s => s.testBit l == b) et
      have hjl : ((L.take i).filter (fun s => s.testBit l == b)).length ≤ i := Nat.le_trans (List.length_filter_le _ _) (by rw [List.length_take]; omega)
      rw [hf]
      generalize (L.take i).filter (fun s => s.testBit l == b) = K at hk hjl ⊢
      have kb : inb (nI K.length) 252 := inb_nI (by omega) (by omega)
      have e2' : (mu m1 40 K.length (nI t)).1 41 i = nI (wrt V t) := by rw [mu_ne _ _ (Or.inl (by decide))]; exact e2
      have hab : t &&& 2 ^ l = 2 ^ l ↔ t.testBit l = true := by rw [← and_bit]; simp
      have stay : ∃ s', (some (.inl (nI K.length, nI (i + 1), m1)) : Option ((Int32 × Int32 × Mem) ⊕ (Int32 × Int32 × Mem))) = some (.inl s') ∧ s'.1 = nI (K ++ []).length ∧ s'.2.1 = nI (i + 1) ∧ EQ m s'.2.2 ∧ s'.2.2.1 37 = m.1 37 ∧ PL V (K ++ []) s'.2.2 ∧ ∀ q t, i + 1 ≤ q → L[q]? = some t → s'.2.2.1 40 q = nI t ∧ s'.2.2.1 41 q = nI (wrt V t) := by
        rw [List.append_nil]
        exact ⟨_, rfl, rfl, rfl, he, h37, hk, fun q t hq ht => hr q t (by omega) ht⟩
      have move : ∃ s', (some (.inl (nI (K.length + 1), nI (i + 1), q2 m1 K.length (nI t) (nI (wrt V t)))) : Option ((Int32 × Int32 × Mem) ⊕ (Int32 × Int32 × Mem))) = some (.inl s') ∧ s'.1 = nI (K ++ [t]).length ∧ s'.2.1 = nI (i + 1) ∧ EQ m s'.2.2 ∧ s'.2.2.1 37 = m.1 37 ∧ PL V (K ++ [t]) s'.2.2 ∧ ∀ q t, i + 1 ≤ q → L[q]? = some t → s'.2.2.1 40 q = nI t ∧ s'.2.2.1 41 q = nI (wrt V t) := by
        refine ⟨_, rfl, by rw [List.length_append]; rfl, rfl, he.tr q2_eq, q2_37.trans h37, fun q u hu => ?_, fun q u hq hu => ?_⟩
        · dsimp only
          rw [q2_40, q2_41]
          rcases app_at hu with ⟨g1, g2⟩ | ⟨g1, g2⟩
          · rw [if_neg (by omega), if_neg (by omega)]; exact hk q u g2
          · rw [if_pos g1, if_pos g1, g2]; exact ⟨rfl, rfl⟩
        · dsimp only
          rw [q2_40, q2_41, if_neg (by omega), if_neg (by omega)]
          exact hr q u (by omega) hu
      rw [bX0_narrow_6, ite_leN (by omega) (by omega), if_neg (by omega), show (252 : Int32) = nI 252 from rfl, ite_leN (by omega) (by omega), if_neg (by omega), chk_pos ib, nI_clamp (show i < 2 ^ 31 by omega), nI_clamp (show K.length < 2 ^ 31 by omega), e1, andI, ite_eqN (by omega) h2l, nI_1, nI_1]
      by_cases c : t.testBit l = true
      · rw [if_pos (hab.mpr c)]
        cases b with
        | true =>
          rw [if_pos (by decide), chk_pos ib, chk_pos kb, lete_eq, chk_pos ib, chk_pos kb, lete_eq, e2']
          have eb : (t.testBit l == true) = true := by rw [c]; rfl
          rw [if_pos eb]
          exact move
        | false =>
          rw [if_neg (by decide)]
          have eb : ¬ (t.testBit l == false) = true := by rw [c]; decide
          rw [if_neg eb]
          exact stay
      · rw [if_neg (fun z => c (hab.mp z))]
        have c' : t.testBit l = false := by simpa using c
        cases b with
        | true =>
          rw [if_neg (by decide)]
          have eb : ¬ (t.testBit l == true) = true := by rw [c']; decide
          rw [if_neg eb]
          exact stay
        | false =>
          rw [if_pos (by decide), chk_pos ib, chk_pos kb, lete_eq, chk_pos ib, chk_pos kb, lete_eq, e2']
          have eb : (t.testBit l == false) = true := by rw [c']; rfl
          rw [if_pos eb]
          exact move) (by
      rintro ⟨y, z, m1⟩ ⟨rfl, hz, he, h37, hk, hr⟩
      dsimp only at hz he h37 hk hr
      subst hz
      rw [List.take_length] at hk ⊢
      refine ⟨(nI (L.filter (fun s => s.testBit l == b)).length, nI L.length, m1), ?_, rfl, he, h37, hk⟩
      rw [bX0_narrow_6, ite_leN (by omega) (by omega), if_pos (Nat.le_refl _)]) F 0 (0, 0, m) (Nat.zero_le _) (by omega) ⟨rfl, rfl, EQ.rf m, rfl, fun q t h => by simp at h, fun q t _ h => hp q t h⟩
  refine ⟨e.2.2, ?_, k3, k4, k5⟩
  rw [gX0_narrow, k1, Option.bind_some, k2]
end
