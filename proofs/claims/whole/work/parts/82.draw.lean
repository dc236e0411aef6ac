/-! ===== drawing: chance, and the lanes that go on ===== -/
def lcg (z : Int32) : Int32 := z * 1103515245 + 12345
def rA (z : Int32) : Nat := z.toBitVec.toNat % 2 ^ 31 / 65536
theorem rA_lt (z : Int32) : rA z < 32768 := by
  unfold rA
  have := Nat.mod_lt z.toBitVec.toNat (show 0 < 2 ^ 31 by decide)
  omega
theorem rA_is (z : Int32) : (z &&& 2147483647) / 65536 = nI (rA z) := by
  have := Nat.mod_lt z.toBitVec.toNat (show 0 < 2 ^ 31 by decide)
  rw [pk_and z 31 (by decide), show (65536 : Int32) = nI 65536 from rfl, pk_div (by omega) (by omega) (by omega)]
  rfl
section
variable {F : Nat} {m : Mem} {V : Vd}
theorem x_below {k : Nat} (h0 : 0 < k) (hk : k < 2 ^ 31) : gX0_below m (nI k) = some (nI (rA (lcg (m.1 37 3)) % k), mu m 37 3 (lcg (m.1 37 3))) := by
  have hr := rA_lt (lcg (m.1 37 3))
  have hne : ¬ nI k = 0 := fun e => by
    rw [show (0 : Int32) = nI 0 from rfl] at e
    have := (nI_eq hk (by omega)).mp e
    omega
  have hle : ¬ nI k ≤ 0 := by
    rw [show (0 : Int32) = nI 0 from rfl, le_nI hk (by omega)]
    omega
  show lete (mu m 37 3 (lcg (m.1 37 3))) _ = _
  rw [lete_eq, if_neg hle, chk_pos hne, mu_same, rA_is, pk_rem (by omega) h0 hk]
theorem m_drawn {k : Nat} (h0 : 0 < k) (hk : k < 2 ^ 63) : gX9_drawn m (lN k) = some (nI (rA (lcg (m.1 43 32)) % k), mu m 43 32 (lcg (m.1 43 32))) := by
  have hr := rA_lt (lcg (m.1 43 32))
  show lete (mu m 43 32 (lcg (m.1 43 32))) _ = _
  rw [lete_eq, chk_pos (lne hk (by omega)), mu_same, rA_is, nI_l (by omega), pk_lRem (by omega) h0 hk, lN_i]
/-- a lane goes on from a house -/
def gO (V : Vd) (h l : Nat) : Bool := !decide (V.2.2 l 6 = 2) && (decide (V.2.2 l 1 = h) || (decide (V.2.2 l 2 = h) && !decide (V.2.2 l 0 = 3)))
def oth (V : Vd) (h l : Nat) : Nat := if V.2.2 l 1 = h then V.2.2 l 2 else V.2.2 l 1
def onB (V : Vd) (h : Nat) : Nat → Nat
  | 0 => 0
  | k + 1 => onB V h k + (if gO V h k = true then 2 ^ k else 0)
def onW (V : Vd) (h : Nat) : Nat → Nat
  | 0 => 0
  | k + 1 => onW V h k + (if gO V h k = true then wt (V.2.2 k) else 0)
theorem onB_lt (V : Vd) (h : Nat) : ∀ n, onB V h n < 2 ^ n
  | 0 => by simp [onB]
  | n + 1 => by
    have := onB_lt V h n
    simp only [onB, Nat.pow_succ]
    split <;> omega
theorem onB_bit (V : Vd) (h : Nat) : ∀ n l, (onB V h n).testBit l = (decide (l < n) && gO V h l)
  | 0, l => by simp [onB]
  | n + 1, l => by
    have h1 := onB_lt V h n
    have h2 := onB_bit V h n l
    simp only [onB]
    by_cases hx : gO V h n = true
    · rw [if_pos hx, ← or_add h1, Nat.testBit_or, Nat.testBit_two_pow, h2]
      by_cases hl : n = l
      · subst hl; simp [hx]
      · have : (l < n + 1) ↔ (l < n) := by omega
        simp [this, hl]
    · rw [if_neg hx, Nat.add_zero, h2]
      by_cases hl : l = n
      · subst hl; simp [hx]
      · have : (l < n + 1) ↔ (l < n) := by omega
        simp [this]
theorem onW_le (hV : okV V) (h : Nat) : ∀ k, k ≤ V.2.1 → onW V h k ≤ 9 * k
  | 0, _ => Nat.le_refl _
  | k + 1, hk => by
    have i := onW_le hV h k (by omega)
    have := (hV.wt (l := k) (by omega)).2
    rw [onW]
    split <;> omega
theorem onW_mono {h a : Nat} : ∀ d, onW V h a ≤ onW V h (a + d)
  | 0 => Nat.le_refl _
  | d + 1 => by
    have := onW_mono (h := h) (a := a) d
    rw [← Nat.add_assoc, onW]
    omega
theorem onW_zero (hV : okV V) {h : Nat} : onW V h V.2.1 = 0 ↔ onB V h V.2.1 = 0 := by
  have key : ∀ k, k ≤ V.2.1 → (onW V h k = 0 ↔ onB V h k = 0) := by
    intro k
    induction k with
    | zero => intro _; exact Iff.rfl
    | succ k ih =>
      intro hk
      have i := ih (by omega)
      have hw := (hV.wt (l := k) (by omega)).1
      have hp := Nat.pow_pos (n := k) (show 0 < 2 by decide)
      rw [onW, onB]
      by_cases c : gO V h k = true
      · rw [if_pos c, if_pos c]; omega
      · rw [if_neg c, if_neg c]; omega
  exact key V.2.1 (Nat.le_refl _)
theorem x_goesOn (hV : okV V) (hx : IX m 1 V) {h l : Nat} (hh : h < 7) (hl : l < V.2.1) : gX0_goesOn m (nI l) (nI h) = some (gO V h l) := by
  have hn := hV.2.2.1
  have hH := hV.2.1
  obtain ⟨e0, e1, e2, -⟩ := hx.2.2.2.2 l hl
  have b0 := (hV.2.2.2 l hl).1
  have b1 := (hV.2.2.2 l hl).2.1
  have b2 := (hV.2.2.2 l hl).2.2.1
  have hB := Nat.lt_of_lt_of_le (bar_lt (V := V)) (pow10 hn)
  have hbit : (bar V).testBit l = decide (V.2.2 l 6 = 2) := by
    unfold bar
    rw [rB_bit]
    simp [hl]
  have ib : inb (nI l) 10 := inb_nI (by omega) (by omega)
  have e3 : m.1 3 l = nI (V.2.2 l 1) := e1
  have e4 : m.1 4 l = nI (V.2.2 l 2) := e2
  have e2' : m.1 2 l = nI (V.2.2 l 0) := e0
  rw [gX0_goesOn, hx.2.2.2.1, ite_bit0 (by omega) (by omega), chk_pos ib, chk_pos ib, chk_pos ib, nI_clamp (by omega), e3, e4, e2', ite_eqN (by omega) (by omega), ite_eqN (by omega) (by omega), show (3 : Int32) = nI 3 from rfl, ite_eqN (by omega) (by omega), hbit]
  unfold gO
  by_cases c6 : V.2.2 l 6 = 2
  · simp [c6]
  · by_cases c1 : V.2.2 l 1 = h
    · simp [c6, c1]
    · by_cases c2 : V.2.2 l 2 = h
      · by_cases c0 : V.2.2 l 0 = 3 <;> simp [c6, c1, c2, c0]
      · simp [c6, c1, c2]
theorem m_leads (hV : okV V) (hm : IM m V) {h l : Nat} (hh : h < 7) (hl : l < V.2.1) : gX9_leads m (nI l) (nI h) = some (if gO V h l = true then nI (oth V h l) else -9) := by
  have hn := hV.2.2.1
  have hH := hV.2.1
  have b0 := (hV.2.2.2 l hl).1
  have b1 := (hV.2.2.2 l hl).2.1
  have b2 := (hV.2.2.2 l hl).2.2.1
  have b6 := (hV.2.2.2 l hl).2.2.2.2.2.2.2.2
  have e0 : m.1 45 l = nI (V.2.2 l 0) := hm.at (k := 0) hl (by decide)
  have e1 : m.1 46 l = nI (V.2.2 l 1) := hm.at (k := 1) hl (by decide)
  have e2 : m.1 47 l = nI (V.2.2 l 2) := hm.at (k := 2) hl (by decide)
  have e6 : m.1 51 l = nI (V.2.2 l 6) := hm.at (k := 6) hl (by decide)
  have ib : inb (nI l) 11 := inb_nI (by omega) (by omega)
  rw [gX9_leads, nI_clamp (by omega), e0, e1, e2, e6, chk_pos ib, chk_pos ib, chk_pos ib, chk_pos ib, chk_pos ib, chk_pos ib, show (2 : Int32) = nI 2 from rfl, show (3 : Int32) = nI 3 from rfl, ite_eqN (by omega) (by omega), ite_eqN (by omega) (by omega), ite_eqN (by omega) (by omega), ite_eqN (by omega) (by omega)]
  unfold gO oth
  by_cases c6 : V.2.2 l 6 = 2
  · simp [c6]
  · by_cases c1 : V.2.2 l 1 = h
    · simp [c6, c1]
    · by_cases c2 : V.2.2 l 2 = h
      · by_cases c0 : V.2.2 l 0 = 3 <;> simp [c6, c1, c2, c0]
      · simp [c6, c1, c2]
theorem oth_lt (hV : okV V) {h l : Nat} (hl : l < V.2.1) : oth V h l < V.1 := by
  unfold oth
  split
  · exact (hV.2.2.2 l hl).2.2.1
  · exact (hV.2.2.2 l hl).2.1
theorem m_weightsFrom (hF : 2000 ≤ F) (hV : okV V) (hm : IM m V) {h : Nat} (hh : h < 7) : gX9_weightsFrom F m (nI h) = some (nI (onW V h V.2.1)) := by
  have hn := hV.2.2.1
  have hH := hV.2.1
  have q := iter_at (F := F) (f := bX9_weightsFrom_4 m (nI h)) (fun i => (nI (onW V h i), nI i)) V.2.1 (nI (onW V h V.2.1), nI V.2.1) (fun i hi => ?_) ?_ (by omega)
  · have e0 : iter F (bX9_weightsFrom_4 m (nI h)) (0, 0) = _ := q
    rw [gX9_weightsFrom, e0]; rfl
  · have ho := oth_lt hV (h := h) hi
    rw [bX9_weightsFrom_4, hm.2.1, ite_leN (by omega) (by omega), if_neg (by omega), m_leads hV hm hh hi, Option.bind_some, lete_eq, m_weightOf hV hm hi, Option.bind_some, lete_eq, nI_add, nI_1, onW]
    by_cases c : gO V h i = true
    · rw [if_pos c, if_pos c, if_neg (nI_pos (by omega))]
    · rw [if_neg c, if_neg c, if_pos (by decide), show (0 : Int32) = nI 0 from rfl, nI_add]
  · rw [bX9_weightsFrom_4, hm.2.1, ite_leN (by omega) (by omega), if_pos (Nat.le_refl _)]
/-- the rows of the lanes that go on are told -/
def LR (V : Vd) (m : Mem) : Prop := ∀ h, h < 7 → m.1 38 h = nI (onB V h V.2.1) ∧ m.1 39 h = nI (onW V h V.2.1)
def EO (m m' : Mem) : Prop := (∀ j, j ≠ 38 → j ≠ 39 → m'.1 j = m.1 j) ∧ m'.2 = m.2
theorem EO.rf (m : Mem) : EO m m := ⟨fun _ _ _ => rfl, rfl⟩
theorem EO.tr {a b c : Mem} (h : EO a b) (g : EO b c) : EO a c := ⟨fun j h1 h2 => (g.1 j h1 h2).trans (h.1 j h1 h2), g.2.trans h.2⟩
theorem EO.two {m : Mem} {k l : Nat} {v w : Int32} : EO m (mu (mu m 38 k v) 39 l w) := ⟨fun j h1 h2 => by rw [mu_row _ _ h2, mu_row _ _ h1], rfl⟩
theorem o38 {m : Mem} {k l q : Nat} {v w : Int32} : (mu (mu m 38 k v) 39 l w).1 38 q = if q = k then v else m.1 38 q := by rw [mu_ne _ _ (Or.inl (by decide)), mu_g, if_pos rfl]
theorem o39 {m : Mem} {k l q : Nat} {v w : Int32} : (mu (mu m 38 k v) 39 l w).1 39 q = if q = l then w else m.1 39 q := by
  rw [mu_g, if_pos rfl]
  by_cases e : q = l
  · rw [if_pos e, if_pos e]
  · rw [if_neg e, if_neg e, mu_ne _ _ (Or.inl (by decide))]
theorem x_lookOne (hF : 2000 ≤ F) (hV : okV V) (hx : IX m 1 V) {h : Nat} (hh : h < 7) (h38 : m.1 38 h = nI 0) (h39 : m.1 39 h = nI 0) : ∃ e, iter F (bX0_lookRound_24 (nI h)) (0, m) = some e ∧ EO m e.2 ∧ (∀ q, q ≠ h → e.2.1 38 q = m.1 38 q ∧ e.2.1 39 q = m.1 39 q) ∧ e.2.1 38 h = nI (onB V h V.2.1) ∧ e.2.1 39 h = nI (onW V h V.2.1) := by
  have hn := hV.2.2.1
  exact iter_inv (f := bX0_lookRound_24 (nI h)) (fun i s => s.1 = nI i ∧ EO m s.2 ∧ (∀ q, q ≠ h → s.2.1 38 q = m.1 38 q ∧ s.2.1 39 q = m.1 39 q) ∧ s.2.1 38 h = nI (onB V h i) ∧ s.2.1 39 h = nI (onW V h i)) V.2.1 (fun e => EO m e.2 ∧ (∀ q, q ≠ h → e.2.1 38 q = m.1 38 q ∧ e.2.1 39 q = m.1 39 q) ∧ e.2.1 38 h = nI (onB V h V.2.1) ∧ e.2.1 39 h = nI (onW V h V.2.1)) (by
      rintro i ⟨y, m1⟩ hi ⟨rfl, he, ho, w1, w2⟩
      dsimp only at he ho w1 w2
      refine Or.inl ?_
      have hx1 : IX m1 1 V := hx.sm (fun k hk => he.1 _ (by omega) (by omega))
      have ih : inb (nI h) 7 := inb_nI (by omega) (by omega)
      have ii : inb (nI i) 10 := inb_nI (by omega) (by omega)
      have e5 : m1.1 5 i = nI (wt (V.2.2 i)) := (hx1.2.2.2.2 i hi).2.2.2.1
      rw [bX0_lookRound_24, hx1.2.1, ite_leN (by omega) (by omega), if_neg (by omega), show (10 : Int32) = nI 10 from rfl, ite_leN (by omega) (by omega), if_neg (by omega), x_goesOn hV hx1 hh hi, Option.bind_some, nI_1]
      by_cases c : gO V h i = true
      · have a39 : (mu m1 38 h (nI (onB V h (i + 1)))).1 39 h = nI (onW V h i) := by rw [mu_ne _ _ (Or.inl (by decide))]; exact w2
        have a5 : (mu m1 38 h (nI (onB V h (i + 1)))).1 5 i = nI (wt (V.2.2 i)) := by rw [mu_ne _ _ (Or.inl (by decide))]; exact e5
        have eb : nI (onB V h i) ||| (1 : Int32) <<< (nI i &&& 31) = nI (onB V h (i + 1)) := by rw [sh1 (by omega), orI, or_add (onB_lt V h i), onB, if_pos c]
        rw [if_pos c, chk_pos ih, chk_pos ih, lete_eq, nI_clamp (show h < 2 ^ 31 by omega), w1, eb, chk_pos ih, chk_pos ii, chk_pos ih, lete_eq, nI_clamp (show i < 2 ^ 31 by omega), a39, a5, nI_add]
        refine ⟨_, rfl, rfl, he.tr EO.two, fun q hq => ?_, ?_, ?_⟩
        · dsimp only
          rw [o38, o39, if_neg hq, if_neg hq]; exact ho q hq
        · dsimp only
          rw [o38, if_pos rfl]
        · dsimp only
          rw [o39, if_pos rfl, onW, if_pos c]
      · rw [if_neg c]
        exact ⟨_, rfl, rfl, he, ho, by rw [onB, if_neg c]; exact w1, by rw [onW, if_neg c]; exact w2⟩) (by
      rintro ⟨y, m1⟩ ⟨rfl, he, ho, w1, w2⟩
      dsimp only at he ho w1 w2
      have hx1 : IX m1 1 V := hx.sm (fun k hk => he.1 _ (by omega) (by omega))
      refine ⟨(nI V.2.1, m1), ?_, he, ho, w1, w2⟩
      rw [bX0_lookRound_24, hx1.2.1, ite_leN (by omega) (by omega), if_pos (Nat.le_refl _)]) F 0 (0, m) (Nat.zero_le _) (by omega) ⟨rfl, EO.rf m, fun q _ => ⟨rfl, rfl⟩, h38, h39⟩
theorem x_lookRound (hF : 2000 ≤ F) (hV : okV V) (hx : IX m 1 V) : ∃ m', gX0_lookRound F m = some m' ∧ EO m m' ∧ LR V m' := by
  obtain ⟨e, k1, k2, k3⟩ := iter_inv (f := bX0_lookRound_2 F) (fun i s => s.1 = nI i ∧ EO m s.2 ∧ ∀ h, h < i → s.2.1 38 h = nI (onB V h V.2.1) ∧ s.2.1 39 h = nI (onW V h V.2.1)) 7 (fun e => EO m e.2 ∧ LR V e.2) (by
      rintro i ⟨y, m1⟩ hi ⟨rfl, he, hw⟩
      dsimp only at he hw
      refine Or.inl ?_
      have ih : inb (nI i) 7 := inb_nI (by omega) (by omega)
      have e2 : EO m1 (mu (mu m1 38 i (nI 0)) 39 i (nI 0)) := EO.two
      have hx1 : IX (mu (mu m1 38 i (nI 0)) 39 i (nI 0)) 1 V := hx.sm (fun k hk => (he.tr e2).1 _ (by omega) (by omega))
      obtain ⟨e, g1, g2, g3, g4, g5⟩ := x_lookOne hF hV hx1 hi (by rw [o38, if_pos rfl]) (by rw [o39, if_pos rfl])
      rw [bX0_lookRound_2, show (7 : Int32) = nI 7 from rfl, ite_leN (by omega) (by omega), if_neg (by omega), chk_pos ih, lete_eq, chk_pos ih, lete_eq, nI_clamp (by omega)]
      have g1' : iter F (bX0_lookRound_24 (nI i)) (0, mu (mu m1 38 i 0) 39 i 0) = some e := g1
      rw [g1', Option.bind_some, nI_1]
      refine ⟨_, rfl, rfl, (he.tr e2).tr g2, fun h hh => ?_⟩
      dsimp only
      by_cases e : h = i
      · subst e; exact ⟨g4, g5⟩
      · obtain ⟨q1, q2⟩ := g3 h e
        rw [q1, q2, o38, o39, if_neg e, if_neg e]
        exact hw h (by omega)) (by
      rintro ⟨y, m1⟩ ⟨rfl, he, hw⟩
      dsimp only at he hw
      refine ⟨(nI 7, m1), ?_, he, hw⟩
      rw [bX0_lookRound_2, show (7 : Int32) = nI 7 from rfl, ite_leN (by omega) (by omega), if_pos (Nat.le_refl _)]) F 0 (0, m) (Nat.zero_le _) (by omega) ⟨rfl, EO.rf m, fun h hh => absurd hh (by omega)⟩
  refine ⟨e.2, ?_, k2, k3⟩
  rw [gX0_lookRound, k1, Option.bind_some]
end
