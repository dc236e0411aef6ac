/-! ===== villages told in letters: the reference reads them ===== -/
theorem iter_in {σ ρ : Type} {f : σ → Option (σ ⊕ ρ)} {F : Nat} {s s' : σ} (hF : 0 < F) (h : f s = some (.inl s')) : iter F f s = iter (F - 1) f s' := by
  obtain ⟨k, rfl⟩ : ∃ k, F = k + 1 := ⟨F - 1, by omega⟩
  rw [iter, h]
  rfl
theorem iter_out {σ ρ : Type} {f : σ → Option (σ ⊕ ρ)} {F : Nat} {s : σ} {e : ρ} (hF : 0 < F) (h : f s = some (.inr e)) : iter F f s = some e := by
  obtain ⟨k, rfl⟩ : ∃ k, F = k + 1 := ⟨F - 1, by omega⟩
  rw [iter, h]
section
variable {F : Nat} {m : Mem} {c : Nat → Nat} {t : Nat}
/-- the reference has these letters, and is at a place -/
def TP (c : Nat → Nat) (t p : Nat) (m : Mem) : Prop := m.1 43 14 = nI t ∧ m.1 43 15 = nI p ∧ t ≤ 72 ∧ p ≤ t ∧ ∀ i, i < t → m.1 52 i = nI (c i) ∧ c i ≤ 255
theorem m_isDig {p : Nat} (h : TP c t p m) : ∃ x, gX9_next m = some x ∧ gX9_isIn x 48 57 = some (dg c t p) ∧ (p < t → x = nI (c p)) ∧ (¬ p < t → x = -1) := by
  obtain ⟨h1, h2, h3, h4, h5⟩ := h
  by_cases hl : p < t
  · obtain ⟨c1, c2⟩ := h5 p hl
    refine ⟨nI (c p), ?_, ?_, fun _ => rfl, fun z => absurd hl z⟩
    · rw [gX9_next, h1, h2, ite_leN (by omega) (by omega), if_neg (by omega), chk_pos (inb_nI (by omega) (by omega)), nI_clamp (by omega), c1]
    · rw [gX9_isIn, show (48 : Int32) = nI 48 from rfl, show (57 : Int32) = nI 57 from rfl, ite_ltN (by omega) (by omega), ite_ltN (by omega) (by omega)]
      unfold dg dgt
      by_cases a : c p < 48
      · rw [if_pos a]
        have : ¬ 48 ≤ c p := by omega
        simp [this]
      · rw [if_neg a]
        have a2 : 48 ≤ c p := by omega
        by_cases b : 57 < c p
        · rw [if_pos b]
          have : ¬ c p ≤ 57 := by omega
          simp [this]
        · rw [if_neg b]
          have : c p ≤ 57 := by omega
          simp [this, a2, hl]
  · refine ⟨-1, ?_, ?_, fun z => absurd z hl, fun _ => rfl⟩
    · rw [gX9_next, h1, h2, ite_leN (by omega) (by omega), if_pos (by omega)]
    · have : dg c t p = false := by unfold dg; simp [hl]
      rw [this]
      decide
theorem TP.move {p : Nat} (h : TP c t p m) (hl : p < t) : TP c t (p + 1) (mu m 43 15 (nI (p + 1))) := by
  obtain ⟨h1, h2, h3, h4, h5⟩ := h
  refine ⟨by rw [mu_ne _ _ (Or.inr (by decide))]; exact h1, mu_same _ _ _ _, h3, by omega, fun i hi => ?_⟩
  rw [mu_ne _ _ (Or.inl (by decide))]
  exact h5 i hi
theorem TP.of {p : Nat} {m m' : Mem} (h : TP c t p m) (h1 : m'.1 43 14 = m.1 43 14) (h2 : m'.1 43 15 = m.1 43 15) (h3 : m'.1 52 = m.1 52) : TP c t p m' := by
  unfold TP at h ⊢
  rw [h1, h2, h3]
  exact h
theorem m_isNext {p x : Nat} (hx : x < 256) (h : TP c t p m) : gX9_isNext m (nI x) = if ch c t x p = true then some (true, mu m 43 15 (nI (p + 1))) else some (false, m) := by
  obtain ⟨y, g1, -, g3, g4⟩ := m_isDig h
  obtain ⟨h1, h2, h3, h4, h5⟩ := h
  rw [gX9_isNext, g1, Option.bind_some, h2, nI_1, lete_eq]
  by_cases hl : p < t
  · obtain ⟨c1, c2⟩ := h5 p hl
    rw [g3 hl, ite_eqN (by omega) (by omega)]
    by_cases e : c p = x
    · rw [if_pos e, if_pos (ch_iff.mpr ⟨hl, e⟩)]
    · rw [if_neg e, if_neg (fun z => e (ch_iff.mp z).2)]
  · rw [g4 hl, if_neg (fun z => not_m1 (c := x) (by omega) (by rw [← z]; decide)), if_neg (fun z => hl (ch_iff.mp z).1)]
theorem rd_step {p v i d : Nat} (hd : i < d) (hd2 : d ≤ 2) (h : TP c t p m) (hg : dg c t p = true) : bX9_reads_21 (nI d) (nI v, nI i, m) = some (.inl (nI (10 * v + (c p - 48)), nI (i + 1), mu m 43 15 (nI (p + 1)))) := by
  obtain ⟨y, g1, g2, g3, -⟩ := m_isDig h
  obtain ⟨hl, hdg⟩ := dg_iff.mp hg
  have hy := g3 hl
  have hc : 48 ≤ c p := by
    unfold dgt at hdg
    simp only [Bool.and_eq_true, decide_eq_true_eq] at hdg
    exact hdg.1
  rw [bX9_reads_21, ite_leN (by omega) (by omega), if_neg (by omega), g1, Option.bind_some, g2, hg, Option.bind_some, if_pos rfl, Option.bind_some, lete_eq, lete_eq, hy, h.2.1, show (10 : Int32) = nI 10 from rfl, pk_mul, nI_add, show (48 : Int32) = nI 48 from rfl, pk_sub (by omega), nI_1, nI_1, show 10 * v + c p - 48 = 10 * v + (c p - 48) by omega]
theorem rd_stop {p v i d : Nat} (hd2 : d ≤ 2) (hi : i ≤ 2) (h : TP c t p m) (hs : d ≤ i ∨ ¬ dg c t p = true) : bX9_reads_21 (nI d) (nI v, nI i, m) = some (.inr (nI v, nI i, m)) := by
  by_cases hd : d ≤ i
  · rw [bX9_reads_21, ite_leN (by omega) (by omega), if_pos hd]
  · obtain ⟨y, g1, g2, -⟩ := m_isDig h
    have hg : dg c t p = false := by simpa using hs.resolve_left hd
    rw [bX9_reads_21, ite_leN (by omega) (by omega), if_neg hd, g1, Option.bind_some, g2, hg, Option.bind_some, if_neg (fun z => by cases z)]
/-- the number that up to so many digits are, and the place behind them -/
def vd (c : Nat → Nat) (t p d : Nat) : Nat := if d = 2 ∧ dg c t (p + 1) = true then 10 * (c p - 48) + (c (p + 1) - 48) else c p - 48
def nd (c : Nat → Nat) (t p d : Nat) : Nat := if d = 2 ∧ dg c t (p + 1) = true then p + 2 else p + 1
theorem m_reads (hF : 2000 ≤ F) {p q d : Nat} (hq : q < 216) (hd : d = 1 ∨ d = 2) (h : TP c t p m) (hg : dg c t p = true) : ∃ m', gX9_reads F m (nI q) (nI d) = some (true, m') ∧ TP c t (nd c t p d) m' ∧ (∀ j, j ≠ 43 → j ≠ 55 → m'.1 j = m.1 j) ∧ (∀ k, k ≠ 15 → m'.1 43 k = m.1 43 k) ∧ m'.2 = m.2 ∧ m'.1 55 q = nI (vd c t p d) ∧ ∀ i, i ≠ q → m'.1 55 i = m.1 55 i := by
  have hl := (dg_iff.mp hg).1
  have t1 := h.move hl
  have s1 := rd_step (v := 0) (i := 0) (d := d) (by omega) (by omega) h hg
  rw [Nat.mul_zero, Nat.zero_add] at s1
  obtain ⟨y, g1, g2, -⟩ := m_isDig h
  have iq : inb (nI q) 216 := inb_nI hq (by omega)
  unfold nd vd
  by_cases c2 : d = 2 ∧ dg c t (p + 1) = true
  · rw [if_pos c2, if_pos c2]
    obtain ⟨rfl, hg2⟩ := c2
    have hl2 := (dg_iff.mp hg2).1
    have t2 := t1.move hl2
    have s2 := rd_step (v := c p - 48) (i := 1) (d := 2) (by omega) (by omega) t1 hg2
    have s3 := rd_stop (v := 10 * (c p - 48) + (c (p + 1) - 48)) (i := 2) (d := 2) (by omega) (by omega) t2 (Or.inl (by omega))
    have hit : iter F (bX9_reads_21 (nI 2)) (0, 0, m) = some (nI (10 * (c p - 48) + (c (p + 1) - 48)), nI 2, mu (mu m 43 15 (nI (p + 1))) 43 15 (nI (p + 1 + 1))) := by
      show iter F (bX9_reads_21 (nI 2)) (nI 0, nI 0, m) = _
      rw [iter_in (by omega) s1, iter_in (by omega) s2, iter_out (by omega) s3]
    refine ⟨mu (mu (mu m 43 15 (nI (p + 1))) 43 15 (nI (p + 1 + 1))) 55 q (nI (10 * (c p - 48) + (c (p + 1) - 48))), ?_, ?_, fun j h1 h2 => ?_, fun k hk => ?_, rfl, mu_same _ _ _ _, fun i hi => ?_⟩
    · rw [gX9_reads, g1, Option.bind_some, g2, hg, Option.bind_some, if_pos rfl, hit, Option.bind_some, chk_pos iq, lete_eq, nI_clamp (by omega)]
    · exact t2.of (mu_ne _ _ (Or.inl (by decide))) (mu_ne _ _ (Or.inl (by decide))) (mu_row _ _ (by decide))
    · rw [mu_row _ _ h2, mu_row _ _ h1, mu_row _ _ h1]
    · rw [mu_ne _ _ (Or.inl (by decide)), mu_ne _ _ (Or.inr hk), mu_ne _ _ (Or.inr hk)]
    · rw [mu_ne _ _ (Or.inr hi), mu_ne _ _ (Or.inl (by decide)), mu_ne _ _ (Or.inl (by decide))]
  · rw [if_neg c2, if_neg c2]
    have s2 := rd_stop (v := c p - 48) (i := 1) (d := d) (by omega) (by omega) t1 (by
      rcases hd with rfl | rfl
      · exact Or.inl (by omega)
      · exact Or.inr (fun z => c2 ⟨rfl, z⟩))
    have hit : iter F (bX9_reads_21 (nI d)) (0, 0, m) = some (nI (c p - 48), nI 1, mu m 43 15 (nI (p + 1))) := by
      show iter F (bX9_reads_21 (nI d)) (nI 0, nI 0, m) = _
      rw [iter_in (by omega) s1, iter_out (by omega) s2]
    refine ⟨mu (mu m 43 15 (nI (p + 1))) 55 q (nI (c p - 48)), ?_, ?_, fun j h1 h2 => ?_, fun k hk => ?_, rfl, mu_same _ _ _ _, fun i hi => ?_⟩
    · rw [gX9_reads, g1, Option.bind_some, g2, hg, Option.bind_some, if_pos rfl, hit, Option.bind_some, chk_pos iq, lete_eq, nI_clamp (by omega)]
    · exact t1.of (mu_ne _ _ (Or.inl (by decide))) (mu_ne _ _ (Or.inl (by decide))) (mu_row _ _ (by decide))
    · rw [mu_row _ _ h2, mu_row _ _ h1]
    · rw [mu_ne _ _ (Or.inl (by decide)), mu_ne _ _ (Or.inr hk)]
    · rw [mu_ne _ _ (Or.inr hi), mu_ne _ _ (Or.inl (by decide))]
theorem m_readsNot {p : Nat} {q d : Int32} (h : TP c t p m) (hg : ¬ dg c t p = true) : gX9_reads F m q d = some (false, m) := by
  obtain ⟨y, g1, g2, -⟩ := m_isDig h
  have hg : dg c t p = false := by simpa using hg
  rw [gX9_reads, g1, Option.bind_some, g2, hg, Option.bind_some, if_neg (fun z => by cases z)]
def val (c : Nat → Nat) (t p : Nat) : Nat → Nat
  | 0 => c (p + 1) - 48
  | 1 => c (p + 2) - 48
  | 2 => c (p + 3) - 48
  | 3 => c (p + 4) - 48
  | 4 => vd c t (p + 5) 2
  | _ => vd c t (kf c t p + 1) 2
/-- what a statement may change -/
def ST (n : Nat) (m m' : Mem) : Prop := (∀ j, j ≠ 43 → j ≠ 53 → j ≠ 54 → j ≠ 55 → m'.1 j = m.1 j) ∧ (∀ k, k ≠ 15 → m'.1 43 k = m.1 43 k) ∧ (∀ j, j ≠ n → m'.1 53 j = m.1 53 j ∧ m'.1 54 j = m.1 54 j) ∧ (∀ i, i < 6 * n → m'.1 55 i = m.1 55 i) ∧ m'.2 = m.2
theorem ST.rf (n : Nat) (m : Mem) : ST n m m := ⟨fun _ _ _ _ _ => rfl, fun _ _ => rfl, fun _ _ => ⟨rfl, rfl⟩, fun _ _ => rfl, rfl⟩
/-- j numbers have been read -/
def AC (c : Nat → Nat) (t n p j P : Nat) (m m' : Mem) : Prop := TP c t P m' ∧ ST n m m' ∧ (∀ i, i < j → m'.1 55 (6 * n + i) = nI (val c t p i)) ∧ m'.1 53 n = nI (c p) ∧ m'.1 54 n = nI p
theorem ac_read (hF : 2000 ≤ F) {n p j P d : Nat} {m1 : Mem} (h : AC c t n p j P m m1) (hn : n < 36) (hj : j < 6) (hd : d = 1 ∨ d = 2) (hg : dg c t P = true) (hv : vd c t P d = val c t p j) : ∃ m2, gX9_reads F m1 (nI (6 * n + j)) (nI d) = some (true, m2) ∧ AC c t n p (j + 1) (nd c t P d) m m2 := by
  obtain ⟨a1, a2, a3, a4, a5⟩ := h
  obtain ⟨m2, g1, g2, g3, g4, g5, g6, g7⟩ := m_reads hF (q := 6 * n + j) (by omega) hd a1 hg
  refine ⟨m2, g1, g2, ⟨fun q h1 h2 h3 h4 => ?_, fun k hk => ?_, fun q hq => ?_, fun i hi => ?_, ?_⟩, fun i hi => ?_, ?_, ?_⟩
  · rw [g3 q h1 h4]; exact a2.1 q h1 h2 h3 h4
  · rw [g4 k hk]; exact a2.2.1 k hk
  · rw [g3 53 (by decide) (by decide), g3 54 (by decide) (by decide)]; exact a2.2.2.1 q hq
  · rw [g7 i (by omega)]; exact a2.2.2.2.1 i hi
  · rw [g5]; exact a2.2.2.2.2
  · by_cases e : i = j
    · subst e; rw [g6, hv]
    · rw [g7 _ (by omega)]; exact a3 i (by omega)
  · rw [g3 53 (by decide) (by decide)]; exact a4
  · rw [g3 54 (by decide) (by decide)]; exact a5
theorem ac_next {n p j P : Nat} {m1 : Mem} (h : AC c t n p j P m m1) (hl : P < t) : AC c t n p j (P + 1) m (mu m1 43 15 (nI (P + 1))) := by
  obtain ⟨a1, a2, a3, a4, a5⟩ := h
  refine ⟨a1.move hl, ⟨fun q h1 h2 h3 h4 => ?_, fun k hk => ?_, fun q hq => ?_, fun i hi => ?_, a2.2.2.2.2⟩, fun i hi => ?_, ?_, ?_⟩
  · rw [mu_row _ _ h1]; exact a2.1 q h1 h2 h3 h4
  · rw [mu_ne _ _ (Or.inr hk)]; exact a2.2.1 k hk
  · rw [mu_row _ _ (by decide), mu_row _ _ (by decide)]; exact a2.2.2.1 q hq
  · rw [mu_row _ _ (by decide)]; exact a2.2.2.2.1 i hi
  · rw [mu_row _ _ (by decide)]; exact a3 i hi
  · rw [mu_row _ _ (by decide)]; exact a4
  · rw [mu_row _ _ (by decide)]; exact a5
end
