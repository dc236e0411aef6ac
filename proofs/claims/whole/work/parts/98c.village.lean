theorem iter_to {σ ρ : Type} {f : σ → Option (σ ⊕ ρ)} (I : Nat → σ → Prop) : ∀ (n F : Nat) (s : σ), n ≤ F → (∀ i s, i < n → I i s → ∃ s', f s = some (.inl s') ∧ I (i + 1) s') → I 0 s → ∃ s', iter F f s = iter (F - n) f s' ∧ I n s'
  | 0, F, s, _, _, h0 => ⟨s, rfl, h0⟩
  | n + 1, F, s, hn, hs, h0 => by
    obtain ⟨s1, g1, g2⟩ := iter_to I n F s (by omega) (fun i s hi h => hs i s (by omega) h) h0
    obtain ⟨s2, g3, g4⟩ := hs n s1 (by omega) g2
    refine ⟨s2, ?_, g4⟩
    rw [g1, iter_in (by omega) g3, show F - n - 1 = F - (n + 1) by omega]
section
variable {F : Nat} {m : Mem} {V : Vd} {c : Nat → Nat} {t : Nat}
/-- what the reading may change -/
def FM (m m' : Mem) : Prop := (∀ j, j ≠ 43 → j ≠ 53 → j ≠ 54 → j ≠ 55 → m'.1 j = m.1 j) ∧ ∀ k, k ≠ 14 → k ≠ 15 → k ≠ 16 → m'.1 43 k = m.1 43 k
theorem FM.tr {a b d : Mem} (h : FM a b) (g : FM b d) : FM a d := ⟨fun j h1 h2 h3 h4 => (g.1 j h1 h2 h3 h4).trans (h.1 j h1 h2 h3 h4), fun k h1 h2 h3 => (g.2 k h1 h2 h3).trans (h.2 k h1 h2 h3)⟩
theorem ST.fm {n : Nat} {m m' : Mem} (h : ST n m m') : FM m m' := ⟨h.1, fun k _ h2 _ => h.2.1 k h2⟩
theorem fm_mu {m : Mem} {k : Nat} {x : Int32} (h : k = 14 ∨ k = 15 ∨ k = 16) : FM m (mu m 43 k x) := ⟨fun j h1 _ _ _ => mu_row _ _ h1, fun q h1 h2 h3 => mu_ne _ _ (Or.inr (by omega))⟩
/-- the statements that have been read -/
def DT (c : Nat → Nat) (t k : Nat) (m : Mem) : Prop := ∀ j, j < k → m.1 53 j = nI (c (qs c t j)) ∧ m.1 54 j = nI (qs c t j) ∧ m.1 55 (6 * j) = nI (val c t (qs c t j) 0) ∧ (c (qs c t j) = 108 → ∀ i, i < 6 → m.1 55 (6 * j + i) = nI (val c t (qs c t j) i))
theorem DT.more {k : Nat} {m m' : Mem} (h : DT c t k m) (hs : ST k m m') (hn : m'.1 53 k = nI (c (qs c t k)) ∧ m'.1 54 k = nI (qs c t k) ∧ m'.1 55 (6 * k) = nI (val c t (qs c t k) 0) ∧ (c (qs c t k) = 108 → ∀ i, i < 6 → m'.1 55 (6 * k + i) = nI (val c t (qs c t k) i))) : DT c t (k + 1) m' := by
  intro j hj
  by_cases e : j = k
  · subst e; exact hn
  · obtain ⟨a1, a2, a3, a4⟩ := h j (by omega)
    obtain ⟨b1, b2⟩ := hs.2.2.1 j e
    refine ⟨by rw [b1]; exact a1, by rw [b2]; exact a2, by rw [hs.2.2.2.1 _ (by omega)]; exact a3, fun h8 i hi => ?_⟩
    rw [hs.2.2.2.1 _ (by omega)]
    exact a4 h8 i hi
theorem DT.of {k : Nat} {m m' : Mem} (h : DT c t k m) (h1 : m'.1 53 = m.1 53) (h2 : m'.1 54 = m.1 54) (h3 : m'.1 55 = m.1 55) : DT c t k m' := by
  unfold DT at h ⊢
  rw [h1, h2, h3]
  exact h
theorem TP.keep {p k : Nat} {x : Int32} (h : TP c t p m) (hk : k ≠ 14) (hk2 : k ≠ 15) : TP c t p (mu m 43 k x) := h.of (mu_ne _ _ (Or.inr (fun z => hk z.symm))) (mu_ne _ _ (Or.inr (fun z => hk2 z.symm))) (mu_row _ _ (by decide))
/-- k statements have been read -/
def RD (c : Nat → Nat) (t : Nat) (m : Mem) (k : Nat) (s : Int32 × Mem) : Prop := s.1 = 1 ∧ TP c t (qs c t k) s.2 ∧ s.2.1 43 16 = nI k ∧ FM m s.2 ∧ DT c t k s.2
theorem rd_one (hF : 2000 ≤ F) {k : Nat} {s : Int32 × Mem} (hk : k < 36) (h : RD c t m k s) (hgo : qs c t k < t ∨ k = 0) : ∃ m', bX9_village_12 F s = some (.inl (if (stm c t (qs c t k)).1 = true then 1 else 0, m')) ∧ TP c t (stm c t (qs c t k)).2 m' ∧ FM m m' ∧ ((stm c t (qs c t k)).1 = true → m'.1 43 16 = nI (k + 1) ∧ DT c t (k + 1) m') := by
  obtain ⟨y, m1⟩ := s
  obtain ⟨h1, h2, h3, h4, h5⟩ := h
  dsimp only at h1 h2 h3 h4 h5
  subst h1
  obtain ⟨m2, g1, g2, g3, g4⟩ := m_statement hF hk h2 h3
  have e16 : m2.1 43 16 = nI k := by rw [g3.2.1 16 (by decide)]; exact h3
  have h72 := h2.2.2.1
  have hq := h2.2.2.2.1
  have core : ∀ b : Bool, (stm c t (qs c t k)).1 = b → ∃ m', (gX9_statement F m1).bind (fun q5 => (if q5.1 = true then lete (mu q5.2 43 16 ((q5.2.1 43 16) + 1)) (fun m7 => (some (.inl (b2i q5.1, m7)) : Option ((Int32 × Mem) ⊕ (Int32 × Mem)))) else lete (mu q5.2 43 16 ((q5.2.1 43 16) + 0)) (fun m6 => some (.inl (b2i q5.1, m6))))) = some (.inl (if b = true then 1 else 0, m')) ∧ TP c t (stm c t (qs c t k)).2 m' ∧ FM m m' ∧ (b = true → m'.1 43 16 = nI (k + 1) ∧ DT c t (k + 1) m') := by
    intro b hb
    rw [g1, Option.bind_some, hb]
    cases b with
    | true =>
      rw [if_pos rfl, lete_eq, if_pos rfl]
      refine ⟨mu m2 43 16 (m2.1 43 16 + 1), rfl, g2.keep (by decide) (by decide), h4.tr (g3.fm.tr (fm_mu (by decide))), fun _ => ⟨by rw [mu_same, e16, nI_1], ?_⟩⟩
      exact (h5.more g3 (g4 hb)).of (mu_row _ _ (by decide)) (mu_row _ _ (by decide)) (mu_row _ _ (by decide))
    | false =>
      rw [if_neg (fun z => by cases z), lete_eq, if_neg (fun z => by cases z)]
      exact ⟨mu m2 43 16 (m2.1 43 16 + 0), rfl, g2.keep (by decide) (by decide), h4.tr (g3.fm.tr (fm_mu (by decide))), fun z => by cases z⟩
  obtain ⟨m', d1, d2, d3, d4⟩ := core _ rfl
  refine ⟨m', ?_, d2, d3, d4⟩
  rw [bX9_village_12, if_neg (by decide), h2.1, h2.2.1, ite_ltN (by omega) (by omega), h3, show (0 : Int32) = nI 0 from rfl, ite_eqN (by omega) (by omega)]
  by_cases z : qs c t k < t
  · rw [if_pos z]; exact d1
  · rw [if_neg z, if_pos (hgo.resolve_left z)]; exact d1
theorem m_readAll (hF : 2000 ≤ F) {K : Nat} (hK : K ≤ 24) (hgo : ∀ j, j < K → sgo c t j = true) (h0 : RD c t m 0 (1, m)) : ∃ s, iter F (bX9_village_12 F) (1, m) = iter (F - K) (bX9_village_12 F) s ∧ RD c t m K s := by
  refine iter_to (RD c t m) K F (1, m) (by omega) (fun i s hi h => ?_) h0
  obtain ⟨g1, g2⟩ := sgo_iff.mp (hgo i hi)
  obtain ⟨m', a1, a2, a3, a4⟩ := rd_one hF (by omega) h g1
  rw [if_pos g2] at a1
  exact ⟨_, a1, rfl, a2, (a4 g2).1, a3, (a4 g2).2⟩
theorem m_readGood (hF : 2000 ≤ F) {K : Nat} (hK : K ≤ 24) (hgo : ∀ j, j < K → sgo c t j = true) (h1 : 1 ≤ K) (hend : qs c t K = t) (h0 : RD c t m 0 (1, m)) : ∃ s, iter F (bX9_village_12 F) (1, m) = some s ∧ RD c t m K s := by
  obtain ⟨s, a1, a2⟩ := m_readAll hF hK hgo h0
  refine ⟨s, ?_, a2⟩
  rw [a1]
  obtain ⟨y, m1⟩ := s
  obtain ⟨b1, b2, b3, b4, b5⟩ := a2
  dsimp only at b1 b2 b3
  subst b1
  have h72 := b2.2.2.1
  refine iter_out (by omega) ?_
  rw [bX9_village_12, if_neg (by decide), b2.1, b2.2.1, ite_ltN (by omega) (by omega), if_neg (by omega), b3, show (0 : Int32) = nI 0 from rfl, ite_eqN (by omega) (by omega), if_neg (by omega)]
theorem m_readBad (hF : 2000 ≤ F) {K : Nat} (hK : K ≤ 24) (hgo : ∀ j, j < K → sgo c t j = true) (hlast : qs c t K < t ∨ K = 0) (hb : (stm c t (qs c t K)).1 = false) (h0 : RD c t m 0 (1, m)) : ∃ m', iter F (bX9_village_12 F) (1, m) = some (0, m') ∧ TP c t (stm c t (qs c t K)).2 m' ∧ FM m m' := by
  obtain ⟨s, a1, a2⟩ := m_readAll hF hK hgo h0
  obtain ⟨m', g1, g2, g3, -⟩ := rd_one hF (by omega) a2 hlast
  rw [hb, if_neg (fun z => by cases z)] at g1
  refine ⟨m', ?_, g2, g3⟩
  rw [a1, iter_in (by omega) g1]
  refine iter_out (by omega) ?_
  rw [bX9_village_12, if_pos rfl]
theorem m_comeAll (hF : 2000 ≤ F) (hV : okV V) (hm : IM m V) {K J : Nat} (hK24 : K ≤ 24) (h16 : m.1 43 16 = nI K) (hd : DT c t K m) (hgo : ∀ j, j < K → sgo c t j = true) (hJ : J ≤ K) (hok : ∀ j, j < J → okS V c t j = true) (hbad : J < K → okS V c t J = false) (hk : IK m (100 * 1) V) : ∃ m', (iter F (bX9_village_86 F) (0, m)).bind (fun e20 => Sum.elim (fun s22 => some (s22.2.1 43 16, s22.2)) (fun q => some q) e20) = some (if J < K then (-2000) - nI (qs c t J) else nI K, m') ∧ (∀ j, ¬ (45 ≤ j ∧ j ≤ 51) → j ≠ 43 → m'.1 j = m.1 j) ∧ (∀ k, k ≠ 8 → k ≠ 9 → k ≠ 19 → k ≠ 20 → m'.1 43 k = m.1 43 k) ∧ IM m' (if J < K then V else vs V c t K) := by
  have hvs : ∀ k, k ≤ J → okV (vs V c t k) := fun k hk => vs_ok hV k (fun j hj => ⟨hgo j (by omega), hok j (by omega)⟩)
  have come : ∀ i m1, i < K → i ≤ J → EV m m1 → IM m1 (vs V c t i) → ∃ m', gX9_comes F m1 (nI i) = some (okS V c t i, m') ∧ EV m1 m' ∧ (okS V c t i = true → IM m' (vs V c t (i + 1))) := by
    intro i m1 hi hiJ he hm1
    obtain ⟨d1, d2, d3, d4⟩ := hd i hi
    have hst := (sgo_iff.mp (hgo i hi)).2
    have hv0 := val_0 hst
    refine m_comes hF (hvs i hiJ) hm1 (by omega) ?_ ?_ (by omega) ?_ ?_
    · by_cases h8 : c (qs c t i) = 108
      · exact Or.inr h8
      · exact Or.inl (stm_one hst h8).2.1
    · rw [he.1 53 (by omega) (by decide)]; exact d1
    · rw [he.1 55 (by omega) (by decide)]; exact d3
    · intro h8
      have hv := val_lane hst h8
      refine ⟨fun q => by have := hv q; omega, fun q hq => ?_⟩
      rw [he.1 55 (by omega) (by decide)]
      exact d4 h8 q hq
  obtain ⟨e, k1, m', k2, k3, k4, k5⟩ := iter_inv (f := bX9_village_86 F) (fun i s => ∃ m1, s = (nI i, m1) ∧ EV m m1 ∧ IM m1 (vs V c t i)) J (fun e => ∃ m', Sum.elim (fun s22 => some (s22.2.1 43 16, s22.2)) (fun q => some q) e = some (if J < K then (-2000) - nI (qs c t J) else nI K, m') ∧ (∀ j, ¬ (45 ≤ j ∧ j ≤ 51) → j ≠ 43 → m'.1 j = m.1 j) ∧ (∀ k, k ≠ 8 → k ≠ 9 → k ≠ 19 → k ≠ 20 → m'.1 43 k = m.1 43 k) ∧ IM m' (if J < K then V else vs V c t K)) (by
      rintro i s hi ⟨m1, rfl, he, hm1⟩
      refine Or.inl ?_
      have e16 : m1.1 43 16 = nI K := by rw [he.2.1 16 (by decide) (by decide)]; exact h16
      obtain ⟨m2, g1, g2, g3⟩ := come i m1 (by omega) (by omega) he hm1
      rw [bX9_village_86, e16, ite_leN (by omega) (by omega), if_neg (by omega), g1, Option.bind_some, hok i hi, if_pos rfl, nI_1]
      exact ⟨_, rfl, m2, rfl, he.tr g2, g3 (hok i hi)⟩) (by
      rintro s ⟨m1, rfl, he, hm1⟩
      have e16 : m1.1 43 16 = nI K := by rw [he.2.1 16 (by decide) (by decide)]; exact h16
      by_cases hJK : J < K
      · obtain ⟨m2, g1, g2, g3⟩ := come J m1 hJK (Nat.le_refl _) he hm1
        have he2 := he.tr g2
        have hk2 : IK m2 (100 * 1) V := by
          unfold IK at hk ⊢
          rw [he2.1 56 (by omega) (by decide)]
          exact hk
        obtain ⟨m3, p1, p2, p3, p4⟩ := m_takeAll hF (w := 1) (by omega) hk2 hV
        have p1' : gX9_passesAll F m2 1 false = some m3 := p1
        have e54 : m3.1 54 J = nI (qs c t J) := by rw [p3 54 (by decide) (by omega), he2.1 54 (by omega) (by decide)]; exact (hd J hJK).2.1
        refine ⟨.inr ((-2000) - nI (qs c t J), m3), ?_, m3, ?_, fun j h1 h2 => ?_, fun k h1 h2 h3 h4 => ?_, ?_⟩
        · rw [bX9_village_86, e16, ite_leN (by omega) (by omega), if_neg (by omega), g1, Option.bind_some, hbad hJK, if_neg (fun z => by cases z), p1', Option.bind_some, chk_pos (inb_nI (by omega) (by omega)), nI_clamp (by omega), e54]
        · rw [if_pos hJK]; rfl
        · rw [p3 j h2 (by omega), he2.1 j h1 h2]
        · rw [p4 k h1 h2 h3 h4, he2.2.1 k h1 h2]
        · rw [if_pos hJK]; exact p2
      · have hJe : J = K := by omega
        refine ⟨.inl (nI J, m1), ?_, m1, ?_, fun j h1 h2 => he.1 j h1 h2, fun k h1 h2 _ _ => he.2.1 k h1 h2, ?_⟩
        · rw [bX9_village_86, e16, ite_leN (by omega) (by omega), if_pos (by omega)]
        · rw [if_neg hJK]
          show some (m1.1 43 16, m1) = _
          rw [e16]
        · rw [if_neg hJK, ← hJe]; exact hm1) F 0 (0, m) (Nat.zero_le _) (by omega) ⟨m, rfl, EV.rf m, hm⟩
  refine ⟨m', ?_, k3, k4, k5⟩
  rw [k1, Option.bind_some]
  exact k2
end
