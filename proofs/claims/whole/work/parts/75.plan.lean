section
variable {F : Nat} {m : Mem} {V : Vd}
def b01 (b : Bool) : Nat := if b = true then 1 else 0
theorem Vp_le {h : Nat} (h2 : 2 ≤ h) (h5 : h ≤ 5) : 2 ^ (Vp h).2.1 ≤ 1024 := pow10 (Vp_ok h2 h5).2.2.1
theorem x_forestOf (hV : okV V) {s p : Nat} (hp : p ≤ 7) : gX2_isForest (nI (stt V s)) (nI p) = some (frs V s p) := by
  rw [g_forest (hV.stt s) hp stt_hi (by split <;> omega)]
  unfold frs
  congr 1
  apply decide_eq_decide.mpr
  by_cases er : rg V.2.2 s V.2.1 = 0
  · simp [er]
  · simp [er]
theorem yesNo01 (b : Bool) : gX8_yesNo b = some (nI (b01 b)) := by cases b <;> rfl
theorem x_marks (hF : 2000 ≤ F) (hV : okV V) (hv : ∀ s, s < 2 ^ V.2.1 → m.1 32 s = nI (stt V s)) : ∃ e, iter F (bX4_makeFor_40 (nI (2 ^ V.2.1))) (nI 0, m) = some e ∧ E1 32 m e.2 ∧ ∀ s, s < 2 ^ V.2.1 → e.2.1 32 s = nI (Zr (fun t => frs V t 1) 0 s) := by
  have h10 := pow10 hV.2.2.1
  exact iter_inv (f := bX4_makeFor_40 (nI (2 ^ V.2.1))) (fun i q => q.1 = nI i ∧ E1 32 m q.2 ∧ ∀ s, s < 2 ^ V.2.1 → q.2.1 32 s = nI (if s < i then b01 (frs V s 1) else stt V s)) (2 ^ V.2.1) (fun e => E1 32 m e.2 ∧ ∀ s, s < 2 ^ V.2.1 → e.2.1 32 s = nI (Zr (fun t => frs V t 1) 0 s)) (by
      rintro i ⟨y, m1⟩ hi ⟨rfl, he, hw⟩
      dsimp only at he hw
      refine Or.inl ?_
      have e1 := hw i hi
      rw [if_neg (Nat.lt_irrefl i)] at e1
      have hib : inb (nI i) 1024 := inb_nI (by omega) (by omega)
      rw [bX4_makeFor_40, ite_leN (by omega) (by omega), if_neg (by omega), show (1024 : Int32) = nI 1024 from rfl, ite_leN (by omega) (by omega), if_neg (by omega), chk_pos hib, nI_clamp (by omega), e1, show (1 : Int32) = nI 1 from rfl, x_forestOf hV (by omega), Option.bind_some, yesNo01, Option.bind_some, chk_pos hib, lete_eq, nI_add]
      refine ⟨_, rfl, rfl, he.tr E1.mu, fun s hs => ?_⟩
      dsimp only
      rw [mu_g, if_pos rfl]
      by_cases eg : s = i
      · subst eg; rw [if_pos rfl, if_pos (by omega)]
      · rw [if_neg eg, hw s hs]
        have q2 : (s < i + 1) ↔ (s < i) := by omega
        simp only [q2]) (by
      rintro ⟨y, m1⟩ ⟨rfl, he, hw⟩
      dsimp only at he hw
      refine ⟨(nI (2 ^ V.2.1), m1), ?_, he, fun s hs => ?_⟩
      · rw [bX4_makeFor_40, ite_leN (by omega) (by omega), if_pos (Nat.le_refl _)]
      · have := hw s hs
        rw [if_pos hs] at this
        exact this) F 0 (nI 0, m) (Nat.zero_le _) (by omega) ⟨rfl, E1.rf _ _, fun s hs => by rw [if_neg (by omega)]; exact hv s hs⟩
theorem x_without (hF : 2000 ≤ F) {T : Nat → Bool} {n p : Nat} (hn : n ≤ 10) (hp : p < n) (hv : ∀ s, s < 2 ^ n → m.1 32 s = nI (Zr T p s)) : ∃ m', gX4_addThoseWithout F m (nI p) (nI (2 ^ n)) = some m' ∧ E1 32 m m' ∧ ∀ s, s < 2 ^ n → m'.1 32 s = nI (Zr T (p + 1) s) := by
  have h10 := pow10 hn
  have hp2 : 2 ^ p < 2 ^ n := Nat.pow_lt_pow_right (by decide) hp
  obtain ⟨e, k1, k2, k3⟩ := iter_inv (f := bX4_addThoseWithout_7 (nI (2 ^ n)) (nI (2 ^ p))) (fun i q => q.1 = nI i ∧ E1 32 m q.2 ∧ ∀ s, s < 2 ^ n → q.2.1 32 s = nI (if s < i then Zr T (p + 1) s else Zr T p s)) (2 ^ n) (fun e => E1 32 m e.2 ∧ ∀ s, s < 2 ^ n → e.2.1 32 s = nI (Zr T (p + 1) s)) (by
      rintro i ⟨y, m1⟩ hi ⟨rfl, he, hw⟩
      dsimp only at he hw
      refine Or.inl ?_
      have e1 := hw i hi
      rw [if_neg (Nat.lt_irrefl i)] at e1
      have hib : inb (nI i) 1024 := inb_nI (by omega) (by omega)
      have hle : i &&& 2 ^ p ≤ i := Nat.and_le_left
      rw [bX4_addThoseWithout_7, ite_leN (by omega) (by omega), if_neg (by omega), show (1024 : Int32) = nI 1024 from rfl, ite_leN (by omega) (by omega), if_neg (by omega), andI, show (0 : Int32) = nI 0 from rfl, ite_eqN (by omega) (by omega), nI_1]
      by_cases hb : i.testBit p = true
      · have hne : ¬ i &&& 2 ^ p = 0 := fun z => by rw [and_pow0, hb] at z; cases z
        have hws := wo_sub i (by omega) p (by omega) hb
        have hpp := Nat.pow_pos (n := p) (show 0 < 2 by decide)
        have e2 := hw (wo i (2 ^ p)) (by omega)
        rw [if_pos (by omega)] at e2
        have hz : Zr T (p + 1) (wo i (2 ^ p)) = Zr T p (wo i (2 ^ p)) := by
          rw [Zr, if_neg, Nat.add_zero]
          rw [wo_bit, Nat.testBit_two_pow_self]; simp
        rw [if_neg hne, chk_pos hib, pk_sub (by omega), show i - 2 ^ p = wo i (2 ^ p) by omega, chk_pos (inb_nI (by omega) (by omega)), chk_pos hib, lete_eq, nI_clamp (by omega), nI_clamp (by omega), e1, e2, nI_add, hz]
        refine ⟨_, rfl, rfl, he.tr E1.mu, fun s hs => ?_⟩
        dsimp only
        rw [mu_g, if_pos rfl]
        by_cases eg : s = i
        · subst eg; rw [if_pos rfl, if_pos (by omega), Zr, if_pos hb]
        · rw [if_neg eg, hw s hs]
          have q2 : (s < i + 1) ↔ (s < i) := by omega
          simp only [q2]
      · rw [if_pos ((and_pow0 _ _).mpr (by simpa using hb))]
        refine ⟨_, rfl, rfl, he, fun s hs => ?_⟩
        dsimp only
        rw [hw s hs]
        by_cases eg : s = i
        · subst eg; rw [if_neg (Nat.lt_irrefl s), if_pos (by omega), Zr, if_neg hb, Nat.add_zero]
        · have q2 : (s < i + 1) ↔ (s < i) := by omega
          simp only [q2]) (by
      rintro ⟨y, m1⟩ ⟨rfl, he, hw⟩
      dsimp only at he hw
      refine ⟨(nI (2 ^ n), m1), ?_, he, fun s hs => ?_⟩
      · rw [bX4_addThoseWithout_7, ite_leN (by omega) (by omega), if_pos (Nat.le_refl _)]
      · have := hw s hs
        rw [if_pos hs] at this
        exact this) F 0 (nI 0, m) (Nat.zero_le _) (by omega) ⟨rfl, E1.rf _ _, fun s hs => by rw [if_neg (by omega)]; exact hv s hs⟩
  refine ⟨e.2, ?_, k2, k3⟩
  rw [gX4_addThoseWithout, lete_eq, sh1 (by omega), show (0 : Int32) = nI 0 from rfl, k1, Option.bind_some]
theorem x_sumsIn (hF : 2000 ≤ F) {T : Nat → Bool} {n : Nat} (hn : n ≤ 10) (hv : ∀ s, s < 2 ^ n → m.1 32 s = nI (Zr T 0 s)) : ∃ e, iter F (bX4_makeFor_84 F (nI n) (nI (2 ^ n))) (nI 0, m) = some e ∧ E1 32 m e.2 ∧ ∀ s, s < 2 ^ n → e.2.1 32 s = nI (Zr T n s) := by
  exact iter_inv (f := bX4_makeFor_84 F (nI n) (nI (2 ^ n))) (fun i q => q.1 = nI i ∧ E1 32 m q.2 ∧ ∀ s, s < 2 ^ n → q.2.1 32 s = nI (Zr T i s)) n (fun e => E1 32 m e.2 ∧ ∀ s, s < 2 ^ n → e.2.1 32 s = nI (Zr T n s)) (by
      rintro i ⟨y, m1⟩ hi ⟨rfl, he, hw⟩
      dsimp only at he hw
      refine Or.inl ?_
      obtain ⟨m2, g1, g2, g3⟩ := x_without hF hn hi hw
      rw [bX4_makeFor_84, ite_leN (by omega) (by omega), if_neg (by omega), g1, Option.bind_some, nI_1]
      exact ⟨_, rfl, rfl, he.tr g2, g3⟩) (by
      rintro ⟨y, m1⟩ ⟨rfl, he, hw⟩
      dsimp only at he hw
      refine ⟨(nI n, m1), ?_, he, hw⟩
      rw [bX4_makeFor_84, ite_leN (by omega) (by omega), if_pos (Nat.le_refl _)]) F 0 (nI 0, m) (Nat.zero_le _) (by omega) ⟨rfl, E1.rf _ _, hv⟩
/-- only the plans differ -/
def EP (m m' : Mem) : Prop := (∀ j, j ≠ 31 → j ≠ 32 → j ≠ 33 → j ≠ 34 → m'.1 j = m.1 j) ∧ m'.2 = m.2
theorem EP.tr {a b c : Mem} (h : EP a b) (g : EP b c) : EP a c := ⟨fun j h1 h2 h3 h4 => (g.1 j h1 h2 h3 h4).trans (h.1 j h1 h2 h3 h4), g.2.trans h.2⟩
/-- only the two rows of the best differ -/
def EB (m m' : Mem) : Prop := (∀ j, j ≠ 33 → j ≠ 34 → m'.1 j = m.1 j) ∧ m'.2 = m.2
theorem EB.rf (m : Mem) : EB m m := ⟨fun _ _ _ => rfl, rfl⟩
theorem EB.tr {a b c : Mem} (h : EB a b) (g : EB b c) : EB a c := ⟨fun j h1 h2 => (g.1 j h1 h2).trans (h.1 j h1 h2), g.2.trans h.2⟩
theorem EB.two {m : Mem} {k l : Nat} {v w : Int32} : EB m (mu (mu m 33 k v) 34 l w) := ⟨fun j h1 h2 => by rw [mu_row _ _ h2, mu_row _ _ h1], rfl⟩
theorem two_33 {m : Mem} {k l q : Nat} {v w : Int32} : (mu (mu m 33 k v) 34 l w).1 33 q = if q = k then v else m.1 33 q := by rw [mu_ne _ _ (Or.inl (by decide)), mu_g, if_pos rfl]
theorem two_34 {m : Mem} {k l q : Nat} {v w : Int32} : (mu (mu m 33 k v) 34 l w).1 34 q = if q = l then w else m.1 34 q := by
  rw [mu_g, if_pos rfl]
  by_cases e : q = l
  · rw [if_pos e, if_pos e]
  · rw [if_neg e, if_neg e, mu_ne _ _ (Or.inl (by decide))]
theorem x_best0 (hF : 2000 ≤ F) : ∃ e, iter F bX4_chooseBest_2 (nI 0, m) = some e ∧ EB m e.2 ∧ ∀ k, k ≤ 10 → e.2.1 33 k = nI 0 ∧ e.2.1 34 k = nI 0 := by
  exact iter_inv (f := bX4_chooseBest_2) (fun i q => q.1 = nI i ∧ EB m q.2 ∧ ∀ k, k < i → q.2.1 33 k = nI 0 ∧ q.2.1 34 k = nI 0) 11 (fun e => EB m e.2 ∧ ∀ k, k ≤ 10 → e.2.1 33 k = nI 0 ∧ e.2.1 34 k = nI 0) (by
      rintro i ⟨y, m1⟩ hi ⟨rfl, he, hw⟩
      dsimp only at he hw
      refine Or.inl ?_
      have hib : inb (nI i) 11 := inb_nI (by omega) (by omega)
      rw [bX4_chooseBest_2, show (10 : Int32) = nI 10 from rfl, ite_ltN (by omega) (by omega), if_neg (by omega), chk_pos hib, lete_eq, chk_pos hib, lete_eq, nI_clamp (by omega), nI_1]
      refine ⟨_, rfl, rfl, he.tr EB.two, fun k hk => ?_⟩
      dsimp only
      rw [two_33, two_34]
      by_cases e : k = i
      · rw [if_pos e, if_pos e]; exact ⟨rfl, rfl⟩
      · rw [if_neg e, if_neg e]; exact hw k (by omega)) (by
      rintro ⟨y, m1⟩ ⟨rfl, he, hw⟩
      dsimp only at he hw
      refine ⟨(nI 11, m1), ?_, he, fun k hk => hw k (by omega)⟩
      rw [bX4_chooseBest_2, show (10 : Int32) = nI 10 from rfl, ite_ltN (by omega) (by omega), if_pos (by omega)]) F 0 (nI 0, m) (Nat.zero_le _) (by omega) ⟨rfl, EB.rf _, fun k hk => absurd hk (by omega)⟩
theorem pcn_n {s n : Nat} (hn : n ≤ 31) (hs : s < 2 ^ n) : pcn s 31 ≤ n := by
  have := pcn_hi hs (31 - n)
  rw [show n + (31 - n) = 31 by omega] at this
  rw [this]
  exact pcn_le n
theorem x_bestOf (hF : 2000 ≤ F) {C : Nat → Nat} {n : Nat} (hn : n ≤ 10) (hC : ∀ s, C s ≤ 1024) (hv : ∀ s, s < 2 ^ n → m.1 32 s = nI (C s)) : ∃ m', gX4_chooseBest F m (nI (2 ^ n)) = some m' ∧ EB m m' ∧ ∀ k, k ≤ 10 → m'.1 33 k = nI (bst C k (2 ^ n)).1 ∧ m'.1 34 k = nI (bst C k (2 ^ n)).2 := by
  have h10 := pow10 hn
  obtain ⟨d, d1, d2, d3⟩ := x_best0 (m := m) hF
  obtain ⟨e, k1, k2, k3⟩ := iter_inv (f := bX4_chooseBest_30 (nI (2 ^ n))) (fun i q => q.1 = nI i ∧ EB m q.2 ∧ ∀ k, k ≤ 10 → q.2.1 33 k = nI (bst C k i).1 ∧ q.2.1 34 k = nI (bst C k i).2) (2 ^ n) (fun e => EB m e.2 ∧ ∀ k, k ≤ 10 → e.2.1 33 k = nI (bst C k (2 ^ n)).1 ∧ e.2.1 34 k = nI (bst C k (2 ^ n)).2) (by
      rintro i ⟨y, m1⟩ hi ⟨rfl, he, hw⟩
      dsimp only at he hw
      refine Or.inl ?_
      have hib : inb (nI i) 1024 := inb_nI (by omega) (by omega)
      have hpc := pcn_n (by omega) hi
      have hpb : inb (nI (pcn i 31)) 11 := inb_nI (by omega) (by omega)
      have hbl := (bst_le (k := pcn i 31) hC i).1
      have hci := hC i
      have e32 : m1.1 32 i = nI (C i) := by rw [he.1 32 (by decide) (by decide)]; exact hv i hi
      obtain ⟨w1, w2⟩ := hw (pcn i 31) (by omega)
      rw [bX4_chooseBest_30, ite_leN (by omega) (by omega), if_neg (by omega), show (1024 : Int32) = nI 1024 from rfl, ite_leN (by omega) (by omega), if_neg (by omega), bitCount_ok i (by omega), Option.bind_some, show (10 : Int32) = nI 10 from rfl, ite_ltN (by omega) (by omega), if_neg (by omega), chk_pos hib, chk_pos hpb, nI_clamp (show i < 2 ^ 31 by omega), nI_clamp (show pcn i 31 < 2 ^ 31 by omega), e32, w1, ite_leN (by omega) (by omega), nI_1]
      by_cases hc : C i ≤ (bst C (pcn i 31) i).1
      · rw [if_pos hc]
        refine ⟨_, rfl, rfl, he, fun k hk => ?_⟩
        dsimp only
        rw [bst, if_neg (by rintro ⟨rfl, z⟩; omega)]
        exact hw k hk
      · rw [if_neg hc, chk_pos hib, chk_pos hpb, lete_eq, chk_pos hpb, lete_eq]
        refine ⟨_, rfl, rfl, he.tr EB.two, fun k hk => ?_⟩
        dsimp only
        rw [two_33, two_34, bst]
        by_cases e : k = pcn i 31
        · subst e
          rw [if_pos rfl, if_pos rfl, if_pos ⟨rfl, by omega⟩]
          exact ⟨rfl, rfl⟩
        · rw [if_neg e, if_neg e, if_neg (by rintro ⟨z, -⟩; exact e z.symm)]
          exact hw k hk) (by
      rintro ⟨y, m1⟩ ⟨rfl, he, hw⟩
      dsimp only at he hw
      refine ⟨(nI (2 ^ n), m1), ?_, he, hw⟩
      rw [bX4_chooseBest_30, ite_leN (by omega) (by omega), if_pos (Nat.le_refl _)]) F 0 (nI 0, d.2) (Nat.zero_le _) (by omega) ⟨rfl, d2, d3⟩
  refine ⟨e.2, ?_, k2, k3⟩
  rw [gX4_chooseBest, show (0 : Int32) = nI 0 from rfl, d1, Option.bind_some, k1, Option.bind_some]
theorem pairs_of {h : Nat} (h2 : 2 ≤ h) (h5 : h ≤ 5) : (nI h * (nI h - 1)) / 2 = nI (Vp h).2.1 := by
  rcases h25 h2 h5 with rfl | rfl | rfl | rfl <;> decide
theorem x_makeFor (hF : 2000 ≤ F) {h : Nat} (h2 : 2 ≤ h) (h5 : h ≤ 5) (hp : IPq PMd PSd m) : ∃ m', gX4_makeFor F m (nI h) = some m' ∧ EP m m' ∧ m'.1 31 0 = nI h ∧ ∀ k, k ≤ 10 → m'.1 33 k = nI (PMd h k) ∧ m'.1 34 k = nI (PSd h k) := by
  by_cases hh : nI h = m.1 31 0
  · rcases hp with h0 | ⟨g, g2, g5, e1, e2⟩
    · rw [h0] at hh
      rw [show (0 : Int32) = nI 0 from rfl] at hh
      have := (nI_eq (show h < 2 ^ 31 by omega) (by omega)).mp hh
      omega
    · have : h = g := (nI_eq (show h < 2 ^ 31 by omega) (by omega)).mp (hh.trans e1)
      subst this
      exact ⟨m, by rw [gX4_makeFor, if_pos hh], ⟨fun _ _ _ _ _ => rfl, rfl⟩, e1, e2⟩
  · have hok := Vp_ok h2 h5
    have hn := hok.2.2.1
    obtain ⟨ma, a1, a2, a3⟩ := x_joinPairs (m := mu m 31 0 (nI h)) hF h2 h5 (mu_same _ _ _ _)
    obtain ⟨mb, b1, b2, b3⟩ := x_marks hF hok a3
    obtain ⟨mc, c1, c2, c3⟩ := x_sumsIn hF hn b3
    obtain ⟨md, d1, d2, d3⟩ := x_bestOf (m := mc.2) (C := Zr (fun t => frs (Vp h) t 1) (Vp h).2.1) hF hn (fun s => Nat.le_trans (Zr_le _ _) (pow10 hn)) c3
    refine ⟨md, ?_, ⟨fun j h1 h2 h3 h4 => ?_, ?_⟩, ?_, d3⟩
    · rw [gX4_makeFor, if_neg hh, show (2 : Int32) = nI 2 from rfl, ite_ltN (by omega) (by omega), if_neg (by omega), show (5 : Int32) = nI 5 from rfl, ite_leN (by omega) (by omega), if_pos h5, lete_eq, gX8_pairsOf, pairs_of h2 h5, Option.bind_some, a1, Option.bind_some, lete_eq, sh1 (by omega), show (0 : Int32) = nI 0 from rfl, b1, Option.bind_some, c1, Option.bind_some, d1, Option.bind_some]
    · rw [d2.1 j h3 h4, c2.1 j h2, b2.1 j h2, a2.1 j h2, mu_row _ _ h1]
    · rw [d2.2, c2.2, b2.2, a2.2]; rfl
    · rw [d2.1 31 (by decide) (by decide), c2.1 31 (by decide), b2.1 31 (by decide), a2.1 31 (by decide), mu_same]
theorem IAll.plans {PM PS : Nat → Nat → Nat} {m1 : Mem} (h : IAll PM PS m V) (hp : EP m m1) (hl : IPq PM PS m1) : IAll PM PS m1 V := by
  obtain ⟨a1, a2, a3, a4, a5, a6, a7, a8, a9, a10, a11⟩ := h
  have r := hp.1
  refine ⟨a1, a2.sm (fun k hk => r _ (by omega) (by omega) (by omega) (by omega)), a3.sm (by rw [r 43 (by decide) (by decide) (by decide) (by decide)]) (by rw [r 43 (by decide) (by decide) (by decide) (by decide)]) (fun k hk => r _ (by omega) (by omega) (by omega) (by omega)), ?_, a5.sm (by rw [r 26 (by decide) (by decide) (by decide) (by decide)]) (r 27 (by decide) (by decide) (by decide) (by decide)) (r 28 (by decide) (by decide) (by decide) (by decide)), a6.sm (by rw [r 26 (by decide) (by decide) (by decide) (by decide)]) (r 29 (by decide) (by decide) (by decide) (by decide)), a7.sm (by rw [r 22 (by decide) (by decide) (by decide) (by decide)]) (by rw [r 43 (by decide) (by decide) (by decide) (by decide)]) (r 23 (by decide) (by decide) (by decide) (by decide)) (r 52 (by decide) (by decide) (by decide) (by decide)), a8.sm (by rw [r 0 (by decide) (by decide) (by decide) (by decide)]) (by rw [r 43 (by decide) (by decide) (by decide) (by decide)]) (fun k hk => r _ (by omega) (by omega) (by omega) (by omega)) (fun k hk => by rw [r 56 (by decide) (by decide) (by decide) (by decide)]), a9.sm (by rw [r 35 (by decide) (by decide) (by decide) (by decide)]) (by rw [r 43 (by decide) (by decide) (by decide) (by decide)]) (r 36 (by decide) (by decide) (by decide) (by decide)) (r 63 (by decide) (by decide) (by decide) (by decide)), a10.sm (r 42 (by decide) (by decide) (by decide) (by decide)) (r 44 (by decide) (by decide) (by decide) (by decide)), hl⟩
  unfold IJ at a4 ⊢
  rw [r 25 (by decide) (by decide) (by decide) (by decide)]
  exact a4
end
