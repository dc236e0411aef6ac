/-! ===== the reference's readers, of a village V ===== -/
theorem or_add {a l : Nat} (h : a < 2 ^ l) : a ||| 2 ^ l = a + 2 ^ l := by
  have := Nat.two_pow_add_eq_or_of_lt h 1
  rw [Nat.mul_one] at this
  rw [Nat.or_comm, ← this, Nat.add_comm]
section
variable {V : Vd} {m : Mem} {s F : Nat}
theorem IM.at {l k : Nat} (h : IM m V) (hl : l < V.2.1) (hk : k < 7) : m.1 (45 + k) l = nI (V.2.2 l k) := h.2.2 l k hl hk
theorem m_weightOf (h : okV V) (hm : IM m V) {l : Nat} (hl : l < V.2.1) : gX9_weightOf m (nI l) = some (nI (wt (V.2.2 l))) := by
  have hn := h.2.2.1
  have e0 : m.1 45 l = nI (V.2.2 l 0) := hm.at (k := 0) hl (by decide)
  have e3 : m.1 48 l = nI (V.2.2 l 3) := hm.at (k := 3) hl (by decide)
  have b := (h.2.2.2 l hl).1
  have hi : inb (nI l) 11 := inb_nI (by omega) (by omega)
  unfold gX9_weightOf wt
  simp only [chk_pos hi]
  rw [nI_clamp (by omega), e0, e3, show (1 : Int32) = nI 1 from rfl, show (5 : Int32) = nI 5 from rfl, show (2 : Int32) = nI 2 from rfl, pk_mul, nI_add, ite_eqN (by omega) (by omega), ite_eqN (by omega) (by omega)]
  split
  · rfl
  · split <;> rfl
theorem m_costOf (h : okV V) (hm : IM m V) {l : Nat} (hl : l < V.2.1) : gX9_costOf m (nI l) = some (nI (ct (V.2.2 l))) := by
  have hn := h.2.2.1
  have e0 : m.1 45 l = nI (V.2.2 l 0) := hm.at (k := 0) hl (by decide)
  have e4 : m.1 49 l = nI (V.2.2 l 4) := hm.at (k := 4) hl (by decide)
  have b := (h.2.2.2 l hl).1
  have b4 := (h.2.2.2 l hl).2.2.2.2.2.2.1
  have hi : inb (nI l) 11 := inb_nI (by omega) (by omega)
  unfold gX9_costOf ct
  simp only [chk_pos hi]
  rw [nI_clamp (by omega), e0, e4, show (4 : Int32) = nI 4 from rfl, show (5 : Int32) = nI 5 from rfl, show (2 : Int32) = nI 2 from rfl, show (10 : Int32) = nI 10 from rfl, nI_add, pk_mul, pk_div (by omega) (by omega) (by omega), ite_eqN (by omega) (by omega), ite_eqN (by omega) (by omega), ite_eqN (by omega) (by omega)]
  (repeat' split) <;> rfl
theorem m_driftOf (h : okV V) (hm : IM m V) {l : Nat} (hl : l < V.2.1) : gX9_driftOf m (nI l) = some (nI (dr (V.2.2 l))) := by
  have hn := h.2.2.1
  have e0 : m.1 45 l = nI (V.2.2 l 0) := hm.at (k := 0) hl (by decide)
  have e5 : m.1 50 l = nI (V.2.2 l 5) := hm.at (k := 5) hl (by decide)
  have b := (h.2.2.2 l hl).1
  have b5 := (h.2.2.2 l hl).2.2.2.2.2.2.2.1
  have hi : inb (nI l) 11 := inb_nI (by omega) (by omega)
  unfold gX9_driftOf dr lete
  simp only [chk_pos hi]
  rw [nI_clamp (by omega), e0, e5, show (4 : Int32) = nI 4 from rfl, show (20 : Int32) = nI 20 from rfl, show (99 : Int32) = nI 99 from rfl, nI_add, ite_eqN (by omega) (by omega), ite_leN (by omega) (by omega), ite_leN (by omega) (by omega)]
  split
  · split
    · split
      · rfl
      · rename_i h1 h2
        have : V.2.2 l 5 + 20 = 99 := by omega
        rw [this]
    · split
      · omega
      · rfl
  · first | rfl | rw [if_pos (by omega)]
theorem m_isLane (h : okV V) (hm : IM m V) (a : Int32) : gX9_isLane m a = some (decide (¬ a < 0 ∧ ¬ nI V.2.1 ≤ a)) := by
  unfold gX9_isLane
  rw [hm.2.1]
  by_cases h0 : a < 0
  · simp [h0]
  · by_cases h1 : nI V.2.1 ≤ a <;> simp [h0, h1]
theorem m_ruledAs (hF : 2000 ≤ F) (h : okV V) (hm : IM m V) {x : Nat} (hx : x ≤ 2) : gX9_ruledAs F m (nI x) = some (nI (rB V.2.2 x V.2.1)) := by
  have hn := h.2.2.1
  unfold gX9_ruledAs
  suffices e9 : iter F (bX9_ruledAs_4 m (nI x)) (0, 0) = some (nI (rB V.2.2 x V.2.1), nI V.2.1) by rw [e9]; rfl
  refine iter_at (fun i => (nI (rB V.2.2 x i), nI i)) V.2.1 (nI (rB V.2.2 x V.2.1), nI V.2.1) (fun i hi => ?_) ?_ (by omega)
  · have b6 := (h.2.2.2 i hi).2.2.2.2.2.2.2.2
    have e6 : m.1 51 i = nI (V.2.2 i 6) := hm.at (k := 6) hi (by decide)
    simp only [bX9_ruledAs_4, lete]
    rw [hm.2.1, ite_leN (by omega) (by omega), if_neg (by omega), chk_pos (inb_nI (by omega) (by omega)), nI_clamp (by omega), e6, ite_eqN (by omega) (by omega), sh1 (by omega), show (0 : Int32) = nI 0 from rfl, orI, orI, or_add (rB_lt _ _ _), Nat.or_zero, nI_1]
    simp only [rB]
    split <;> rfl
  · simp only [bX9_ruledAs_4]
    rw [hm.2.1, ite_leN (by omega) (by omega), if_pos (by omega)]
theorem sub_and {a b : Nat} : wo a b = 0 ↔ b &&& a = a := by
  constructor
  · intro h
    apply Nat.eq_of_testBit_eq
    intro i
    have h1 : (wo a b).testBit i = false := by rw [h]; exact Nat.zero_testBit i
    rw [wo_bit] at h1
    rw [Nat.testBit_and]
    cases ha : a.testBit i <;> cases hb : b.testBit i <;> simp_all
  · intro h
    apply Nat.eq_of_testBit_eq
    intro i
    have h1 : (b &&& a).testBit i = a.testBit i := by rw [h]
    rw [Nat.testBit_and] at h1
    rw [wo_bit, Nat.zero_testBit]
    cases ha : a.testBit i <;> cases hb : b.testBit i <;> simp_all
theorem m_isRuled (hF : 2000 ≤ F) (h : okV V) (hm : IM m V) (hs : s < 2 ^ V.2.1) : gX9_isRuled F m (nI s) = some (alw V s) := by
  have h1 := h.sl hs
  have h2 := Nat.lt_of_lt_of_le (mus_lt (V := V)) (pow10 h.2.2.1)
  have h3 : wo (mus V) s < 1024 := Nat.lt_of_lt_of_le (wo_lt (mus_lt (V := V))) (pow10 h.2.2.1)
  have h5 : s &&& bar V ≤ s := Nat.and_le_left
  unfold gX9_isRuled alw
  rw [show (2 : Int32) = nI 2 from rfl, m_ruledAs hF h hm (by omega), Option.bind_some, show (1 : Int32) = nI 1 from rfl, m_ruledAs hF h hm (by omega), Option.bind_some]
  show (if nI s &&& nI (bar V) = 0 then if nI (mus V) &&& (nI s ^^^ (-1)) = 0 then some true else some false else some false) = _
  rw [andI, woI, show (0 : Int32) = nI 0 from rfl, ite_eqN (by omega) (by omega), ite_eqN (by omega) (by omega)]
  by_cases e1 : wo (mus V) s = 0
  · have e3 := sub_and.mp e1
    by_cases e2 : s &&& bar V = 0 <;> simp [e1, e2, e3]
  · have e3 : ¬ s &&& mus V = mus V := fun q => e1 (sub_and.mpr q)
    by_cases e2 : s &&& bar V = 0 <;> simp [e1, e2, e3]
theorem m_allLanes (h : okV V) (hm : IM m V) : gX9_allLanes m = some (nI (2 ^ V.2.1 - 1)) := by
  unfold gX9_allLanes
  rw [hm.2.1, sh1 (by have := h.2.2.1; omega), show (1 : Int32) = nI 1 from rfl, pk_sub (Nat.one_le_two_pow)]
theorem m_areLanes (h : okV V) (hm : IM m V) (a : Int32) : gX9_areLanes m a = some (decide ((a &&& (nI (2 ^ V.2.1 - 1) ^^^ (-1))) = 0)) := by
  unfold gX9_areLanes
  rw [m_allLanes h hm, Option.bind_some, tf_if]
  by_cases h0 : a < 0
  · rw [if_pos h0]
    symm
    congr 1
    apply decide_eq_false
    intro q
    obtain ⟨s, hs, rfl⟩ := set_of h.2.2.1 q
    have := h.sl hs
    exact nI_pos (by omega) h0
  · rw [if_neg h0]
theorem m_bits (hF : 2000 ≤ F) (hs : s < 2 ^ 31) : gX9_bits F (nI s) = some (nI (pcn s 31)) := by
  unfold gX9_bits
  suffices e9 : iter F (bX9_bits_4 (nI s)) (0, 0) = some (nI (pcn s 31), nI 31) by rw [e9]; rfl
  refine iter_at (fun i => (nI (pcn s i), nI i)) 31 (nI (pcn s 31), nI 31) (fun i hi => ?_) ?_ (by omega)
  · simp only [bX9_bits_4, lete]
    rw [show (31 : Int32) = nI 31 from rfl, ite_leN (by omega) (by omega), if_neg (by omega), ← show (31 : Int32) = nI 31 from rfl, bitq hs hi, nI_add, nI_1]
    simp only [pcn]
    congr 3
    rw [tb_div]
    simp only [decide_eq_true_eq]
    generalize s / 2 ^ i = q
    rcases Nat.mod_two_eq_zero_or_one q with e | e <;> simp [e]
  · simp only [bX9_bits_4]
    rw [show (31 : Int32) = nI 31 from rfl, ite_leN (by omega) (by omega), if_pos (by omega)]
theorem pcn_hi {s n : Nat} (hs : s < 2 ^ n) : ∀ k, pcn s (n + k) = pcn s n
  | 0 => rfl
  | k + 1 => by
    rw [← Nat.add_assoc, pcn, tb_hi hs (by omega), pcn_hi hs k]
    rfl
theorem m_bitsV (hF : 2000 ≤ F) (h : okV V) (hs : s < 2 ^ V.2.1) : gX9_bits F (nI s) = some (nI (pcn s V.2.1)) := by
  have h1 := h.sl hs
  have h2 := h.2.2.1
  rw [m_bits hF (by omega)]
  have := pcn_hi hs (31 - V.2.1)
  rw [show V.2.1 + (31 - V.2.1) = 31 by omega] at this
  rw [this]
def E57 (m m' : Mem) : Prop := (∀ j, j ≠ 57 → m'.1 j = m.1 j) ∧ m'.2 = m.2
theorem E57.rf (m : Mem) : E57 m m := ⟨fun _ _ => rfl, rfl⟩
theorem E57.tr {a b c : Mem} (h : E57 a b) (g : E57 b c) : E57 a c := ⟨fun j hj => (g.1 j hj).trans (h.1 j hj), g.2.trans h.2⟩
theorem E57.mu {m : Mem} {k : Nat} {v : Int32} : E57 m (mu m 57 k v) := ⟨fun _ hj => mu_row m v hj, rfl⟩
theorem E57.im {m m' : Mem} {V : Vd} (h : E57 m m') (hm : IM m V) : IM m' V := hm.sm (by rw [h.1 43 (by decide)]) (by rw [h.1 43 (by decide)]) (fun k hk => h.1 _ (by omega))
theorem E57.sm {m m' : Mem} (h : E57 m m') : Sm m m' := ⟨fun j hj => h.1 j (fun e => by subst e; cases hj), fun k _ => by rw [h.1 43 (by decide)], fun k _ => by rw [h.1 56 (by decide)]⟩
set_option maxHeartbeats 2000000 in
theorem m_relabel (hF : 2000 ≤ F) (h : okV V) (hm : IM m V) {p : Nat → Nat} {a b : Nat} (hp : ∀ h, h < V.1 → p h < 2 ^ 31) (hb : b < 2 ^ 31) (hl : ∀ h, h < V.1 → m.1 57 h = nI (p h)) : ∃ e, iter F (bX9_partsOf_88 (nI a) (nI b)) (nI 0, m) = some e ∧ E57 m e.2 ∧ ∀ h, h < V.1 → e.2.1 57 h = nI (if p h = b then a else p h) := by
  have hH := h.2.1
  obtain ⟨e, h1, h2⟩ := iter_inv (f := bX9_partsOf_88 (nI a) (nI b)) (fun i s => s.1 = nI i ∧ E57 m s.2 ∧ ∀ h, h < V.1 → s.2.1 57 h = nI (if h < i then (if p h = b then a else p h) else p h)) V.1 (fun e => E57 m e.2 ∧ ∀ h, h < V.1 → e.2.1 57 h = nI (if p h = b then a else p h)) (by
      rintro i ⟨y, m1⟩ hi ⟨rfl, he, hv⟩
      dsimp only at he hv
      have hib : inb (nI i) 7 := inb_nI (by omega) (by omega)
      refine Or.inl ?_
      have hm1 := he.im hm
      have e1 := hv i hi
      rw [if_neg (Nat.lt_irrefl i)] at e1
      have ep := hp i hi
      simp only [bX9_partsOf_88, lete, chk_pos hib]
      rw [hm1.1, ite_leN (by omega) (by omega), if_neg (by omega), nI_clamp (by omega), e1, ite_eqN ep hb]
      by_cases q : p i = b
      · rw [if_pos q]
        refine ⟨_, rfl, nI_1 i, he.tr E57.mu, fun g hg => ?_⟩
        rw [mu_g]
        by_cases eg : g = i
        · subst eg; simp [q]
        · have := hv g hg
          have q2 : (g < i + 1) ↔ (g < i) := by omega
          simp [eg, this, q2]
      · rw [if_neg q]
        refine ⟨_, rfl, nI_1 i, he.tr E57.mu, fun g hg => ?_⟩
        rw [mu_g]
        by_cases eg : g = i
        · subst eg; simp [q]
        · have := hv g hg
          have q2 : (g < i + 1) ↔ (g < i) := by omega
          simp [eg, this, q2]) (by
      rintro ⟨y, m1⟩ ⟨rfl, he, hv⟩
      dsimp only at he hv
      refine ⟨(nI V.1, m1), ?_, he, fun g hg => by have := hv g hg; rw [if_pos hg] at this; exact this⟩
      simp only [bX9_partsOf_88]
      rw [(he.im hm).1, ite_leN (by omega) (by omega), if_pos (by omega)]) F 0 (nI 0, m) (Nat.zero_le _) (by omega) ⟨rfl, E57.rf m, fun g hg => by simp [hl g hg]⟩
  exact ⟨e, h1, h2⟩
theorem pl_lt (f : Nat → Nat → Nat) (s H : Nat) : ∀ k, (∀ l, l < k → f l 1 < H ∧ f l 2 < H) → ∀ h, h < H → pl f s k h < H
  | 0, _, h, hh => hh
  | k + 1, g, h, hh => by
    have i := pl_lt f s H k (fun l hl => g l (by omega))
    simp only [pl]
    split
    · split
      · exact i _ (g k (by omega)).1
      · exact i h hh
    · exact i h hh
set_option maxHeartbeats 2000000 in
theorem m_partsOf (hF : 2000 ≤ F) (h : okV V) (hm : IM m V) (hs : s < 2 ^ V.2.1) : ∃ m', gX9_partsOf F m (nI s) = some (nI (prt V s), m') ∧ E57 m m' ∧ ∀ g, g < V.1 → m'.1 57 g = nI (pl V.2.2 s V.2.1 g) := by
  have hH := h.2.1
  have hn := h.2.2.1
  have h10 := h.sl hs
  obtain ⟨e, h1, h2, h3⟩ := iter_inv (f := bX9_partsOf_2) (fun i s => s.1 = nI i ∧ E57 m s.2 ∧ ∀ g, g < i → s.2.1 57 g = nI g) V.1 (fun e => E57 m e.2 ∧ ∀ g, g < V.1 → e.2.1 57 g = nI g) (by
      rintro i ⟨y, m1⟩ hi ⟨rfl, he, hv⟩
      dsimp only at he hv
      have hib : inb (nI i) 7 := inb_nI (by omega) (by omega)
      refine Or.inl ?_
      simp only [bX9_partsOf_2, lete, chk_pos hib]
      rw [(he.im hm).1, ite_leN (by omega) (by omega), if_neg (by omega), nI_clamp (by omega)]
      refine ⟨_, rfl, nI_1 i, he.tr E57.mu, fun g hg => ?_⟩
      rw [mu_g]
      by_cases eg : g = i
      · subst eg; simp
      · simp [eg, hv g (by omega)]) (by
      rintro ⟨y, m1⟩ ⟨rfl, he, hv⟩
      dsimp only at he hv
      refine ⟨(nI V.1, m1), ?_, he, hv⟩
      simp only [bX9_partsOf_2]
      rw [(he.im hm).1, ite_leN (by omega) (by omega), if_pos (by omega)]) F 0 (nI 0, m) (Nat.zero_le _) (by omega) ⟨rfl, E57.rf m, fun g hg => absurd hg (by omega)⟩
  have hm1 := h2.im hm
  obtain ⟨d, k1, k2, k3, k4⟩ := iter_inv (f := bX9_partsOf_30 F (nI s)) (fun i q => q.1 = nI (V.1 - jn V.2.2 s i) ∧ q.2.1 = nI i ∧ E57 e.2 q.2.2 ∧ ∀ g, g < V.1 → q.2.2.1 57 g = nI (pl V.2.2 s i g)) V.2.1 (fun q => q.1 = nI (prt V s) ∧ E57 e.2 q.2.2 ∧ ∀ g, g < V.1 → q.2.2.1 57 g = nI (pl V.2.2 s V.2.1 g)) (by
      rintro i ⟨y, z, m1⟩ hi ⟨rfl, hz, he, hv⟩
      dsimp only at hz he hv ⊢
      subst hz
      refine Or.inl ?_
      have hm2 := he.im hm1
      have ok := h.2.2.2 i hi
      have c1 := ok.2.1
      have c2 := ok.2.2.1
      have e1 : m1.1 46 i = nI (V.2.2 i 1) := hm2.at (k := 1) hi (by decide)
      have e2 : m1.1 47 i = nI (V.2.2 i 2) := hm2.at (k := 2) hi (by decide)
      have pb := pl_lt V.2.2 s V.1 i (fun l hl => ⟨(h.2.2.2 l (by omega)).2.1, (h.2.2.2 l (by omega)).2.2.1⟩)
      have p1 := pb _ c1
      have p2 := pb _ c2
      simp only [bX9_partsOf_30, lete]
      rw [hm2.2.1, ite_leN (by omega) (by omega), if_neg (by omega), chk_pos (inb_nI (by omega) (by omega)), nI_clamp (by omega), e1, chk_pos (inb_nI (by omega) (by omega)), nI_clamp (by omega), hv _ c1, chk_pos (inb_nI (by omega) (by omega)), e2, chk_pos (inb_nI (by omega) (by omega)), nI_clamp (by omega), hv _ c2, ite_bit0 (by omega) (by omega), ite_eqN (by omega) (by omega)]
      have pj := pl_lb V.2.2 s i (V.2.2 i 1) (V.2.2 i 2)
      by_cases hb : s.testBit i = true
      · rw [if_pos hb]
        by_cases hq : pl V.2.2 s i (V.2.2 i 1) = pl V.2.2 s i (V.2.2 i 2)
        · rw [if_pos hq]
          have ej : jn V.2.2 s (i + 1) = jn V.2.2 s i := by simp [jn, hb, pj.mp hq]
          refine ⟨_, rfl, by rw [ej], nI_1 i, he, fun g hg => ?_⟩
          rw [hv g hg]
          simp only [pl, hb, hq, ne_eq, not_true_eq_false, and_false, if_false]
        · rw [if_neg hq]
          obtain ⟨r, r1, r2, r3⟩ := m_relabel hF h hm2 (p := pl V.2.2 s i) (a := pl V.2.2 s i (V.2.2 i 1)) (b := pl V.2.2 s i (V.2.2 i 2)) (fun g hg => by have := pb g hg; omega) (by omega) hv
          rw [show (0 : Int32) = nI 0 from rfl, r1, Option.bind_some]
          have hq2 : ¬ lb V.2.2 s i (V.2.2 i 1) = lb V.2.2 s i (V.2.2 i 2) := fun q => hq (pj.mpr q)
          have ej : jn V.2.2 s (i + 1) = jn V.2.2 s i + 1 := by simp [jn, hb, hq2]
          have jb := jn_rt V.2.2 s (H := V.1) (i + 1) (fun l hl => ⟨(h.2.2.2 l (by omega)).2.1, (h.2.2.2 l (by omega)).2.2.1⟩)
          refine ⟨_, rfl, ?_, nI_1 i, he.tr r2, fun g hg => ?_⟩
          · dsimp only
            rw [ej, show V.1 - jn V.2.2 s i = (V.1 - (jn V.2.2 s i + 1)) + 1 by omega]
            exact pk_m1 _
          · rw [r3 g hg]
            simp only [pl, hb, hq, ne_eq, not_false_eq_true, and_self, if_true]
      · rw [if_neg hb]
        have ej : jn V.2.2 s (i + 1) = jn V.2.2 s i := by simp [jn, hb]
        refine ⟨_, rfl, by rw [ej], nI_1 i, he, fun g hg => ?_⟩
        rw [hv g hg]
        simp [pl, hb]) (by
      rintro ⟨y, z, m1⟩ ⟨rfl, hz, he, hv⟩
      dsimp only at hz he hv ⊢
      subst hz
      refine ⟨(nI (V.1 - jn V.2.2 s V.2.1), nI V.2.1, m1), ?_, rfl, he, hv⟩
      simp only [bX9_partsOf_30]
      rw [(he.im hm1).2.1, ite_leN (by omega) (by omega), if_pos (by omega)]) F 0 (nI V.1, nI 0, e.2) (Nat.zero_le _) (by omega) ⟨rfl, rfl, E57.rf _, fun g hg => h3 g hg⟩
  refine ⟨d.2.2, ?_, h2.tr k3, k4⟩
  simp only [gX9_partsOf, lete]
  rw [show (0 : Int32) = nI 0 from rfl, h1, Option.bind_some, hm1.1, k1, Option.bind_some, k2]
/-- whether a set is a forest of so many parts; if it is, the marks of the parts stay behind -/
theorem m_isForest (hF : 2000 ≤ F) (h : okV V) (hm : IM m V) (hs : s < 2 ^ V.2.1) {p : Nat} (hp : p ≤ 7) : ∃ m', gX9_isForest F m (nI s) (nI p) = some (frs V s p, m') ∧ E57 m m' ∧ (frs V s p = true → ∀ g, g < V.1 → m'.1 57 g = nI (pl V.2.2 s V.2.1 g)) := by
  have hH := h.2.1
  have hn := h.2.2.1
  have hj := h.jn s
  have hpc := pc_jr V.2.2 s V.2.1
  have hpl : pcn s V.2.1 ≤ 31 := by
    have : ∀ k, pcn s k ≤ k := fun k => by
      induction k with
      | zero => exact Nat.le_refl 0
      | succ k ih => rw [pcn]; split <;> omega
    have := this V.2.1
    omega
  unfold gX9_isForest
  rw [m_bitsV hF h hs, Option.bind_some, hm.1]
  by_cases hc : p ≤ V.1 ∧ pcn s V.2.1 = V.1 - p
  · rw [pk_sub hc.1, hc.2, if_pos rfl]
    obtain ⟨m', h1, h2, h3⟩ := m_partsOf hF h hm hs
    have hP : prt V s ≤ 7 := by unfold prt; omega
    rw [h1, Option.bind_some]
    dsimp only
    rw [ite_eqN (by omega) (by omega)]
    by_cases hq : prt V s = p
    · have ef : frs V s p = true := by
        unfold frs
        simp only [decide_eq_true_eq]
        refine ⟨?_, hq⟩
        unfold prt at hq
        omega
      exact ⟨m', by rw [if_pos hq, ef], h2, fun _ => h3⟩
    · have ef : frs V s p = false := by
        unfold frs
        simp [hq]
      exact ⟨m', by rw [if_neg hq, ef], h2, fun _ => h3⟩
  · have ef : frs V s p = false := by
      unfold frs
      simp only [decide_eq_false_iff_not]
      rintro ⟨e1, e2⟩
      apply hc
      unfold prt at e2
      constructor <;> omega
    have hne : ¬ nI (pcn s V.2.1) = nI V.1 - nI p := by
      intro q
      have q2 := congrArg Int32.toInt q
      rw [nI_toInt (by omega), pk_sub_toInt (by omega) (by omega)] at q2
      apply hc
      constructor <;> omega
    rw [if_neg hne, ef]
    exact ⟨m, rfl, E57.rf m, fun q => by cases q⟩
theorem m_isWay (hF : 2000 ≤ F) (h : okV V) (hm : IM m V) (hs : s < 2 ^ V.2.1) : ∃ m', gX9_isWay F m (nI s) = some (isW V s, m') ∧ E57 m m' := by
  unfold gX9_isWay isW
  rw [m_areLanes h hm, set_not hs]
  simp only [decide_true, Option.bind_some, if_true]
  obtain ⟨m', h1, h2, -⟩ := m_isForest hF h hm hs (p := 1) (by omega)
  rw [show (1 : Int32) = nI 1 from rfl, h1, Option.bind_some]
  dsimp only
  by_cases hf : frs V s 1 = true
  · rw [if_pos hf, m_isRuled hF h (h2.im hm) hs, Option.bind_some, hf]
    exact ⟨m', by cases alw V s <;> rfl, h2⟩
  · rw [if_neg hf]
    have : frs V s 1 = false := by simpa using hf
    rw [this, Bool.and_false]
    exact ⟨m', rfl, h2⟩
theorem m_isWayNot (h : okV V) (hm : IM m V) {a : Int32} (ha : ¬ (a &&& (nI (2 ^ V.2.1 - 1) ^^^ (-1))) = 0) : gX9_isWay F m a = some (false, m) := by
  unfold gX9_isWay
  rw [m_areLanes h hm, decide_eq_false ha]
  rfl
theorem m_worthOf (hF : 2000 ≤ F) (h : okV V) (hm : IM m V) (hs : s < 2 ^ V.2.1) : gX9_worthOf F m (nI s) = some (lN (wrt V s)) := by
  have hn := h.2.2.1
  have h10 := h.sl hs
  unfold gX9_worthOf
  suffices e9 : iter F (bX9_worthOf_5 m (nI s)) (1, 0) = some (lN (wrt V s), nI V.2.1) by rw [e9]; rfl
  refine iter_at (fun i => (lN (wth V.2.2 s i), nI i)) V.2.1 (lN (wrt V s), nI V.2.1) (fun i hi => ?_) ?_ (by omega)
  · have hw := h.wt hi
    simp only [bX9_worthOf_5, lete]
    rw [hm.2.1, ite_leN (by omega) (by omega), if_neg (by omega), ite_bit1 (by omega) (by omega), m_weightOf h hm hi, Option.bind_some, nI_l (by omega), show (1 : Int64) = lN 1 from rfl, lN_mul, lN_mul, nI_1]
    simp only [wth]
    split <;> rfl
  · simp only [bX9_worthOf_5]
    rw [hm.2.1, ite_leN (by omega) (by omega), if_pos (by omega)]
    rfl
theorem m_costsOf (hF : 2000 ≤ F) (h : okV V) (hm : IM m V) (hs : s < 2 ^ V.2.1) : gX9_costsOf F m (nI s) = some (nI (cos V s)) := by
  have hn := h.2.2.1
  have h10 := h.sl hs
  unfold gX9_costsOf
  suffices e9 : iter F (bX9_costsOf_4 m (nI s)) (0, 0) = some (nI (cos V s), nI V.2.1) by rw [e9]; rfl
  refine iter_at (fun i => (nI (cst V.2.2 s i), nI i)) V.2.1 (nI (cos V s), nI V.2.1) (fun i hi => ?_) ?_ (by omega)
  · simp only [bX9_costsOf_4, lete]
    rw [hm.2.1, ite_leN (by omega) (by omega), if_neg (by omega), m_costOf h hm hi, Option.bind_some, bitq (by omega) (by omega), pk_mul, nI_add, nI_1]
    simp only [cst]
    congr 3
    rw [tb_div]
    simp only [decide_eq_true_eq]
    generalize s / 2 ^ i = q
    rcases Nat.mod_two_eq_zero_or_one q with e | e <;> simp [e]
  · simp only [bX9_costsOf_4]
    rw [hm.2.1, ite_leN (by omega) (by omega), if_pos (by omega)]
    rfl
theorem x_worthOf (hF : 2000 ≤ F) (h : okV V) {v : Nat} (hx : IX m v V) (hs : s < 2 ^ V.2.1) : gX6_worthOf F m v (nI s) = some (nI (wrt V s)) := by
  have hn := h.2.2.1
  have h10 := h.sl hs
  unfold gX6_worthOf
  suffices e9 : iter F (bX6_worthOf_4 m v (nI s)) (1, 0) = some (nI (wrt V s), nI V.2.1) by rw [e9]; rfl
  refine iter_at (fun i => (nI (wth V.2.2 s i), nI i)) V.2.1 (nI (wrt V s), nI V.2.1) (fun i hi => ?_) ?_ (by omega)
  · simp only [bX6_worthOf_4, lete]
    rw [hx.2.1, ite_leN (by omega) (by omega), if_neg (by omega), show (10 : Int32) = nI 10 from rfl, ite_leN (by omega) (by omega), if_neg (by omega), ite_bit0 (by omega) (by omega), chk_pos (inb_nI (by omega) (by omega)), nI_clamp (by omega), (hx.2.2.2.2 i hi).2.2.2.1, pk_mul, nI_1]
    simp only [wth]
    split
    · rfl
    · rw [Nat.mul_one]
  · simp only [bX6_worthOf_4]
    rw [hx.2.1, ite_leN (by omega) (by omega), if_pos (by omega)]
    rfl
theorem x_costOf (hF : 2000 ≤ F) (h : okV V) {v : Nat} (hx : IX m v V) (hs : s < 2 ^ V.2.1) : gX6_costOf F m v (nI s) = some (nI (cos V s)) := by
  have hn := h.2.2.1
  have h10 := h.sl hs
  unfold gX6_costOf
  suffices e9 : iter F (bX6_costOf_4 m v (nI s)) (0, 0) = some (nI (cos V s), nI V.2.1) by rw [e9]; rfl
  refine iter_at (fun i => (nI (cst V.2.2 s i), nI i)) V.2.1 (nI (cos V s), nI V.2.1) (fun i hi => ?_) ?_ (by omega)
  · simp only [bX6_costOf_4, lete]
    rw [hx.2.1, ite_leN (by omega) (by omega), if_neg (by omega), show (10 : Int32) = nI 10 from rfl, ite_leN (by omega) (by omega), if_neg (by omega), ite_bit0 (by omega) (by omega), chk_pos (inb_nI (by omega) (by omega)), nI_clamp (by omega), (hx.2.2.2.2 i hi).2.2.2.2.1, nI_add, nI_1]
    simp only [cst]
    split
    · rfl
    · rfl
  · simp only [bX6_costOf_4]
    rw [hx.2.1, ite_leN (by omega) (by omega), if_pos (by omega)]
    rfl
/-- what finding the ways may change -/
def EW (m m' : Mem) : Prop := (∀ j, j ≠ 57 → j ≠ 58 → j ≠ 43 → m'.1 j = m.1 j) ∧ (∀ k, k ≠ 24 → m'.1 43 k = m.1 43 k) ∧ ∀ j, j ≠ 59 → m'.2 j = m.2 j
theorem EW.rf (m : Mem) : EW m m := ⟨fun _ _ _ _ => rfl, fun _ _ => rfl, fun _ _ => rfl⟩
theorem EW.tr {a b c : Mem} (h : EW a b) (g : EW b c) : EW a c := ⟨fun j h1 h2 h3 => (g.1 j h1 h2 h3).trans (h.1 j h1 h2 h3), fun k hk => (g.2.1 k hk).trans (h.2.1 k hk), fun j hj => (g.2.2 j hj).trans (h.2.2 j hj)⟩
theorem E57.ew {m m' : Mem} (h : E57 m m') : EW m m' := ⟨fun j h1 _ _ => h.1 j h1, fun k _ => by rw [h.1 43 (by decide)], fun j _ => by rw [h.2]⟩
theorem EW.im {m m' : Mem} {V : Vd} (h : EW m m') (hm : IM m V) : IM m' V := hm.sm (h.2.1 8 (by decide)) (h.2.1 9 (by decide)) (fun k hk => h.1 _ (by omega) (by omega) (by omega))
theorem EW.sm {m m' : Mem} (h : EW m m') : Sm m m' := ⟨fun j hj => h.1 j (fun e => by subst e; cases hj) (fun e => by subst e; cases hj) (fun e => by subst e; cases hj), fun k hk => h.2.1 k (fun e => by subst e; cases hk), fun k _ => by rw [h.1 56 (by decide) (by decide) (by decide)]⟩
theorem EW.mu58 {m : Mem} {k : Nat} {v : Int32} : EW m (mu m 58 k v) := ⟨fun j _ h _ => mu_row m v h, fun k _ => by rw [mu_row m v (by decide)], fun _ _ => rfl⟩
theorem EW.mu24 {m : Mem} {v : Int32} : EW m (mu m 43 24 v) := ⟨fun j _ _ h => mu_row m v h, fun k hk => mu_ne m v (Or.inr hk), fun _ _ => rfl⟩
theorem EW.muL {m : Mem} {k : Nat} {v : Int64} : EW m (muL m 59 k v) := ⟨fun j _ _ _ => rfl, fun _ _ => rfl, fun j hj => (muL_o j hj).2⟩
def wys (V : Vd) (i : Nat) : List Nat := (List.range i).filter (isW V)
theorem wys_succ (V : Vd) (i : Nat) : wys V (i + 1) = wys V i ++ (if isW V i = true then [i] else []) := by
  unfold wys
  rw [List.range_succ, List.filter_append]
  congr 1
  by_cases h : isW V i = true
  · simp [h]
  · simp [h]
theorem wys_len (V : Vd) (i : Nat) : (wys V i).length ≤ i := by
  unfold wys
  exact Nat.le_trans (List.length_filter_le _ _) (by simp)
/-- the reference has found the ways -/
def FW (m : Mem) (V : Vd) (L : List Nat) : Prop := m.1 43 24 = nI L.length ∧ ∀ i s, L[i]? = some s → m.1 58 i = nI s ∧ m.2 59 i = lN (wrt V s)
theorem muL_g (m : Mem) (j k i q : Nat) (v : Int64) : (muL m j k v).2 i q = if i = j then (if q = k then v else m.2 i q) else m.2 i q := by
  unfold muL
  by_cases h : i = j
  · subst h
    simp [vp_updL]
  · simp [h]
set_option maxHeartbeats 2000000 in
theorem m_findWays (hF : 2000 ≤ F) (h : okV V) (hm : IM m V) : ∃ m', gX9_findWays F m = some m' ∧ EW m m' ∧ FW m' V (ways V) := by
  have hn := h.2.2.1
  have hp := pow10 hn
  have h0 : EW m (mu m 43 24 0) := EW.mu24
  obtain ⟨e, h1, h2, h3⟩ := iter_inv (f := bX9_findWays_7 F) (fun i q => q.1 = nI i ∧ EW (mu m 43 24 0) q.2 ∧ FW q.2 V (wys V i)) (2 ^ V.2.1) (fun q => EW (mu m 43 24 0) q.2 ∧ FW q.2 V (ways V)) (by
      rintro i ⟨y, m1⟩ hi ⟨rfl, he, hw⟩
      dsimp only at he hw
      refine Or.inl ?_
      have hm1 := he.im (h0.im hm)
      have hlen := wys_len V i
      obtain ⟨m2, g1, g2⟩ := m_isWay hF h hm1 hi
      have hw2 : FW m2 V (wys V i) := by
        unfold FW at hw ⊢
        rw [g2.1 43 (by decide), g2.1 58 (by decide), g2.2]
        exact hw
      simp only [bX9_findWays_7, lete]
      rw [m_allLanes h hm1, Option.bind_some, ite_ltN (by omega) (by omega), if_neg (by omega), g1, Option.bind_some]
      dsimp only
      by_cases hq : isW V i = true
      · have hm3 : IM (mu m2 58 (wys V i).length (nI i)) V := EW.mu58.im ((g2.ew).im hm1)
        have e24 : (mu m2 58 (wys V i).length (nI i)).1 43 24 = nI (wys V i).length := by rw [mu_ne _ _ (Or.inl (by decide))]; exact hw2.1
        rw [if_pos hq, hw2.1, chk_pos (inb_nI (by omega) (by omega)), nI_clamp (by omega), m_worthOf hF h hm3 hi, Option.bind_some, e24, chk_pos (inb_nI (by omega) (by omega)), nI_clamp (by omega)]
        have e25 : (muL (mu m2 58 (wys V i).length (nI i)) 59 (wys V i).length (lN (wrt V i))).1 43 24 = nI (wys V i).length := e24
        rw [e25, nI_1, nI_1]
        refine ⟨_, rfl, rfl, he.tr ((g2.ew).tr (EW.mu58.tr (EW.muL.tr EW.mu24))), ?_, ?_⟩
        · rw [mu_same, wys_succ, if_pos hq, List.length_append]
          rfl
        · intro q s hs
          rw [wys_succ, if_pos hq] at hs
          dsimp only
          rw [mu_ne _ _ (Or.inl (by decide)), mu_long, muL_g]
          show (mu m2 58 (wys V i).length (nI i)).1 58 q = nI s ∧ _
          rw [mu_g]
          rcases Nat.lt_or_ge q (wys V i).length with hl | hl
          · rw [List.getElem?_append_left hl] at hs
            have := hw2.2 q s hs
            simp [Nat.ne_of_lt hl, this, mu_long]
          · rw [List.getElem?_append_right hl] at hs
            have hz : q - (wys V i).length = 0 := by
              have := (List.getElem?_eq_some_iff.mp hs).1
              simp at this; omega
            rw [hz] at hs
            have e1 : q = (wys V i).length := by omega
            have e2 : i = s := by simpa using hs
            subst e1; subst e2
            simp
      · rw [if_neg hq, nI_1]
        refine ⟨_, rfl, rfl, he.tr g2.ew, ?_⟩
        rw [wys_succ, if_neg hq, List.append_nil]
        exact hw2) (by
      rintro ⟨y, m1⟩ ⟨rfl, he, hw⟩
      dsimp only at he hw
      refine ⟨(nI (2 ^ V.2.1), m1), ?_, he, hw⟩
      simp only [bX9_findWays_7]
      have := Nat.one_le_two_pow (n := V.2.1)
      rw [m_allLanes h (he.im (h0.im hm)), Option.bind_some, ite_ltN (by omega) (by omega), if_pos (by omega)]) F 0 (nI 0, mu m 43 24 0) (Nat.zero_le _) (by omega) ⟨rfl, EW.rf _, by
        refine ⟨?_, fun i s hs => ?_⟩
        · rw [mu_same]; rfl
        · simp [wys] at hs⟩
  refine ⟨e.2, ?_, h0.tr h2, h3⟩
  simp only [gX9_findWays, lete]
  rw [show (0 : Int32) = nI 0 from rfl] at h1 ⊢
  rw [h1, Option.bind_some]
end
