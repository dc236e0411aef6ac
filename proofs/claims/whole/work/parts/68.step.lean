/-! ===== one lane a night ===== -/
theorem pcn_zero {x : Nat} : ∀ k, pcn x k = 0 → ∀ i, i < k → x.testBit i = false
  | 0, _, i, hi => absurd hi (by omega)
  | k + 1, h, i, hi => by
    rw [pcn] at h
    have i1 := pcn_zero (x := x) k (by omega)
    by_cases e : i = k
    · subst e
      by_cases hb : x.testBit i = true
      · rw [if_pos hb] at h; omega
      · simpa using hb
    · exact i1 i (by omega)
theorem pcn_one {x : Nat} : ∀ k, pcn x k = 1 → ∃ a, a < k ∧ x.testBit a = true ∧ ∀ i, i < k → i ≠ a → x.testBit i = false
  | 0, h => by simp [pcn] at h
  | k + 1, h => by
    rw [pcn] at h
    by_cases hb : x.testBit k = true
    · rw [if_pos hb] at h
      have z := pcn_zero (x := x) k (by omega)
      exact ⟨k, by omega, hb, fun i hi hne => z i (by omega)⟩
    · rw [if_neg hb] at h
      obtain ⟨a, a1, a2, a3⟩ := pcn_one (x := x) k (by omega)
      refine ⟨a, by omega, a2, fun i hi hne => ?_⟩
      by_cases e : i = k
      · subst e; simpa using hb
      · exact a3 i (by omega) hne
theorem pcn_pow {x k : Nat} (hx : x < 2 ^ k) (h : pcn x k = 1) : ∃ a, a < k ∧ x = 2 ^ a := by
  obtain ⟨a, a1, a2, a3⟩ := pcn_one k h
  refine ⟨a, a1, ?_⟩
  apply Nat.eq_of_testBit_eq
  intro i
  rw [Nat.testBit_two_pow]
  by_cases hi : i < k
  · by_cases e : a = i
    · subst e; simp [a2]
    · rw [a3 i hi (fun z => e z.symm)]; simp [e]
  · rw [tb_hi hx (by omega)]
    have : ¬ a = i := by omega
    simp [this]
theorem pcn_nil : ∀ k, pcn 0 k = 0
  | 0 => rfl
  | k + 1 => by rw [pcn, pcn_nil k]; simp
theorem pcn_two {a k : Nat} (h : a < k) : pcn (2 ^ a) k = 1 := by
  have := pcn_or (s := 0) (l := a) (Nat.zero_testBit a) k
  rw [Nat.zero_or, pcn_nil, if_pos h] at this
  exact this
theorem pcn_split (w A : Nat) : ∀ k, pcn w k = pcn (w &&& A) k + pcn (wo w A) k
  | 0 => rfl
  | k + 1 => by
    have i := pcn_split w A k
    simp only [pcn, i, Nat.testBit_and, wo_bit]
    cases w.testBit k <;> cases A.testBit k <;> simp <;> omega
/-- what is asked of a step -/
def xt (A B w : Nat) : Bool := decide (pcn (wo A w) 31 = 1) && (decide (wo A w &&& B = 0) && decide (wo (wo w A) B = 0))
def Cd (V : Vd) (A B a b w : Nat) : Prop := A.testBit a = true ∧ B.testBit a = false ∧ B.testBit b = true ∧ A.testBit b = false ∧ w = wo A (2 ^ a) ||| 2 ^ b ∧ isW V w = true
section
variable {PM PS : Nat → Nat → Nat} {m : Mem} {V : Vd} {F : Nat}
theorem isW_frs {s : Nat} (h : isW V s = true) : frs V s 1 = true := by
  unfold isW at h
  simp only [Bool.and_eq_true] at h
  exact h.2
theorem pcn31 (hV : okV V) {s : Nat} (hs : s < 2 ^ V.2.1) : pcn s 31 = pcn s V.2.1 := by
  have h2 := hV.2.2.1
  have := pcn_hi hs (31 - V.2.1)
  rw [show V.2.1 + (31 - V.2.1) = 31 by omega] at this
  exact this
theorem xt_cd (hV : okV V) {A B w : Nat} (hA : A < 2 ^ V.2.1) (hB : B < 2 ^ V.2.1) (wA : isW V A = true) (hw : w < 2 ^ V.2.1) (ww : isW V w = true) : xt A B w = true ↔ ∃ a b, a < V.2.1 ∧ b < V.2.1 ∧ Cd V A B a b w := by
  unfold xt
  simp only [Bool.and_eq_true, decide_eq_true_eq]
  constructor
  · rintro ⟨h1, h2, h3⟩
    have e1 := frs_pc hV (isW_frs wA)
    have e2 := frs_pc hV (isW_frs ww)
    rw [pcn31 hV (wo_lt hA)] at h1
    obtain ⟨a, a1, a2⟩ := pcn_pow (wo_lt hA) h1
    have s1 := pcn_split w A V.2.1
    have s2 := pcn_split A w V.2.1
    rw [Nat.and_comm A w] at s2
    obtain ⟨b, b1, b2⟩ := pcn_pow (k := V.2.1) (x := wo w A) (wo_lt hw) (by omega)
    have ba : ∀ i, (A.testBit i && !w.testBit i) = decide (a = i) := fun i => by rw [← wo_bit, a2, Nat.testBit_two_pow]
    have bb : ∀ i, (w.testBit i && !A.testBit i) = decide (b = i) := fun i => by rw [← wo_bit, b2, Nat.testBit_two_pow]
    have aa := ba a
    have bbb := bb b
    simp only [decide_true, Bool.and_eq_true, Bool.not_eq_true'] at aa bbb
    refine ⟨a, b, a1, b1, aa.1, ?_, ?_, bbb.2, ?_, ww⟩
    · have : (wo A w &&& B).testBit a = false := by rw [h2]; exact Nat.zero_testBit a
      rw [a2, Nat.testBit_and, Nat.testBit_two_pow_self, Bool.true_and] at this
      exact this
    · have : (wo (wo w A) B).testBit b = false := by rw [h3]; exact Nat.zero_testBit b
      rw [b2, wo_bit, Nat.testBit_two_pow_self, Bool.true_and] at this
      simpa using this
    · apply Nat.eq_of_testBit_eq
      intro i
      rw [Nat.testBit_or, wo_bit, Nat.testBit_two_pow, Nat.testBit_two_pow, ← ba i, ← bb i]
      cases w.testBit i <;> cases A.testBit i <;> rfl
  · rintro ⟨a, b, a1, b1, h1, h2, h3, h4, rfl, -⟩
    have hn := hV.2.2.1
    have hab : ¬ a = b := fun z => by subst z; rw [h1] at h4; cases h4
    have e1 : wo A (wo A (2 ^ a) ||| 2 ^ b) = 2 ^ a := by
      apply Nat.eq_of_testBit_eq
      intro i
      rw [wo_bit, Nat.testBit_or, wo_bit, Nat.testBit_two_pow, Nat.testBit_two_pow]
      by_cases ia : a = i
      · subst ia
        have : ¬ b = a := fun z => hab z.symm
        simp [h1, this]
      · cases A.testBit i <;> simp [ia]
    have e2 : wo (wo A (2 ^ a) ||| 2 ^ b) A = 2 ^ b := by
      apply Nat.eq_of_testBit_eq
      intro i
      rw [wo_bit, Nat.testBit_or, wo_bit, Nat.testBit_two_pow, Nat.testBit_two_pow]
      by_cases ib : b = i
      · subst ib; simp [h4]
      · cases A.testBit i <;> simp [ib]
    rw [e1, e2]
    refine ⟨pcn_two (by omega), ?_, ?_⟩
    · rw [Nat.and_comm, and_pow0]; exact h2
    · apply Nat.eq_of_testBit_eq
      intro i
      rw [wo_bit, Nat.testBit_two_pow, Nat.zero_testBit]
      by_cases ib : b = i
      · subst ib; simp [h3]
      · simp [ib]
/-- the least of those that are asked for, or the first way itself -/
def Lst (P : Nat → Prop) (A : Nat) (r : Int32) : Prop := (r = nI A ∧ ∀ w, ¬ P w) ∨ (∃ w, r = nI w ∧ P w ∧ ∀ w', P w' → w ≤ w')
theorem Lst.eq {P Q : Nat → Prop} {A : Nat} {r r' : Int32} (h : Lst P A r) (h' : Lst Q A r') (g : ∀ w, P w ↔ Q w) : r = r' := by
  rcases h with ⟨e, h⟩ | ⟨w, e, h1, h2⟩
  · rcases h' with ⟨e', h'⟩ | ⟨w', e', h1', h2'⟩
    · rw [e, e']
    · exact absurd ((g w').mpr h1') (h w')
  · rcases h' with ⟨e', h'⟩ | ⟨w', e', h1', h2'⟩
    · exact absurd ((g w).mp h1) (h' w)
    · have := h2 w' ((g w').mpr h1')
      have := h2' w ((g w).mp h1)
      have : w = w' := by omega
      rw [e, e', this]
theorem ways_lt : (ways V).Pairwise (· < ·) := List.Pairwise.filter _ List.pairwise_lt_range
theorem ways_mono {i j s t : Nat} (h : i < j) (hi : (ways V)[i]? = some s) (hj : (ways V)[j]? = some t) : s < t := by
  obtain ⟨i1, i2⟩ := List.getElem?_eq_some_iff.mp hi
  obtain ⟨j1, j2⟩ := List.getElem?_eq_some_iff.mp hj
  have := List.pairwise_iff_getElem.mp (ways_lt (V := V)) i j i1 j1 h
  omega
theorem way_of {w : Nat} (hw : w < 2 ^ V.2.1) (h : isW V w = true) : ∃ i : Nat, (ways V)[i]? = some w := by
  have : w ∈ ways V := by unfold ways; simp [hw, h]
  exact List.mem_iff_getElem?.mp this
set_option maxHeartbeats 1000000 in
theorem x_step (hF : 2000 ≤ F) (hV : okV V) (hw : IW m V) {A B : Nat} (hA : A < 2 ^ V.2.1) (hB : B < 2 ^ V.2.1) : ∃ r, gX7_stepBetween F m (nI A) (nI B) = some r ∧ Lst (fun w => w < 2 ^ V.2.1 ∧ isW V w = true ∧ xt A B w = true) A r := by
  have hl := ways_le hV
  have hA10 := hV.sl hA
  have hB10 := hV.sl hB
  rw [gX7_stepBetween]
  obtain ⟨e, h1, h2⟩ := iter_inv (f := bX7_stepBetween_2 m (nI A) (nI B)) (fun i q => q = nI i ∧ ∀ j w, j < i → (ways V)[j]? = some w → xt A B w = false) (ways V).length (fun e => ∃ r, (Sum.elim (fun _ => some (nI A)) (fun q => some q) e : Option Int32) = some r ∧ Lst (fun w => w < 2 ^ V.2.1 ∧ isW V w = true ∧ xt A B w = true) A r) (by
      rintro i q hi ⟨rfl, hb⟩
      obtain ⟨s, hs⟩ := ways_at (V := V) hi
      obtain ⟨s1, s2⟩ := ways_in hs
      have s10 := hV.sl s1
      have w10 : wo A s < 1024 := hV.sl (wo_lt hA)
      have v10 : wo (wo s A) B < 1024 := hV.sl (wo_lt (wo_lt s1))
      have u10 : wo A s &&& B ≤ wo A s := Nat.and_le_left
      have hib : inb (nI i) 252 := inb_nI (by omega) (by omega)
      have hpc := pcn_le (T := wo A s) 31
      simp only [bX7_stepBetween_2]
      rw [hw.1, ite_leN (by omega) (by omega), if_neg (by omega), show (252 : Int32) = nI 252 from rfl, ite_leN (by omega) (by omega), if_neg (by omega), ite_eqN (by omega) (by omega)]
      by_cases hAB : A = B
      · rw [if_pos hAB]
        refine Or.inr ⟨_, rfl, nI A, rfl, Or.inl ⟨rfl, ?_⟩⟩
        rintro w ⟨w1, w2, w3⟩
        unfold xt at w3
        simp only [Bool.and_eq_true, decide_eq_true_eq] at w3
        obtain ⟨x1, x2, -⟩ := w3
        obtain ⟨a, a1, a2⟩ := pcn_pow (k := 31) (Nat.lt_of_lt_of_le (wo_lt hA) (Nat.pow_le_pow_right (by decide) (by have := hV.2.2.1; omega))) x1
        have b1 : (wo A w).testBit a = true := by rw [a2, Nat.testBit_two_pow_self]
        have b2 : (wo A w &&& B).testBit a = false := by rw [x2]; exact Nat.zero_testBit a
        rw [Nat.testBit_and, b1, Bool.true_and, ← hAB] at b2
        rw [wo_bit, b2] at b1
        cases b1
      · rw [if_neg hAB, chk_pos hib, nI_clamp (by omega), (hw.2 i s hs).1, lete_eq, woI, chk_pos hib, lete_eq, woI, bitCount_ok _ w10, Option.bind_some, andI, woI, nI_1, show (1 : Int32) = nI 1 from rfl, ite_eqN (by omega) (by omega), show (0 : Int32) = nI 0 from rfl, ite_eqN (by omega) (by omega), ite_eqN (by omega) (by omega), chk_pos hib]
        by_cases hx : xt A B s = true
        · have hx2 := hx
          unfold xt at hx2
          simp only [Bool.and_eq_true, decide_eq_true_eq] at hx2
          rw [if_pos hx2.1, if_pos hx2.2.1, if_pos hx2.2.2]
          refine Or.inr ⟨_, rfl, nI s, rfl, Or.inr ⟨s, rfl, ⟨s1, s2, hx⟩, ?_⟩⟩
          rintro w' ⟨w1, w2, w3⟩
          obtain ⟨j, hj⟩ := way_of w1 w2
          rcases Nat.lt_trichotomy j i with q | q | q
          · rw [hb j w' q hj] at w3; cases w3
          · subst q
            rw [hs] at hj
            injection hj with hj
            omega
          · have := ways_mono q hs hj
            omega
        · have hx' : xt A B s = false := by simpa using hx
          have goon : ∀ j w, j < i + 1 → (ways V)[j]? = some w → xt A B w = false := fun j w hj hjw => by
            by_cases q : j = i
            · subst q
              rw [hs] at hjw
              injection hjw with hjw
              rw [← hjw]; exact hx'
            · exact hb j w (by omega) hjw
          by_cases c1 : pcn (wo A s) 31 = 1
          · rw [if_pos c1]
            by_cases c2 : wo A s &&& B = 0
            · rw [if_pos c2]
              by_cases c3 : wo (wo s A) B = 0
              · exact absurd (by unfold xt; simp [c1, c2, c3]) hx
              · rw [if_neg c3]
                exact Or.inl ⟨_, rfl, rfl, goon⟩
            · rw [if_neg c2]
              exact Or.inl ⟨_, rfl, rfl, goon⟩
          · rw [if_neg c1]
            exact Or.inl ⟨_, rfl, rfl, goon⟩) (by
      rintro q ⟨rfl, hb⟩
      refine ⟨.inl (nI (ways V).length), ?_, nI A, rfl, Or.inl ⟨rfl, ?_⟩⟩
      · simp only [bX7_stepBetween_2]
        rw [hw.1, ite_leN (by omega) (by omega), if_pos (Nat.le_refl _)]
      · rintro w ⟨w1, w2, w3⟩
        obtain ⟨j, hj⟩ := way_of w1 w2
        have := hb j w (List.getElem?_eq_some_iff.mp hj).1 hj
        rw [this] at w3; cases w3) F 0 0 (Nat.zero_le _) (by omega) ⟨rfl, fun j w hj => absurd hj (by omega)⟩
  obtain ⟨r, h3, h4⟩ := h2
  exact ⟨r, by rw [h1, Option.bind_some, h3], h4⟩
/-- the reference's best so far -/
def Bst (P : Nat → Prop) (A : Nat) (y z : Int32) : Prop := (z = 0 ∧ y = nI A ∧ ∀ w, ¬ P w) ∨ (z = 1 ∧ ∃ w, w < 1024 ∧ y = nI w ∧ P w ∧ ∀ w', P w' → w ≤ w')
theorem Bst.ext {P Q : Nat → Prop} {A : Nat} {y z : Int32} (h : Bst P A y z) (g : ∀ w, P w ↔ Q w) : Bst Q A y z := by
  have : P = Q := funext fun w => propext (g w)
  rw [← this]; exact h
theorem Bst.lst {P : Nat → Prop} {A : Nat} {y z : Int32} (h : Bst P A y z) : Lst P A y := by
  rcases h with ⟨-, h1, h2⟩ | ⟨-, w, -, h1, h2, h3⟩
  · exact Or.inl ⟨h1, h2⟩
  · exact Or.inr ⟨w, h1, h2, h3⟩
/-- pairs looked at before lane i, and with it those before j -/
def Pij (V : Vd) (A B i j w : Nat) : Prop := ∃ a b, (a < i ∨ (a = i ∧ b < j)) ∧ b < V.2.1 ∧ Cd V A B a b w
set_option maxHeartbeats 1000000 in
theorem m_step_in (hF : 2000 ≤ F) (hV : okV V) (hm : IM m V) {A B i : Nat} (hA : A < 2 ^ V.2.1) (hB : B < 2 ^ V.2.1) (hi : i < V.2.1) {y z : Int32} (hb : Bst (Pij V A B i 0) A y z) : ∃ e, iter F (bX9_step_43 F (nI A) (nI B) (nI i)) (y, z, 0, m) = some e ∧ Bst (Pij V A B (i + 1) 0) A e.1 e.2.1 ∧ E57 m e.2.2.2 := by
  have hn := hV.2.2.1
  have hA10 := hV.sl hA
  have hB10 := hV.sl hB
  have c10 : wo A B < 1024 := hV.sl (wo_lt hA)
  have d10 : wo B A < 1024 := hV.sl (wo_lt hB)
  exact iter_inv (f := bX9_step_43 F (nI A) (nI B) (nI i)) (fun j q => Bst (Pij V A B i j) A q.1 q.2.1 ∧ q.2.2.1 = nI j ∧ E57 m q.2.2.2) V.2.1 (fun e => Bst (Pij V A B (i + 1) 0) A e.1 e.2.1 ∧ E57 m e.2.2.2) (by
      rintro j ⟨y, z, k, m1⟩ hj ⟨hb, hk, he⟩
      dsimp only at hb hk he
      subst hk
      refine Or.inl ?_
      have hm1 := he.im hm
      simp only [bX9_step_43]
      rw [hm1.2.1, ite_leN (by omega) (by omega), if_neg (by omega), woI, woI, ite_bitb (by omega) (by omega), ite_bitb (by omega) (by omega), wo_bit, wo_bit, nI_1]
      have skip : (¬ ∃ w, Cd V A B i j w) → Bst (Pij V A B i (j + 1)) A y z := fun hno => hb.ext (fun w => by
        constructor
        · rintro ⟨a, b, q, b1, cd⟩
          exact ⟨a, b, by omega, b1, cd⟩
        · rintro ⟨a, b, q, b1, cd⟩
          by_cases e : a = i ∧ b = j
          · obtain ⟨rfl, rfl⟩ := e
            exact absurd ⟨w, cd⟩ hno
          · exact ⟨a, b, by omega, b1, cd⟩)
      by_cases c1 : (A.testBit i && !B.testBit i) = true
      · rw [if_pos c1]
        by_cases c2 : (B.testBit j && !A.testBit j) = true
        · rw [if_pos c2, lete_eq, sh1 (by omega), sh1 (by omega), woI, orI]
          simp only [Bool.and_eq_true, Bool.not_eq_true'] at c1 c2
          have hw : wo A (2 ^ i) ||| 2 ^ j < 2 ^ V.2.1 := Nat.or_lt_two_pow (wo_lt hA) (Nat.pow_lt_pow_right (by decide) hj)
          have hw10 := hV.sl hw
          obtain ⟨m2, g1, g2⟩ := m_isWay hF hV hm1 hw
          rw [g1, Option.bind_some]
          dsimp only
          by_cases c3 : isW V (wo A (2 ^ i) ||| 2 ^ j) = true
          · rw [if_pos c3]
            have hcd : Cd V A B i j (wo A (2 ^ i) ||| 2 ^ j) := ⟨c1.1, c1.2, c2.1, c2.2, rfl, c3⟩
            have hP : ∀ w, Pij V A B i (j + 1) w ↔ Pij V A B i j w ∨ w = wo A (2 ^ i) ||| 2 ^ j := fun w => by
              constructor
              · rintro ⟨a, b, q, b1, cd⟩
                by_cases e : a = i ∧ b = j
                · obtain ⟨rfl, rfl⟩ := e
                  exact Or.inr cd.2.2.2.2.1
                · exact Or.inl ⟨a, b, by omega, b1, cd⟩
              · rintro (⟨a, b, q, b1, cd⟩ | rfl)
                · exact ⟨a, b, by omega, b1, cd⟩
                · exact ⟨i, j, by omega, hj, hcd⟩
            generalize wo A (2 ^ i) ||| 2 ^ j = W at *
            rcases hb with ⟨z0, y0, hno⟩ | ⟨z1, w, w10, yw, pw, least⟩
            · rw [if_pos z0]
              refine ⟨_, rfl, Or.inr ⟨rfl, W, hw10, rfl, (hP W).mpr (Or.inr rfl), fun w' hw' => ?_⟩, rfl, he.tr g2⟩
              rcases (hP w').mp hw' with q | q
              · exact absurd q (hno w')
              · omega
            · rw [if_neg (by rw [z1]; decide), yw, ite_ltN (by omega) (by omega)]
              by_cases c4 : W < w
              · rw [if_pos c4]
                refine ⟨_, rfl, Or.inr ⟨rfl, W, hw10, rfl, (hP W).mpr (Or.inr rfl), fun w' hw' => ?_⟩, rfl, he.tr g2⟩
                rcases (hP w').mp hw' with q | q
                · have := least w' q; omega
                · omega
              · rw [if_neg c4]
                refine ⟨_, rfl, Or.inr ⟨z1, w, w10, rfl, (hP w).mpr (Or.inl pw), fun w' hw' => ?_⟩, rfl, he.tr g2⟩
                rcases (hP w').mp hw' with q | q
                · exact least w' q
                · omega
          · rw [if_neg c3]
            exact ⟨_, rfl, skip (fun ⟨w, cd⟩ => c3 (cd.2.2.2.2.1 ▸ cd.2.2.2.2.2)), rfl, he.tr g2⟩
        · rw [if_neg c2]
          exact ⟨_, rfl, skip (fun ⟨w, cd⟩ => c2 (by rw [cd.2.2.1, cd.2.2.2.1]; rfl)), rfl, he⟩
      · rw [if_neg c1]
        exact ⟨_, rfl, skip (fun ⟨w, cd⟩ => c1 (by rw [cd.1, cd.2.1]; rfl)), rfl, he⟩) (by
      rintro ⟨y, z, k, m1⟩ ⟨hb, hk, he⟩
      dsimp only at hb hk he
      subst hk
      refine ⟨(y, z, nI V.2.1, m1), ?_, hb.ext (fun w => ?_), he⟩
      · simp only [bX9_step_43]
        rw [(he.im hm).2.1, ite_leN (by omega) (by omega), if_pos (Nat.le_refl _)]
      · constructor
        · rintro ⟨a, b, q, b1, cd⟩
          exact ⟨a, b, by omega, b1, cd⟩
        · rintro ⟨a, b, q, b1, cd⟩
          exact ⟨a, b, by omega, b1, cd⟩) F 0 (y, z, 0, m) (Nat.zero_le _) (by omega) ⟨hb, rfl, E57.rf m⟩
theorem m_step (hF : 2000 ≤ F) (hV : okV V) (hm : IM m V) {A B : Nat} (hA : A < 2 ^ V.2.1) (hB : B < 2 ^ V.2.1) : ∃ e, iter F (bX9_step_31 F (nI A) (nI B)) (nI A, 0, 0, m) = some e ∧ Bst (Pij V A B V.2.1 0) A e.1 e.2.1 ∧ E57 m e.2.2.2 := by
  have hn := hV.2.2.1
  exact iter_inv (f := bX9_step_31 F (nI A) (nI B)) (fun i q => Bst (Pij V A B i 0) A q.1 q.2.1 ∧ q.2.2.1 = nI i ∧ E57 m q.2.2.2) V.2.1 (fun e => Bst (Pij V A B V.2.1 0) A e.1 e.2.1 ∧ E57 m e.2.2.2) (by
      rintro i ⟨y, z, k, m1⟩ hi ⟨hb, hk, he⟩
      dsimp only at hb hk he
      subst hk
      refine Or.inl ?_
      have hm1 := he.im hm
      obtain ⟨e, e1, e2, e3⟩ := m_step_in hF hV hm1 hA hB hi hb
      simp only [bX9_step_31]
      rw [hm1.2.1, ite_leN (by omega) (by omega), if_neg (by omega), e1, Option.bind_some, nI_1]
      exact ⟨_, rfl, e2, rfl, he.tr e3⟩) (by
      rintro ⟨y, z, k, m1⟩ ⟨hb, hk, he⟩
      dsimp only at hb hk he
      subst hk
      refine ⟨(y, z, nI V.2.1, m1), ?_, hb, he⟩
      simp only [bX9_step_31]
      rw [(he.im hm).2.1, ite_leN (by omega) (by omega), if_pos (Nat.le_refl _)]) F 0 (nI A, 0, 0, m) (Nat.zero_le _) (by omega) ⟨Or.inl ⟨rfl, rfl, fun w ⟨a, b, q, _⟩ => by omega⟩, rfl, E57.rf m⟩
theorem pu_step (hF : 2000 ≤ F) : PU_step F (Inv PM PS) := by
  rintro m a1 a2 ⟨V, hI⟩
  obtain ⟨hV, hx, hm, hj, hw, -⟩ := id hI
  obtain ⟨b1, p1, p2, p3⟩ := way_both hF hV hx hj a1
  obtain ⟨b2, q1, q2, q3⟩ := way_both hF hV hx hj a2
  cases b1 with
  | false =>
    obtain ⟨m3, s1, s2⟩ := p2 (mu m 42 3 (m.1 42 3 + 1)) (sm42 hm rfl)
    obtain ⟨r1, r2, r3⟩ := refI hI 3 (by decide) (by decide) s2.sm
    refine ⟨-nI 3, mu m 42 3 (m.1 42 3 + 1), _, ?_, ?_, r3⟩
    · rw [gX8_step, p1, Option.bind_some, if_neg (by decide), show (-3 : Int32) = -nI 3 from rfl, r1]; rfl
    · rw [gX9_step, s1, Option.bind_some, if_neg (fun z => by cases z), show (-3 : Int32) = -nI 3 from rfl, r2]; rfl
  | true =>
    cases b2 with
    | false =>
      obtain ⟨m3, s1, s2⟩ := p2 (mu m 42 3 (m.1 42 3 + 1)) (sm42 hm rfl)
      obtain ⟨m4, t1, t2⟩ := q2 m3 (s2.im (sm42 hm rfl))
      obtain ⟨r1, r2, r3⟩ := refI hI 3 (by decide) (by decide) (s2.tr t2).sm
      refine ⟨-nI 3, mu m 42 3 (m.1 42 3 + 1), _, ?_, ?_, r3⟩
      · rw [gX8_step, p1, Option.bind_some, if_pos rfl, q1, Option.bind_some, if_neg (by decide), show (-3 : Int32) = -nI 3 from rfl, r1]; rfl
      · rw [gX9_step, s1, Option.bind_some, if_pos rfl, t1, Option.bind_some, if_neg (fun z => by cases z), show (-3 : Int32) = -nI 3 from rfl, r2]; rfl
    | true =>
      obtain ⟨A, hA, rfl, wA⟩ := p3 rfl
      obtain ⟨B, hB, rfl, wB⟩ := q3 rfl
      obtain ⟨m3, s1, s2⟩ := p2 m hm
      obtain ⟨m4, t1, t2⟩ := q2 m3 (s2.im hm)
      obtain ⟨r, x1, x2⟩ := x_step hF hV hw hA hB
      obtain ⟨e, e1, e2, e3⟩ := m_step hF hV (t2.im (s2.im hm)) hA hB
      have hr : r = e.1 := x2.eq e2.lst (fun w => by
        constructor
        · rintro ⟨w1, w2, w3⟩
          obtain ⟨a, b, ha, hb, cd⟩ := (xt_cd hV hA hB wA w1 w2).mp w3
          exact ⟨a, b, Or.inl ha, hb, cd⟩
        · rintro ⟨a, b, q, hb, cd⟩
          have ha : a < V.2.1 := by omega
          have w1 : w < 2 ^ V.2.1 := by
            rw [cd.2.2.2.2.1]
            exact Nat.or_lt_two_pow (wo_lt hA) (Nat.pow_lt_pow_right (by decide) hb)
          exact ⟨w1, cd.2.2.2.2.2, (xt_cd hV hA hB wA w1 cd.2.2.2.2.2).mpr ⟨a, b, ha, hb, cd⟩⟩)
      refine ⟨r, m, e.2.2.2, ?_, ?_, V, hI.sm ((s2.tr t2).tr e3).sm⟩
      · rw [gX8_step, p1, Option.bind_some, if_pos rfl, q1, Option.bind_some, if_pos rfl, x1, Option.bind_some]
      · rw [gX9_step, s1, Option.bind_some, if_pos rfl, t1, Option.bind_some, if_pos rfl, e1, Option.bind_some, hr]
end
