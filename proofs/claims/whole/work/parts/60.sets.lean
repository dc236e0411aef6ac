/-! ===== sums over all sets ===== -/
def sst (P : Nat → Bool) (w : Nat → Nat) : Nat → Nat
  | 0 => 0
  | i + 1 => sst P w i + (if P i = true then w i else 0)
theorem sst_le {P : Nat → Bool} {w : Nat → Nat} {B : Nat} : ∀ n, (∀ s, s < n → P s = true → w s ≤ B) → sst P w n ≤ B * n
  | 0, _ => by simp [sst]
  | n + 1, h => by
    have h1 := sst_le n (fun s hs => h s (by omega))
    have h2 := h n (by omega)
    simp only [sst, Nat.mul_succ]
    split
    · rename_i q; have := h2 q; omega
    · omega
section
variable {PM PS : Nat → Nat → Nat} {m : Mem} {V : Vd} {F : Nat}
theorem x_manyOf (hF : 2000 ≤ F) (hV : okV V) (hx : IX m 1 V) (hj : IJ m V) {p : Nat} (hp : p ≤ 7) : gX1_manyOf F m (nI p) = some (nI (sst (fun s => alw V s && frs V s p) (fun _ => 1) (2 ^ V.2.1))) := by
  have h10 := pow10 hV.2.2.1
  unfold gX1_manyOf
  rw [x_sets hV hx, Option.bind_some]
  have q := iter_at (F := F) (f := bX1_manyOf_13 m (nI p) (nI (2 ^ V.2.1))) (fun i => (nI (sst (fun s => alw V s && frs V s p) (fun _ => 1) i), nI i)) (2 ^ V.2.1) (nI (sst (fun s => alw V s && frs V s p) (fun _ => 1) (2 ^ V.2.1)), nI (2 ^ V.2.1)) (fun i hi => ?_) ?_ (by omega)
  · have e0 : iter F (bX1_manyOf_13 m (nI p) (nI (2 ^ V.2.1))) (0, 0) = _ := q
    rw [e0]; rfl
  · simp only [bX1_manyOf_13]
    rw [ite_leN (by omega) (by omega), if_neg (by omega), x_allows hV hx hi, Option.bind_some, x_leavesForest hV hj hi hp, Option.bind_some, nI_1, nI_1]
    simp only [sst]
    cases alw V i <;> cases frs V i p <;> simp
  · simp only [bX1_manyOf_13]
    rw [ite_leN (by omega) (by omega), if_pos (Nat.le_refl _)]
set_option maxHeartbeats 2000000 in
theorem m_forests (hF : 2000 ≤ F) (hV : okV V) (hm : IM m V) {p : Nat} (hp : p ≤ 7) : ∃ e, iter F (bX9_forests_23 F (nI p)) (0, 0, m) = some e ∧ e.1 = nI (sst (fun s => alw V s && frs V s p) (fun _ => 1) (2 ^ V.2.1)) ∧ E57 m e.2.2 := by
  have h10 := pow10 hV.2.2.1
  have h1p := Nat.one_le_two_pow (n := V.2.1)
  exact iter_inv (f := bX9_forests_23 F (nI p)) (fun i q => q.1 = nI (sst (fun s => alw V s && frs V s p) (fun _ => 1) i) ∧ q.2.1 = nI i ∧ E57 m q.2.2) (2 ^ V.2.1) (fun e => e.1 = nI (sst (fun s => alw V s && frs V s p) (fun _ => 1) (2 ^ V.2.1)) ∧ E57 m e.2.2) (by
      rintro i ⟨y, z, m1⟩ hi ⟨rfl, hz, he⟩
      dsimp only at hz he
      subst hz
      refine Or.inl ?_
      have hm1 := he.im hm
      obtain ⟨m2, g1, g2, -⟩ := m_isForest hF hV hm1 hi hp
      simp only [bX9_forests_23, lete]
      rw [m_allLanes hV hm1, Option.bind_some, ite_ltN (by omega) (by omega), if_neg (by omega), m_isRuled hF hV hm1 hi, Option.bind_some, g1, Option.bind_some]
      simp only [sst]
      cases ha : alw V i with
      | false => exact ⟨_, rfl, by simp, nI_1 i, he⟩
      | true =>
        cases hf : frs V i p with
        | false => exact ⟨_, rfl, by simp, nI_1 i, he.tr g2⟩
        | true => exact ⟨_, rfl, by simp [nI_1], nI_1 i, he.tr g2⟩) (by
      rintro ⟨y, z, m1⟩ ⟨rfl, hz, he⟩
      dsimp only at hz he
      subst hz
      refine ⟨(nI (sst (fun s => alw V s && frs V s p) (fun _ => 1) (2 ^ V.2.1)), nI (2 ^ V.2.1), m1), ?_, rfl, he⟩
      simp only [bX9_forests_23]
      rw [m_allLanes hV (he.im hm), Option.bind_some, ite_ltN (by omega) (by omega), if_pos (by omega)]) F 0 (0, 0, m) (Nat.zero_le _) (by omega) ⟨rfl, rfl, E57.rf m⟩
theorem pu_forests (hF : 2000 ≤ F) : PU_forests F (Inv PM PS) := by
  rintro m a1 ⟨V, hI⟩
  obtain ⟨hV, hx, hm, hj, -⟩ := id hI
  rcases arg_cases a1 8 (by decide) with h0 | ⟨h0, h1⟩ | ⟨p, hp, rfl, h0, h1⟩
  · obtain ⟨r1, r2, r3⟩ := refI hI 4 (by decide) (by decide) (Sm.rf _)
    have hn : ¬ (1 : Int32) ≤ a1 := by
      rw [Int32.le_iff_toInt_le]
      rw [Int32.lt_iff_toInt_lt] at h0
      have e1 : (1 : Int32).toInt = 1 := by decide
      have e0 : (0 : Int32).toInt = 0 := by decide
      omega
    refine ⟨-nI 4, mu m 42 4 (m.1 42 4 + 1), _, ?_, ?_, r3⟩
    · simp only [gX8_forests, hn, if_false]
      rw [show (-4 : Int32) = -nI 4 from rfl, r1]; rfl
    · simp only [gX9_forests, gX9_bound, hn, if_false, Option.bind_some]
      rw [if_neg (by decide), show (-4 : Int32) = -nI 4 from rfl, r2]; rfl
  · obtain ⟨r1, r2, r3⟩ := refI hI 6 (by decide) (by decide) (Sm.rf _)
    rw [Int32.le_iff_toInt_le, nI_toInt (by omega)] at h1
    have hn : (1 : Int32) ≤ a1 := by
      rw [Int32.le_iff_toInt_le]
      have e1 : (1 : Int32).toInt = 1 := by decide
      omega
    have hn7 : ¬ a1 ≤ 7 := by
      rw [Int32.le_iff_toInt_le]
      have e1 : (7 : Int32).toInt = 7 := by decide
      omega
    refine ⟨-nI 6, mu m 42 6 (m.1 42 6 + 1), _, ?_, ?_, r3⟩
    · simp only [gX8_forests, hn, if_true, hn7, if_false]
      rw [show (-6 : Int32) = -nI 6 from rfl, r1]; rfl
    · simp only [gX9_forests, gX9_bound, hn, if_true, hn7, if_false, Option.bind_some]
      rw [if_neg (by decide), show (-6 : Int32) = -nI 6 from rfl, r2]; rfl
  · by_cases h00 : p = 0
    · subst h00
      obtain ⟨r1, r2, r3⟩ := refI hI 4 (by decide) (by decide) (Sm.rf _)
      refine ⟨-nI 4, mu m 42 4 (m.1 42 4 + 1), _, ?_, ?_, r3⟩
      · simp only [gX8_forests]
        rw [if_neg (by decide), show (-4 : Int32) = -nI 4 from rfl, r1]; rfl
      · simp only [gX9_forests, gX9_bound]
        rw [if_neg (by decide), Option.bind_some, if_neg (by decide), show (-4 : Int32) = -nI 4 from rfl, r2]; rfl
    · have hn : (1 : Int32) ≤ nI p := by rw [show (1 : Int32) = nI 1 from rfl, le_nI (by omega) (by omega)]; omega
      have hn7 : nI p ≤ (7 : Int32) := by rw [show (7 : Int32) = nI 7 from rfl, le_nI (by omega) (by omega)]; omega
      obtain ⟨e, e1, e2, e3⟩ := m_forests hF hV hm (p := p) (by omega)
      refine ⟨nI (sst (fun s => alw V s && frs V s p) (fun _ => 1) (2 ^ V.2.1)), m, e.2.2, ?_, ?_, V, hI.sm e3.sm⟩
      · simp only [gX8_forests, hn, if_true, hn7, x_manyOf hF hV hx hj (show p ≤ 7 by omega), Option.bind_some]
      · simp only [gX9_forests, gX9_bound, hn, if_true, hn7, Option.bind_some, e1, e2]
/-! hard and more -/
def opn (V : Vd) (M s : Nat) : Bool := decide (s &&& bar V = 0) && decide (s &&& M = M)
theorem x_isOpen (hV : okV V) (hx : IX m 1 V) {s M : Nat} (hs : s < 2 ^ V.2.1) (hM : M < 2 ^ 31) : gX1_isOpen m (nI s) (nI M) = some (opn V M s) := by
  have h1 := hV.sl hs
  have h5 : s &&& bar V ≤ s := Nat.and_le_left
  have h6 : s &&& M ≤ s := Nat.and_le_left
  unfold gX1_isOpen opn
  rw [hx.2.2.2.1, andI, andI, show (0 : Int32) = nI 0 from rfl, ite_eqN (by omega) (by omega), ite_eqN (by omega) hM]
  by_cases e1 : s &&& bar V = 0 <;> by_cases e2 : s &&& M = M <;> simp [e1, e2]
theorem x_worthOfWhole (hF : 2000 ≤ F) (hV : okV V) (hx : IX m 1 V) (hj : IJ m V) : gX1_worthOfWhole F m = some (lN (sst (fun s => opn V 0 s && frs V s 1) (wrt V) (2 ^ V.2.1))) := by
  have h10 := pow10 hV.2.2.1
  unfold gX1_worthOfWhole
  rw [x_sets hV hx, Option.bind_some, show (0 : Int32) = nI 0 from rfl]
  have q := iter_at (F := F) (f := bX1_worthOfWhole_13 F m (nI (2 ^ V.2.1))) (fun i => (lN (sst (fun s => opn V 0 s && frs V s 1) (wrt V) i), nI i)) (2 ^ V.2.1) (lN (sst (fun s => opn V 0 s && frs V s 1) (wrt V) (2 ^ V.2.1)), nI (2 ^ V.2.1)) (fun i hi => ?_) ?_ (by omega)
  · have e0 : iter F (bX1_worthOfWhole_13 F m (nI (2 ^ V.2.1))) (0, nI 0) = _ := q
    rw [e0]; rfl
  · simp only [bX1_worthOfWhole_13, lete]
    rw [ite_leN (by omega) (by omega), if_neg (by omega), show (0 : Int32) = nI 0 from rfl, x_isOpen hV hx hi (by omega), Option.bind_some, show (1 : Int32) = nI 1 from rfl, x_leavesForest hV hj hi (by omega), Option.bind_some, x_worthOf hF hV hx hi, Option.bind_some, nI_add]
    simp only [sst]
    by_cases hf : frs V i 1 = true
    · have := wrt_le hV (by decide) hf
      rw [nI_l (by omega), lN_add]
      by_cases ho : opn V 0 i = true <;> simp [hf, ho]
    · by_cases ho : opn V 0 i = true <;> simp [hf, ho]
  · simp only [bX1_worthOfWhole_13]
    rw [ite_leN (by omega) (by omega), if_pos (Nat.le_refl _)]
def apt (V : Vd) (M a b s : Nat) : Bool := opn V M s && (frs V s 2 && !decide (lb V.2.2 s V.2.1 a = lb V.2.2 s V.2.1 b))
theorem x_worthApart (hF : 2000 ≤ F) (hV : okV V) (hx : IX m 1 V) (hj : IJ m V) {a b M : Nat} (ha : a < 7) (hb : b < 7) (hM : M < 2 ^ 31) : gX1_worthApart F m (nI a) (nI b) (nI M) = some (lN (sst (apt V M a b) (wrt V) (2 ^ V.2.1))) := by
  have h10 := pow10 hV.2.2.1
  unfold gX1_worthApart
  rw [x_sets hV hx, Option.bind_some]
  have q := iter_at (F := F) (f := bX1_worthApart_15 F m (nI a) (nI b) (nI M) (nI (2 ^ V.2.1))) (fun i => (lN (sst (apt V M a b) (wrt V) i), nI i)) (2 ^ V.2.1) (lN (sst (apt V M a b) (wrt V) (2 ^ V.2.1)), nI (2 ^ V.2.1)) (fun i hi => ?_) ?_ (by omega)
  · have e0 : iter F (bX1_worthApart_15 F m (nI a) (nI b) (nI M) (nI (2 ^ V.2.1))) (0, 0) = _ := q
    rw [e0]; rfl
  · simp only [bX1_worthApart_15, lete]
    rw [ite_leN (by omega) (by omega), if_neg (by omega), x_isOpen hV hx hi hM, Option.bind_some, show (2 : Int32) = nI 2 from rfl, x_leavesForest hV hj hi (by omega), Option.bind_some, x_areTogether hV hj hi ha hb, Option.bind_some, x_worthOf hF hV hx hi, Option.bind_some, nI_1]
    simp only [sst, apt]
    by_cases hf : frs V i 2 = true
    · have := wrt_le hV (by decide) hf
      rw [nI_l (by omega), lN_add]
      by_cases ho : opn V M i = true <;> by_cases hd : lb V.2.2 i V.2.1 a = lb V.2.2 i V.2.1 b <;> simp [hf, ho, hd]
    · by_cases ho : opn V M i = true <;> simp [hf, ho]
  · simp only [bX1_worthApart_15]
    rw [ite_leN (by omega) (by omega), if_pos (Nat.le_refl _)]
set_option maxHeartbeats 2000000 in
theorem m_sumTogether (hF : 2000 ≤ F) (hV : okV V) (hm : IM m V) : ∃ m', gX9_sumTogether F m = some (lN (sst (fun s => opn V 0 s && frs V s 1) (wrt V) (2 ^ V.2.1)), m') ∧ E57 m m' := by
  have h10 := pow10 hV.2.2.1
  have h1p := Nat.one_le_two_pow (n := V.2.1)
  have hB := Nat.lt_of_lt_of_le (bar_lt (V := V)) h10
  obtain ⟨e, h1, h2, h3⟩ := iter_inv (f := bX9_sumTogether_4 F) (fun i q => q.1 = lN (sst (fun s => opn V 0 s && frs V s 1) (wrt V) i) ∧ q.2.1 = nI i ∧ E57 m q.2.2) (2 ^ V.2.1) (fun e => e.1 = lN (sst (fun s => opn V 0 s && frs V s 1) (wrt V) (2 ^ V.2.1)) ∧ E57 m e.2.2) (by
      rintro i ⟨y, z, m1⟩ hi ⟨rfl, hz, he⟩
      dsimp only at hz he
      subst hz
      refine Or.inl ?_
      have hm1 := he.im hm
      have hle : i &&& bar V ≤ i := Nat.and_le_left
      obtain ⟨m2, g1, g2, -⟩ := m_isForest hF hV hm1 hi (p := 1) (by omega)
      simp only [bX9_sumTogether_4, lete]
      rw [m_allLanes hV hm1, Option.bind_some, ite_ltN (by omega) (by omega), if_neg (by omega), show (2 : Int32) = nI 2 from rfl, m_ruledAs hF hV hm1 (by omega), Option.bind_some, show (1 : Int32) = nI 1 from rfl, g1, Option.bind_some, m_worthOf hF hV (g2.im hm1) hi, Option.bind_some]
      show ∃ s', (if nI i &&& nI (bar V) = 0 then _ else _) = _ ∧ _
      rw [andI, show (0 : Int32) = nI 0 from rfl, ite_eqN (by omega) (by omega), show (0 : Int64) = lN 0 from rfl, lN_add, lN_add, nI_add]
      simp only [sst, opn]
      by_cases hb : i &&& bar V = 0
      · rw [if_pos hb]
        by_cases hf : frs V i 1 = true
        · rw [if_pos hf]
          exact ⟨_, rfl, by simp [hb, hf], rfl, he.tr g2⟩
        · rw [if_neg hf]
          exact ⟨_, rfl, by simp [hb, hf], rfl, he.tr g2⟩
      · rw [if_neg hb]
        exact ⟨_, rfl, by simp [hb], rfl, he⟩) (by
      rintro ⟨y, z, m1⟩ ⟨rfl, hz, he⟩
      dsimp only at hz he
      subst hz
      refine ⟨(lN (sst (fun s => opn V 0 s && frs V s 1) (wrt V) (2 ^ V.2.1)), nI (2 ^ V.2.1), m1), ?_, rfl, he⟩
      simp only [bX9_sumTogether_4]
      rw [m_allLanes hV (he.im hm), Option.bind_some, ite_ltN (by omega) (by omega), if_pos (by omega)]) F 0 (0, 0, m) (Nat.zero_le _) (by omega) ⟨rfl, rfl, E57.rf m⟩
  refine ⟨e.2.2, ?_, h3⟩
  simp only [gX9_sumTogether]
  rw [h1, Option.bind_some, h2]
set_option maxHeartbeats 2000000 in
theorem m_sumApart (hF : 2000 ≤ F) (hV : okV V) (hm : IM m V) {a b : Nat} (ha : a < V.1) (hb : b < V.1) (rl : Bool) : ∃ m', gX9_sumApart F m (nI a) (nI b) rl = some (lN (sst (apt V (if rl = true then mus V else 0) a b) (wrt V) (2 ^ V.2.1)), m') ∧ E57 m m' := by
  have h10 := pow10 hV.2.2.1
  have hH := hV.2.1
  have h1p := Nat.one_le_two_pow (n := V.2.1)
  have hB := Nat.lt_of_lt_of_le (bar_lt (V := V)) h10
  have hplt := fun s => pl_lt V.2.2 s V.1 V.2.1 (fun l hl => ⟨(hV.2.2.2 l hl).2.1, (hV.2.2.2 l hl).2.2.1⟩)
  obtain ⟨e, h1, h2, h3⟩ := iter_inv (f := bX9_sumApart_6 F (nI a) (nI b) rl) (fun i q => q.1 = lN (sst (apt V (if rl = true then mus V else 0) a b) (wrt V) i) ∧ q.2.1 = nI i ∧ E57 m q.2.2) (2 ^ V.2.1) (fun e => e.1 = lN (sst (apt V (if rl = true then mus V else 0) a b) (wrt V) (2 ^ V.2.1)) ∧ E57 m e.2.2) (by
      rintro i ⟨y, z, m1⟩ hi ⟨rfl, hz, he⟩
      dsimp only at hz he
      subst hz
      refine Or.inl ?_
      have hm1 := he.im hm
      have hle : i &&& bar V ≤ i := Nat.and_le_left
      obtain ⟨m2, g1, g2, g3⟩ := m_isForest hF hV hm1 hi (p := 2) (by omega)
      have pa := hplt i a ha
      have pb := hplt i b hb
      have pj := pl_lb V.2.2 i V.2.1 a b
      simp only [bX9_sumApart_6, lete]
      rw [m_allLanes hV hm1, Option.bind_some, ite_ltN (by omega) (by omega), if_neg (by omega), show (2 : Int32) = nI 2 from rfl, m_ruledAs hF hV hm1 (by omega), Option.bind_some, g1, Option.bind_some, m_worthOf hF hV (g2.im hm1) hi, Option.bind_some, m_isRuled hF hV hm1 hi, Option.bind_some]
      have ia : inb (nI a) 7 := inb_nI (by omega) (by omega)
      have ib : inb (nI b) 7 := inb_nI (by omega) (by omega)
      simp only [chk_pos ia, chk_pos ib]
      show ∃ s', (if nI i &&& nI (bar V) = 0 then _ else _) = _ ∧ _
      rw [andI, show (0 : Int32) = nI 0 from rfl, ite_eqN (by omega) (by omega), lN_add, nI_1, nI_clamp (show a < 2 ^ 31 by omega), nI_clamp (show b < 2 ^ 31 by omega)]
      simp only [sst, apt, opn]
      by_cases hbar : i &&& bar V = 0
      · rw [if_pos hbar]
        by_cases hf : frs V i 2 = true
        · rw [g3 hf a ha, g3 hf b hb, ite_eqN (by omega) (by omega), if_pos hf]
          by_cases hq : pl V.2.2 i V.2.1 a = pl V.2.2 i V.2.1 b
          · have hq2 := pj.mp hq
            rw [if_pos hq]
            cases rl with
            | false => exact ⟨_, rfl, by simp [hq2], rfl, he.tr g2⟩
            | true =>
              rw [if_pos rfl]
              by_cases hal : alw V i = true
              · rw [if_pos hal]
                exact ⟨_, rfl, by simp [hq2], rfl, he.tr g2⟩
              · rw [if_neg hal]
                exact ⟨_, rfl, by simp [hq2], rfl, he⟩
          · have hq2 : ¬ lb V.2.2 i V.2.1 a = lb V.2.2 i V.2.1 b := fun z => hq (pj.mpr z)
            rw [if_neg hq]
            cases rl with
            | false => exact ⟨_, rfl, by simp [hq2, hbar, hf], rfl, he.tr g2⟩
            | true =>
              rw [if_pos rfl]
              by_cases hal : alw V i = true
              · have : i &&& mus V = mus V := by
                  unfold alw at hal
                  simp only [decide_eq_true_eq] at hal
                  exact hal.1
                rw [if_pos hal]
                exact ⟨_, rfl, by simp [hq2, hbar, this, hf], rfl, he.tr g2⟩
              · have : ¬ i &&& mus V = mus V := fun z => by
                  unfold alw at hal
                  simp [z, hbar] at hal
                rw [if_neg hal]
                exact ⟨_, rfl, by simp [hq2, hbar, this], rfl, he⟩
        · rw [if_neg hf]
          cases rl with
          | false => exact ⟨_, rfl, by simp [hf], rfl, he.tr g2⟩
          | true =>
            rw [if_pos rfl]
            by_cases hal : alw V i = true
            · rw [if_pos hal]
              exact ⟨_, rfl, by simp [hf], rfl, he.tr g2⟩
            · rw [if_neg hal]
              exact ⟨_, rfl, by simp [hf], rfl, he⟩
      · rw [if_neg hbar]
        exact ⟨_, rfl, by simp [hbar], rfl, he⟩) (by
      rintro ⟨y, z, m1⟩ ⟨rfl, hz, he⟩
      dsimp only at hz he
      subst hz
      refine ⟨(lN (sst (apt V (if rl = true then mus V else 0) a b) (wrt V) (2 ^ V.2.1)), nI (2 ^ V.2.1), m1), ?_, rfl, he⟩
      simp only [bX9_sumApart_6]
      rw [m_allLanes hV (he.im hm), Option.bind_some, ite_ltN (by omega) (by omega), if_pos (by omega)]) F 0 (0, 0, m) (Nat.zero_le _) (by omega) ⟨rfl, rfl, E57.rf m⟩
  refine ⟨e.2.2, ?_, h3⟩
  simp only [gX9_sumApart]
  rw [h1, Option.bind_some, h2]
end
