/-! ===== a plough in each part ===== -/
/-- the marks that the told houses below k have -/
def sn (T : Nat) (l : Nat → Nat) : Nat → Nat
  | 0 => 0
  | k + 1 => if T.testBit k = true then sn T l k ||| 2 ^ l k else sn T l k
theorem sn_bit {T : Nat} {l : Nat → Nat} {q : Nat} : ∀ k, (sn T l k).testBit q = true ↔ ∃ h, h < k ∧ T.testBit h = true ∧ l h = q
  | 0 => by simp [sn]
  | k + 1 => by
    have i := sn_bit (T := T) (l := l) (q := q) k
    simp only [sn]
    by_cases hb : T.testBit k = true
    · rw [if_pos hb, Nat.testBit_or, Nat.testBit_two_pow, Bool.or_eq_true, i, decide_eq_true_eq]
      constructor
      · rintro (⟨h, h1, h2, h3⟩ | h)
        · exact ⟨h, by omega, h2, h3⟩
        · exact ⟨k, by omega, hb, h⟩
      · rintro ⟨h, h1, h2, h3⟩
        by_cases hk : h = k
        · subst hk; exact Or.inr h3
        · exact Or.inl ⟨h, by omega, h2, h3⟩
    · rw [if_neg hb, i]
      constructor
      · rintro ⟨h, h1, h2, h3⟩
        exact ⟨h, by omega, h2, h3⟩
      · rintro ⟨h, h1, h2, h3⟩
        by_cases hk : h = k
        · subst hk; exact absurd h2 hb
        · exact ⟨h, by omega, h2, h3⟩
theorem sn_lt {T : Nat} {l : Nat → Nat} : ∀ k, (∀ h, h < k → l h < 8) → sn T l k < 2 ^ 8
  | 0, _ => by simp [sn]
  | k + 1, g => by
    have i := sn_lt (T := T) (l := l) k (fun h hh => g h (by omega))
    simp only [sn]
    split
    · exact Nat.or_lt_two_pow i (Nat.pow_lt_pow_right (by decide) (g k (by omega)))
    · exact i
def apr (T : Nat) (l : Nat → Nat) : Nat → Bool
  | 0 => true
  | k + 1 => apr T l k && (!T.testBit k || !(sn T l k).testBit (l k))
theorem apr_down {T : Nat} {l : Nat → Nat} {k : Nat} (h : apr T l k = false) : ∀ d, apr T l (k + d) = false
  | 0 => h
  | d + 1 => by rw [← Nat.add_assoc, apr, apr_down h d]; rfl
theorem apr_same {T : Nat} {l l' : Nat → Nat} (g : ∀ a b, l a = l b ↔ l' a = l' b) : ∀ k, apr T l k = apr T l' k
  | 0 => rfl
  | k + 1 => by
    have i := apr_same (T := T) g k
    have e : (sn T l k).testBit (l k) = (sn T l' k).testBit (l' k) := by
      rw [Bool.eq_iff_iff, sn_bit, sn_bit]
      constructor
      · rintro ⟨h, h1, h2, h3⟩
        exact ⟨h, h1, h2, (g h k).mp h3⟩
      · rintro ⟨h, h1, h2, h3⟩
        exact ⟨h, h1, h2, (g h k).mpr h3⟩
    rw [apr, apr, i, e]
theorem apr_hi {T H : Nat} {l : Nat → Nat} (hT : T < 2 ^ H) : ∀ d, apr T l (H + d) = apr T l H
  | 0 => rfl
  | d + 1 => by rw [← Nat.add_assoc, apr, apr_hi hT d, tb_hi hT (by omega)]; simp
theorem part_digit {S h x : Nat} (hS : S < 2 ^ 31) (hh : h < 7) (e : S / 8 ^ h % 8 = x) : gX2_partOf (nI S) (nI h) = some (nI x) := by rw [x_partOf hS hh, e]
section
variable {PM PS : Nat → Nat → Nat} {m : Mem} {V : Vd} {F : Nat}
theorem g_allApart (hF : 2000 ≤ F) {S T : Nat} {l : Nat → Nat} (hS : S < 2 ^ 31) (hT : T < 2 ^ 31) (hl : ∀ h, h < 7 → S / 8 ^ h % 8 = l h) : (iter F (bX2_areAllApart_12 (nI T) (nI S)) (0, 0)).bind (fun e7 => Sum.elim (fun _ => some true) (fun q => some q) e7) = some (apr T l 7) := by
  have hl8 : ∀ h, h < 7 → l h < 8 := fun h hh => by rw [← hl h hh]; exact Nat.mod_lt _ (by decide)
  obtain ⟨e, h1, h2⟩ := iter_inv (f := bX2_areAllApart_12 (nI T) (nI S)) (fun i q => q = (nI (sn T l i), nI i) ∧ apr T l i = true) 7 (fun e => (Sum.elim (fun _ => some true) (fun q => some q) e : Option Bool) = some (apr T l 7)) (by
      rintro i q hi ⟨rfl, ha⟩
      have hs := sn_lt (T := T) i (fun h hh => hl8 h (by omega))
      have h8 := hl8 i hi
      have h2l : 2 ^ l i < 2 ^ 31 := Nat.pow_lt_pow_right (by decide) (by omega)
      simp only [bX2_areAllApart_12]
      rw [show (7 : Int32) = nI 7 from rfl, ite_leN (by omega) (by omega), if_neg (by omega), ite_bit0 hT (by omega)]
      by_cases hb : T.testBit i = true
      · rw [if_pos hb, part_digit hS hi (hl i hi), Option.bind_some, lete_eq, ite_bitb (by omega) (by omega)]
        by_cases hc : (sn T l i).testBit (l i) = true
        · rw [if_pos hc]
          refine Or.inr ⟨_, rfl, ?_⟩
          have : apr T l (i + 1) = false := by rw [apr, hb, hc]; simp
          have h7 := apr_down this (7 - (i + 1))
          rw [show i + 1 + (7 - (i + 1)) = 7 by omega] at h7
          rw [h7]; rfl
        · rw [if_neg hc, lete_eq, sh1 (by omega), orI, nI_1]
          refine Or.inl ⟨_, rfl, ?_, ?_⟩
          · simp only [sn, hb, if_true]
          · rw [apr, ha, hb]; simpa using hc
      · rw [if_neg hb, nI_1]
        refine Or.inl ⟨_, rfl, ?_, ?_⟩
        · simp only [sn, if_neg hb]
        · rw [apr, ha]; simp [hb]) (by
      rintro q ⟨rfl, ha⟩
      refine ⟨_, by simp only [bX2_areAllApart_12]; rw [show (7 : Int32) = nI 7 from rfl, ite_leN (by omega) (by omega), if_pos (by omega)], ?_⟩
      rw [ha]; rfl) F 0 (0, 0) (Nat.zero_le _) (by omega) ⟨rfl, rfl⟩
  rw [h1, Option.bind_some, h2]
theorem x_allApart (hF : 2000 ≤ F) (hV : okV V) (hj : IJ m V) {s T : Nat} (hs : s < 2 ^ V.2.1) (hT : T < 2 ^ 31) : gX2_areAllApart F m (nI s) (nI T) = some (apr T (lb V.2.2 s V.2.1) 7) := by
  have h2 := hV.stt s
  rw [gX2_areAllApart, x_stateOf hV hj hs, Option.bind_some]
  exact g_allApart hF (by omega) hT (fun h hh => stt_digit hh)
theorem m_oneEach (hF : 2000 ≤ F) (hV : okV V) (hm : m.1 43 8 = nI V.1) {l : Nat → Nat} (hl : ∀ g, g < V.1 → m.1 57 g = nI (l g)) (hlt : ∀ g, g < V.1 → l g < 8) {T : Nat} (hT : T < 2 ^ 31) : gX9_isOneEach F m (nI T) = some (apr T l V.1) := by
  have hH := hV.2.1
  unfold gX9_isOneEach
  obtain ⟨e, h1, h2⟩ := iter_inv (f := bX9_isOneEach_4 m (nI T)) (fun i q => q = (nI (sn T l i), nI i) ∧ apr T l i = true) V.1 (fun e => (Sum.elim (fun _ => some true) (fun q => some q) e : Option Bool) = some (apr T l V.1)) (by
      rintro i q hi ⟨rfl, ha⟩
      have hs := sn_lt (T := T) i (fun h hh => hlt h (by omega))
      have h8 := hlt i hi
      have hib : inb (nI i) 7 := inb_nI (by omega) (by omega)
      simp only [bX9_isOneEach_4]
      rw [hm, ite_leN (by omega) (by omega), if_neg (by omega), ite_bit0 hT (by omega)]
      by_cases hb : T.testBit i = true
      · rw [if_pos hb, chk_pos hib, nI_clamp (by omega), hl i hi, ite_bit1 (by omega) (by omega)]
        by_cases hc : (sn T l i).testBit (l i) = true
        · rw [if_pos hc]
          refine Or.inr ⟨_, rfl, ?_⟩
          have : apr T l (i + 1) = false := by rw [apr, hb, hc]; simp
          have h7 := apr_down this (V.1 - (i + 1))
          rw [show i + 1 + (V.1 - (i + 1)) = V.1 by omega] at h7
          rw [h7]; rfl
        · rw [if_neg hc, chk_pos hib, lete_eq, sh1 (by omega), orI, nI_1]
          refine Or.inl ⟨_, rfl, ?_, ?_⟩
          · simp only [sn, hb, if_true]
          · rw [apr, ha, hb]; simpa using hc
      · rw [if_neg hb, nI_1]
        refine Or.inl ⟨_, rfl, ?_, ?_⟩
        · simp only [sn, if_neg hb]
        · rw [apr, ha]; simp [hb]) (by
      rintro q ⟨rfl, ha⟩
      refine ⟨_, by simp only [bX9_isOneEach_4]; rw [hm, ite_leN (by omega) (by omega), if_pos (by omega)], ?_⟩
      rw [ha]; rfl) F 0 (0, 0) (Nat.zero_le _) (by omega) ⟨rfl, rfl⟩
  rw [h1, Option.bind_some, h2]
def plo (V : Vd) (T s : Nat) : Bool := alw V s && (frs V s (pcn T 31) && apr T (lb V.2.2 s V.2.1) 7)
theorem pcn_le {T : Nat} : ∀ k, pcn T k ≤ k
  | 0 => Nat.le_refl 0
  | k + 1 => by have := pcn_le (T := T) k; rw [pcn]; split <;> omega
theorem x_ploughs (hF : 2000 ≤ F) (hV : okV V) (hx : IX m 1 V) (hj : IJ m V) {T : Nat} (hT : T < 2 ^ 7) : gX1_manyWithOneEach F m (nI T) = some (nI (sst (plo V T) (fun _ => 1) (2 ^ V.2.1))) := by
  have h10 := pow10 hV.2.2.1
  have hp : pcn T 31 ≤ 7 := by rw [show (31 : Nat) = 7 + 24 from rfl, pcn_hi hT]; exact pcn_le 7
  unfold gX1_manyWithOneEach
  rw [bitCount_ok T (by omega), Option.bind_some, x_sets hV hx, Option.bind_some]
  have q := iter_at (F := F) (f := bX1_manyWithOneEach_19 F m (nI T) (nI (pcn T 31)) (nI (2 ^ V.2.1))) (fun i => (nI (sst (plo V T) (fun _ => 1) i), nI i)) (2 ^ V.2.1) (nI (sst (plo V T) (fun _ => 1) (2 ^ V.2.1)), nI (2 ^ V.2.1)) (fun i hi => ?_) ?_ (by omega)
  · have e0 : iter F (bX1_manyWithOneEach_19 F m (nI T) (nI (pcn T 31)) (nI (2 ^ V.2.1))) (0, 0) = _ := q
    rw [e0]; rfl
  · simp only [bX1_manyWithOneEach_19]
    rw [ite_leN (by omega) (by omega), if_neg (by omega), x_allows hV hx hi, Option.bind_some, x_leavesForest hV hj hi hp, Option.bind_some, x_allApart hF hV hj hi (by omega), Option.bind_some, nI_1, nI_1]
    simp only [sst, plo]
    by_cases c1 : alw V i = true <;> by_cases c2 : frs V i (pcn T 31) = true <;> by_cases c3 : apr T (lb V.2.2 i V.2.1) 7 = true <;> simp [c1, c2, c3]
  · simp only [bX1_manyWithOneEach_19]
    rw [ite_leN (by omega) (by omega), if_pos (Nat.le_refl _)]
set_option maxHeartbeats 2000000 in
theorem m_ploughs (hF : 2000 ≤ F) (hV : okV V) (hm : IM m V) {T : Nat} (hT : T < 2 ^ V.1) : ∃ e, iter F (bX9_ploughs_23 F (nI T)) (0, 0, m) = some e ∧ e.1 = nI (sst (plo V T) (fun _ => 1) (2 ^ V.2.1)) ∧ E57 m e.2.2 := by
  have h10 := pow10 hV.2.2.1
  have hH := hV.2.1
  have hT7 : T < 2 ^ 7 := Nat.lt_of_lt_of_le hT (Nat.pow_le_pow_right (by decide) hH)
  have h1p := Nat.one_le_two_pow (n := V.2.1)
  have hp : pcn T 31 ≤ 7 := by rw [show (31 : Nat) = 7 + 24 from rfl, pcn_hi hT7]; exact pcn_le 7
  have hplt := fun s => pl_lt V.2.2 s V.1 V.2.1 (fun l hl => ⟨(hV.2.2.2 l hl).2.1, (hV.2.2.2 l hl).2.2.1⟩)
  exact iter_inv (f := bX9_ploughs_23 F (nI T)) (fun i q => q.1 = nI (sst (plo V T) (fun _ => 1) i) ∧ q.2.1 = nI i ∧ E57 m q.2.2) (2 ^ V.2.1) (fun e => e.1 = nI (sst (plo V T) (fun _ => 1) (2 ^ V.2.1)) ∧ E57 m e.2.2) (by
      rintro i ⟨y, z, m1⟩ hi ⟨rfl, hz, he⟩
      dsimp only at hz he
      subst hz
      refine Or.inl ?_
      have hm1 := he.im hm
      obtain ⟨m2, g1, g2, g3⟩ := m_isForest hF hV hm1 hi hp
      have hm2 := g2.im hm1
      simp only [bX9_ploughs_23]
      rw [m_allLanes hV hm1, Option.bind_some, ite_ltN (by omega) (by omega), if_neg (by omega), m_isRuled hF hV hm1 hi, Option.bind_some, m_bits hF (by omega), Option.bind_some, g1, Option.bind_some]
      simp only [sst, plo, lete_eq]
      by_cases ha : alw V i = true
      · rw [if_pos ha]
        by_cases hf : frs V i (pcn T 31) = true
        · have hap : apr T (pl V.2.2 i V.2.1) V.1 = apr T (lb V.2.2 i V.2.1) 7 := by
            rw [apr_same (l' := lb V.2.2 i V.2.1) (fun a b => pl_lb V.2.2 i V.2.1 a b)]
            have := apr_hi (l := lb V.2.2 i V.2.1) hT (7 - V.1)
            rw [show V.1 + (7 - V.1) = 7 by omega] at this
            exact this.symm
          rw [if_pos hf, m_oneEach hF hV hm2.1 (g3 hf) (fun g hg => by have := hplt i g hg; omega) (by omega), Option.bind_some, hap]
          by_cases hz : apr T (lb V.2.2 i V.2.1) 7 = true
          · rw [if_pos hz]
            exact ⟨_, rfl, by simp [ha, hf, hz, nI_1], nI_1 i, he.tr g2⟩
          · rw [if_neg hz]
            exact ⟨_, rfl, by simp [ha, hf, hz], nI_1 i, he.tr g2⟩
        · rw [if_neg hf]
          exact ⟨_, rfl, by simp [ha, hf], nI_1 i, he.tr g2⟩
      · rw [if_neg ha]
        exact ⟨_, rfl, by simp [ha], nI_1 i, he⟩) (by
      rintro ⟨y, z, m1⟩ ⟨rfl, hz, he⟩
      dsimp only at hz he
      subst hz
      refine ⟨(nI (sst (plo V T) (fun _ => 1) (2 ^ V.2.1)), nI (2 ^ V.2.1), m1), ?_, rfl, he⟩
      simp only [bX9_ploughs_23]
      rw [m_allLanes hV (he.im hm), Option.bind_some, ite_ltN (by omega) (by omega), if_pos (by omega)]) F 0 (0, 0, m) (Nat.zero_le _) (by omega) ⟨rfl, rfl, E57.rf m⟩
theorem pos_nI {a : Int32} (h : ¬ a ≤ 0) : ∃ s, s < 2 ^ 31 ∧ a = nI s ∧ 0 < s := by
  rw [Int32.le_iff_toInt_le] at h
  have e0 : (0 : Int32).toInt = 0 := by decide
  have := Int32.toInt_lt a
  refine ⟨a.toInt.toNat, by omega, ?_, by omega⟩
  apply Int32.toInt_inj.mp
  rw [nI_toInt (by omega)]
  omega
theorem pu_ploughs (hF : 2000 ≤ F) : PU_ploughs F (Inv PM PS) := by
  rintro m a1 ⟨V, hI⟩
  obtain ⟨hV, hx, hm, hj, -⟩ := id hI
  have hH := hV.2.1
  have hall : ∀ a, gX6_hasAllHouses m 1 a = some (decide ((a &&& (nI (2 ^ V.1 - 1) ^^^ (-1))) = 0)) := fun a => by
    rw [gX6_hasAllHouses, gX6_allHouses, hx.1, sh1 (by omega), show (1 : Int32) = nI 1 from rfl, pk_sub (Nat.one_le_two_pow), Option.bind_some, tf_if]
  have hh : ∀ k v, (mu m 42 k v).1 43 8 = nI V.1 := fun k v => by rw [mu_ne _ _ (Or.inl (by decide))]; exact hm.1
  by_cases hq : (a1 &&& (nI (2 ^ V.1 - 1) ^^^ (-1))) = 0
  · obtain ⟨T, hT, rfl⟩ := set_of (by omega) hq
    have hT7 : T < 2 ^ 7 := Nat.lt_of_lt_of_le hT (Nat.pow_le_pow_right (by decide) hH)
    by_cases h0 : T = 0
    · subst h0
      obtain ⟨r1, r2, r3⟩ := refI hI 1 (by decide) (by decide) (Sm.rf _)
      refine ⟨-nI 1, mu m 42 1 (m.1 42 1 + 1), _, ?_, ?_, r3⟩
      · rw [gX8_ploughs, if_pos (show nI 0 = (0 : Int32) from rfl), show (-1 : Int32) = -nI 1 from rfl, r1]; rfl
      · rw [gX9_ploughs, if_pos (by decide), show (-1 : Int32) = -nI 1 from rfl, r2]; rfl
    · obtain ⟨e, e1, e2, e3⟩ := m_ploughs hF hV hm hT
      refine ⟨nI (sst (plo V T) (fun _ => 1) (2 ^ V.2.1)), m, e.2.2, ?_, ?_, V, hI.sm e3.sm⟩
      · rw [gX8_ploughs, show (0 : Int32) = nI 0 from rfl, ite_eqN (by omega) (by omega), if_neg h0, hall, Option.bind_some, decide_eq_true hq, if_pos rfl, x_ploughs hF hV hx hj hT7, Option.bind_some]
      · rw [gX9_ploughs, show (0 : Int32) = nI 0 from rfl, ite_leN (by omega) (by omega), if_neg (by omega), hm.1, shrN (by omega) (by omega), Nat.div_eq_of_lt hT, if_pos rfl, show nI 0 = (0 : Int32) from rfl, e1, Option.bind_some, e2]
  · have hne : ¬ a1 = 0 := fun z => by subst z; exact hq (by simp)
    obtain ⟨r1, r2, r3⟩ := refI hI 1 (by decide) (by decide) (Sm.rf _)
    refine ⟨-nI 1, mu m 42 1 (m.1 42 1 + 1), _, ?_, ?_, r3⟩
    · rw [gX8_ploughs, if_neg hne, hall, Option.bind_some, decide_eq_false hq, if_neg (by decide), show (-1 : Int32) = -nI 1 from rfl, r1]; rfl
    · rw [gX9_ploughs]
      by_cases hp : a1 ≤ 0
      · rw [if_pos hp, show (-1 : Int32) = -nI 1 from rfl, r2]; rfl
      · obtain ⟨T, hT, rfl, hT0⟩ := pos_nI hp
        have hd : ¬ nI (T / 2 ^ V.1) = 0 := by
          rw [show (0 : Int32) = nI 0 from rfl, eq_nI (Nat.lt_of_le_of_lt (Nat.div_le_self _ _) hT) (by omega)]
          intro z
          apply hq
          apply set_not
          rw [Nat.div_eq_zero_iff] at z
          have := Nat.one_le_two_pow (n := V.1)
          omega
        rw [if_neg hp, hh, shrN hT (by omega), if_neg hd, show (-1 : Int32) = -nI 1 from rfl, r2]; rfl
end
