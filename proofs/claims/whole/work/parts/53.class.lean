/-! ===== the class's readers, of a village V ===== -/
theorem ite_eqN {α : Type} {a b : Nat} (ha : a < 2 ^ 31) (hb : b < 2 ^ 31) (x y : α) : (if nI a = nI b then x else y) = if a = b then x else y := by
  by_cases h : a = b
  · rw [if_pos h, if_pos (congrArg nI h)]
  · rw [if_neg h, if_neg (fun e => h ((nI_eq ha hb).mp e))]
theorem ite_leN {α : Type} {a b : Nat} (ha : a < 2 ^ 31) (hb : b < 2 ^ 31) (x y : α) : (if nI a ≤ nI b then x else y) = if a ≤ b then x else y := by
  by_cases h : a ≤ b
  · rw [if_pos h, if_pos ((nI_leI ha hb).mpr h)]
  · rw [if_neg h, if_neg (fun e => h ((nI_leI ha hb).mp e))]
theorem ite_ltN {α : Type} {a b : Nat} (ha : a < 2 ^ 31) (hb : b < 2 ^ 31) (x y : α) : (if nI a < nI b then x else y) = if a < b then x else y := by
  by_cases h : a < b
  · rw [if_pos h, if_pos ((nI_ltI ha hb).mpr h)]
  · rw [if_neg h, if_neg (fun e => h ((nI_ltI ha hb).mp e))]
theorem ite_bit0 {α : Type} {s l : Nat} (hs : s < 2 ^ 31) (hl : l < 31) (x y : α) : (if ((nI s >>> (nI l &&& 31)) &&& 1) = 0 then x else y) = if s.testBit l = true then y else x := by
  by_cases h : s.testBit l = true
  · rw [if_pos h, if_neg (fun e => by rw [bit0 hs hl, h] at e; cases e)]
  · rw [if_neg h, if_pos ((bit0 hs hl).mpr (by simpa using h))]
theorem ite_bit1 {α : Type} {s l : Nat} (hs : s < 2 ^ 31) (hl : l < 31) (x y : α) : (if ((nI s >>> (nI l &&& 31)) &&& 1) = 1 then x else y) = if s.testBit l = true then x else y := by
  by_cases h : s.testBit l = true
  · rw [if_pos h, if_pos ((bit1 hs hl).mpr h)]
  · rw [if_neg h, if_neg (fun e => h ((bit1 hs hl).mp e))]
theorem ite_bitb {α : Type} {s l : Nat} (hl : l < 31) (hs : s < 2 ^ 31) (x y : α) : (if (nI s &&& (1 : Int32) <<< (nI l &&& 31)) = 0 then x else y) = if s.testBit l = true then y else x := by
  by_cases h : s.testBit l = true
  · rw [if_pos h, if_neg (fun e => by rw [bitb hl hs, h] at e; cases e)]
  · rw [if_neg h, if_pos ((bitb hl hs).mpr (by simpa using h))]
theorem tf_if {c : Prop} [Decidable c] : (if c then some true else some false) = some (decide c) := by by_cases h : c <;> simp [h]
theorem ft_if {c : Prop} [Decidable c] : (if c then some false else some true) = some (!decide c) := by by_cases h : c <;> simp [h]
section
variable {V : Vd} {m : Mem} {s : Nat}
theorem pow10 {n : Nat} (h : n ≤ 10) : 2 ^ n ≤ 1024 := Nat.pow_le_pow_right (by decide) h
theorem okV.sl (h : okV V) (hs : s < 2 ^ V.2.1) : s < 1024 := Nat.lt_of_lt_of_le hs (pow10 h.2.2.1)
theorem okV.wt {l : Nat} (h : okV V) (hl : l < V.2.1) : 1 ≤ wt (V.2.2 l) ∧ wt (V.2.2 l) ≤ 9 := by
  obtain ⟨-, -, -, h1⟩ := h
  obtain ⟨a, -, -, -, b, c, -⟩ := h1 l hl
  unfold _root_.Jvm.Pilot.@@N@@.wt
  split
  · omega
  · split <;> omega
theorem okV.ct {l : Nat} (h : okV V) (hl : l < V.2.1) : ct (V.2.2 l) ≤ 218 := by
  obtain ⟨-, -, -, h1⟩ := h
  obtain ⟨a, -, -, -, -, -, b, -⟩ := h1 l hl
  unfold _root_.Jvm.Pilot.@@N@@.ct
  (repeat' split) <;> omega
theorem okV.dr {l : Nat} (h : okV V) (hl : l < V.2.1) : dr (V.2.2 l) ≤ 99 := by
  obtain ⟨-, -, -, h1⟩ := h
  obtain ⟨a, -, -, -, -, -, -, b, -⟩ := h1 l hl
  unfold _root_.Jvm.Pilot.@@N@@.dr
  (repeat' split) <;> omega
theorem okV.jn (h : okV V) (s : Nat) : jn V.2.2 s V.2.1 ≤ V.1 := by
  have := jn_rt V.2.2 s (H := V.1) V.2.1 (fun l hl => ⟨(h.2.2.2 l hl).2.1, (h.2.2.2 l hl).2.2.1⟩)
  omega
theorem lb8 (f : Nat → Nat → Nat) (s k : Nat) : ∀ i, i < 7 → lb f s k i < 8 := fun i hi => by
  have := lb_le f s k i
  omega
theorem mus_lt : mus V < 2 ^ V.2.1 := rB_lt _ _ _
theorem bar_lt : bar V < 2 ^ V.2.1 := rB_lt _ _ _
theorem okV.stt (h : okV V) (s : Nat) : stt V s < 2 ^ 25 := by
  have h1 := enc_lt 7 (lb8 V.2.2 s V.2.1)
  have h2 := h.jn s
  have h3 := h.2.1
  unfold _root_.Jvm.Pilot.@@N@@.stt
  split <;> omega
theorem x_sets (h : okV V) {v : Nat} (hx : IX m v V) : gX6_sets m v = some (nI (2 ^ V.2.1)) := by
  unfold gX6_sets
  rw [hx.2.1, sh1 (by have := h.2.2.1; omega)]
theorem x_allLanes (h : okV V) {v : Nat} (hx : IX m v V) : gX6_allLanes m v = some (nI (2 ^ V.2.1 - 1)) := by
  unfold gX6_allLanes
  rw [hx.2.1, sh1 (by have := h.2.2.1; omega), show (1 : Int32) = nI 1 from rfl, pk_sub (Nat.one_le_two_pow)]
theorem x_hasLane (h : okV V) {v : Nat} (hx : IX m v V) (a : Int32) : gX6_hasLane m v a = some (decide (¬ a < 0 ∧ ¬ nI V.2.1 ≤ a)) := by
  unfold gX6_hasLane
  rw [hx.2.1]
  by_cases h0 : a < 0
  · simp [h0]
  · by_cases h1 : nI V.2.1 ≤ a
    · simp [h0, h1]
    · have h2 : ¬ (10 : Int32) ≤ a := by
        intro q
        apply h1
        rw [Int32.le_iff_toInt_le] at q ⊢
        rw [nI_toInt (by have := h.2.2.1; omega)]
        have e : (10 : Int32).toInt = 10 := by decide
        have := h.2.2.1
        omega
      simp [h0, h1, h2]
theorem x_hasLaneN (h : okV V) {v : Nat} (hx : IX m v V) {l : Nat} (hl : l < V.2.1) : gX6_hasLane m v (nI l) = some true := by
  rw [x_hasLane h hx]
  have := h.2.2.1
  simp [nI_pos (show l < 2 ^ 31 by omega), nI_ge hl (by omega)]
/-- a set of lanes that are there -/
theorem set_of {a : Int32} {n : Nat} (hn : n ≤ 10) (h : (a &&& (nI (2 ^ n - 1) ^^^ (-1))) = 0) : ∃ s, s < 2 ^ n ∧ a = nI s := by
  have hp := pow10 hn
  have hb : ∀ i, i < 32 → n ≤ i → bt a i = false := by
    intro i hi hni
    have h1 : bt (a &&& (nI (2 ^ n - 1) ^^^ (-1))) i = false := by rw [h]; exact b_0 i
    rw [b_and, b_xor, b_m1 i hi, bt_nI i hi, Nat.testBit_two_pow_sub_one] at h1
    have : decide (i < n) = false := by simp; omega
    rw [this] at h1
    simpa using h1
  refine ⟨a.toBitVec.toNat % 2 ^ n, Nat.mod_lt _ (Nat.pow_pos (by decide)), b_ext fun i hi => ?_⟩
  rw [bt_nI i hi, Nat.testBit_mod_two_pow]
  by_cases hni : i < n
  · simp only [hni, decide_true, Bool.true_and]
    show a.toBitVec.getLsbD i = _
    rw [BitVec.testBit_toNat]
  · rw [hb i hi (by omega)]
    simp [hni]
theorem set_not {n s : Nat} (hs : s < 2 ^ n) : (nI s &&& (nI (2 ^ n - 1) ^^^ (-1))) = 0 := by
  rw [woI, show (0 : Int32) = nI 0 from rfl]
  congr 1
  apply Nat.eq_of_testBit_eq
  intro i
  rw [wo_bit, Nat.testBit_two_pow_sub_one, Nat.zero_testBit]
  by_cases hi : i < n
  · simp [hi]
  · rw [tb_hi hs (by omega)]; rfl
theorem x_hasAll (h : okV V) {v : Nat} (hx : IX m v V) (a : Int32) : gX6_hasAll m v a = some (decide ((a &&& (nI (2 ^ V.2.1 - 1) ^^^ (-1))) = 0)) := by
  unfold gX6_hasAll
  rw [x_allLanes h hx]
  simp only [Option.bind_some]
  rw [tf_if]
theorem x_allows (h : okV V) {v : Nat} (hx : IX m v V) (hs : s < 2 ^ V.2.1) : gX6_allows m v (nI s) = some (alw V s) := by
  have h1 := h.sl hs
  have h2 := Nat.lt_of_lt_of_le (mus_lt (V := V)) (pow10 h.2.2.1)
  have h3 := Nat.lt_of_lt_of_le (bar_lt (V := V)) (pow10 h.2.2.1)
  have h4 : s &&& mus V ≤ s := Nat.and_le_left
  have h5 : s &&& bar V ≤ s := Nat.and_le_left
  unfold gX6_allows alw
  rw [hx.2.2.1, hx.2.2.2.1, andI, andI, show (0 : Int32) = nI 0 from rfl, ite_eqN (by omega) (by omega), ite_eqN (by omega) (by omega)]
  by_cases e1 : s &&& mus V = mus V
  · by_cases e2 : s &&& bar V = 0
    · simp [e1, e2]
    · simp [e1, e2]
  · simp [e1]
theorem x_stateOf (h : okV V) (hj : IJ m V) (hs : s < 2 ^ V.2.1) : gX2_stateOf m (nI s) = some (nI (stt V s)) := by
  have h1 := h.sl hs
  unfold gX2_stateOf
  rw [if_neg (nI_pos (by omega)), show (1024 : Int32) = nI 1024 from rfl, ite_leN (by omega) (by omega), if_neg (by omega), chk_pos (inb_nI h1 (by omega)), nI_clamp (by omega), hj s hs]
theorem stt_hi : stt V s / 2 ^ 21 = (if rg V.2.2 s V.2.1 = 0 then 0 else 1) + 2 * prt V s := by
  have h1 := enc_lt 7 (lb8 V.2.2 s V.2.1)
  unfold stt prt
  generalize (if rg V.2.2 s V.2.1 = 0 then 0 else 1) = r
  generalize enc (lb V.2.2 s V.2.1) 7 = e at *
  omega
theorem g_forest {S p r P : Nat} (hS : S < 2 ^ 25) (hp : p ≤ 7) (e : S / 2 ^ 21 = r + 2 * P) (hr : r ≤ 1) : gX2_isForest (nI S) (nI p) = some (decide (r = 0 ∧ P = p)) := by
  unfold gX2_isForest
  rw [show (21 : Int32) = nI 21 from rfl, shrN (by omega) (by omega), show (1 : Int32) = nI 1 from rfl, shl1N (by omega) (by omega), ite_eqN (by omega) (by omega), tf_if, e]
  congr 1
  apply decide_eq_decide.mpr
  omega
theorem g_ring {S r P : Nat} (hS : S < 2 ^ 25) (e : S / 2 ^ 21 = r + 2 * P) (hr : r ≤ 1) : (if (nI S &&& 2097152) = 0 then some false else some true) = some (decide (r ≠ 0)) := by
  rw [show (2097152 : Int32) = nI (2 ^ 21) from rfl, andI, show (0 : Int32) = nI 0 from rfl, ite_eqN (Nat.lt_of_le_of_lt Nat.and_le_left (by omega)) (by omega), ft_if]
  congr 1
  rw [Bool.eq_iff_iff]
  simp only [Bool.not_eq_true', decide_eq_false_iff_not, decide_eq_true_eq]
  rw [and_pow0, tb_div, e]
  simp
  omega
theorem x_leavesForest (h : okV V) (hj : IJ m V) (hs : s < 2 ^ V.2.1) {p : Nat} (hp : p ≤ 7) : gX2_leavesForest m (nI s) (nI p) = some (frs V s p) := by
  unfold gX2_leavesForest
  rw [x_stateOf h hj hs, Option.bind_some, g_forest (h.stt s) hp stt_hi (by split <;> omega), Option.bind_some]
  unfold frs
  congr 1
  apply decide_eq_decide.mpr
  by_cases er : rg V.2.2 s V.2.1 = 0
  · simp [er]
  · simp [er]
theorem x_partsLeft (h : okV V) (hj : IJ m V) (hs : s < 2 ^ V.2.1) : gX2_partsLeft m (nI s) = some (nI (prt V s)) := by
  have h2 := h.stt s
  unfold gX2_partsLeft
  rw [x_stateOf h hj hs, Option.bind_some, show (22 : Int32) = nI 22 from rfl, shrN (by omega) (by omega)]
  congr 2
  have e := stt_hi (V := V) (s := s)
  generalize stt V s = S at *
  generalize prt V s = P at *
  have : S / 2 ^ 22 = S / 2 ^ 21 / 2 := by omega
  rw [this, e]
  split <;> omega
theorem x_partOf {S h : Nat} (hS : S < 2 ^ 31) (hh : h < 7) : gX2_partOf (nI S) (nI h) = some (nI (S / 8 ^ h % 8)) := by
  unfold gX2_partOf
  rw [show (3 : Int32) = nI 3 from rfl, pk_mul, shrN hS (by omega), Nat.pow_mul]
  congr 1
  have h1 : S / (2 ^ 3) ^ h < 2 ^ 32 := Nat.lt_of_le_of_lt (Nat.div_le_self _ _) (by omega)
  exact pk_andN h1 3 (by decide)
theorem stt_digit {h : Nat} (hh : h < 7) : stt V s / 8 ^ h % 8 = lb V.2.2 s V.2.1 h := by
  have e : stt V s = enc (lb V.2.2 s V.2.1) 7 + ((if rg V.2.2 s V.2.1 = 0 then 0 else 1) + 2 * prt V s) * 8 ^ 7 := by
    unfold stt prt
    generalize (if rg V.2.2 s V.2.1 = 0 then 0 else 1) = r
    generalize enc (lb V.2.2 s V.2.1) 7 = q
    omega
  rw [e]
  exact enc_digit 7 _ h hh (lb8 _ _ _)
theorem g_together {S a b x y : Nat} (hS : S < 2 ^ 25) (ha : a < 7) (hb : b < 7) (ea : S / 8 ^ a % 8 = x) (eb : S / 8 ^ b % 8 = y) : (gX2_partOf (nI S) (nI a)).bind (fun x2 => (gX2_partOf (nI S) (nI b)).bind (fun x3 => (if x2 = x3 then some true else some false))) = some (decide (x = y)) := by
  rw [x_partOf (by omega) ha, Option.bind_some, x_partOf (by omega) hb, Option.bind_some, ea, eb, ite_eqN (by omega) (by omega), tf_if]
theorem x_areTogether (h : okV V) (hj : IJ m V) (hs : s < 2 ^ V.2.1) {a b : Nat} (ha : a < 7) (hb : b < 7) : gX2_areTogether m (nI s) (nI a) (nI b) = some (decide (lb V.2.2 s V.2.1 a = lb V.2.2 s V.2.1 b)) := by
  unfold gX2_areTogether
  rw [x_stateOf h hj hs, Option.bind_some]
  exact g_together (h.stt s) ha hb (stt_digit ha) (stt_digit hb)
theorem x_hasRing (h : okV V) (hj : IJ m V) (hs : s < 2 ^ V.2.1) : gX2_hasRing m (nI s) = some (decide (rg V.2.2 s V.2.1 ≠ 0)) := by
  unfold gX2_hasRing
  rw [x_stateOf h hj hs, Option.bind_some, g_ring (h.stt s) stt_hi (by split <;> omega)]
  congr 1
  apply decide_eq_decide.mpr
  by_cases er : rg V.2.2 s V.2.1 = 0
  · simp [er]
  · simp [er]
theorem x_isWay (h : okV V) (hx : IX m 1 V) (hj : IJ m V) (hs : s < 2 ^ V.2.1) : gX2_isWay m (nI s) = some (isW V s) := by
  unfold gX2_isWay isW
  rw [x_hasAll h hx, set_not hs]
  simp only [decide_true, Option.bind_some, if_true]
  rw [x_allows h hx hs, show (1 : Int32) = nI 1 from rfl, x_leavesForest h hj hs (by omega)]
  simp only [Option.bind_some]
  cases alw V s <;> cases frs V s 1 <;> rfl
theorem x_isWayNot (h : okV V) (hx : IX m 1 V) {a : Int32} (ha : ¬ (a &&& (nI (2 ^ V.2.1 - 1) ^^^ (-1))) = 0) : gX2_isWay m a = some false := by
  unfold gX2_isWay
  rw [x_hasAll h hx, decide_eq_false ha]
  rfl
end
