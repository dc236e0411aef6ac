/-! ===== how likely all still hang together ===== -/
theorem sst_add (P : Nat → Bool) (w : Nat → Nat) (a : Nat) : ∀ b, sst P w (a + b) = sst P w a + sst (fun s => P (a + s)) (fun s => w (a + s)) b
  | 0 => rfl
  | b + 1 => by rw [← Nat.add_assoc, sst, sst, sst_add P w a b]; omega
theorem sst_congr {P Q : Nat → Bool} {w v : Nat → Nat} : ∀ n, (∀ s, s < n → P s = Q s) → (∀ s, s < n → P s = true → w s = v s) → sst P w n = sst Q v n
  | 0, _, _ => rfl
  | n + 1, h, g => by
    rw [sst, sst, sst_congr n (fun s hs => h s (by omega)) (fun s hs => g s (by omega)), ← h n (by omega)]
    by_cases hp : P n = true
    · rw [if_pos hp, if_pos hp, g n (by omega) hp]
    · rw [if_neg hp, if_neg hp]
theorem sst_mul {P : Nat → Bool} {w : Nat → Nat} (c : Nat) : ∀ n, sst P (fun s => w s * c) n = sst P w n * c
  | 0 => by simp [sst]
  | n + 1 => by
    rw [sst, sst, sst_mul c n, Nat.add_mul]
    congr 1
    split <;> simp
theorem sst_cnt {P Q : Nat → Bool} {w : Nat → Nat} {B : Nat} : ∀ n, (∀ s, s < n → P s = true → Q s = true ∧ w s ≤ B) → sst P w n ≤ B * sst Q (fun _ => 1) n
  | 0, _ => by simp [sst]
  | n + 1, h => by
    have i := sst_cnt (w := w) n (fun s hs => h s (by omega))
    rw [sst, sst, Nat.mul_add]
    by_cases hp : P n = true
    · obtain ⟨h1, h2⟩ := h n (by omega) hp
      rw [if_pos hp, if_pos h1]
      omega
    · rw [if_neg hp]
      omega
theorem sst_none {P : Nat → Bool} {w : Nat → Nat} : ∀ n, (∀ s, s < n → P s = false) → sst P w n = 0
  | 0, _ => rfl
  | n + 1, h => by rw [sst, sst_none n (fun s hs => h s (by omega)), h n (by omega)]; rfl
/-- how many sets have none of some lanes -/
theorem cnt_free (b : Nat) : ∀ k, sst (fun s => decide (s &&& b = 0)) (fun _ => 1) (2 ^ k) = 2 ^ (k - pcn b k)
  | 0 => by simp [sst, pcn]
  | k + 1 => by
    have i := cnt_free b k
    have hp := pcn_le (T := b) k
    have e : 2 ^ (k + 1) = 2 ^ k + 2 ^ k := by rw [Nat.pow_succ]; omega
    rw [e, sst_add, i, pcn]
    have bits : ∀ s, s < 2 ^ k → decide ((2 ^ k + s) &&& b = 0) = (decide (s &&& b = 0) && !b.testBit k) := fun s hs => by
      rw [Bool.eq_iff_iff]
      simp only [Bool.and_eq_true, decide_eq_true_eq, Bool.not_eq_true']
      have z : ∀ x : Nat, x = 0 ↔ ∀ i, x.testBit i = false := fun x => ⟨fun h i => by rw [h]; exact Nat.zero_testBit i, fun h => Nat.eq_of_testBit_eq (fun i => by rw [h i, Nat.zero_testBit])⟩
      rw [z, z]
      constructor
      · intro h
        refine ⟨fun i => ?_, ?_⟩
        · have := h i
          rw [Nat.testBit_and, tb_add hs] at this
          rw [Nat.testBit_and]
          by_cases hi : i < k
          · rw [if_pos hi] at this; exact this
          · rw [tb_hi hs (by omega)]; rfl
        · have := h k
          rw [Nat.testBit_and, tb_add hs, if_neg (by omega)] at this
          simpa using this
      · rintro ⟨h1, h2⟩ i
        have := h1 i
        rw [Nat.testBit_and] at this
        rw [Nat.testBit_and, tb_add hs]
        by_cases hi : i < k
        · rw [if_pos hi]; exact this
        · rw [if_neg hi]
          by_cases ik : i = k
          · subst ik; rw [h2]; simp
          · simp [ik]
    by_cases hb : b.testBit k = true
    · rw [if_pos hb, sst_none _ (fun s hs => by rw [bits s hs, hb]; simp), Nat.add_zero, show k + 1 - (pcn b k + 1) = k - pcn b k by omega]
    · have hb' : b.testBit k = false := by simpa using hb
      rw [if_neg hb, sst_congr (Q := fun s => decide (s &&& b = 0)) (v := fun _ => 1) _ (fun s hs => by rw [bits s hs, hb']; simp) (fun _ _ _ => rfl), i]
      rw [show k + 1 - (pcn b k + 0) = (k - pcn b k) + 1 by omega, Nat.pow_succ]
      omega
def frB (V : Vd) : Nat := wo (wo (2 ^ V.2.1 - 1) (mus V)) (bar V)
def opB (V : Vd) : Nat := wo (2 ^ V.2.1 - 1) (bar V)
def cx (V : Vd) (s : Nat) : Nat → Nat
  | 0 => 1
  | k + 1 => cx V s k * (if (frB V).testBit k = true then (if s.testBit k = true then 100 - dr (V.2.2 k) else dr (V.2.2 k)) else 1)
def cm (V : Vd) (s : Nat) : Nat → Nat
  | 0 => 1
  | k + 1 => cm V s k * (if (opB V).testBit k = true then (if V.2.2 k 6 = 1 then 100 else if s.testBit k = true then 100 - dr (V.2.2 k) else dr (V.2.2 k)) else 1)
section
variable {PM PS : Nat → Nat → Nat} {m : Mem} {V : Vd} {F : Nat}
theorem frB_bit {k : Nat} (h : k < V.2.1) : (frB V).testBit k = (!decide (V.2.2 k 6 = 1) && !decide (V.2.2 k 6 = 2)) := by
  unfold frB mus bar
  rw [wo_bit, wo_bit, Nat.testBit_two_pow_sub_one, rB_bit, rB_bit]
  simp [h]
theorem opB_bit {k : Nat} (h : k < V.2.1) : (opB V).testBit k = !decide (V.2.2 k 6 = 2) := by
  unfold opB bar
  rw [wo_bit, Nat.testBit_two_pow_sub_one, rB_bit]
  simp [h]
theorem full_lt (n : Nat) : 2 ^ n - 1 < 2 ^ n := by have := Nat.one_le_two_pow (n := n); omega
theorem frB_lt : frB V < 2 ^ V.2.1 := wo_lt (wo_lt (full_lt _))
theorem opB_lt : opB V < 2 ^ V.2.1 := wo_lt (full_lt _)
/-- the reference counts a hundredfold by each lane that must be kept -/
theorem cm_cx {s : Nat} : ∀ k, k ≤ V.2.1 → cm V s k = cx V s k * 100 ^ pcn (mus V) k
  | 0, _ => by simp [cm, cx, pcn]
  | k + 1, h => by
    have i := cm_cx (s := s) k (by omega)
    have hm : (mus V).testBit k = decide (V.2.2 k 6 = 1) := by
      unfold mus
      rw [rB_bit]
      have : k < V.2.1 := h
      simp [this]
    rw [cm, cx, pcn, i, frB_bit h, opB_bit h, hm]
    by_cases c1 : V.2.2 k 6 = 1
    · simp [c1, Nat.pow_succ, Nat.mul_assoc]
    · by_cases c2 : V.2.2 k 6 = 2
      · simp [c1, c2]
      · simp only [c1, c2, decide_false, Bool.not_false, Bool.and_self, if_true, if_false, Bool.false_eq_true, Nat.add_zero]
        rw [Nat.mul_right_comm]
theorem op_fr : ∀ k, k ≤ V.2.1 → pcn (opB V) k = pcn (frB V) k + pcn (mus V) k
  | 0, _ => rfl
  | k + 1, h => by
    have i := op_fr k (by omega)
    have hm : (mus V).testBit k = decide (V.2.2 k 6 = 1) := by
      unfold mus
      rw [rB_bit]
      have : k < V.2.1 := h
      simp [this]
    rw [pcn, pcn, pcn, i, frB_bit h, opB_bit h, hm]
    by_cases c1 : V.2.2 k 6 = 1
    · simp [c1]; omega
    · by_cases c2 : V.2.2 k 6 = 2
      · simp [c2]
      · simp [c1, c2]; omega
theorem op_bar : ∀ k, k ≤ V.2.1 → pcn (opB V) k + pcn (bar V) k = k
  | 0, _ => rfl
  | k + 1, h => by
    have i := op_bar k (by omega)
    have hm : (bar V).testBit k = decide (V.2.2 k 6 = 2) := by
      unfold bar
      rw [rB_bit]
      have : k < V.2.1 := h
      simp [this]
    rw [pcn, pcn, opB_bit h, hm]
    by_cases c2 : V.2.2 k 6 = 2
    · simp [c2]; omega
    · simp [c2]; omega
theorem cm_le (hV : okV V) {s : Nat} : ∀ k, k ≤ V.2.1 → cm V s k ≤ 100 ^ pcn (opB V) k
  | 0, _ => by simp [cm, pcn]
  | k + 1, h => by
    have i := cm_le hV (s := s) k (by omega)
    have hd := hV.dr (l := k) h
    rw [cm, pcn]
    by_cases c : (opB V).testBit k = true
    · rw [if_pos c, if_pos c, Nat.pow_succ]
      refine Nat.mul_le_mul i ?_
      split
      · omega
      · split <;> omega
    · rw [if_neg c, if_neg c]
      simpa using i
theorem x_chancesOf (hF : 2000 ≤ F) (hV : okV V) (hx : IX m 1 V) {s : Nat} (hs : s < 2 ^ V.2.1) : gX1_chancesOf F m (nI s) (nI (frB V)) = some (lN (cx V s V.2.1)) := by
  have hn := hV.2.2.1
  have h10 := hV.sl hs
  have f10 := hV.sl (frB_lt (V := V))
  rw [gX1_chancesOf]
  have q := iter_at (F := F) (f := bX1_chancesOf_5 m (nI s) (nI (frB V))) (fun i => (lN (cx V s i), nI i)) V.2.1 (lN (cx V s V.2.1), nI V.2.1) (fun i hi => ?_) ?_ (by omega)
  · have e0 : iter F (bX1_chancesOf_5 m (nI s) (nI (frB V))) (1, 0) = _ := q
    rw [e0]; rfl
  · have hd := hV.dr (l := i) hi
    have e7 : m.1 7 i = nI (dr (V.2.2 i)) := (hx.2.2.2.2 i hi).2.2.2.2.2
    simp only [bX1_chancesOf_5]
    rw [hx.2.1, ite_leN (by omega) (by omega), if_neg (by omega), show (10 : Int32) = nI 10 from rfl, ite_leN (by omega) (by omega), if_neg (by omega), ite_bit0 (by omega) (by omega), chk_pos (inb_nI (by omega) (by omega)), nI_clamp (by omega), lete_eq, e7, ite_bit0 (by omega) (by omega), lete_eq, lete_eq, show (100 : Int32) = nI 100 from rfl, pk_sub (by omega), nI_l (by omega), nI_l (by omega), lN_mul, lN_mul, nI_1]
    simp only [cx]
    by_cases c1 : (frB V).testBit i = true
    · by_cases c2 : s.testBit i = true
      · simp only [if_pos c1, if_pos c2]
      · simp only [if_pos c1, if_neg c2]
    · simp only [if_neg c1, Nat.mul_one]
  · simp only [bX1_chancesOf_5]
    rw [hx.2.1, ite_leN (by omega) (by omega), if_pos (Nat.le_refl _)]
theorem x_free (hV : okV V) (hx : IX m 1 V) : gX1_free m = some (nI (frB V)) := by
  rw [gX1_free, x_allLanes hV hx, Option.bind_some, hx.2.2.1, hx.2.2.2.1, woI, woI]
  rfl
def hld (V : Vd) (s : Nat) : Bool := alw V s && decide (prt V s = 1)
theorem x_toHold (hF : 2000 ≤ F) (hV : okV V) (hx : IX m 1 V) (hj : IJ m V) : gX1_chancesToHold F m = some (lN (sst (hld V) (fun s => cx V s V.2.1) (2 ^ V.2.1))) := by
  have h10 := pow10 hV.2.2.1
  have hH := hV.2.1
  rw [gX1_chancesToHold, x_free hV hx, Option.bind_some, x_sets hV hx, Option.bind_some]
  have q := iter_at (F := F) (f := bX1_chancesToHold_19 F m (nI (frB V)) (nI (2 ^ V.2.1))) (fun i => (lN (sst (hld V) (fun s => cx V s V.2.1) i), nI i)) (2 ^ V.2.1) (lN (sst (hld V) (fun s => cx V s V.2.1) (2 ^ V.2.1)), nI (2 ^ V.2.1)) (fun i hi => ?_) ?_ (by omega)
  · have e0 : iter F (bX1_chancesToHold_19 F m (nI (frB V)) (nI (2 ^ V.2.1))) (0, 0) = _ := q
    rw [e0]; rfl
  · have hp : prt V i ≤ 7 := by unfold prt; omega
    simp only [bX1_chancesToHold_19]
    rw [ite_leN (by omega) (by omega), if_neg (by omega), x_allows hV hx hi, Option.bind_some, x_partsLeft hV hj hi, Option.bind_some, x_chancesOf hF hV hx hi, Option.bind_some, lete_eq, lN_add, nI_1, show (1 : Int32) = nI 1 from rfl, ite_eqN (by omega) (by omega)]
    simp only [sst, hld]
    by_cases c1 : alw V i = true <;> by_cases c2 : prt V i = 1 <;> simp [c1, c2]
  · simp only [bX1_chancesToHold_19]
    rw [ite_leN (by omega) (by omega), if_pos (Nat.le_refl _)]
theorem x_inAllC (hF : 2000 ≤ F) (hV : okV V) (hx : IX m 1 V) : gX1_chancesInAll F m = some (lN (100 ^ pcn (frB V) V.2.1)) := by
  have f10 := hV.sl (frB_lt (V := V))
  have hn := hV.2.2.1
  have hp := pcn_le (T := frB V) V.2.1
  rw [gX1_chancesInAll, x_free hV hx, Option.bind_some, bitCount_ok _ f10, Option.bind_some, pcn31 hV frB_lt]
  have q := iter_at (F := F) (f := bX1_chancesInAll_13 (nI (pcn (frB V) V.2.1))) (fun i => (lN (100 ^ i), nI i)) (pcn (frB V) V.2.1) (lN (100 ^ pcn (frB V) V.2.1), nI (pcn (frB V) V.2.1)) (fun i hi => ?_) ?_ (by omega)
  · have e0 : iter F (bX1_chancesInAll_13 (nI (pcn (frB V) V.2.1))) (1, 0) = _ := q
    rw [e0]; rfl
  · simp only [bX1_chancesInAll_13]
    rw [ite_leN (by omega) (by omega), if_neg (by omega), lete_eq, show (100 : Int64) = lN 100 from rfl, lN_mul, nI_1, Nat.pow_succ]
  · simp only [bX1_chancesInAll_13]
    rw [ite_leN (by omega) (by omega), if_pos (Nat.le_refl _)]
theorem m_down (hF : 2000 ≤ F) (hV : okV V) (hm : IM m V) : iter F (bX9_holds_53 m (nI (opB V))) (1, 0) = some (lN (100 ^ pcn (opB V) V.2.1), nI V.2.1) := by
  have hn := hV.2.2.1
  have o10 := hV.sl (opB_lt (V := V))
  have q := iter_at (F := F) (f := bX9_holds_53 m (nI (opB V))) (fun i => (lN (100 ^ pcn (opB V) i), nI i)) V.2.1 (lN (100 ^ pcn (opB V) V.2.1), nI V.2.1) (fun i hi => ?_) ?_ (by omega)
  · exact q
  · simp only [bX9_holds_53]
    rw [hm.2.1, ite_leN (by omega) (by omega), if_neg (by omega), ite_bit1 (by omega) (by omega), lete_eq, lete_eq, show (100 : Int64) = lN 100 from rfl, show (1 : Int64) = lN 1 from rfl, lN_mul, lN_mul, nI_1]
    simp only [pcn]
    by_cases c : (opB V).testBit i = true
    · rw [if_pos c, if_pos c, Nat.pow_succ]
    · rw [if_neg c, if_neg c, Nat.mul_one]
      rfl
  · simp only [bX9_holds_53]
    rw [hm.2.1, ite_leN (by omega) (by omega), if_pos (Nat.le_refl _)]
theorem m_chance (hF : 2000 ≤ F) (hV : okV V) {q17 : Int32 × Mem} (hm : IM q17.2 V) {s : Nat} (hs : s < 2 ^ V.2.1) : iter F (bX9_holds_143 (nI (opB V)) (nI s) q17) (1, 0) = some (lN (cm V s V.2.1), nI V.2.1) := by
  have hn := hV.2.2.1
  have h10 := hV.sl hs
  have o10 := hV.sl (opB_lt (V := V))
  have q := iter_at (F := F) (f := bX9_holds_143 (nI (opB V)) (nI s) q17) (fun i => (lN (cm V s i), nI i)) V.2.1 (lN (cm V s V.2.1), nI V.2.1) (fun i hi => ?_) ?_ (by omega)
  · exact q
  · have hd := hV.dr (l := i) hi
    have r6 := (hV.2.2.2 i hi).2.2.2.2.2.2.2.2
    have e6 : q17.2.1 51 i = nI (V.2.2 i 6) := hm.at (k := 6) hi (by decide)
    simp only [bX9_holds_143]
    rw [hm.2.1, ite_leN (by omega) (by omega), if_neg (by omega), ite_bit0 (by omega) (by omega), chk_pos (inb_nI (by omega) (by omega)), nI_clamp (by omega), e6, ite_bit1 (by omega) (by omega), m_driftOf hV hm hi, Option.bind_some, Option.bind_some]
    simp only [lete_eq]
    rw [show (100 : Int32) = nI 100 from rfl, pk_sub (by omega), nI_l (by omega), nI_l (by omega), show (100 : Int64) = lN 100 from rfl, lN_mul, lN_mul, lN_mul, nI_1, show (1 : Int32) = nI 1 from rfl, ite_eqN (by omega) (by omega)]
    simp only [cm]
    by_cases c1 : (opB V).testBit i = true
    · simp only [if_pos c1]
      by_cases c3 : V.2.2 i 6 = 1
      · simp only [if_pos c3]
      · simp only [if_neg c3]
        by_cases c2 : s.testBit i = true
        · simp only [if_pos c2]
        · simp only [if_neg c2]
    · simp only [if_neg c1, Nat.mul_one]
  · simp only [bX9_holds_143]
    rw [hm.2.1, ite_leN (by omega) (by omega), if_pos (Nat.le_refl _)]
theorem prt_pos (hV : okV V) (s : Nat) : 1 ≤ prt V s := by
  have j := jn_rt V.2.2 s (H := V.1) V.2.1 hV.ends
  have h2 := hV.1
  have : ∀ H, 1 ≤ H → 1 ≤ rtc (fun h => decide (lb V.2.2 s V.2.1 h = h)) H := fun H => by
    induction H with
    | zero => intro h; omega
    | succ H ih =>
      intro _
      rw [rtc]
      by_cases h0 : H = 0
      · subst h0
        have e := lb_le V.2.2 s V.2.1 0
        have : lb V.2.2 s V.2.1 0 = 0 := by omega
        simp [this]
      · have := ih (by omega)
        omega
  have := this V.1 (by omega)
  unfold prt
  omega
theorem op_sub {s : Nat} (hs : s < 2 ^ V.2.1) : wo s (opB V) = 0 ↔ s &&& bar V = 0 := by
  have z : ∀ x : Nat, x = 0 ↔ ∀ i, x.testBit i = false := fun x => ⟨fun h i => by rw [h]; exact Nat.zero_testBit i, fun h => Nat.eq_of_testBit_eq (fun i => by rw [h i, Nat.zero_testBit])⟩
  have e : ∀ i, (wo s (opB V)).testBit i = (s &&& bar V).testBit i := fun i => by
    rw [wo_bit, Nat.testBit_and]
    by_cases hi : i < V.2.1
    · rw [opB_bit hi]
      unfold bar
      rw [rB_bit]
      simp [hi]
    · rw [tb_hi hs (by omega)]; rfl
  rw [Nat.eq_of_testBit_eq e]
set_option maxHeartbeats 1000000 in
theorem m_toHold (hF : 2000 ≤ F) (hV : okV V) (hm : IM m V) : ∃ e, iter F (bX9_holds_93 F (nI (opB V))) (0, 0, m) = some e ∧ e.1 = lN (sst (hld V) (fun s => cm V s V.2.1) (2 ^ V.2.1)) ∧ E57 m e.2.2 := by
  have h10 := pow10 hV.2.2.1
  have hH := hV.2.1
  have h1p := Nat.one_le_two_pow (n := V.2.1)
  have hM := Nat.lt_of_lt_of_le (mus_lt (V := V)) h10
  exact iter_inv (f := bX9_holds_93 F (nI (opB V))) (fun i q => q.1 = lN (sst (hld V) (fun s => cm V s V.2.1) i) ∧ q.2.1 = nI i ∧ E57 m q.2.2) (2 ^ V.2.1) (fun e => e.1 = lN (sst (hld V) (fun s => cm V s V.2.1) (2 ^ V.2.1)) ∧ E57 m e.2.2) (by
      rintro i ⟨y, z, m1⟩ hi ⟨rfl, hz, he⟩
      dsimp only at hz he
      subst hz
      refine Or.inl ?_
      have hm1 := he.im hm
      have i10 := hV.sl hi
      have hw1 : wo i (opB V) < 1024 := hV.sl (wo_lt hi)
      have hw2 : wo (mus V) i < 1024 := hV.sl (wo_lt mus_lt)
      obtain ⟨m2, g1, g2, -⟩ := m_partsOf hF hV hm1 hi
      have hp1 := prt_pos hV i
      have hp : prt V i ≤ 7 := by unfold prt; omega
      have em : gX9_ruledAs F m1 1 = some (nI (mus V)) := m_ruledAs hF hV hm1 (x := 1) (by omega)
      have e1 := op_sub hi
      have e2 := sub_and (a := mus V) (b := i)
      simp only [bX9_holds_93]
      rw [m_allLanes hV hm1, Option.bind_some, ite_ltN (by omega) (by omega), if_neg (by omega), woI, em, Option.bind_some, woI, g1, Option.bind_some]
      dsimp only
      rw [m_chance hF hV (g2.im hm1) hi, Option.bind_some, lete_eq, nI_1, lN_add, show (1 : Int32) = nI 1 from rfl, ite_leN (by omega) (by omega), show (0 : Int32) = nI 0 from rfl, ite_eqN (by omega) (by omega), ite_eqN (by omega) (by omega)]
      simp only [sst]
      by_cases c1 : wo i (opB V) = 0
      · rw [if_pos c1]
        by_cases c2 : wo (mus V) i = 0
        · rw [if_pos c2]
          have ha : alw V i = true := by unfold alw; rw [decide_eq_true ⟨e2.mp c2, e1.mp c1⟩]
          by_cases c3 : prt V i ≤ 1
          · have c4 : prt V i = 1 := by omega
            rw [if_pos c3]
            exact ⟨_, rfl, by simp [hld, ha, c4], rfl, he.tr g2⟩
          · have c4 : ¬ prt V i = 1 := by omega
            rw [if_neg c3]
            exact ⟨_, rfl, by simp [hld, c4], rfl, he.tr g2⟩
        · have ha : alw V i = false := by unfold alw; exact decide_eq_false (fun z => c2 (e2.mpr z.1))
          rw [if_neg c2]
          exact ⟨_, rfl, by simp [hld, ha], rfl, he⟩
      · have ha : alw V i = false := by unfold alw; exact decide_eq_false (fun z => c1 (e1.mpr z.2))
        rw [if_neg c1]
        exact ⟨_, rfl, by simp [hld, ha], rfl, he⟩) (by
      rintro ⟨y, z, m1⟩ ⟨rfl, hz, he⟩
      dsimp only at hz he
      subst hz
      refine ⟨(lN (sst (hld V) (fun s => cm V s V.2.1) (2 ^ V.2.1)), nI (2 ^ V.2.1), m1), ?_, rfl, he⟩
      simp only [bX9_holds_93]
      rw [m_allLanes hV (he.im hm), Option.bind_some, ite_ltN (by omega) (by omega), if_pos (by omega)]) F 0 (0, 0, m) (Nat.zero_le _) (by omega) ⟨rfl, rfl, E57.rf m⟩
theorem scaled (hF : 2000 ≤ F) {a b c : Nat} (ha : a * c < 2 ^ 63) (hb : b * c < 2 ^ 63) (h0 : 0 < b) (hc : 0 < c) (p : Int32) : ∃ r, gX8_leastTerms F (lN a) (lN b) p = some r ∧ gX9_inLeast F (lN (a * c)) (lN (b * c)) p = some r := by
  have h1 : a ≤ a * c := Nat.le_mul_of_pos_right a hc
  have h2 : b ≤ b * c := Nat.le_mul_of_pos_right b hc
  have e1 := (both_least hF (a := a) (b := b) (by omega) (by omega) h0 p).1
  have e2 := (both_least hF (a := a * c) (b := b * c) ha hb (Nat.mul_pos h0 hc) p).2
  rw [Nat.gcd_mul_right, Nat.mul_div_mul_right _ _ hc, Nat.mul_div_mul_right _ _ hc] at e2
  exact ⟨_, e1, e2⟩
theorem hold_le (hV : okV V) (h8 : pcn (opB V) V.2.1 ≤ 8) : sst (hld V) (fun s => cm V s V.2.1) (2 ^ V.2.1) ≤ 100 ^ 8 * 256 := by
  have h1 := sst_cnt (P := hld V) (Q := fun s => decide (s &&& bar V = 0)) (w := fun s => cm V s V.2.1) (B := 100 ^ 8) (2 ^ V.2.1) (fun s hs hh => by
    unfold hld alw at hh
    simp only [Bool.and_eq_true, decide_eq_true_eq] at hh
    exact ⟨decide_eq_true hh.1.2, Nat.le_trans (cm_le hV _ (Nat.le_refl _)) (Nat.pow_le_pow_right (by decide) h8)⟩)
  rw [cnt_free] at h1
  have h2 := op_bar (V := V) V.2.1 (Nat.le_refl _)
  have h3 : 2 ^ (V.2.1 - pcn (bar V) V.2.1) ≤ 2 ^ 8 := Nat.pow_le_pow_right (by decide) (by omega)
  exact Nat.le_trans h1 (Nat.mul_le_mul_left _ h3)
theorem pu_holds (hF : 2000 ≤ F) : PU_holds F (Inv PM PS) := by
  rintro m a1 ⟨V, hI⟩
  obtain ⟨hV, hx, hm, hj, -⟩ := id hI
  have hn := hV.2.2.1
  obtain ⟨p1, p2⟩ := isPart_ok a1
  have o10 := hV.sl (opB_lt (V := V))
  have b10 := hV.sl (bar_lt (V := V))
  have hop := op_bar (V := V) V.2.1 (Nat.le_refl _)
  have hopen : ∀ {m2 : Mem}, IM m2 V → gX9_allLanes m2 = some (nI (2 ^ V.2.1 - 1)) ∧ gX9_ruledAs F m2 2 = some (nI (bar V)) := fun h => ⟨m_allLanes hV h, m_ruledAs hF hV h (x := 2) (by omega)⟩
  have hw : nI (2 ^ V.2.1 - 1) &&& (nI (bar V) ^^^ (-1)) = nI (opB V) := by rw [woI]; rfl
  have hb31 : gX9_bits F (nI (opB V)) = some (nI (pcn (opB V) V.2.1)) := m_bitsV hF hV opB_lt
  have e12 : m.1 1 3 = nI (bar V) := hx.2.2.2.1
  have hdiff : nI V.2.1 - nI (pcn (bar V) 31) = nI (pcn (opB V) V.2.1) := by rw [pcn31 hV bar_lt, pk_sub (by omega)]; congr 1; omega
  cases hp : decide (a1 = 0 ∨ a1 = 1) with
  | false =>
    obtain ⟨r1, r2, r3⟩ := refL hI 2 (by decide) (by decide) (Sm.rf _)
    refine ⟨4000000000000000000 - (-nI 2).toInt64, mu m 42 2 (m.1 42 2 + 1), _, ?_, ?_, r3⟩
    · rw [gX8_holds, p1, hp, Option.bind_some, if_neg (by decide), show (-2 : Int32) = -nI 2 from rfl, r1]; rfl
    · rw [gX9_holds, p2, hp, Option.bind_some, if_neg (by decide), show (-2 : Int32) = -nI 2 from rfl, r2]; rfl
  | true =>
    by_cases h8 : pcn (opB V) V.2.1 ≤ 8
    · obtain ⟨e, e1, e2, e3⟩ := m_toHold hF hV hm
      have hcm : sst (hld V) (fun s => cm V s V.2.1) (2 ^ V.2.1) = sst (hld V) (fun s => cx V s V.2.1) (2 ^ V.2.1) * 100 ^ pcn (mus V) V.2.1 := by
        rw [← sst_mul]
        exact sst_congr _ (fun _ _ => rfl) (fun s _ _ => cm_cx _ (Nat.le_refl _))
      have hdn : 100 ^ pcn (opB V) V.2.1 = 100 ^ pcn (frB V) V.2.1 * 100 ^ pcn (mus V) V.2.1 := by rw [op_fr _ (Nat.le_refl _), Nat.pow_add]
      have l1 := hold_le hV h8
      have l2 : 100 ^ pcn (opB V) V.2.1 ≤ 100 ^ 8 := Nat.pow_le_pow_right (by decide) h8
      obtain ⟨r, f1, f2⟩ := scaled hF (a := sst (hld V) (fun s => cx V s V.2.1) (2 ^ V.2.1)) (b := 100 ^ pcn (frB V) V.2.1) (c := 100 ^ pcn (mus V) V.2.1) (by rw [← hcm]; omega) (by rw [← hdn]; omega) (Nat.pow_pos (by decide)) (Nat.pow_pos (by decide)) a1
      rw [← hcm, ← hdn] at f2
      refine ⟨r, m, e.2.2, ?_, ?_, V, hI.sm e3.sm⟩
      · rw [gX8_holds, p1, hp, Option.bind_some, if_pos rfl, e12, bitCount_ok _ b10, Option.bind_some, hx.2.1, hdiff, show (8 : Int32) = nI 8 from rfl, ite_leN (by omega) (by omega), if_pos h8, x_toHold hF hV hx hj, Option.bind_some, x_inAllC hF hV hx, Option.bind_some, f1, Option.bind_some]
      · rw [gX9_holds, p2, hp, Option.bind_some, if_pos rfl, (hopen hm).1, Option.bind_some, (hopen hm).2, Option.bind_some, lete_eq, hw, hb31, Option.bind_some, show (8 : Int32) = nI 8 from rfl, ite_leN (by omega) (by omega), if_pos h8, m_down hF hV hm, Option.bind_some, e1, Option.bind_some, e2]
        dsimp only
        rw [f2, Option.bind_some]
    · obtain ⟨r1, r2, r3⟩ := refL hI 6 (by decide) (by decide) (Sm.rf _)
      have hm6 : IM (mu m 42 6 (m.1 42 6 + 1)) V := sm42 hm rfl
      refine ⟨4000000000000000000 - (-nI 6).toInt64, mu m 42 6 (m.1 42 6 + 1), _, ?_, ?_, r3⟩
      · rw [gX8_holds, p1, hp, Option.bind_some, if_pos rfl, e12, bitCount_ok _ b10, Option.bind_some, hx.2.1, hdiff, show (8 : Int32) = nI 8 from rfl, ite_leN (by omega) (by omega), if_neg h8, show (-6 : Int32) = -nI 6 from rfl, r1]; rfl
      · rw [gX9_holds, p2, hp, Option.bind_some, if_pos rfl, (hopen hm6).1, Option.bind_some, (hopen hm6).2, Option.bind_some, lete_eq, hw, hb31, Option.bind_some, show (8 : Int32) = nI 8 from rfl, ite_leN (by omega) (by omega), if_neg h8, show (-6 : Int32) = -nI 6 from rfl, r2]; rfl
end
