/-! ===== numbers ===== -/
def bt (x : Int32) (i : Nat) : Bool := x.toBitVec.getLsbD i
theorem b_ext {x y : Int32} (h : ∀ i, i < 32 → bt x i = bt y i) : x = y := Int32.toBitVec_inj.mp (BitVec.eq_of_getLsbD_eq (fun i hi => h i hi))
theorem b_or (x y : Int32) (i : Nat) : bt (x ||| y) i = (bt x i || bt y i) := by unfold bt; rw [Int32.toBitVec_or, BitVec.getLsbD_or]
theorem b_and (x y : Int32) (i : Nat) : bt (x &&& y) i = (bt x i && bt y i) := by unfold bt; rw [Int32.toBitVec_and, BitVec.getLsbD_and]
theorem b_xor (x y : Int32) (i : Nat) : bt (x ^^^ y) i = (bt x i ^^ bt y i) := by unfold bt; rw [Int32.toBitVec_xor, BitVec.getLsbD_xor]
theorem b_big {x : Int32} {i : Nat} (h : 32 ≤ i) : bt x i = false := BitVec.getLsbD_of_ge _ _ h
theorem b_m1 : ∀ i, i < 32 → bt (-1) i = true := by decide +kernel
theorem b_0 (i : Nat) : bt 0 i = false := BitVec.getLsbD_zero
theorem s_l : ∀ n, n < 32 → ((nI n &&& 31).toBitVec.smod 32).toNat = n := by decide +kernel
theorem bt_nI {n : Nat} (i : Nat) (hi : i < 32) : bt (nI n) i = n.testBit i := by
  show (BitVec.ofNat 32 n).getLsbD i = _
  rw [BitVec.getLsbD_ofNat]
  simp [hi]
theorem andI (a b : Nat) : nI a &&& nI b = nI (a &&& b) := b_ext fun i hi => by rw [b_and, bt_nI i hi, bt_nI i hi, bt_nI i hi, Nat.testBit_and]
theorem orI (a b : Nat) : nI a ||| nI b = nI (a ||| b) := b_ext fun i hi => by rw [b_or, bt_nI i hi, bt_nI i hi, bt_nI i hi, Nat.testBit_or]
/-- a set without another -/
def wo (a b : Nat) : Nat := a ^^^ (a &&& b)
theorem wo_bit (a b i : Nat) : (wo a b).testBit i = (a.testBit i && !b.testBit i) := by
  unfold wo
  rw [Nat.testBit_xor, Nat.testBit_and]
  cases a.testBit i <;> cases b.testBit i <;> rfl
theorem woI (a b : Nat) : nI a &&& (nI b ^^^ (-1)) = nI (wo a b) := b_ext fun i hi => by
  rw [b_and, b_xor, b_m1 i hi, bt_nI i hi, bt_nI i hi, bt_nI i hi, wo_bit]
  simp
theorem tb_hi {a k i : Nat} (h : a < 2 ^ k) (hi : k ≤ i) : a.testBit i = false := Nat.testBit_lt_two_pow (Nat.lt_of_lt_of_le h (Nat.pow_le_pow_right (by decide) hi))
theorem wo_lt {a b k : Nat} (h : a < 2 ^ k) : wo a b < 2 ^ k := Nat.lt_pow_two_of_testBit _ fun i hi => by rw [wo_bit, tb_hi h hi]; rfl
theorem and_pow0 (s l : Nat) : s &&& 2 ^ l = 0 ↔ s.testBit l = false := by
  constructor
  · intro h
    have h1 : (s &&& 2 ^ l).testBit l = false := by rw [h]; exact Nat.zero_testBit l
    rw [Nat.testBit_and, Nat.testBit_two_pow_self, Bool.and_true] at h1
    exact h1
  · intro h
    apply Nat.eq_of_testBit_eq
    intro i
    rw [Nat.testBit_and, Nat.zero_testBit, Nat.testBit_two_pow]
    by_cases hi : l = i
    · subst hi; rw [h]; rfl
    · simp [hi]
theorem sh1 {l : Nat} (h : l < 31) : (1 : Int32) <<< (nI l &&& 31) = nI (2 ^ l) := by
  have h1 := pk_shlN (n := 1) (nI l &&& 31) l (s_l l (by omega)) (by
    have : 2 ^ l < 2 ^ 32 := Nat.pow_lt_pow_right (by decide) (by omega)
    omega)
  rw [Nat.one_mul] at h1
  exact h1
theorem shl1N {a l : Nat} (hl : l < 31) (h : a * 2 ^ l < 2 ^ 32) : nI a <<< (nI l &&& 31) = nI (a * 2 ^ l) := pk_shlN (nI l &&& 31) l (s_l l (by omega)) h
theorem shrN {s l : Nat} (hs : s < 2 ^ 31) (hl : l < 31) : nI s >>> (nI l &&& 31) = nI (s / 2 ^ l) := pk_shrN hs (nI l &&& 31) l (s_l l (by omega))
theorem bitq {s l : Nat} (hs : s < 2 ^ 31) (hl : l < 31) : ((nI s >>> (nI l &&& 31)) &&& 1) = nI (s / 2 ^ l % 2) := by
  rw [shrN hs hl]
  have h1 : s / 2 ^ l < 2 ^ 32 := Nat.lt_of_le_of_lt (Nat.div_le_self _ _) (by omega)
  exact pk_andN h1 1 (by decide)
theorem tb_div (s l : Nat) : s.testBit l = decide (s / 2 ^ l % 2 = 1) := Nat.testBit_eq_decide_div_mod_eq
/-- whether a bit is there, as the programs ask it -/
theorem bit0 {s l : Nat} (hs : s < 2 ^ 31) (hl : l < 31) : ((nI s >>> (nI l &&& 31)) &&& 1) = 0 ↔ s.testBit l = false := by
  rw [bitq hs hl, show (0 : Int32) = nI 0 from rfl, nI_eq (by omega) (by omega), tb_div]
  simp
theorem bit1 {s l : Nat} (hs : s < 2 ^ 31) (hl : l < 31) : ((nI s >>> (nI l &&& 31)) &&& 1) = 1 ↔ s.testBit l = true := by
  rw [bitq hs hl, show (1 : Int32) = nI 1 from rfl, nI_eq (by omega) (by omega), tb_div]
  simp
theorem inb_nI {l N : Nat} (h : l < N) (hN : N < 2 ^ 31) : inb (nI l) N := by
  unfold inb
  rw [nI_toInt (by omega)]
  omega
theorem le_nI {a b : Nat} (ha : a < 2 ^ 31) (hb : b < 2 ^ 31) : (nI a ≤ nI b) = (a ≤ b) := propext (nI_leI ha hb)
theorem lt_nI {a b : Nat} (ha : a < 2 ^ 31) (hb : b < 2 ^ 31) : (nI a < nI b) = (a < b) := propext (nI_ltI ha hb)
theorem eq_nI {a b : Nat} (ha : a < 2 ^ 31) (hb : b < 2 ^ 31) : (nI a = nI b) = (a = b) := propext (nI_eq ha hb)
theorem bitb {s l : Nat} (h : l < 31) (hs : s < 2 ^ 31) : (nI s &&& (1 : Int32) <<< (nI l &&& 31)) = 0 ↔ s.testBit l = false := by
  rw [sh1 h, andI, show (0 : Int32) = nI 0 from rfl, nI_eq (Nat.lt_of_le_of_lt Nat.and_le_left hs) (by omega)]
  exact and_pow0 s l
/-- an argument: below nothing, beyond, or a number -/
theorem arg_cases (a : Int32) (n : Nat) (hn : n < 2 ^ 31) : (a < 0) ∨ (¬ a < 0 ∧ nI n ≤ a) ∨ (∃ j, j < n ∧ a = nI j ∧ ¬ a < 0 ∧ ¬ nI n ≤ a) := by
  rcases pk_ix a hn with h | h | ⟨j, hj, rfl⟩
  · exact Or.inl h
  · by_cases h0 : a < 0
    · exact Or.inl h0
    · exact Or.inr (Or.inl ⟨h0, h⟩)
  · exact Or.inr (Or.inr ⟨j, hj, rfl, nI_pos (by omega), nI_ge hj hn⟩)
/-! ===== loops ===== -/
theorem iter_inv {σ ρ : Type} {f : σ → Option (σ ⊕ ρ)} (I : Nat → σ → Prop) (n : Nat) (Q : ρ → Prop)
    (step : ∀ i s, i < n → I i s → (∃ s', f s = some (.inl s') ∧ I (i + 1) s') ∨ (∃ e, f s = some (.inr e) ∧ Q e))
    (last : ∀ s, I n s → ∃ e, f s = some (.inr e) ∧ Q e) : ∀ (F i : Nat) (s : σ), i ≤ n → n - i < F → I i s → ∃ e, iter F f s = some e ∧ Q e
  | 0, i, s, _, h, _ => absurd h (by omega)
  | F + 1, i, s, hi, h, hI => by
    by_cases hn : i = n
    · subst hn
      obtain ⟨e, h1, h2⟩ := last s hI
      exact ⟨e, by rw [iter, h1], h2⟩
    · rcases step i s (by omega) hI with ⟨s', h1, h2⟩ | ⟨e, h1, h2⟩
      · obtain ⟨e, h3, h4⟩ := iter_inv I n Q step last F (i + 1) s' (by omega) (by omega) h2
        exact ⟨e, by rw [iter, h1]; exact h3, h4⟩
      · exact ⟨e, by rw [iter, h1], h2⟩
/-- a loop whose states are known -/
theorem iter_at {σ ρ : Type} {f : σ → Option (σ ⊕ ρ)} (S : Nat → σ) (n : Nat) (e : ρ) (step : ∀ i, i < n → f (S i) = some (.inl (S (i + 1)))) (last : f (S n) = some (.inr e)) {F : Nat} (hF : n < F) : iter F f (S 0) = some e := by
  obtain ⟨e', h1, h2⟩ := iter_inv (fun i s => s = S i) n (fun x => x = e) (fun i s hi hs => Or.inl ⟨S (i + 1), by rw [hs]; exact step i hi, rfl⟩) (fun s hs => ⟨e, by rw [hs]; exact last, rfl⟩) F 0 (S 0) (Nat.zero_le _) (by omega) rfl
  rw [h1, h2]
theorem mu_g (m : Mem) (j k i q : Nat) (v : Int32) : (mu m j k v).1 i q = if i = j then (if q = k then v else m.1 i q) else m.1 i q := by
  unfold mu
  by_cases h : i = j
  · subst h
    simp [upd]
  · simp [h]
theorem mu_same (m : Mem) (j k : Nat) (v : Int32) : (mu m j k v).1 j k = v := by rw [mu_g]; simp
theorem mu_ne (m : Mem) {j k i q : Nat} (v : Int32) (h : i ≠ j ∨ q ≠ k) : (mu m j k v).1 i q = m.1 i q := by
  rw [mu_g]
  rcases h with h | h
  · rw [if_neg h]
  · by_cases h1 : i = j
    · rw [if_pos h1, if_neg h]
    · rw [if_neg h1]
theorem mu_row (m : Mem) {j k i : Nat} (v : Int32) (h : i ≠ j) : (mu m j k v).1 i = m.1 i := (mu_o i h).1
theorem mu_long (m : Mem) (j k : Nat) (v : Int32) : (mu m j k v).2 = m.2 := rfl
