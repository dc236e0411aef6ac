/-! ===== lane by lane ===== -/
def okP (A B s : Nat) : Bool := decide (s &&& A = A) && decide (B &&& s = 0)
def pS (V : Vd) (A B : Nat) : Nat := smw (okP A B) (wrt V) (ways V)
def pL (V : Vd) (A B : Nat) : List Nat := (ways V).filter (okP A B)
theorem okP_a (A B l s : Nat) : okP (A ||| 2 ^ l) B s = (okP A B s && s.testBit l) := by
  unfold okP
  rw [and_or_bit, and_bit]
  cases decide (s &&& A = A) <;> cases s.testBit l <;> simp
theorem okP_b (A B l s : Nat) : okP A (B ||| 2 ^ l) s = (okP A B s && !s.testBit l) := by
  unfold okP
  rw [or_and0, bit_and0, Bool.and_assoc]
theorem smw_filter {P Q : Nat → Bool} {w : Nat → Nat} : ∀ L : List Nat, smw P w (L.filter Q) = smw (fun s => Q s && P s) w L
  | [] => rfl
  | s :: r => by
    have i := smw_filter (P := P) (Q := Q) (w := w) r
    by_cases c : Q s = true
    · rw [List.filter_cons_of_pos c, smw, smw, i]
      simp [c]
    · rw [List.filter_cons_of_neg c, smw, i]
      simp [c]
theorem smw_two {P Q : Nat → Bool} {w : Nat → Nat} : ∀ L : List Nat, smw (fun s => P s && Q s) w L + smw (fun s => P s && !Q s) w L = smw P w L
  | [] => rfl
  | s :: r => by
    have i := smw_two (P := P) (Q := Q) (w := w) r
    simp only [smw]
    by_cases c : P s = true <;> by_cases d : Q s = true <;> simp [c, d] <;> omega
section
variable {F : Nat} {m : Mem} {V : Vd}
theorem pS_pL {A B : Nat} : pS V A B = smw (fun _ => true) (wrt V) (pL V A B) := by
  unfold pS pL
  rw [smw_filter]
  congr 1
  funext s
  rw [Bool.and_true]
theorem pS_a {A B l : Nat} : pS V (A ||| 2 ^ l) B = smw (fun s => decide (s &&& 2 ^ l = 2 ^ l)) (wrt V) (pL V A B) := by
  unfold pS pL
  rw [smw_filter]
  congr 1
  funext s
  rw [okP_a, and_bit]
theorem pS_two {A B l : Nat} : pS V (A ||| 2 ^ l) B + pS V A (B ||| 2 ^ l) = pS V A B := by
  have h := smw_two (P := okP A B) (Q := fun s => s.testBit l) (w := wrt V) (ways V)
  have e1 : okP (A ||| 2 ^ l) B = fun s => okP A B s && s.testBit l := funext (okP_a A B l)
  have e2 : okP A (B ||| 2 ^ l) = fun s => okP A B s && !s.testBit l := funext (okP_b A B l)
  unfold pS
  rw [e1, e2]
  exact h
theorem pL_a {A B l : Nat} : pL V (A ||| 2 ^ l) B = (pL V A B).filter (fun s => s.testBit l) := by
  unfold pL
  rw [List.filter_filter]
  congr 1
  funext s
  rw [okP_a, Bool.and_comm]
theorem pL_b {A B l : Nat} : pL V A (B ||| 2 ^ l) = (pL V A B).filter (fun s => !s.testBit l) := by
  unfold pL
  rw [List.filter_filter]
  congr 1
  funext s
  rw [okP_b, Bool.and_comm]
theorem pS_le (hV : okV V) (A B : Nat) : pS V A B ≤ 531441 * 252 := smw_ways hV _
theorem pL_mem {A B s : Nat} (h : s ∈ pL V A B) : s ∈ ways V ∧ okP A B s = true := List.mem_filter.mp h
theorem pL_len (hV : okV V) (A B : Nat) : (pL V A B).length ≤ 252 := Nat.le_trans (List.length_filter_le _ _) (ways_le hV)
theorem pS_pos (hV : okV V) {A B : Nat} : 0 < pS V A B ↔ 0 < (pL V A B).length := by
  rw [pS_pL]
  cases pL V A B with
  | nil => simp [smw]
  | cons s r =>
    have := wrt_pos hV s
    simp only [smw, List.length_cons]
    constructor
    · intro _; omega
    · intro _; simp; omega
/-- what is kept, what is left, the seed -/
abbrev Ds : Type := Nat × Nat × Int32
def dnx (V : Vd) (l : Nat) (s : Ds) (z : Int32) : Ds := if pS V (s.1 ||| 2 ^ l) s.2.1 = pS V s.1 s.2.1 then (s.1 ||| 2 ^ l, s.2.1, s.2.2) else if pS V (s.1 ||| 2 ^ l) s.2.1 = 0 then (s.1, s.2.1 ||| 2 ^ l, s.2.2) else if pS V (s.1 ||| 2 ^ l) s.2.1 ≤ rA z % pS V s.1 s.2.1 then (s.1, s.2.1 ||| 2 ^ l, z) else (s.1 ||| 2 ^ l, s.2.1, z)
def dst (V : Vd) (z : Int32) : Nat → Ds
  | 0 => (0, 0, z)
  | l + 1 => dnx V l (dst V z l) (lcg (dst V z l).2.2)
theorem dst_succ {z : Int32} {l : Nat} : dst V z (l + 1) = dnx V l (dst V z l) (lcg (dst V z l).2.2) := rfl
def dok (V : Vd) (l : Nat) (s : Ds) : Prop := s.1 < 2 ^ l ∧ s.2.1 < 2 ^ l ∧ (∀ i, i < l → (s.1.testBit i || s.2.1.testBit i) = true) ∧ 0 < pS V s.1 s.2.1
theorem more_lt {A l : Nat} (h : A < 2 ^ l) : A < 2 ^ (l + 1) ∧ A ||| 2 ^ l < 2 ^ (l + 1) := by
  have h1 : A < 2 ^ (l + 1) := by rw [Nat.pow_succ]; omega
  exact ⟨h1, Nat.or_lt_two_pow h1 (Nat.pow_lt_pow_right (by decide) (by omega))⟩
theorem dok_a {l A B : Nat} {z y : Int32} (h : dok V l (A, B, z)) (hp : 0 < pS V (A ||| 2 ^ l) B) : dok V (l + 1) (A ||| 2 ^ l, B, y) := by
  obtain ⟨h1, h2, h3, -⟩ := h
  refine ⟨(more_lt h1).2, (more_lt h2).1, fun i hi => ?_, hp⟩
  show ((A ||| 2 ^ l).testBit i || B.testBit i) = true
  rw [or_bit]
  by_cases e : l = i
  · simp [e]
  · have : (A.testBit i || B.testBit i) = true := h3 i (by omega)
    rw [Bool.or_eq_true] at this
    rcases this with t | t <;> simp [t]
theorem dok_b {l A B : Nat} {z y : Int32} (h : dok V l (A, B, z)) (hp : 0 < pS V A (B ||| 2 ^ l)) : dok V (l + 1) (A, B ||| 2 ^ l, y) := by
  obtain ⟨h1, h2, h3, -⟩ := h
  refine ⟨(more_lt h1).1, (more_lt h2).2, fun i hi => ?_, hp⟩
  show (A.testBit i || (B ||| 2 ^ l).testBit i) = true
  rw [or_bit]
  by_cases e : l = i
  · simp [e]
  · have : (A.testBit i || B.testBit i) = true := h3 i (by omega)
    rw [Bool.or_eq_true] at this
    rcases this with t | t <;> simp [t]
theorem dnx_ok {l : Nat} {s : Ds} {z : Int32} (h : dok V l s) : dok V (l + 1) (dnx V l s z) := by
  obtain ⟨A, B, y⟩ := s
  have hp : 0 < pS V A B := h.2.2.2
  have h2 := pS_two (V := V) (A := A) (B := B) (l := l)
  unfold dnx
  dsimp only
  by_cases c1 : pS V (A ||| 2 ^ l) B = pS V A B
  · rw [if_pos c1]
    exact dok_a h (by omega)
  · rw [if_neg c1]
    by_cases c2 : pS V (A ||| 2 ^ l) B = 0
    · rw [if_pos c2]
      exact dok_b h (by omega)
    · rw [if_neg c2]
      have hr := Nat.mod_lt (rA z) hp
      generalize rA z % pS V A B = R at hr ⊢
      by_cases c3 : pS V (A ||| 2 ^ l) B ≤ R
      · rw [if_pos c3]
        exact dok_b h (by omega)
      · rw [if_neg c3]
        exact dok_a h (by omega)
theorem dst_ok (hp : 0 < (ways V).length) (hV : okV V) {z : Int32} : ∀ l, dok V l (dst V z l)
  | 0 => by
    refine ⟨Nat.pow_pos (by decide), Nat.pow_pos (by decide), fun i hi => absurd hi (by omega), ?_⟩
    show 0 < pS V 0 0
    rw [pS_pos hV]
    have : pL V 0 0 = ways V := by
      unfold pL
      rw [List.filter_eq_self]
      intro s _
      simp [okP]
    rw [this]
    exact hp
  | l + 1 => by
    rw [dst_succ]
    exact dnx_ok (dst_ok hp hV l)
/-- where one way alone is left, it stays, and nothing is drawn -/
theorem dnx_one (hV : okV V) {l w : Nat} {s : Ds} {z : Int32} (h : pL V s.1 s.2.1 = [w]) : pL V (dnx V l s z).1 (dnx V l s z).2.1 = [w] ∧ (dnx V l s z).2.2 = s.2.2 := by
  obtain ⟨A, B, y⟩ := s
  have h : pL V A B = [w] := h
  have h5 : pS V A B = wrt V w := by rw [pS_pL, h]; simp [smw]
  have h6 : pS V (A ||| 2 ^ l) B = if w.testBit l = true then wrt V w else 0 := by
    rw [pS_a, h, smw, smw, Nat.add_zero, and_bit]
  have hw := wrt_pos hV w
  unfold dnx
  dsimp only
  by_cases c : w.testBit l = true
  · rw [if_pos c] at h6
    rw [if_pos (by omega)]
    refine ⟨?_, rfl⟩
    show pL V (A ||| 2 ^ l) B = [w]
    rw [pL_a, h]
    simp [c]
  · rw [if_neg c] at h6
    rw [if_neg (by omega), if_pos h6]
    refine ⟨?_, rfl⟩
    show pL V A (B ||| 2 ^ l) = [w]
    rw [pL_b, h]
    simp [c]
theorem dst_one (hV : okV V) {i w : Nat} {z : Int32} (h : pL V (dst V z i).1 (dst V z i).2.1 = [w]) : ∀ d, pL V (dst V z (i + d)).1 (dst V z (i + d)).2.1 = [w] ∧ (dst V z (i + d)).2.2 = (dst V z i).2.2
  | 0 => ⟨h, rfl⟩
  | d + 1 => by
    obtain ⟨a, b⟩ := dst_one hV h d
    obtain ⟨a2, b2⟩ := dnx_one hV (l := i + d) (z := lcg (dst V z (i + d)).2.2) a
    rw [← Nat.add_assoc, dst_succ]
    exact ⟨a2, b2.trans b⟩
theorem dok_end {s : Ds} (h : dok V V.2.1 s) {w : Nat} (hw : w ∈ pL V s.1 s.2.1) : w = s.1 := by
  obtain ⟨A, B, y⟩ := s
  obtain ⟨h1, h2, h3, -⟩ := h
  obtain ⟨w1, w2⟩ := pL_mem hw
  have hl := (way_mem w1).1
  unfold okP at w2
  simp only [Bool.and_eq_true, decide_eq_true_eq] at w2
  show w = A
  apply Nat.eq_of_testBit_eq
  intro i
  by_cases hi : i < V.2.1
  · have e1 : (w &&& A).testBit i = A.testBit i := by rw [w2.1]
    have e2 : (B &&& w).testBit i = false := by rw [w2.2]; exact Nat.zero_testBit i
    have e3 : (A.testBit i || B.testBit i) = true := h3 i hi
    rw [Nat.testBit_and] at e1 e2
    cases a : A.testBit i <;> cases b : B.testBit i <;> cases c : w.testBit i <;> simp_all
  · have h1 : A < 2 ^ V.2.1 := h1
    rw [tb_hi hl (by omega), tb_hi h1 (by omega)]
end
