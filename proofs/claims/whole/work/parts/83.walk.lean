/-! ===== walking about ===== -/
def pck (V : Vd) (h R : Nat) : Nat → Nat
  | 0 => 0
  | k + 1 => if R < onW V h k then pck V h R k else k
section
variable {F : Nat} {m : Mem} {V : Vd}
theorem pck_ok {h R : Nat} : ∀ k, R < onW V h k → pck V h R k < k ∧ gO V h (pck V h R k) = true ∧ onW V h (pck V h R k) ≤ R ∧ R < onW V h (pck V h R k + 1)
  | 0, hR => by simp [onW] at hR
  | k + 1, hR => by
    rw [pck]
    by_cases c : R < onW V h k
    · rw [if_pos c]
      obtain ⟨a, b⟩ := pck_ok k c
      exact ⟨by omega, b⟩
    · rw [if_neg c]
      refine ⟨by omega, ?_, by omega, hR⟩
      rw [onW] at hR
      by_cases g : gO V h k = true
      · exact g
      · rw [if_neg g] at hR
        omega
theorem onW_to {h a b : Nat} (hab : a ≤ b) : onW V h a ≤ onW V h b := by
  have := onW_mono (V := V) (h := h) (a := a) (b - a)
  rw [show a + (b - a) = b by omega] at this
  exact this
theorem x_pick (hF : 2000 ≤ F) (hV : okV V) {h R p : Nat} {q3 : Int32 × Mem} (hx : IX q3.2 1 V) (hh : h < 7) (e38 : q3.2.1 38 h = nI (onB V h V.2.1)) (hR : R < 1000) (p1 : p < V.2.1) (p2 : gO V h p = true) (p3 : onW V h p ≤ R) (p4 : R < onW V h (p + 1)) : iter F (bX0_laneFrom_35 (nI h) q3) (nI R, nI 0) = some (.inr (nI p, q3.2)) := by
  have hn := hV.2.2.1
  have hBl := Nat.lt_of_lt_of_le (onB_lt V h V.2.1) (pow10 hn)
  have ih : inb (nI h) 7 := inb_nI (by omega) (by omega)
  have q := iter_at (F := F) (f := bX0_laneFrom_35 (nI h) q3) (fun i => (nI (R - onW V h i), nI i)) p (.inr (nI p, q3.2)) (fun i hi => ?_) ?_ (by omega)
  · have e0 : onW V h 0 = 0 := rfl
    rw [e0, Nat.sub_zero] at q
    exact q
  · have hb := onB_bit V h V.2.1 i
    rw [decide_eq_true (show i < V.2.1 by omega), Bool.true_and] at hb
    have e5 : q3.2.1 5 i = nI (wt (V.2.2 i)) := (hx.2.2.2.2 i (by omega)).2.2.2.1
    have hto : onW V h (i + 1) ≤ R := Nat.le_trans (onW_to (by omega)) p3
    rw [bX0_laneFrom_35, hx.2.1, ite_leN (by omega) (by omega), if_neg (by omega), show (10 : Int32) = nI 10 from rfl, ite_leN (by omega) (by omega), if_neg (by omega), chk_pos ih, nI_clamp (by omega), e38, ite_bit0 (by omega) (by omega), hb, nI_1]
    by_cases c : gO V h i = true
    · have eo : onW V h (i + 1) = onW V h i + wt (V.2.2 i) := by rw [onW, if_pos c]
      rw [if_pos c, chk_pos (inb_nI (by omega) (by omega)), lete_eq, nI_clamp (by omega), e5, pk_sub (by omega), if_pos (Int32.not_lt.mp (nI_pos (by omega))), Nat.sub_sub, eo]
    · have eo : onW V h (i + 1) = onW V h i := by rw [onW, if_neg c, Nat.add_zero]
      rw [if_neg c, eo]
  · have hb := onB_bit V h V.2.1 p
    rw [decide_eq_true p1, Bool.true_and] at hb
    have e5 : q3.2.1 5 p = nI (wt (V.2.2 p)) := (hx.2.2.2.2 p p1).2.2.2.1
    have hw := hV.wt p1
    rw [onW, if_pos p2] at p4
    rw [bX0_laneFrom_35, hx.2.1, ite_leN (by omega) (by omega), if_neg (by omega), show (10 : Int32) = nI 10 from rfl, ite_leN (by omega) (by omega), if_neg (by omega), chk_pos ih, nI_clamp (by omega), e38, ite_bit0 (by omega) (by omega), hb, if_pos p2, chk_pos (inb_nI (by omega) (by omega)), lete_eq, nI_clamp (by omega), e5, if_neg (Int32.not_le.mpr (pk_sneg (by omega) (by omega)))]
theorem x_laneFrom (hF : 2000 ≤ F) (hV : okV V) (hx : IX m 1 V) (hl : LR V m) {h R W : Nat} {s : Int32} (hh : h < 7) (hs : lcg (m.1 37 3) = s) (hWe : onW V h V.2.1 = W) (hW : W ≠ 0) (hRe : rA s % W = R) : gX0_laneFrom F m (nI h) = some (nI (pck V h R V.2.1), mu m 37 3 s) := by
  have hn := hV.2.2.1
  have hWl := onW_le hV h V.2.1 (Nat.le_refl _)
  have hB0 : ¬ onB V h V.2.1 = 0 := fun z => hW (by rw [← hWe]; exact (onW_zero hV).mpr z)
  have hBl := Nat.lt_of_lt_of_le (onB_lt V h V.2.1) (pow10 hn)
  have hR : R < W := by rw [← hRe]; exact Nat.mod_lt _ (by omega)
  obtain ⟨p1, p2, p3, p4⟩ := pck_ok V.2.1 (show R < onW V h V.2.1 by omega)
  have hx1 : IX (nI R, mu m 37 3 s).2 1 V := hx.sm (fun k hk => mu_row _ _ (by omega))
  have e38 : (nI R, mu m 37 3 s).2.1 38 h = nI (onB V h V.2.1) := (mu_ne _ _ (Or.inl (by decide))).trans (hl h hh).1
  have ih : inb (nI h) 7 := inb_nI (by omega) (by omega)
  have hb : gX0_below m (nI W) = some (nI R, mu m 37 3 s) := by rw [x_below (by omega) (by omega), hs, hRe]
  have hp := x_pick hF hV hx1 hh e38 (show R < 1000 by omega) p1 p2 p3 p4
  have h0 : ¬ nI (onB V h V.2.1) = 0 := fun e => by
    rw [show (0 : Int32) = nI 0 from rfl] at e
    exact hB0 ((nI_eq (by omega) (by omega)).mp e)
  rw [gX0_laneFrom, if_neg (nI_pos (by omega)), show (7 : Int32) = nI 7 from rfl, ite_leN (by omega) (by omega), if_neg (by omega), chk_pos ih, nI_clamp (by omega), (hl h hh).1, if_neg h0, chk_pos ih, (hl h hh).2, hWe, hb, Option.bind_some, show (0 : Int32) = nI 0 from rfl, hp, Option.bind_some]
  rfl
theorem x_laneNot (hV : okV V) (hl : LR V m) {h : Nat} (hh : h < 7) (hW : onW V h V.2.1 = 0) : gX0_laneFrom F m (nI h) = some (-9, m) := by
  have hB0 : onB V h V.2.1 = 0 := (onW_zero hV).mp hW
  rw [gX0_laneFrom, if_neg (nI_pos (by omega)), show (7 : Int32) = nI 7 from rfl, ite_leN (by omega) (by omega), if_neg (by omega), chk_pos (inb_nI (by omega) (by omega)), nI_clamp (by omega), (hl h hh).1, hB0, if_pos (show nI 0 = (0 : Int32) from rfl)]
theorem m_pick (hF : 2000 ≤ F) (hV : okV V) {h R p : Nat} {q3 : Int32 × Mem} (hm : IM q3.2 V) (hh : h < 7) (hR : R < 1000) (p1 : p < V.2.1) (p2 : gO V h p = true) (p3 : onW V h p ≤ R) (p4 : R < onW V h (p + 1)) : iter F (bX9_walks_56 (nI h) q3) (nI R, nI 0) = some (nI (R - onW V h p), nI p) := by
  have hn := hV.2.2.1
  have hH := hV.2.1
  have q := iter_at (F := F) (f := bX9_walks_56 (nI h) q3) (fun i => (nI (R - onW V h i), nI i)) p (nI (R - onW V h p), nI p) (fun i hi => ?_) ?_ (by omega)
  · have e0 : onW V h 0 = 0 := rfl
    rw [e0, Nat.sub_zero] at q
    exact q
  · have hto : onW V h (i + 1) ≤ R := Nat.le_trans (onW_to (by omega)) p3
    have ho := oth_lt hV (h := h) (show i < V.2.1 by omega)
    have hw := hV.wt (show i < V.2.1 by omega)
    by_cases c : gO V h i = true
    · have eo : onW V h (i + 1) = onW V h i + wt (V.2.2 i) := by rw [onW, if_pos c]
      rw [bX9_walks_56, m_leads hV hm hh (by omega), if_pos c, Option.bind_some, if_neg (nI_pos (by omega)), m_weightOf hV hm (by omega), Option.bind_some, ite_ltN (by omega) (by omega), if_neg (by omega), Option.bind_some, if_neg (nI_pos (by omega)), Option.bind_some, lete_eq, pk_sub (by omega), nI_1, Nat.sub_sub, eo]
    · have eo : onW V h (i + 1) = onW V h i := by rw [onW, if_neg c, Nat.add_zero]
      rw [bX9_walks_56, m_leads hV hm hh (by omega), if_neg c, Option.bind_some, if_pos (by decide), Option.bind_some, if_pos (by decide), lete_eq, show (0 : Int32) = nI 0 from rfl, pk_sub (by omega), Nat.sub_zero, nI_1, eo]
  · have ho := oth_lt hV (h := h) p1
    have hw := hV.wt p1
    rw [onW, if_pos p2] at p4
    rw [bX9_walks_56, m_leads hV hm hh p1, if_pos p2, Option.bind_some, if_neg (nI_pos (by omega)), m_weightOf hV hm p1, Option.bind_some, ite_ltN (by omega) (by omega), if_pos (by omega)]
/-- where the walker is, the houses it has been at, the lanes kept, the seed -/
abbrev Ws : Type := Nat × Nat × Nat × Int32
def wpk (V : Vd) (s : Ws) : Nat := pck V s.1 (rA (lcg s.2.2.2) % onW V s.1 V.2.1) V.2.1
def wnx (V : Vd) (s : Ws) (p : Nat) (z : Int32) : Ws := if s.2.1.testBit (oth V s.1 p) = true then (oth V s.1 p, s.2.1, s.2.2.1, z) else (oth V s.1 p, s.2.1 ||| 2 ^ oth V s.1 p, s.2.2.1 ||| 2 ^ p, z)
def wstep (V : Vd) (s : Ws) : Ws := wnx V s (wpk V s) (lcg s.2.2.2)
def wst (V : Vd) (z : Int32) : Nat → Ws
  | 0 => (0, 1, 0, z)
  | i + 1 => wstep V (wst V z i)
def wok (V : Vd) (s : Ws) : Prop := s.1 < V.1 ∧ s.2.1 < 2 ^ V.1 ∧ s.2.2.1 < 2 ^ V.2.1
def wgo (V : Vd) (s : Ws) : Bool := !decide (s.2.1 = 2 ^ V.1 - 1) && !decide (onW V s.1 V.2.1 = 0)
theorem wpk_ok (hV : okV V) {s : Ws} (hW : onW V s.1 V.2.1 ≠ 0) : wpk V s < V.2.1 := (pck_ok V.2.1 (Nat.mod_lt _ (by omega))).1
theorem wnx_ok (hV : okV V) {s : Ws} {p : Nat} {z : Int32} (h : wok V s) (hp : p < V.2.1) : wok V (wnx V s p z) := by
  have ho := oth_lt hV (h := s.1) hp
  unfold wnx
  by_cases c : s.2.1.testBit (oth V s.1 p) = true
  · rw [if_pos c]
    exact ⟨ho, h.2.1, h.2.2⟩
  · rw [if_neg c]
    exact ⟨ho, Nat.or_lt_two_pow h.2.1 (Nat.pow_lt_pow_right (by decide) ho), Nat.or_lt_two_pow h.2.2 (Nat.pow_lt_pow_right (by decide) hp)⟩
theorem wstep_ok (hV : okV V) {s : Ws} (h : wok V s) (hW : onW V s.1 V.2.1 ≠ 0) : wok V (wstep V s) := wnx_ok hV h (wpk_ok hV hW)
theorem wst_ok (hV : okV V) {z : Int32} : ∀ i, (∀ j, j < i → wgo V (wst V z j) = true) → wok V (wst V z i)
  | 0, _ => ⟨by have := hV.1; show 0 < V.1; omega, by
      have := Nat.pow_le_pow_right (show 0 < 2 by decide) hV.1
      show 1 < 2 ^ V.1
      omega, Nat.pow_pos (by decide)⟩
  | i + 1, h => by
    have g := h i (by omega)
    unfold wgo at g
    simp only [Bool.and_eq_true, Bool.not_eq_true', decide_eq_false_iff_not] at g
    exact wstep_ok hV (wst_ok hV i (fun j hj => h j (by omega))) g.2
end
