/-! ===== sums over the ways; least terms ===== -/
def smw (P : Nat → Bool) (w : Nat → Nat) : List Nat → Nat
  | [] => 0
  | s :: r => (if P s = true then w s else 0) + smw P w r
theorem smw_app (P : Nat → Bool) (w : Nat → Nat) : ∀ a b, smw P w (a ++ b) = smw P w a + smw P w b
  | [], b => by simp [smw]
  | s :: r, b => by
    have := smw_app P w r b
    simp only [List.cons_append, smw, this]
    omega
theorem take1 {L : List Nat} {i s : Nat} (h : L[i]? = some s) : L.take (i + 1) = L.take i ++ [s] := by rw [List.take_succ, h]; rfl
theorem smw_take {P : Nat → Bool} {w : Nat → Nat} {L : List Nat} {i s : Nat} (h : L[i]? = some s) : smw P w (L.take (i + 1)) = smw P w (L.take i) + (if P s = true then w s else 0) := by
  rw [take1 h, smw_app]
  simp [smw]
theorem smw_le {P : Nat → Bool} {w : Nat → Nat} {B : Nat} : ∀ L : List Nat, (∀ s ∈ L, w s ≤ B) → smw P w L ≤ B * L.length
  | [], _ => by simp [smw]
  | s :: r, h => by
    have h1 := smw_le (P := P) r (fun x hx => h x (List.mem_cons_of_mem _ hx))
    have h2 := h s List.mem_cons_self
    simp only [smw, List.length_cons, Nat.mul_succ]
    split <;> omega
theorem smw_congr {P Q : Nat → Bool} {w : Nat → Nat} : ∀ L : List Nat, (∀ s ∈ L, P s = Q s) → smw P w L = smw Q w L
  | [], _ => rfl
  | s :: r, h => by
    rw [smw, smw, smw_congr r (fun x hx => h x (List.mem_cons_of_mem _ hx)), h s List.mem_cons_self]
section
variable {PM PS : Nat → Nat → Nat} {m : Mem} {V : Vd} {F : Nat}
theorem way_mem {s : Nat} (h : s ∈ ways V) : s < 2 ^ V.2.1 ∧ isW V s = true := by unfold ways at h; simpa using h
theorem way_frs {s : Nat} (h : s ∈ ways V) : frs V s 1 = true := by
  have := (way_mem h).2
  unfold isW at this
  simp only [Bool.and_eq_true] at this
  exact this.2
theorem way_wrt (hV : okV V) {s : Nat} (h : s ∈ ways V) : wrt V s ≤ 531441 := wrt_le hV (by decide) (way_frs h)
theorem smw_ways (hV : okV V) (P : Nat → Bool) : smw P (wrt V) (ways V) ≤ 531441 * 252 := Nat.le_trans (smw_le (B := 531441) _ (fun s hs => way_wrt hV hs)) (Nat.mul_le_mul_left _ (ways_le hV))
theorem x_worthWith (hF : 2000 ≤ F) (hV : okV V) (hw : IW m V) {a : Nat} (ha : a < 2 ^ 31) : gX7_worthWith F m (nI a) = some (lN (smw (fun s => decide (s &&& a = a)) (wrt V) (ways V))) := by
  have hl := ways_le hV
  unfold gX7_worthWith
  have q := iter_at (F := F) (f := bX7_worthWith_5 m (nI a)) (fun i => (lN (smw (fun s => decide (s &&& a = a)) (wrt V) ((ways V).take i)), nI i)) (ways V).length (lN (smw (fun s => decide (s &&& a = a)) (wrt V) (ways V)), nI (ways V).length) (fun i hi => ?_) ?_ (by omega)
  · have e0 : iter F (bX7_worthWith_5 m (nI a)) (0, 0) = _ := q
    rw [e0]; rfl
  · obtain ⟨s, hs⟩ := ways_at (V := V) hi
    have hb := way_wrt hV (List.mem_of_getElem? hs)
    have hs10 := hV.sl (way_mem (List.mem_of_getElem? hs)).1
    simp only [bX7_worthWith_5, lete]
    rw [hw.1, ite_leN (by omega) (by omega), if_neg (by omega), show (252 : Int32) = nI 252 from rfl, ite_leN (by omega) (by omega), if_neg (by omega), chk_pos (inb_nI (by omega) (by omega)), chk_pos (inb_nI (by omega) (by omega)), nI_clamp (by omega), (hw.2 i s hs).1, (hw.2 i s hs).2, andI, ite_eqN (Nat.lt_of_le_of_lt Nat.and_le_left (by omega)) ha, nI_l (by omega), lN_add, nI_1, smw_take hs]
    by_cases hc : s &&& a = a
    · simp [hc]
    · simp [hc]
  · simp only [bX7_worthWith_5]
    rw [hw.1, ite_leN (by omega) (by omega), if_pos (Nat.le_refl _), List.take_length]
theorem m_sumWith (hF : 2000 ≤ F) (hV : okV V) (hw : FW m V (ways V)) {a b : Nat} (ha : a < 2 ^ 31) (hb : b < 2 ^ 31) : gX9_sumWith F m (nI a) (nI b) = some (lN (smw (fun s => decide (s &&& a = a) && decide (b &&& s = 0)) (wrt V) (ways V))) := by
  have hl := ways_le hV
  unfold gX9_sumWith
  have q := iter_at (F := F) (f := bX9_sumWith_5 m (nI a) (nI b)) (fun i => (lN (smw (fun s => decide (s &&& a = a) && decide (b &&& s = 0)) (wrt V) ((ways V).take i)), nI i)) (ways V).length (lN (smw (fun s => decide (s &&& a = a) && decide (b &&& s = 0)) (wrt V) (ways V)), nI (ways V).length) (fun i hi => ?_) ?_ (by omega)
  · have e0 : iter F (bX9_sumWith_5 m (nI a) (nI b)) (0, 0) = _ := q
    rw [e0]; rfl
  · obtain ⟨s, hs⟩ := ways_at (V := V) hi
    have hs10 := hV.sl (way_mem (List.mem_of_getElem? hs)).1
    have hib : inb (nI i) 1024 := inb_nI (by omega) (by omega)
    simp only [bX9_sumWith_5, lete, chk_pos hib]
    rw [hw.1, ite_leN (by omega) (by omega), if_neg (by omega), nI_clamp (by omega), (hw.2 i s hs).1, (hw.2 i s hs).2, woI, andI, show (0 : Int32) = nI 0 from rfl, ite_eqN (wo_lt ha) (by omega), ite_eqN (Nat.lt_of_le_of_lt Nat.and_le_left hb) (by omega), show (0 : Int64) = lN 0 from rfl, lN_add, lN_add, nI_1, smw_take hs]
    have e1 := sub_and (a := a) (b := s)
    by_cases h1 : wo a s = 0
    · have h3 := e1.mp h1
      by_cases h2 : b &&& s = 0
      · simp [h1, h2, h3]
      · simp [h1, h2, h3]
    · have h3 : ¬ s &&& a = a := fun z => h1 (e1.mpr z)
      simp [h1, h3]
  · simp only [bX9_sumWith_5]
    rw [hw.1, ite_leN (by omega) (by omega), if_pos (Nat.le_refl _), List.take_length]
theorem sum0 (P : Nat → Bool) (h : ∀ s, P s = true) (L : List Nat) : smw P (wrt V) L = smw (fun _ => true) (wrt V) L := smw_congr L (fun s _ => h s)
theorem x_sum0 (hF : 2000 ≤ F) (hV : okV V) (hw : IW m V) : gX7_worthWith F m 0 = some (lN (smw (fun _ => true) (wrt V) (ways V))) := by
  rw [show (0 : Int32) = nI 0 from rfl, x_worthWith hF hV hw (by omega), sum0 _ (fun s => by simp)]
theorem m_sum0 (hF : 2000 ≤ F) (hV : okV V) (hw : FW m V (ways V)) : gX9_sumWith F m 0 0 = some (lN (smw (fun _ => true) (wrt V) (ways V))) := by
  rw [show (0 : Int32) = nI 0 from rfl, m_sumWith hF hV hw (by omega) (by omega), sum0 _ (fun s => by simp)]
theorem m_sumA (hF : 2000 ≤ F) (hV : okV V) (hw : FW m V (ways V)) {a : Nat} (ha : a < 2 ^ 31) : gX9_sumWith F m (nI a) 0 = some (lN (smw (fun s => decide (s &&& a = a)) (wrt V) (ways V))) := by
  rw [show (0 : Int32) = nI 0 from rfl, m_sumWith hF hV hw ha (by omega)]
  congr 3
  funext s
  simp
/-! the greatest common divisor, by both loops -/
theorem lg0 (y : Nat) (hy : y < 2 ^ 63) : (lg_cmp (lN y) 0 = 0) ↔ y = 0 := by
  unfold lg_cmp
  by_cases h : y = 0
  · subst h; simp; decide
  · have h1 : (lN y) > 0 := by
      rw [show (0 : Int64) = lN 0 from rfl]
      exact (pk_lLT (by omega) hy).mpr (by omega)
    rw [if_pos h1]
    simp [h]
theorem lne {y : Nat} (h : y < 2 ^ 63) (hy : y ≠ 0) : ¬ lN y = 0 := fun z => hy ((pk_lEQ h (by omega : 0 < 2 ^ 63)).mp z)
/-- what holds after i divisions -/
def GI (a b i x y : Nat) : Prop := x < 2 ^ 63 ∧ y < 2 ^ 63 ∧ Nat.gcd x y = Nat.gcd a b ∧ (1 ≤ i → y < x ∧ (x + y) * 3 ^ (i - 1) ≤ 2 ^ 64 * 2 ^ (i - 1))
theorem GI.step {a b i x y : Nat} (h : GI a b i x y) (hy : y ≠ 0) : GI a b (i + 1) y (x % y) := by
  obtain ⟨h1, h2, h3, h4⟩ := h
  have hr : x % y < y := Nat.mod_lt _ (by omega)
  refine ⟨h2, by omega, ?_, fun _ => ⟨hr, ?_⟩⟩
  · rw [← h3, Nat.gcd_comm x y, Nat.gcd_rec y x, Nat.gcd_comm]
  · by_cases hi : i = 0
    · subst hi
      simp only [Nat.zero_add, Nat.sub_self, Nat.pow_zero, Nat.mul_one]
      omega
    · obtain ⟨h5, h6⟩ := h4 (by omega)
      obtain ⟨k, rfl⟩ : ∃ k, i = k + 1 := ⟨i - 1, by omega⟩
      simp only [Nat.add_sub_cancel] at h6 ⊢
      have hd := Nat.div_add_mod x y
      have hq : 1 ≤ x / y := (Nat.one_le_div_iff (by omega)).mpr (by omega)
      have hyq : y ≤ y * (x / y) := Nat.le_mul_of_pos_right y hq
      have h7 : 3 * (y + x % y) ≤ 2 * (x + y) := by omega
      rw [Nat.pow_succ, Nat.pow_succ]
      calc (y + x % y) * (3 ^ k * 3) = (3 * (y + x % y)) * 3 ^ k := by rw [Nat.mul_comm (3 ^ k) 3, ← Nat.mul_assoc, Nat.mul_comm _ 3]
        _ ≤ (2 * (x + y)) * 3 ^ k := Nat.mul_le_mul_right _ h7
        _ = 2 * ((x + y) * 3 ^ k) := by rw [Nat.mul_assoc]
        _ ≤ 2 * (2 ^ 64 * 2 ^ k) := Nat.mul_le_mul_left _ h6
        _ = 2 ^ 64 * (2 ^ k * 2) := by rw [Nat.mul_comm (2 ^ k) 2, ← Nat.mul_assoc, ← Nat.mul_assoc, Nat.mul_comm 2]
theorem GI.end {a b x y : Nat} (h : GI a b 120 x y) : y = 0 := by
  obtain ⟨-, -, -, h4⟩ := h
  obtain ⟨h5, h6⟩ := h4 (by omega)
  rcases Nat.eq_zero_or_pos y with q | q
  · exact q
  · exfalso
    have : 1 * 3 ^ 119 ≤ (x + y) * 3 ^ 119 := Nat.mul_le_mul_right _ (by omega)
    have h7 : 1 * 3 ^ 119 ≤ 2 ^ 64 * 2 ^ 119 := Nat.le_trans this h6
    exact absurd h7 (by decide)
theorem x_gcd (hF : 2000 ≤ F) {a b : Nat} (ha : a < 2 ^ 63) (hb : b < 2 ^ 63) : gX8_commonDivisor F (lN a) (lN b) = some (lN (Nat.gcd a b)) := by
  unfold gX8_commonDivisor
  obtain ⟨e, h1, h2⟩ := iter_inv (f := bX8_commonDivisor_9) (fun i q => ∃ x y, q = (lN x, lN y, nI i) ∧ GI a b i x y) 120 (fun q => q.1 = lN (Nat.gcd a b)) (by
      rintro i q hi ⟨x, y, rfl, hG⟩
      simp only [bX8_commonDivisor_9, lete]
      rw [show (200 : Int32) = nI 200 from rfl, ite_leN (by omega) (by omega), if_neg (by omega)]
      by_cases hy : y = 0
      · refine Or.inr ⟨_, by rw [if_pos ((lg0 y hG.2.1).mpr hy)], ?_⟩
        dsimp only
        rw [← hG.2.2.1, hy, Nat.gcd_zero_right]
      · refine Or.inl ⟨_, by rw [if_neg (fun z => hy ((lg0 y hG.2.1).mp z)), chk_pos (lne hG.2.1 hy), pk_lRem hG.1 (by omega) hG.2.1, nI_1], y, x % y, rfl, hG.step hy⟩) (by
      rintro q ⟨x, y, rfl, hG⟩
      simp only [bX8_commonDivisor_9, lete]
      rw [show (200 : Int32) = nI 200 from rfl, ite_leN (by omega) (by omega), if_neg (by omega)]
      have hy := hG.end
      refine ⟨_, by rw [if_pos ((lg0 y hG.2.1).mpr hy)], ?_⟩
      dsimp only
      rw [← hG.2.2.1, hy, Nat.gcd_zero_right]) F 0 (lN a, lN b, 0) (Nat.zero_le _) (by omega) ⟨a, b, rfl, ha, hb, rfl, fun h => absurd h (by omega)⟩
  rw [h1, Option.bind_some, h2]
theorem m_gcd (hF : 2000 ≤ F) {a b : Nat} (ha : a < 2 ^ 63) (hb : b < 2 ^ 63) : gX9_divisor F (lN a) (lN b) = some (lN (Nat.gcd a b)) := by
  unfold gX9_divisor
  obtain ⟨e, h1, h2⟩ := iter_inv (f := bX9_divisor_6) (fun i q => ∃ x y, q = (lN x, lN y) ∧ GI a b i x y) 120 (fun q => q.1 = lN (Nat.gcd a b)) (by
      rintro i q hi ⟨x, y, rfl, hG⟩
      simp only [bX9_divisor_6, lete]
      by_cases hy : y = 0
      · refine Or.inr ⟨_, by rw [if_pos ((lg0 y hG.2.1).mpr hy)], ?_⟩
        dsimp only
        rw [← hG.2.2.1, hy, Nat.gcd_zero_right]
      · refine Or.inl ⟨_, by rw [if_neg (fun z => hy ((lg0 y hG.2.1).mp z)), chk_pos (lne hG.2.1 hy), pk_lRem hG.1 (by omega) hG.2.1], y, x % y, rfl, hG.step hy⟩) (by
      rintro q ⟨x, y, rfl, hG⟩
      simp only [bX9_divisor_6, lete]
      have hy := hG.end
      refine ⟨_, by rw [if_pos ((lg0 y hG.2.1).mpr hy)], ?_⟩
      dsimp only
      rw [← hG.2.2.1, hy, Nat.gcd_zero_right]) F 0 (lN a, lN b) (Nat.zero_le _) (by omega) ⟨a, b, rfl, ha, hb, rfl, fun h => absurd h (by omega)⟩
  rw [h1, Option.bind_some, h2]
theorem both_least (hF : 2000 ≤ F) {a b : Nat} (ha : a < 2 ^ 63) (hb : b < 2 ^ 63) (h0 : 0 < b) (p : Int32) : gX8_leastTerms F (lN a) (lN b) p = some (lN (if p = 0 then a / Nat.gcd a b else b / Nat.gcd a b)) ∧ gX9_inLeast F (lN a) (lN b) p = some (lN (if p = 0 then a / Nat.gcd a b else b / Nat.gcd a b)) := by
  have hg : 0 < Nat.gcd a b := Nat.gcd_pos_of_pos_right a h0
  have hg2 : Nat.gcd a b < 2 ^ 63 := Nat.lt_of_le_of_lt (Nat.gcd_le_right a h0) hb
  have hne : ¬ lN (Nat.gcd a b) = 0 := fun z => by
    have := (pk_lEQ hg2 (by omega : 0 < 2 ^ 63)).mp z
    omega
  have hc : ¬ lg_cmp (lN (Nat.gcd a b)) 0 = 0 := fun z => by
    have := (lg0 _ hg2).mp z
    omega
  unfold gX8_leastTerms gX9_inLeast
  rw [x_gcd hF ha hb, m_gcd hF ha hb]
  simp only [Option.bind_some, chk_pos hne, if_neg hc]
  rw [pk_lDiv ha hg hg2, pk_lDiv hb hg hg2]
  by_cases hp : p = 0 <;> simp [hp]
theorem pu_sum (hF : 2000 ≤ F) : PU_sum F (Inv PM PS) := by
  rintro m ⟨V, hI⟩
  obtain ⟨hV, hx, hm, hj, hw, -⟩ := id hI
  obtain ⟨m', g1, g2, g3⟩ := m_findWays hF hV hm
  refine ⟨lN (smw (fun _ => true) (wrt V) (ways V)), m', ?_, ?_, V, hI.sm g2.sm⟩
  · simp only [gX8_sum, x_sum0 hF hV hw, Option.bind_some]
  · simp only [gX9_sum, g1, Option.bind_some, m_sum0 hF hV g3]
end
