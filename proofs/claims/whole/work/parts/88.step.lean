section
variable {F : Nat} {m : Mem} {V : Vd}
theorem fT {L : List Nat} {l : Nat} : L.filter (fun s => s.testBit l == true) = L.filter (fun s => s.testBit l) := by
  congr 1
  funext s
  cases s.testBit l <;> rfl
theorem fF {L : List Nat} {l : Nat} : L.filter (fun s => s.testBit l == false) = L.filter (fun s => !s.testBit l) := by
  congr 1
  funext s
  cases s.testBit l <;> rfl
def dE (V : Vd) (s : Ds) (l : Nat) (m : Mem) : Int32 × Int32 × Int32 × Mem := (nI (pL V s.1 s.2.1).length, nI (pS V s.1 s.2.1), nI l, m)
def mE (s : Ds) (l : Nat) (m : Mem) : Int32 × Int32 × Int32 × Mem := (nI s.1, nI s.2.1, nI l, m)
theorem x_keepA (hF : 2000 ≤ F) (hV : okV V) {A B l : Nat} (hl : l < V.2.1) (hp : PL V (pL V A B) m) : ∃ m', gX0_narrow F m (nI (2 ^ l)) (nI (pL V A B).length) true = some (nI (pL V (A ||| 2 ^ l) B).length, m') ∧ EQ m m' ∧ m'.1 37 = m.1 37 ∧ PL V (pL V (A ||| 2 ^ l) B) m' := by
  have hn := hV.2.2.1
  have h := x_narrow hF (l := l) (by omega) (pL_len hV A B) (fun t ht => hV.sl (way_mem (pL_mem ht).1).1) hp true
  rw [fT, ← pL_a] at h
  exact h
theorem x_keepB (hF : 2000 ≤ F) (hV : okV V) {A B l : Nat} (hl : l < V.2.1) (hp : PL V (pL V A B) m) : ∃ m', gX0_narrow F m (nI (2 ^ l)) (nI (pL V A B).length) false = some (nI (pL V A (B ||| 2 ^ l)).length, m') ∧ EQ m m' ∧ m'.1 37 = m.1 37 ∧ PL V (pL V A (B ||| 2 ^ l)) m' := by
  have hn := hV.2.2.1
  have h := x_narrow hF (l := l) (by omega) (pL_len hV A B) (fun t ht => hV.sl (way_mem (pL_mem ht).1).1) hp false
  rw [fF, ← pL_b] at h
  exact h
theorem x_dStep (hF : 2000 ≤ F) (hV : okV V) (hx : IX m 1 V) {s : Ds} {l : Nat} {z : Int32} (hl : l < V.2.1) (h1 : 1 < (pL V s.1 s.2.1).length) (hp : PL V (pL V s.1 s.2.1) m) (hz : m.1 37 3 = s.2.2) (ez : lcg s.2.2 = z) : ∃ m', bX0_laneByLane_25 F (dE V s l m) = some (.inl (dE V (dnx V l s z) (l + 1) m')) ∧ EQ m m' ∧ m'.1 37 3 = (dnx V l s z).2.2 ∧ PL V (pL V (dnx V l s z).1 (dnx V l s z).2.1) m' := by
  obtain ⟨A, B, y⟩ := s
  dsimp only at h1 hp hz ez
  have hn := hV.2.2.1
  have hlen := pL_len hV A B
  have hS := pS_le hV A B
  have hSa := pS_le hV (A ||| 2 ^ l) B
  have h2 := pS_two (V := V) (A := A) (B := B) (l := l)
  have hpos : 0 < pS V A B := (pS_pos hV).mpr (by omega)
  have hw : gX0_poolWorthWith F m (nI (2 ^ l)) (nI (pL V A B).length) = some (nI (pS V (A ||| 2 ^ l) B)) := by
    rw [x_poolWorth hF hlen (fun t ht => hV.sl (way_mem (pL_mem ht).1).1) (Nat.pow_lt_pow_right (by decide) (by omega)) hp, pS_a]
  have head : ∀ r, (gX0_below m (nI (pS V A B))) = r → bX0_laneByLane_25 F (dE V (A, B, y) l m) = (if pS V (A ||| 2 ^ l) B = pS V A B then (gX0_narrow F m (nI (2 ^ l)) (nI (pL V A B).length) true).bind (fun q8 => some (.inl (q8.1, nI (pS V (A ||| 2 ^ l) B), nI (l + 1), q8.2))) else (if pS V (A ||| 2 ^ l) B ≤ 0 then (gX0_narrow F m (nI (2 ^ l)) (nI (pL V A B).length) false).bind (fun q9 => some (.inl (q9.1, nI (pS V A B) - nI (pS V (A ||| 2 ^ l) B), nI (l + 1), q9.2))) else r.bind (fun q11 => (if nI (pS V (A ||| 2 ^ l) B) ≤ q11.1 then (gX0_narrow F q11.2 (nI (2 ^ l)) (nI (pL V A B).length) false).bind (fun q12 => some (.inl (q12.1, nI (pS V A B) - nI (pS V (A ||| 2 ^ l) B), nI (l + 1), q12.2))) else (gX0_narrow F q11.2 (nI (2 ^ l)) (nI (pL V A B).length) true).bind (fun q14 => some (.inl (q14.1, nI (pS V (A ||| 2 ^ l) B), nI (l + 1), q14.2))))))) := by
    intro r hr
    unfold dE
    dsimp only
    rw [bX0_laneByLane_25, hx.2.1, ite_leN (by omega) (by omega), if_neg (by omega), show (1 : Int32) = nI 1 from rfl, ite_leN (by omega) (by omega), if_neg (by omega), ← show (1 : Int32) = nI 1 from rfl, sh1 (by omega), hw, Option.bind_some, ite_eqN (by omega) (by omega), hr, nI_1, show (0 : Int32) = nI 0 from rfl, ite_leN (by omega) (by omega)]
    rfl
  have hR := Nat.mod_lt (rA z) hpos
  have hb : gX0_below m (nI (pS V A B)) = some (nI (rA z % pS V A B), mu m 37 3 z) := by rw [x_below hpos (by omega), hz, ez]
  unfold dnx
  dsimp only
  generalize rA z % pS V A B = R at hb hR ⊢
  rw [head _ hb]
  by_cases c1 : pS V (A ||| 2 ^ l) B = pS V A B
  · obtain ⟨m', g1, g2, g3, g4⟩ := x_keepA hF hV hl hp
    rw [if_pos c1, if_pos c1, g1, Option.bind_some]
    exact ⟨m', rfl, g2, by rw [g3]; exact hz, g4⟩
  · rw [if_neg c1, if_neg c1]
    by_cases c2 : pS V (A ||| 2 ^ l) B = 0
    · obtain ⟨m', g1, g2, g3, g4⟩ := x_keepB hF hV hl hp
      rw [if_pos c2, if_pos (by omega), g1, Option.bind_some, pk_sub (by omega), show pS V A B - pS V (A ||| 2 ^ l) B = pS V A (B ||| 2 ^ l) by omega]
      exact ⟨m', rfl, g2, by rw [g3]; exact hz, g4⟩
    · have hp2 : PL V (pL V A B) (mu m 37 3 z) := fun q t ht => by
        rw [mu_ne _ _ (Or.inl (by decide)), mu_ne _ _ (Or.inl (by decide))]; exact hp q t ht
      rw [if_neg c2, if_neg (by omega), Option.bind_some]
      dsimp only
      rw [ite_leN (by omega) (by omega)]
      by_cases c3 : pS V (A ||| 2 ^ l) B ≤ R
      · obtain ⟨m', g1, g2, g3, g4⟩ := x_keepB hF hV hl hp2
        rw [if_pos c3, if_pos c3, g1, Option.bind_some, pk_sub (by omega), show pS V A B - pS V (A ||| 2 ^ l) B = pS V A (B ||| 2 ^ l) by omega]
        exact ⟨m', rfl, EQ.mu.tr g2, by rw [g3, mu_same], g4⟩
      · obtain ⟨m', g1, g2, g3, g4⟩ := x_keepA hF hV hl hp2
        rw [if_neg c3, if_neg c3, g1, Option.bind_some]
        exact ⟨m', rfl, EQ.mu.tr g2, by rw [g3, mu_same], g4⟩
theorem x_laneByLane (hF : 2000 ≤ F) (hV : okV V) (hx : IX m 1 V) (hw : IW m V) (hN : 0 < (ways V).length) {z : Int32} (hz : m.1 37 3 = z) : ∃ m', gX0_laneByLane F m = some (nI (dst V z V.2.1).1, m') ∧ EQ m m' ∧ m'.1 37 3 = (dst V z V.2.1).2.2 := by
  have hn := hV.2.2.1
  obtain ⟨m1, a1, a2, a3, a4⟩ := x_copyTo hF hV hw
  have p00 : pL V 0 0 = ways V := by
    unfold pL
    rw [List.filter_eq_self]
    intro s _
    simp [okP]
  have hsum : gX0_poolWorthWith F m1 0 (nI (ways V).length) = some (nI (pS V 0 0)) := by
    have := x_poolWorth hF (a := 0) (ways_le hV) (fun t ht => hV.sl (way_mem ht).1) (by omega) a4
    rw [show (0 : Int32) = nI 0 from rfl, this, pS_pL, p00]
    congr 2
    apply smw_congr
    intro s _
    simp
  obtain ⟨K, hK, hgo, hst⟩ := first_bad (fun j => decide (1 < (pL V (dst V z j).1 (dst V z j).2.1).length)) V.2.1
  obtain ⟨e, k1, m', k2, k3, k4, k5⟩ := iter_inv (f := bX0_laneByLane_25 F) (fun i s => ∃ m2, s = dE V (dst V z i) i m2 ∧ EQ m1 m2 ∧ m2.1 37 3 = (dst V z i).2.2 ∧ PL V (pL V (dst V z i).1 (dst V z i).2.1) m2) K (fun e => ∃ m2, e = dE V (dst V z K) K m2 ∧ EQ m1 m2 ∧ m2.1 37 3 = (dst V z K).2.2 ∧ PL V (pL V (dst V z K).1 (dst V z K).2.1) m2) (by
      rintro i s hi ⟨m2, rfl, he, hz2, hp⟩
      refine Or.inl ?_
      have hg := hgo i hi
      simp only [decide_eq_true_eq] at hg
      have hsu := dst_succ (V := V) (z := z) (l := i)
      generalize dst V z (i + 1) = s' at hsu ⊢
      generalize dst V z i = s at hsu hg hz2 hp ⊢
      generalize ez : lcg s.2.2 = z' at hsu
      have hx2 : IX m2 1 V := hx.sm (fun k hk => (a2.tr he).1 _ (by omega) (by omega) (by omega))
      obtain ⟨m3, g1, g2, g3, g4⟩ := x_dStep hF hV hx2 (l := i) (by omega) hg hp hz2 ez
      rw [hsu]
      exact ⟨_, g1, m3, rfl, he.tr g2, g3, g4⟩) (by
      rintro s ⟨m2, rfl, he, hz2, hp⟩
      have hx2 : IX m2 1 V := hx.sm (fun k hk => (a2.tr he).1 _ (by omega) (by omega) (by omega))
      refine ⟨dE V (dst V z K) K m2, ?_, m2, rfl, he, hz2, hp⟩
      have hlen := pL_len hV (dst V z K).1 (dst V z K).2.1
      unfold dE
      rw [bX0_laneByLane_25, hx2.2.1, ite_leN (by omega) (by omega)]
      by_cases c : K = V.2.1
      · rw [if_pos (by omega)]
      · have h1 := hst (by omega)
        simp only [decide_eq_false_iff_not] at h1
        rw [if_neg (by omega), show (1 : Int32) = nI 1 from rfl, ite_leN (by omega) (by omega), if_pos (by omega)]) F 0 (dE V (dst V z 0) 0 m1) (Nat.zero_le _) (by omega) ⟨m1, rfl, EQ.rf _, by rw [a3]; exact hz, by
        show PL V (pL V 0 0) m1
        rw [p00]; exact a4⟩
  have hok := dst_ok (V := V) (z := z) hN hV
  have hpos : 0 < (pL V (dst V z K).1 (dst V z K).2.1).length := (pS_pos hV).mp (hok K).2.2.2
  have hlen := pL_len hV (dst V z K).1 (dst V z K).2.1
  obtain ⟨w, hw0⟩ : ∃ w, (pL V (dst V z K).1 (dst V z K).2.1)[0]? = some w := ⟨_, List.getElem?_eq_getElem hpos⟩
  have hend : w = (dst V z V.2.1).1 ∧ (dst V z K).2.2 = (dst V z V.2.1).2.2 := by
    by_cases c : K = V.2.1
    · rw [c] at hw0 ⊢
      exact ⟨dok_end (hok V.2.1) (List.mem_of_getElem? hw0), rfl⟩
    · have h1 := hst (by omega)
      simp only [decide_eq_false_iff_not] at h1
      have hone : pL V (dst V z K).1 (dst V z K).2.1 = [w] := by
        generalize pL V (dst V z K).1 (dst V z K).2.1 = L at h1 hpos hw0
        match L, h1, hpos, hw0 with
        | [a], _, _, h => simpa using h
        | _ :: _ :: _, h1, _, _ => simp at h1
      obtain ⟨d1, d2⟩ := dst_one hV hone (V.2.1 - K)
      rw [show K + (V.2.1 - K) = V.2.1 by omega] at d1 d2
      exact ⟨dok_end (hok V.2.1) (by rw [d1]; simp), d2.symm⟩
  refine ⟨m', ?_, a2.tr k3, by rw [k4, hend.2]⟩
  have k1' : iter F (bX0_laneByLane_25 F) (nI (ways V).length, nI (pS V 0 0), 0, m1) = some e := by
    rw [← p00]; exact k1
  rw [gX0_laneByLane, a1, Option.bind_some]
  dsimp only
  rw [hsum, Option.bind_some, k1', Option.bind_some, k2]
  unfold dE
  dsimp only
  have e40 := (k5 0 w hw0).1
  rw [show (0 : Int32) = nI 0 from rfl, ite_leN (by omega) (by omega), if_neg (by omega), chk_pos (inb_nI (by omega) (by omega)), nI_clamp (by omega), e40, hend.1]
end
