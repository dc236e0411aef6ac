section
variable {F : Nat} {m : Mem} {V : Vd} {c : Nat → Nat} {t : Nat}
def vs (V : Vd) (c : Nat → Nat) (t : Nat) : Nat → Vd
  | 0 => V
  | k + 1 => apV (vs V c t k) (c (qs c t k)) (val c t (qs c t k))
def okS (V : Vd) (c : Nat → Nat) (t k : Nat) : Bool := apO (vs V c t k) (c (qs c t k)) (val c t (qs c t k))
theorem vs_ok (hV : okV V) : ∀ k, (∀ j, j < k → sgo c t j = true ∧ okS V c t j = true) → okV (vs V c t k)
  | 0, _ => hV
  | k + 1, h => by
    have i := vs_ok hV k (fun j hj => h j (by omega))
    obtain ⟨h1, h2⟩ := h k (by omega)
    refine apV_ok i h2 (fun h8 => ?_)
    have hv := val_lane (sgo_iff.mp h1).2 h8
    exact ⟨hv 4, hv 5⟩
theorem qs_mono {K : Nat} (h : ∀ j, j < K → sgo c t j = true) {a : Nat} : ∀ d, a + d ≤ K → qs c t a + 3 * d ≤ qs c t (a + d)
  | 0, _ => Nat.le_refl _
  | d + 1, hd => by
    have i := qs_mono h (a := a) d (by omega)
    have g := (qs_good h (show a + d < K by omega)).2.2.1
    rw [← Nat.add_assoc]
    omega
theorem qs_lt {K a b : Nat} (h : ∀ j, j < K → sgo c t j = true) (hab : a ≤ b) (hb : b ≤ K) : qs c t a + 3 * (b - a) ≤ qs c t b := by
  have := qs_mono h (a := a) (b - a) (by omega)
  rw [show a + (b - a) = b by omega] at this
  exact this
theorem LX.ec {m m' : Mem} (h : LX c t m) (he : EC 8 m m') : LX c t m' := by
  unfold LX at h ⊢
  rw [he.1 22 (by omega), he.1 23 (by omega)]
  exact h
theorem x_tellAll (hF : 2000 ≤ F) (hV : okV V) (hl : LX c t m) (hx : IX m 8 V) {K J : Nat} (hgo : ∀ j, j < K → sgo c t j = true) (hK : qs c t K = t) (hJ : J ≤ K) (hok : ∀ j, j < J → okS V c t j = true) (hbad : J < K → okS V c t J = false) : ∃ m', (iter F (bX3_tellTo_23 F) (0, 0, 0, m)).bind (fun e9 => Sum.elim (fun s11 => some (s11.1, s11.2.2.2)) (fun q => some q) e9) = some (if J < K then (-2000) - nI (qs c t J) else nI K, m') ∧ EC 8 m m' ∧ (J = K → IX m' 8 (vs V c t K)) := by
  have h72 := hl.2.1
  have hvs : ∀ k, k ≤ J → okV (vs V c t k) := fun k hk => vs_ok hV k (fun j hj => ⟨hgo j (by omega), hok j (by omega)⟩)
  have hK72 : K ≤ 72 := by have := qs_lt hgo (Nat.zero_le K) (Nat.le_refl K); omega
  have hn : ∃ n, n = (if J < K then qs c t (J + 1) - 1 else t) := ⟨_, rfl⟩
  obtain ⟨n, hn⟩ := hn
  have hnt : n ≤ t := by
    rw [hn]
    split
    · have := qs_lt hgo (show J + 1 ≤ K by omega) (Nat.le_refl K); omega
    · exact Nat.le_refl _
  obtain ⟨e, k1, m', k2, k3, k4⟩ := iter_inv (f := bX3_tellTo_23 F) (fun i s => ∃ k m1, k ≤ J ∧ qs c t k ≤ i ∧ (k < K → i < qs c t (k + 1)) ∧ (k = K → i = t) ∧ s = (nI k, nI (qs c t k), nI i, m1) ∧ EC 8 m m1 ∧ IX m1 8 (vs V c t k)) n (fun e => ∃ m', EC 8 m m' ∧ Sum.elim (fun s11 => some (s11.1, s11.2.2.2)) (fun q => some q) e = some (if J < K then (-2000) - nI (qs c t J) else nI K, m') ∧ (J = K → IX m' 8 (vs V c t K))) (by
      rintro i s hi ⟨k, m1, a1, a2, a3, a4, rfl, a6, a7⟩
      refine Or.inl ?_
      have hkK : k < K := by
        by_cases z : k = K
        · have := a4 z; omega
        · omega
      have a3 := a3 hkK
      have hl1 := hl.ec a6
      have hit : i < t := by omega
      obtain ⟨c1, c2⟩ := hl1.2.2 i hit
      have g := qs_good hgo hkK
      rw [bX3_tellTo_23, hl1.1, ite_leN (by omega) (by omega), if_neg (by omega), show (72 : Int32) = nI 72 from rfl, ite_leN (by omega) (by omega), if_neg (by omega), chk_pos (inb_nI (by omega) (by omega)), nI_clamp (by omega), c1, show (59 : Int32) = nI 59 from rfl, ite_eqN (by omega) (by omega), nI_1]
      by_cases e59 : i + 1 < qs c t (k + 1)
      · rw [if_neg (g.2.2.2.2.2 i a2 e59)]
        exact ⟨_, rfl, k, m1, a1, by omega, fun _ => e59, fun z => by omega, rfl, a6, a7⟩
      · have hi1 : i + 1 = qs c t (k + 1) := by omega
        have hc59 : c i = 59 := by
          have := g.2.2.2.2.1
          rw [← hi1, Nat.add_sub_cancel] at this
          exact this
        have hkJ : k < J := by
          by_cases z : k = J
          · exfalso
            rw [← z, if_pos hkK] at hn
            omega
          · omega
        obtain ⟨m2, g1, g2, g3⟩ := x_tellOne hF (hvs k a1) hl1 a7 (p := qs c t k) (e := i) (sgo_iff.mp (hgo k hkK)).2 hi1.symm
        have hokk : apO (vs V c t k) (c (qs c t k)) (val c t (qs c t k)) = true := hok k hkJ
        rw [if_pos hc59, g1, Option.bind_some, hokk, if_pos rfl, lete_eq, nI_1, hi1]
        refine ⟨_, rfl, k + 1, m2, hkJ, Nat.le_refl _, fun z => ?_, fun z => ?_, rfl, a6.tr g2, g3 hokk⟩
        · have := (qs_good hgo z).2.2.1
          omega
        · rw [z]; exact hK) (by
      rintro s ⟨k, m1, a1, a2, a3, a4, rfl, a6, a7⟩
      have hl1 := hl.ec a6
      by_cases hJK : J < K
      · rw [if_pos hJK] at hn
        have g := qs_good hgo hJK
        have hkJ : k = J := by
          by_cases z : k = J
          · exact z
          · exfalso
            have b := a3 (by omega)
            have := qs_lt hgo (show k + 1 ≤ J by omega) hJ
            have := g.2.2.1
            omega
        subst hkJ
        have hnt2 : n < t := by
          have := qs_lt hgo (show k + 1 ≤ K by omega) (Nat.le_refl K)
          have := g.2.2.1
          omega
        have hn1 : n + 1 = qs c t (k + 1) := by have := g.2.2.1; omega
        have hc59 : c n = 59 := by
          have := g.2.2.2.2.1
          rw [← hn1, Nat.add_sub_cancel] at this
          exact this
        obtain ⟨c1, c2⟩ := hl1.2.2 n hnt2
        obtain ⟨m2, g1, g2, g3⟩ := x_tellOne hF (hvs k a1) hl1 a7 (p := qs c t k) (e := n) (sgo_iff.mp (hgo k hJK)).2 hn1.symm
        have hokk : apO (vs V c t k) (c (qs c t k)) (val c t (qs c t k)) = false := hbad hJK
        refine ⟨.inr ((-2000) - nI (qs c t k), m2), ?_, m2, a6.tr g2, ?_, fun z => by omega⟩
        · rw [bX3_tellTo_23, hl1.1, ite_leN (by omega) (by omega), if_neg (by omega), show (72 : Int32) = nI 72 from rfl, ite_leN (by omega) (by omega), if_neg (by omega), chk_pos (inb_nI (by omega) (by omega)), nI_clamp (by omega), c1, show (59 : Int32) = nI 59 from rfl, ite_eqN (by omega) (by omega), if_pos hc59, g1, Option.bind_some, hokk, if_neg (fun z => by cases z)]
        · rw [if_pos hJK]; rfl
      · rw [if_neg hJK] at hn
        have hJe : J = K := by omega
        have hkK : k = K := by
          by_cases z : k = K
          · exact z
          · exfalso
            have b := a3 (by omega)
            have := qs_lt hgo (show k + 1 ≤ K by omega) (Nat.le_refl K)
            omega
        subst hkK
        refine ⟨.inl (nI k, nI (qs c t k), nI n, m1), ?_, m1, a6, ?_, fun _ => a7⟩
        · rw [bX3_tellTo_23, hl1.1, ite_leN (by omega) (by omega), if_pos (by omega)]
        · rw [if_neg hJK]; rfl) F 0 (0, 0, 0, m) (Nat.zero_le _) (by omega) ⟨0, m, Nat.zero_le _, Nat.le_refl _, fun z => by have := (qs_good hgo z).2.2.1; have : qs c t 0 = 0 := rfl; omega, fun z => by rw [← hK, ← z]; rfl, rfl, EC.rf _ _, hx⟩
  refine ⟨m', ?_, k2, k4⟩
  rw [k1, Option.bind_some]
  exact k3
end
