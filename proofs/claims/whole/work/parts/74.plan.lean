/-! ===== the best plans, of the class ===== -/
section
variable {F : Nat} {m : Mem} {V : Vd}
theorem sts_step {T : Nat → Int32} {i : Nat} (h1 : ∀ s, s < 2 ^ i → T s = nI (sts V s i)) (h2 : ∀ s, s < 2 ^ i → T (2 ^ i + s) = nI (sts V (2 ^ i + s) (i + 1))) : ∀ s, s < 2 ^ (i + 1) → T s = nI (sts V s (i + 1)) := by
  intro s hs
  rcases Nat.lt_or_ge s (2 ^ i) with q | q
  · rw [h1 s q, sts_without q]
  · rw [Nat.pow_succ] at hs
    have := h2 (s - 2 ^ i) (by omega)
    rw [show 2 ^ i + (s - 2 ^ i) = s by omega] at this
    exact this
theorem join_next (hF : 2000 ≤ F) (h : okV V) {l j : Nat} (hl : l < V.2.1) (hv : ∀ s, s < 2 ^ l → m.1 j s = nI (sts V s l)) : ∃ m', gX2_joinAll F m j (nI l) (nI (V.2.2 l 1)) (nI (V.2.2 l 2)) = some m' ∧ E1 j m m' ∧ ∀ s, s < 2 ^ (l + 1) → m'.1 j s = nI (sts V s (l + 1)) := by
  have hn := h.2.2.1
  obtain ⟨m2, g1, g2, g3⟩ := g_joinAll hF (m := m) (j := j) (l := l) (a := V.2.2 l 1) (b := V.2.2 l 2) (by omega) (fun s => sts V s l) (fun s => sts V (2 ^ l + s) (l + 1)) hv (fun s hs => sts_with hF h hl hs)
  exact ⟨m2, g1, g2, sts_step (fun s hs => (g3 s hs).1) (fun s hs => (g3 s hs).2)⟩
theorem off_le {h a b : Nat} (hab : a ≤ b) : off h a ≤ off h b := by
  induction b with
  | zero => rw [show a = 0 by omega]; exact Nat.le_refl _
  | succ b ih =>
    by_cases e : a = b + 1
    · subst e; exact Nat.le_refl _
    · have := ih (by omega)
      rw [off]; omega
theorem x_pairsIn (hF : 2000 ≤ F) {h a : Nat} (h2 : 2 ≤ h) (h5 : h ≤ 5) (ha : a < h) (h31 : m.1 31 0 = nI h) (hv : ∀ s, s < 2 ^ off h a → m.1 32 s = nI (sts (Vp h) s (off h a))) : ∃ e, iter F (bX4_joinPairs_29 F (nI a)) (nI (off h a), nI (a + 1), m) = some e ∧ e.1 = nI (off h (a + 1)) ∧ E1 32 m e.2.2 ∧ ∀ s, s < 2 ^ off h (a + 1) → e.2.2.1 32 s = nI (sts (Vp h) s (off h (a + 1))) := by
  exact iter_inv (f := bX4_joinPairs_29 F (nI a)) (fun i q => q.1 = nI (off h a + i) ∧ q.2.1 = nI (a + 1 + i) ∧ E1 32 m q.2.2 ∧ ∀ s, s < 2 ^ (off h a + i) → q.2.2.1 32 s = nI (sts (Vp h) s (off h a + i))) (h - 1 - a) (fun e => e.1 = nI (off h (a + 1)) ∧ E1 32 m e.2.2 ∧ ∀ s, s < 2 ^ off h (a + 1) → e.2.2.1 32 s = nI (sts (Vp h) s (off h (a + 1)))) (by
      rintro i ⟨y, z, m1⟩ hi ⟨rfl, hz, he, hw⟩
      dsimp only at hz he hw
      subst hz
      refine Or.inl ?_
      have e31 : m1.1 31 0 = nI h := by rw [he.1 31 (by decide)]; exact h31
      obtain ⟨v1, v2, v3⟩ := Vp_at (a := a) (b := a + 1 + i) h2 h5 (by omega) (by omega)
      rw [show a + 1 + i - a - 1 = i by omega] at v1 v2 v3
      obtain ⟨m2, g1, g2, g3⟩ := join_next hF (Vp_ok h2 h5) (m := m1) (j := 32) v1 hw
      rw [v2, v3] at g1
      rw [bX4_joinPairs_29, e31, ite_leN (by omega) (by omega), if_neg (by omega), g1, Option.bind_some]
      exact ⟨_, rfl, nI_1 _, nI_1 _, he.tr g2, g3⟩) (by
      rintro ⟨y, z, m1⟩ ⟨rfl, hz, he, hw⟩
      dsimp only at hz he hw
      subst hz
      have e31 : m1.1 31 0 = nI h := by rw [he.1 31 (by decide)]; exact h31
      refine ⟨(nI (off h a + (h - 1 - a)), nI (a + 1 + (h - 1 - a)), m1), ?_, rfl, he, hw⟩
      rw [bX4_joinPairs_29, e31, ite_leN (by omega) (by omega), if_pos (by omega)]) F 0 (nI (off h a), nI (a + 1), m) (Nat.zero_le _) (by omega) ⟨rfl, rfl, E1.rf _ _, hv⟩
theorem x_joinPairs (hF : 2000 ≤ F) {h : Nat} (h2 : 2 ≤ h) (h5 : h ≤ 5) (h31 : m.1 31 0 = nI h) : ∃ m', gX4_joinPairs F m = some m' ∧ E1 32 m m' ∧ ∀ s, s < 2 ^ (Vp h).2.1 → m'.1 32 s = nI (stt (Vp h) s) := by
  obtain ⟨e, k1, k2, k3⟩ := iter_inv (f := bX4_joinPairs_17 F) (fun a q => q.1 = nI (off h a) ∧ q.2.1 = nI a ∧ E1 32 m q.2.2 ∧ ∀ s, s < 2 ^ (off h a) → q.2.2.1 32 s = nI (sts (Vp h) s (off h a))) h (fun e => E1 32 m e.2.2 ∧ ∀ s, s < 2 ^ (Vp h).2.1 → e.2.2.1 32 s = nI (stt (Vp h) s)) (by
      rintro a ⟨y, z, m1⟩ ha ⟨rfl, hz, he, hw⟩
      dsimp only at hz he hw
      subst hz
      refine Or.inl ?_
      have e31 : m1.1 31 0 = nI h := by rw [he.1 31 (by decide)]; exact h31
      obtain ⟨e, g1, g2, g3, g4⟩ := x_pairsIn hF h2 h5 ha e31 hw
      rw [bX4_joinPairs_17, e31, ite_leN (by omega) (by omega), if_neg (by omega), lete_eq, nI_1, g1, Option.bind_some]
      exact ⟨_, rfl, g2, rfl, he.tr g3, g4⟩) (by
      rintro ⟨y, z, m1⟩ ⟨rfl, hz, he, hw⟩
      dsimp only at hz he hw
      subst hz
      have e31 : m1.1 31 0 = nI h := by rw [he.1 31 (by decide)]; exact h31
      refine ⟨(nI (off h h), nI h, m1), ?_, he, ?_⟩
      · rw [bX4_joinPairs_17, e31, ite_leN (by omega) (by omega), if_pos (by omega)]
      · rw [(Vp_n h2 h5).2] at hw
        exact hw) F 0 (nI 0, nI 0, mu m 32 0 (nI (est (fun h => h) 0 h))) (Nat.zero_le _) (by omega) ⟨rfl, rfl, E1.mu, fun s hs => by
        have : s = 0 := by simpa [off] using hs
        subst this
        rw [mu_same]
        rfl⟩
  refine ⟨e.2.2, ?_, k2, k3⟩
  rw [gX4_joinPairs, h31, g_apart hF (by omega), Option.bind_some, chk_pos (by decide), lete_eq, show (Int32.toNatClampNeg 0) = 0 from rfl, show (0 : Int32) = nI 0 from rfl, k1, Option.bind_some]
end
