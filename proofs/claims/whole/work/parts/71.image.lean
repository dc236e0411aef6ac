/-! ===== copies, on both sides ===== -/
/-- only the cells v .. v + 6 differ -/
def EC (v : Nat) (m m' : Mem) : Prop := (∀ j, ¬ (v ≤ j ∧ j ≤ v + 6) → m'.1 j = m.1 j) ∧ m'.2 = m.2
theorem EC.rf (v : Nat) (m : Mem) : EC v m m := ⟨fun _ _ => rfl, rfl⟩
theorem EC.tr {v : Nat} {a b c : Mem} (h : EC v a b) (g : EC v b c) : EC v a c := ⟨fun j hj => (g.1 j hj).trans (h.1 j hj), g.2.trans h.2⟩
theorem EC.mu0 {v : Nat} {m : Mem} {k : Nat} {x : Int32} : EC v m (mu m v k x) := ⟨fun _ hj => mu_row m x (by omega), rfl⟩
theorem EC.mu {v q : Nat} {m : Mem} {k : Nat} {x : Int32} (h : q ≤ 6) : EC v m (mu m (v + q) k x) := ⟨fun _ hj => mu_row m x (by omega), rfl⟩
def w6 (M : Mem) (v i : Nat) (g : Nat → Int32) : Mem := mu (mu (mu (mu (mu (mu M (v + 1) i (g 1)) (v + 2) i (g 2)) (v + 3) i (g 3)) (v + 4) i (g 4)) (v + 5) i (g 5)) (v + 6) i (g 6)
theorem w6_ec {M : Mem} {v i : Nat} {g : Nat → Int32} : EC v M (w6 M v i g) := ((((((EC.mu (q := 1) (by decide)).tr (EC.mu (q := 2) (by decide))).tr (EC.mu (q := 3) (by decide))).tr (EC.mu (q := 4) (by decide))).tr (EC.mu (q := 5) (by decide))).tr (EC.mu (q := 6) (by decide)))
theorem w6_v {M : Mem} {v i : Nat} {g : Nat → Int32} : (w6 M v i g).1 v = M.1 v := by
  unfold w6
  rw [mu_row _ _ (by omega), mu_row _ _ (by omega), mu_row _ _ (by omega), mu_row _ _ (by omega), mu_row _ _ (by omega), mu_row _ _ (by omega)]
theorem w6_get {M : Mem} {v i : Nat} {g : Nat → Int32} {q p : Nat} (h1 : 1 ≤ q) (h6 : q ≤ 6) : (w6 M v i g).1 (v + q) p = if p = i then g q else M.1 (v + q) p := by
  have : q = 1 ∨ q = 2 ∨ q = 3 ∨ q = 4 ∨ q = 5 ∨ q = 6 := by omega
  unfold w6
  rcases this with rfl | rfl | rfl | rfl | rfl | rfl <;> simp [mu_g]
section
variable {PM PS : Nat → Nat → Nat} {m : Mem} {V : Vd} {F : Nat}
theorem copy_step {v w i : Nat} {m1 : Mem} (hvw : v + 6 < w ∨ w + 6 < v) (hi : i < 10) : bX6_copy_34 v w (nI i, m1) = some (.inl (nI (i + 1), w6 m1 v i (fun q => m1.1 (w + q) i))) := by
  have hib : inb (nI i) 10 := inb_nI hi (by omega)
  have e2 : ∀ a, (mu m1 (v + 1) i a).1 (w + 2) i = m1.1 (w + 2) i := fun a => by rw [mu_row _ _ (by omega)]
  have e3 : ∀ a b, (mu (mu m1 (v + 1) i a) (v + 2) i b).1 (w + 3) i = m1.1 (w + 3) i := fun a b => by rw [mu_row _ _ (by omega), mu_row _ _ (by omega)]
  have e4 : ∀ a b c, (mu (mu (mu m1 (v + 1) i a) (v + 2) i b) (v + 3) i c).1 (w + 4) i = m1.1 (w + 4) i := fun a b c => by rw [mu_row _ _ (by omega), mu_row _ _ (by omega), mu_row _ _ (by omega)]
  have e5 : ∀ a b c d, (mu (mu (mu (mu m1 (v + 1) i a) (v + 2) i b) (v + 3) i c) (v + 4) i d).1 (w + 5) i = m1.1 (w + 5) i := fun a b c d => by rw [mu_row _ _ (by omega), mu_row _ _ (by omega), mu_row _ _ (by omega), mu_row _ _ (by omega)]
  have e6 : ∀ a b c d e, (mu (mu (mu (mu (mu m1 (v + 1) i a) (v + 2) i b) (v + 3) i c) (v + 4) i d) (v + 5) i e).1 (w + 6) i = m1.1 (w + 6) i := fun a b c d e => by rw [mu_row _ _ (by omega), mu_row _ _ (by omega), mu_row _ _ (by omega), mu_row _ _ (by omega), mu_row _ _ (by omega)]
  rw [bX6_copy_34, show (10 : Int32) = nI 10 from rfl, ite_leN (by omega) (by omega), if_neg (by omega), chk_pos hib, chk_pos hib, nI_clamp (by omega), lete_eq, chk_pos hib, chk_pos hib, e2, lete_eq, chk_pos hib, chk_pos hib, e3, lete_eq, chk_pos hib, chk_pos hib, e4, lete_eq, chk_pos hib, chk_pos hib, e5, lete_eq, chk_pos hib, chk_pos hib, e6, lete_eq, nI_1, w6]
theorem copy_loop (hF : 2000 ≤ F) {v w : Nat} {m4 : Mem} (hvw : v + 6 < w ∨ w + 6 < v) : ∃ e, iter F (bX6_copy_34 v w) (0, m4) = some e ∧ EC v m4 e.2 ∧ e.2.1 v = m4.1 v ∧ ∀ r p, 1 ≤ r → r ≤ 6 → p < 10 → e.2.1 (v + r) p = m4.1 (w + r) p :=
  iter_inv (f := bX6_copy_34 v w) (fun i q => q.1 = nI i ∧ EC v m4 q.2 ∧ q.2.1 v = m4.1 v ∧ ∀ r p, 1 ≤ r → r ≤ 6 → p < i → q.2.1 (v + r) p = m4.1 (w + r) p) 10 (fun q => EC v m4 q.2 ∧ q.2.1 v = m4.1 v ∧ ∀ r p, 1 ≤ r → r ≤ 6 → p < 10 → q.2.1 (v + r) p = m4.1 (w + r) p) (by
      rintro i ⟨y, m1⟩ hi ⟨rfl, he, hr, hv⟩
      dsimp only at he hr hv
      have hec : EC v m4 (w6 m1 v i (fun q => m1.1 (w + q) i)) := EC.tr he (w6_ec (M := m1) (v := v) (i := i) (g := fun q => m1.1 (w + q) i))
      refine Or.inl ⟨(nI (i + 1), w6 m1 v i (fun q => m1.1 (w + q) i)), copy_step hvw hi, rfl, hec, by rw [w6_v]; exact hr, fun r p r1 r6 hp => ?_⟩
      dsimp only
      rw [w6_get r1 r6]
      by_cases c : p = i
      · rw [if_pos c, c]
        rw [he.1 (w + r) (by omega)]
      · rw [if_neg c]
        exact hv r p r1 r6 (by omega)) (by
      rintro ⟨y, m1⟩ ⟨rfl, he, hr, hv⟩
      dsimp only at he hr hv
      refine ⟨(nI 10, m1), ?_, he, hr, hv⟩
      rw [bX6_copy_34, show (10 : Int32) = nI 10 from rfl, ite_leN (by omega) (by omega), if_pos (Nat.le_refl _)]) F 0 (0, m4) (Nat.zero_le _) (by omega) ⟨rfl, EC.rf v m4, rfl, fun r p _ _ hp => absurd hp (by omega)⟩
def h4 (m : Mem) (v : Nat) (a b c d : Int32) : Mem := mu (mu (mu (mu m v 0 a) v 1 b) v 2 c) v 3 d
theorem h4_ec {v : Nat} {a b c d : Int32} : EC v m (h4 m v a b c d) := by
  unfold h4
  exact EC.tr (EC.tr (EC.tr EC.mu0 EC.mu0) EC.mu0) EC.mu0
theorem copy_head {v w : Nat} (hvw : v + 6 < w ∨ w + 6 < v) : gX6_copy F m v w = (iter F (bX6_copy_34 v w) (0, h4 m v (m.1 w 0) (m.1 w 1) (m.1 w 2) (m.1 w 3))).bind (fun e25 => some e25.2) := by
  have a1 : ∀ x, (mu m v 0 x).1 w 1 = m.1 w 1 := fun x => by rw [mu_row _ _ (by omega)]
  have a2 : ∀ x y, (mu (mu m v 0 x) v 1 y).1 w 2 = m.1 w 2 := fun x y => by rw [mu_row _ _ (by omega), mu_row _ _ (by omega)]
  have a3 : ∀ x y z, (mu (mu (mu m v 0 x) v 1 y) v 2 z).1 w 3 = m.1 w 3 := fun x y z => by rw [mu_row _ _ (by omega), mu_row _ _ (by omega), mu_row _ _ (by omega)]
  rw [gX6_copy, lete_eq, a1, lete_eq, a2, lete_eq, a3, lete_eq, h4]
theorem x_copy (hF : 2000 ≤ F) {v w : Nat} (hvw : v + 6 < w ∨ w + 6 < v) (hV : okV V) (hx : IX m w V) : ∃ m', gX6_copy F m v w = some m' ∧ EC v m m' ∧ IX m' v V := by
  have hn := hV.2.2.1
  obtain ⟨m4, hm4⟩ : ∃ m4, h4 m v (m.1 w 0) (m.1 w 1) (m.1 w 2) (m.1 w 3) = m4 := ⟨_, rfl⟩
  have c0 : EC v m m4 := by rw [← hm4]; exact h4_ec
  have v0 : m4.1 v 0 = m.1 w 0 := by rw [← hm4]; unfold h4; simp [mu_g]
  have v1 : m4.1 v 1 = m.1 w 1 := by rw [← hm4]; unfold h4; simp [mu_g]
  have v2 : m4.1 v 2 = m.1 w 2 := by rw [← hm4]; unfold h4; simp [mu_g]
  have v3 : m4.1 v 3 = m.1 w 3 := by rw [← hm4]; unfold h4; simp [mu_g]
  obtain ⟨e, h1, h2, h3, h4⟩ := copy_loop hF (m4 := m4) hvw
  have wr : ∀ r, 1 ≤ r → r ≤ 6 → m4.1 (w + r) = m.1 (w + r) := fun r r1 r6 => c0.1 _ (by omega)
  refine ⟨e.2, ?_, c0.tr h2, ?_, ?_, ?_, ?_, ?_⟩
  · rw [copy_head hvw, hm4, h1, Option.bind_some]
  · rw [h3, v0]; exact hx.1
  · rw [h3, v1]; exact hx.2.1
  · rw [h3, v2]; exact hx.2.2.1
  · rw [h3, v3]; exact hx.2.2.2.1
  · intro l hl
    rw [h4 1 l (by decide) (by decide) (by omega), h4 2 l (by decide) (by decide) (by omega), h4 3 l (by decide) (by decide) (by omega), h4 4 l (by decide) (by decide) (by omega), h4 5 l (by decide) (by decide) (by omega), h4 6 l (by decide) (by decide) (by omega), wr 1 (by decide) (by decide), wr 2 (by decide) (by decide), wr 3 (by decide) (by decide), wr 4 (by decide) (by decide), wr 5 (by decide) (by decide), wr 6 (by decide) (by decide)]
    exact hx.2.2.2.2 l hl
/-- the reference keeps a row -/
theorem m_keep (hF : 2000 ≤ F) {j c : Nat} (hj : 44 < j ∧ j < 52) (hc : c + 11 ≤ 200) (hk : m.1 43 19 = 1) (h20 : m.1 43 20 = nI c) : ∃ m', gX9_passes F m j = some m' ∧ m'.1 43 20 = nI (c + 11) ∧ (∀ k, k ≠ 20 → m'.1 43 k = m.1 43 k) ∧ (∀ i, i ≠ 43 → i ≠ 56 → m'.1 i = m.1 i) ∧ m'.2 = m.2 ∧ (∀ q, ¬ (c ≤ q ∧ q < c + 11) → m'.1 56 q = m.1 56 q) ∧ ∀ p, p < 11 → m'.1 56 (c + p) = m.1 j p := by
  obtain ⟨e, h1, h2, h3, h4, h5, h6, h7⟩ := iter_inv (f := bX9_passes_2 j) (fun i s => s.1 = nI i ∧ s.2.1 43 20 = nI (c + i) ∧ (∀ k, k ≠ 20 → s.2.1 43 k = m.1 43 k) ∧ (∀ i, i ≠ 43 → i ≠ 56 → s.2.1 i = m.1 i) ∧ s.2.2 = m.2 ∧ (∀ q, ¬ (c ≤ q ∧ q < c + i) → s.2.1 56 q = m.1 56 q) ∧ ∀ p, p < i → s.2.1 56 (c + p) = m.1 j p) 11 (fun s => s.2.1 43 20 = nI (c + 11) ∧ (∀ k, k ≠ 20 → s.2.1 43 k = m.1 43 k) ∧ (∀ i, i ≠ 43 → i ≠ 56 → s.2.1 i = m.1 i) ∧ s.2.2 = m.2 ∧ (∀ q, ¬ (c ≤ q ∧ q < c + 11) → s.2.1 56 q = m.1 56 q) ∧ ∀ p, p < 11 → s.2.1 56 (c + p) = m.1 j p) (by
      rintro i ⟨y, m1⟩ hi ⟨rfl, a1, a2, a3, a4, a5, a6⟩
      dsimp only at a1 a2 a3 a4 a5 a6
      have hib : inb (nI i) 11 := inb_nI hi (by omega)
      have hcb : inb (nI (c + i)) 200 := inb_nI (by omega) (by omega)
      have f19 : m1.1 43 19 = 1 := by rw [a2 19 (by decide)]; exact hk
      have f20 : ∀ x, (mu m1 56 (c + i) x).1 43 20 = nI (c + i) := fun x => by rw [mu_ne _ _ (Or.inl (by decide))]; exact a1
      refine Or.inl ⟨(nI (i + 1), mu (mu m1 56 (c + i) (m1.1 j i)) 43 20 (nI (c + (i + 1)))), ?_, rfl, mu_same _ _ _ _, fun k hk => ?_, fun q q1 q2 => ?_, ?_, fun q hq => ?_, fun p hp => ?_⟩
      · simp only [bX9_passes_2, lete, chk_pos hib]
        rw [show (11 : Int32) = nI 11 from rfl, ite_leN (by omega) (by omega), if_neg (by omega), f19, if_neg (by decide), a1, chk_pos hcb, nI_clamp (by omega), nI_clamp (by omega), f20, nI_1, nI_1]
        rfl
      · dsimp only
        rw [mu_ne _ _ (Or.inr hk), mu_ne _ _ (Or.inl (by decide))]; exact a2 k hk
      · dsimp only
        rw [mu_row _ _ q1, mu_row _ _ q2]; exact a3 q q1 q2
      · exact a4
      · dsimp only
        rw [mu_ne _ _ (Or.inl (by decide)), mu_ne _ _ (Or.inr (by omega))]; exact a5 q (by omega)
      · dsimp only
        rw [mu_ne _ _ (Or.inl (by decide)), mu_g, if_pos rfl]
        by_cases cp : p = i
        · subst cp
          rw [if_pos rfl, a3 j (by omega) (by omega)]
        · rw [if_neg (by omega)]; exact a6 p (by omega)) (by
      rintro ⟨y, m1⟩ ⟨rfl, a1, a2, a3, a4, a5, a6⟩
      dsimp only at a1 a2 a3 a4 a5 a6
      refine ⟨(nI 11, m1), ?_, a1, a2, a3, a4, a5, a6⟩
      simp only [bX9_passes_2]
      rw [show (11 : Int32) = nI 11 from rfl, ite_leN (by omega) (by omega), if_pos (Nat.le_refl _)]) F 0 (0, m) (Nat.zero_le _) (by omega) ⟨rfl, h20, fun _ _ => rfl, fun _ _ _ => rfl, rfl, fun _ _ => rfl, fun p hp => absurd hp (by omega)⟩
  exact ⟨e.2, by rw [gX9_passes, h1, Option.bind_some], h2, h3, h4, h5, h6, h7⟩
/-- the reference takes a row back -/
theorem m_take (hF : 2000 ≤ F) {j c : Nat} (hj : 44 < j ∧ j < 52) (hc : c + 11 ≤ 200) (hk : m.1 43 19 = 0) (h20 : m.1 43 20 = nI c) : ∃ m', gX9_passes F m j = some m' ∧ m'.1 43 20 = nI (c + 11) ∧ (∀ k, k ≠ 20 → m'.1 43 k = m.1 43 k) ∧ (∀ i, i ≠ 43 → i ≠ j → m'.1 i = m.1 i) ∧ m'.2 = m.2 ∧ ∀ p, p < 11 → m'.1 j p = m.1 56 (c + p) := by
  obtain ⟨e, h1, h2, h3, h4, h5, h6⟩ := iter_inv (f := bX9_passes_2 j) (fun i s => s.1 = nI i ∧ s.2.1 43 20 = nI (c + i) ∧ (∀ k, k ≠ 20 → s.2.1 43 k = m.1 43 k) ∧ (∀ i, i ≠ 43 → i ≠ j → s.2.1 i = m.1 i) ∧ s.2.2 = m.2 ∧ ∀ p, p < i → s.2.1 j p = m.1 56 (c + p)) 11 (fun s => s.2.1 43 20 = nI (c + 11) ∧ (∀ k, k ≠ 20 → s.2.1 43 k = m.1 43 k) ∧ (∀ i, i ≠ 43 → i ≠ j → s.2.1 i = m.1 i) ∧ s.2.2 = m.2 ∧ ∀ p, p < 11 → s.2.1 j p = m.1 56 (c + p)) (by
      rintro i ⟨y, m1⟩ hi ⟨rfl, a1, a2, a3, a4, a6⟩
      dsimp only at a1 a2 a3 a4 a6
      have hib : inb (nI i) 11 := inb_nI hi (by omega)
      have hcb : inb (nI (c + i)) 200 := inb_nI (by omega) (by omega)
      have f19 : m1.1 43 19 = 0 := by rw [a2 19 (by decide)]; exact hk
      have f20 : ∀ x, (mu m1 j i x).1 43 20 = nI (c + i) := fun x => by rw [mu_ne _ _ (Or.inl (by omega))]; exact a1
      refine Or.inl ⟨(nI (i + 1), mu (mu m1 j i (m1.1 56 (c + i))) 43 20 (nI (c + (i + 1)))), ?_, rfl, mu_same _ _ _ _, fun k hk => ?_, fun q q1 q2 => ?_, ?_, fun p hp => ?_⟩
      · simp only [bX9_passes_2, lete, chk_pos hib]
        rw [show (11 : Int32) = nI 11 from rfl, ite_leN (by omega) (by omega), if_neg (by omega), f19, if_pos rfl, a1, chk_pos hcb, nI_clamp (by omega), nI_clamp (by omega), f20, nI_1, nI_1]
        rfl
      · dsimp only
        rw [mu_ne _ _ (Or.inr hk), mu_ne _ _ (Or.inl (by omega))]; exact a2 k hk
      · dsimp only
        rw [mu_row _ _ q1, mu_row _ _ q2]; exact a3 q q1 q2
      · exact a4
      · dsimp only
        rw [mu_ne _ _ (Or.inl (by omega)), mu_g, if_pos rfl]
        by_cases cp : p = i
        · subst cp
          rw [if_pos rfl, a3 56 (by omega) (by omega)]
        · rw [if_neg (by omega)]; exact a6 p (by omega)) (by
      rintro ⟨y, m1⟩ ⟨rfl, a1, a2, a3, a4, a6⟩
      dsimp only at a1 a2 a3 a4 a6
      refine ⟨(nI 11, m1), ?_, a1, a2, a3, a4, a6⟩
      simp only [bX9_passes_2]
      rw [show (11 : Int32) = nI 11 from rfl, ite_leN (by omega) (by omega), if_pos (Nat.le_refl _)]) F 0 (0, m) (Nat.zero_le _) (by omega) ⟨rfl, h20, fun _ _ => rfl, fun _ _ _ => rfl, rfl, fun p hp => absurd hp (by omega)⟩
  exact ⟨e.2, by rw [gX9_passes, h1, Option.bind_some], h2, h3, h4, h5, h6⟩
end
