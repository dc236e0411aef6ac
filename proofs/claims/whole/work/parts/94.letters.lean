section
variable {F : Nat} {m : Mem} {c : Nat → Nat} {t : Nat}
theorem aft_b {s x r : Nat} (hs : s < 12) (h : aft s x = some r) : r < 12 := by
  have : s = 0 ∨ s = 1 ∨ s = 2 ∨ s = 3 ∨ s = 4 ∨ s = 5 ∨ s = 6 ∨ s = 7 ∨ s = 8 ∨ s = 9 ∨ s = 10 ∨ s = 11 := by omega
  rcases this with rfl | rfl | rfl | rfl | rfl | rfl | rfl | rfl | rfl | rfl | rfl | rfl <;> (simp only [aft] at h; (repeat' split at h) <;> simp at h <;> omega)
theorem ast_b : ∀ i s, ast c i = some s → s < 12
  | 0, s, h => by
    have : 0 = s := by simpa [ast] using h
    omega
  | i + 1, s, h => by
    cases ha : ast c i with
    | none => rw [ast, ha] at h; cases h
    | some r =>
      rw [ast_next ha] at h
      exact aft_b (ast_b i r ha) h
theorem ast_some {i : Nat} : ∀ d s, ast c (i + d) = some s → ∃ r, ast c i = some r
  | 0, s, h => ⟨s, h⟩
  | d + 1, s, h => by
    cases ha : ast c (i + d) with
    | none => rw [← Nat.add_assoc, ast, ha] at h; cases h
    | some r => exact ast_some d r ha
/-- the class has these letters -/
def LX (c : Nat → Nat) (t : Nat) (m : Mem) : Prop := m.1 22 1 = nI t ∧ t ≤ 72 ∧ ∀ i, i < t → m.1 23 i = nI (c i) ∧ c i ≤ 255
theorem x_form (hF : 2000 ≤ F) (hl : LX c t m) {w s : Nat} (hw : w ≤ t) (ha : ast c w = some s) (hn : w < t → ast c (w + 1) = none) : gX3_placeOfWrongForm F m = some (if w < t then nI w else if s = 0 ∧ 0 < t then -1 else nI t) := by
  obtain ⟨h1, h72, hc⟩ := hl
  obtain ⟨e, k1, k2⟩ := iter_inv (f := bX3_placeOfWrongForm_4 m) (fun i q => ∃ r, ast c i = some r ∧ q = (nI r, nI i)) w (fun e => (w < t ∧ e = .inr (nI w)) ∨ (w = t ∧ e = .inl (nI s, nI t))) (by
      rintro i q hi ⟨r, hr, rfl⟩
      refine Or.inl ?_
      obtain ⟨r', hr'⟩ : ∃ r', ast c (i + 1) = some r' := by
        refine ast_some (w - (i + 1)) s ?_
        rw [show i + 1 + (w - (i + 1)) = w by omega]
        exact ha
      have hb := ast_b i r hr
      have hb' := ast_b (i + 1) r' hr'
      obtain ⟨c1, c2⟩ := hc i (by omega)
      have hx := after_ok r hb (c i) (by omega)
      have hs : aft r (c i) = some r' := by rw [← ast_next hr]; exact hr'
      rw [hs] at hx
      have hne : ¬ nI r' = -1 := fun z => not_m1 (c := r') (by omega) (by rw [z]; decide)
      rw [bX3_placeOfWrongForm_4, h1, ite_leN (by omega) (by omega), if_neg (by omega), show (72 : Int32) = nI 72 from rfl, ite_leN (by omega) (by omega), if_neg (by omega), chk_pos (inb_nI (by omega) (by omega)), nI_clamp (by omega), c1, hx, Option.bind_some, nI_1]
      exact ⟨_, if_neg hne, r', hr', rfl⟩) (by
      rintro q ⟨r, hr, rfl⟩
      have hrs : r = s := by rw [ha] at hr; simpa using hr.symm
      subst hrs
      have hb := ast_b w r hr
      by_cases hlt : w < t
      · obtain ⟨c1, c2⟩ := hc w hlt
        have hx := after_ok r hb (c w) (by omega)
        have hs : aft r (c w) = none := by rw [← ast_next hr]; exact hn hlt
        rw [hs] at hx
        refine ⟨.inr (nI w), ?_, Or.inl ⟨hlt, rfl⟩⟩
        rw [bX3_placeOfWrongForm_4, h1, ite_leN (by omega) (by omega), if_neg (by omega), show (72 : Int32) = nI 72 from rfl, ite_leN (by omega) (by omega), if_neg (by omega), chk_pos (inb_nI (by omega) (by omega)), nI_clamp (by omega), c1, hx, Option.bind_some]
        exact if_pos rfl
      · have hwt : w = t := by omega
        subst hwt
        refine ⟨.inl (nI r, nI w), ?_, Or.inr ⟨rfl, rfl⟩⟩
        rw [bX3_placeOfWrongForm_4, h1, ite_leN (by omega) (by omega), if_pos (Nat.le_refl _)]) F 0 (0, 0) (Nat.zero_le _) (by omega) ⟨0, rfl, rfl⟩
  rw [gX3_placeOfWrongForm, k1, Option.bind_some]
  have hb := ast_b w s ha
  rcases k2 with ⟨hlt, rfl⟩ | ⟨rfl, rfl⟩
  · rw [if_pos hlt]; rfl
  · show (if nI s = 0 then (if m.1 22 1 ≤ 0 then some (m.1 22 1) else some (-1)) else some (m.1 22 1)) = _
    rw [if_neg (Nat.lt_irrefl w), h1, show (0 : Int32) = nI 0 from rfl, ite_eqN (by omega) (by omega), ite_leN (by omega) (by omega)]
    by_cases z : s = 0
    · rw [if_pos z]
      by_cases y : w ≤ 0
      · rw [if_pos y, if_neg (by omega)]
      · rw [if_neg y, if_pos (by omega)]
    · rw [if_neg z, if_neg (fun q => z q.1)]
/-! where the statements begin -/
def qs (c : Nat → Nat) (t : Nat) : Nat → Nat
  | 0 => 0
  | k + 1 => (stm c t (qs c t k)).2
def sgo (c : Nat → Nat) (t k : Nat) : Bool := (decide (qs c t k < t) || decide (k = 0)) && (stm c t (qs c t k)).1
theorem sgo_iff {k : Nat} : sgo c t k = true ↔ (qs c t k < t ∨ k = 0) ∧ (stm c t (qs c t k)).1 = true := by unfold sgo; simp
theorem qs_ok : ∀ k, (∀ j, j < k → sgo c t j = true) → qs c t k ≤ t ∧ ast c (qs c t k) = some 0 ∧ 3 * k ≤ qs c t k
  | 0, _ => ⟨Nat.zero_le _, rfl, Nat.le_refl _⟩
  | k + 1, h => by
    obtain ⟨h1, h2, h3⟩ := qs_ok k (fun j hj => h j (by omega))
    have hg := (sgo_iff.mp (h k (by omega))).2
    rcases stm_ok h1 h2 with ⟨-, g⟩ | ⟨g, -⟩
    · refine ⟨g.1, g.2.1, ?_⟩
      have := g.2.2.1
      show 3 * (k + 1) ≤ (stm c t (qs c t k)).2
      omega
    · rw [hg] at g; cases g
theorem qs_good {k j : Nat} (h : ∀ j, j < k → sgo c t j = true) (hj : j < k) : Good c t (qs c t j) (qs c t (j + 1)) := by
  obtain ⟨h1, h2, h3⟩ := qs_ok j (fun i hi => h i (by omega))
  have hg := (sgo_iff.mp (h j hj)).2
  rcases stm_ok h1 h2 with ⟨-, g⟩ | ⟨g, -⟩
  · exact g
  · rw [hg] at g; cases g
/-- how many statements there are, and how it ends -/
theorem qs_end (h72 : t ≤ 72) : ∃ K, K ≤ 24 ∧ (∀ j, j < K → sgo c t j = true) ∧ ((1 ≤ K ∧ qs c t K = t) ∨ ((qs c t K < t ∨ K = 0) ∧ (stm c t (qs c t K)).1 = false ∧ Bad c t (qs c t K) (stm c t (qs c t K)).2)) := by
  obtain ⟨K, hK, hgo, hst⟩ := first_bad (fun j => sgo c t j) 30
  obtain ⟨h1, h2, h3⟩ := qs_ok K hgo
  have hs : sgo c t K = false := hst (by omega)
  refine ⟨K, by omega, hgo, ?_⟩
  by_cases c1 : qs c t K < t ∨ K = 0
  · refine Or.inr ⟨c1, ?_⟩
    rcases stm_ok h1 h2 with ⟨g, -⟩ | ⟨g, b⟩
    · rw [sgo_iff.mpr ⟨c1, g⟩] at hs; cases hs
    · exact ⟨g, b⟩
  · refine Or.inl ?_
    constructor <;> omega
end
