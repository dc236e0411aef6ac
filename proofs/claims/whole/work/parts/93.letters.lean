/-! ===== villages told in letters: their form ===== -/
def dgt (x : Nat) : Bool := decide (48 ≤ x) && decide (x ≤ 57)
def isQ (x : Nat) : Bool := decide (x = 102) || (decide (x = 104) || (decide (x = 107) || decide (x = 120)))
def aft (s x : Nat) : Option Nat := match s with
  | 0 => if isQ x = true then some 1 else if x = 108 then some 3 else none
  | 2 => if x = 59 then some 0 else none
  | 8 => if dgt x = true then some 9 else if x = 44 then some 10 else none
  | 9 => if x = 44 then some 10 else none
  | 11 => if x = 59 then some 0 else if dgt x = true then some 2 else none
  | _ => if dgt x = true then some (s + 1) else none
def oA : Option Nat → Int32
  | none => -1
  | some s => nI s
theorem after_ok : ∀ s, s < 12 → ∀ x, x < 256 → gX3_after (nI s) (nI x) = some (oA (aft s x)) := by decide +kernel
theorem aft_lt : ∀ s, s < 12 → ∀ x, x < 256 → ∀ r, r < 20 → aft s x = some r → r < 12 := by decide +kernel
section
variable (c : Nat → Nat) (t : Nat)
def dg (i : Nat) : Bool := decide (i < t) && dgt (c i)
def ch (x i : Nat) : Bool := decide (i < t) && decide (c i = x)
/-- the place of the comma, and of the end -/
def kf (p : Nat) : Nat := if dg c t (p + 6) = true then p + 7 else p + 6
def ef (p : Nat) : Nat := if dg c t (kf c t p + 2) = true then kf c t p + 3 else kf c t p + 2
/-- a statement from a place on: whether it is one, and the place behind it or of the fault -/
def stm (p : Nat) : Bool × Nat :=
  if p < t ∧ (isQ (c p) = true ∨ c p = 108) then
    if dg c t (p + 1) = true then
      if c p = 108 then
        if dg c t (p + 2) = true then
          if dg c t (p + 3) = true then
            if dg c t (p + 4) = true then
              if dg c t (p + 5) = true then
                if ch c t 44 (kf c t p) = true then
                  if dg c t (kf c t p + 1) = true then
                    if ch c t 59 (ef c t p) = true then (true, ef c t p + 1) else (false, ef c t p)
                  else (false, kf c t p + 1)
                else (false, kf c t p)
              else (false, p + 5)
            else (false, p + 4)
          else (false, p + 3)
        else (false, p + 2)
      else if ch c t 59 (p + 2) = true then (true, p + 3) else (false, p + 2)
    else (false, p + 1)
  else (false, p)
def ast : Nat → Option Nat
  | 0 => some 0
  | i + 1 => (ast i).bind (fun s => aft s (c i))
/-- here no village can go on -/
def Bad (p w : Nat) : Prop := w ≤ t ∧ ∃ s, ast c w = some s ∧ (w < t → ast c (w + 1) = none) ∧ (w = t → s ≠ 0 ∨ w = p)
def Good (p w : Nat) : Prop := w ≤ t ∧ ast c w = some 0 ∧ p + 3 ≤ w ∧ w ≤ p + 13 ∧ c (w - 1) = 59 ∧ ∀ i, p ≤ i → i + 1 < w → c i ≠ 59
end
section
variable {c : Nat → Nat} {t : Nat}
theorem ast_next {i s : Nat} (h : ast c i = some s) : ast c (i + 1) = aft s (c i) := by rw [ast, h]; rfl
theorem dg_iff {i : Nat} : dg c t i = true ↔ i < t ∧ dgt (c i) = true := by unfold dg; simp
theorem ch_iff {x i : Nat} : ch c t x i = true ↔ i < t ∧ c i = x := by unfold ch; simp
theorem dgt_59 {x : Nat} (h : dgt x = true) : x ≠ 59 ∧ x ≠ 44 := by
  unfold dgt at h
  simp only [Bool.and_eq_true, decide_eq_true_eq] at h
  omega
theorem bad_digit {p w s : Nat} (hw : w ≤ t) (ha : ast c w = some s) (hs : s ≠ 0) (hd : ¬ dg c t w = true) (hf : ∀ x, dgt x = false → aft s x = none) : Bad c t p w := by
  refine ⟨hw, s, ha, fun hl => ?_, fun _ => Or.inl hs⟩
  rw [ast_next ha]
  apply hf
  cases hx : dgt (c w) with
  | false => rfl
  | true => exact absurd (dg_iff.mpr ⟨hl, hx⟩) hd
theorem ast_digit {w s : Nat} (ha : ast c w = some s) (hd : dg c t w = true) (hf : ∀ x, dgt x = true → aft s x = some (s + 1)) : ast c (w + 1) = some (s + 1) := by
  rw [ast_next ha]
  exact hf _ (dg_iff.mp hd).2
theorem a_d (s : Nat) (h : s = 1 ∨ s = 3 ∨ s = 4 ∨ s = 5 ∨ s = 6 ∨ s = 7 ∨ s = 10) : (∀ x, dgt x = false → aft s x = none) ∧ (∀ x, dgt x = true → aft s x = some (s + 1)) := by
  rcases h with rfl | rfl | rfl | rfl | rfl | rfl | rfl <;> exact ⟨fun x hx => by simp [aft, hx], fun x hx => by simp [aft, hx]⟩
theorem stm_ok {p : Nat} (hp : p ≤ t) (h0 : ast c p = some 0) : ((stm c t p).1 = true ∧ Good c t p (stm c t p).2) ∨ ((stm c t p).1 = false ∧ Bad c t p (stm c t p).2) := by
  unfold stm
  by_cases c1 : p < t ∧ (isQ (c p) = true ∨ c p = 108)
  · rw [if_pos c1]
    obtain ⟨hl, hk⟩ := c1
    by_cases c108 : c p = 108
    · have hnS : ¬ isQ (c p) = true := by rw [c108]; decide
      have a1 : ast c (p + 1) = some 3 := by rw [ast_next h0, c108]; rfl
      by_cases d1 : dg c t (p + 1) = true
      · rw [if_pos d1, if_pos c108]
        have a2 := ast_digit a1 d1 (a_d 3 (by decide)).2
        have l1 := (dg_iff.mp d1).1
        by_cases d2 : dg c t (p + 2) = true
        · rw [if_pos d2]
          have a3 := ast_digit a2 d2 (a_d 4 (by decide)).2
          have l2 := (dg_iff.mp d2).1
          by_cases d3 : dg c t (p + 3) = true
          · rw [if_pos d3]
            have a4 := ast_digit a3 d3 (a_d 5 (by decide)).2
            have l3 := (dg_iff.mp d3).1
            by_cases d4 : dg c t (p + 4) = true
            · rw [if_pos d4]
              have a5 := ast_digit a4 d4 (a_d 6 (by decide)).2
              have l4 := (dg_iff.mp d4).1
              by_cases d5 : dg c t (p + 5) = true
              · rw [if_pos d5]
                have a6 := ast_digit a5 d5 (a_d 7 (by decide)).2
                have l5 := (dg_iff.mp d5).1
                have hkf : ∃ s, ast c (kf c t p) = some s ∧ (s = 8 ∨ s = 9) ∧ p + 6 ≤ kf c t p ∧ kf c t p ≤ p + 7 ∧ kf c t p ≤ t ∧ (s = 8 → dg c t (kf c t p) ≠ true) ∧ ∀ i, p ≤ i → i < kf c t p → c i ≠ 59 := by
                  have base : ∀ i, p ≤ i → i < p + 6 → c i ≠ 59 := by
                    intro i h1 h2
                    have : i = p ∨ i = p + 1 ∨ i = p + 2 ∨ i = p + 3 ∨ i = p + 4 ∨ i = p + 5 := by omega
                    rcases this with rfl | rfl | rfl | rfl | rfl | rfl
                    · omega
                    · exact (dgt_59 (dg_iff.mp d1).2).1
                    · exact (dgt_59 (dg_iff.mp d2).2).1
                    · exact (dgt_59 (dg_iff.mp d3).2).1
                    · exact (dgt_59 (dg_iff.mp d4).2).1
                    · exact (dgt_59 (dg_iff.mp d5).2).1
                  unfold kf
                  by_cases d6 : dg c t (p + 6) = true
                  · rw [if_pos d6]
                    refine ⟨9, ?_, Or.inr rfl, by omega, by omega, by have := (dg_iff.mp d6).1; omega, fun z => absurd z (by decide), fun i h1 h2 => ?_⟩
                    · rw [ast_next a6]
                      simp [aft, (dg_iff.mp d6).2]
                    · by_cases e : i = p + 6
                      · subst e; exact (dgt_59 (dg_iff.mp d6).2).1
                      · exact base i h1 (by omega)
                  · rw [if_neg d6]
                    exact ⟨8, a6, Or.inl rfl, by omega, by omega, by omega, fun _ => d6, base⟩
                obtain ⟨s, k1, k2, k3, k4, k5, k6, k7⟩ := hkf
                have hef : ef c t p = if dg c t (kf c t p + 2) = true then kf c t p + 3 else kf c t p + 2 := rfl
                rw [hef]
                generalize kf c t p = k at k1 k3 k4 k5 k6 k7 ⊢
                by_cases e1 : ch c t 44 k = true
                · rw [if_pos e1]
                  obtain ⟨lk, ck⟩ := ch_iff.mp e1
                  have b1 : ast c (k + 1) = some 10 := by
                    rw [ast_next k1, ck]
                    rcases k2 with rfl | rfl <;> rfl
                  by_cases d7 : dg c t (k + 1) = true
                  · rw [if_pos d7]
                    have b2 : ast c (k + 2) = some 11 := ast_digit b1 d7 (a_d 10 (by decide)).2
                    have l7 := (dg_iff.mp d7).1
                    have k8 : ∀ i, p ≤ i → i < k + 2 → c i ≠ 59 := by
                      intro i h1 h2
                      by_cases e : i < k
                      · exact k7 i h1 e
                      · have : i = k ∨ i = k + 1 := by omega
                        rcases this with rfl | rfl
                        · omega
                        · exact (dgt_59 (dg_iff.mp d7).2).1
                    by_cases d8 : dg c t (k + 2) = true
                    · rw [if_pos d8]
                      have b3 : ast c (k + 3) = some 2 := by
                        rw [ast_next b2]
                        have := (dgt_59 (dg_iff.mp d8).2).1
                        simp [aft, this, (dg_iff.mp d8).2]
                      have l8 := (dg_iff.mp d8).1
                      by_cases f1 : ch c t 59 (k + 3) = true
                      · rw [if_pos f1]
                        obtain ⟨lf, cf⟩ := ch_iff.mp f1
                        refine Or.inl ⟨rfl, by show k + 3 + 1 ≤ t; omega, ?_, by show p + 3 ≤ k + 3 + 1; omega, by show k + 3 + 1 ≤ p + 13; omega, cf, fun i h1 h2 => ?_⟩
                        · show ast c (k + 3 + 1) = some 0
                          rw [ast_next b3, cf]; rfl
                        · have h2 : i + 1 < k + 3 + 1 := h2
                          by_cases e : i = k + 2
                          · subst e; exact (dgt_59 (dg_iff.mp d8).2).1
                          · exact k8 i h1 (by omega)
                      · rw [if_neg f1]
                        refine Or.inr ⟨rfl, by show k + 3 ≤ t; omega, 2, b3, fun hl2 => ?_, fun _ => Or.inl (by decide)⟩
                        have hl2 : k + 3 < t := hl2
                        show ast c (k + 3 + 1) = none
                        rw [ast_next b3]
                        have : ¬ c (k + 3) = 59 := fun z => f1 (ch_iff.mpr ⟨hl2, z⟩)
                        simp [aft, this]
                    · rw [if_neg d8]
                      by_cases f1 : ch c t 59 (k + 2) = true
                      · rw [if_pos f1]
                        obtain ⟨lf, cf⟩ := ch_iff.mp f1
                        refine Or.inl ⟨rfl, by show k + 2 + 1 ≤ t; omega, ?_, by show p + 3 ≤ k + 2 + 1; omega, by show k + 2 + 1 ≤ p + 13; omega, cf, fun i h1 h2 => ?_⟩
                        · show ast c (k + 2 + 1) = some 0
                          rw [ast_next b2, cf]; rfl
                        · have h2 : i + 1 < k + 2 + 1 := h2
                          exact k8 i h1 (by omega)
                      · rw [if_neg f1]
                        refine Or.inr ⟨rfl, by show k + 2 ≤ t; omega, 11, b2, fun hl2 => ?_, fun _ => Or.inl (by decide)⟩
                        have hl2 : k + 2 < t := hl2
                        show ast c (k + 2 + 1) = none
                        rw [ast_next b2]
                        have h9 : ¬ c (k + 2) = 59 := fun z => f1 (ch_iff.mpr ⟨hl2, z⟩)
                        have h8 : ¬ dgt (c (k + 2)) = true := fun z => d8 (dg_iff.mpr ⟨hl2, z⟩)
                        simp [aft, h9, h8]
                  · rw [if_neg d7]
                    exact Or.inr ⟨rfl, bad_digit (by omega) b1 (by decide) d7 (a_d 10 (by decide)).1⟩
                · rw [if_neg e1]
                  refine Or.inr ⟨rfl, k5, s, k1, fun hl2 => ?_, fun _ => Or.inl (by omega)⟩
                  have hl2 : k < t := hl2
                  show ast c (k + 1) = none
                  rw [ast_next k1]
                  have h9 : ¬ c k = 44 := fun z => e1 (ch_iff.mpr ⟨hl2, z⟩)
                  rcases k2 with rfl | rfl
                  · have h8 : ¬ dgt (c k) = true := fun z => k6 rfl (dg_iff.mpr ⟨hl2, z⟩)
                    simp [aft, h9, h8]
                  · simp [aft, h9]
              · rw [if_neg d5]
                exact Or.inr ⟨rfl, bad_digit (by omega) a5 (by decide) d5 (a_d 7 (by decide)).1⟩
            · rw [if_neg d4]
              exact Or.inr ⟨rfl, bad_digit (by omega) a4 (by decide) d4 (a_d 6 (by decide)).1⟩
          · rw [if_neg d3]
            exact Or.inr ⟨rfl, bad_digit (by omega) a3 (by decide) d3 (a_d 5 (by decide)).1⟩
        · rw [if_neg d2]
          exact Or.inr ⟨rfl, bad_digit (by omega) a2 (by decide) d2 (a_d 4 (by decide)).1⟩
      · rw [if_neg d1]
        exact Or.inr ⟨rfl, bad_digit (by omega) a1 (by decide) d1 (a_d 3 (by decide)).1⟩
    · have hS : isQ (c p) = true := hk.resolve_right c108
      have a1 : ast c (p + 1) = some 1 := by rw [ast_next h0]; simp [aft, hS]
      have hn : c p ≠ 59 := fun z => by rw [z] at hS; exact absurd hS (by decide)
      by_cases d1 : dg c t (p + 1) = true
      · rw [if_pos d1, if_neg c108]
        have a2 : ast c (p + 2) = some 2 := ast_digit a1 d1 (a_d 1 (by decide)).2
        have l1 := (dg_iff.mp d1).1
        by_cases f1 : ch c t 59 (p + 2) = true
        · rw [if_pos f1]
          obtain ⟨lf, cf⟩ := ch_iff.mp f1
          refine Or.inl ⟨rfl, by show p + 3 ≤ t; omega, ?_, Nat.le_refl _, by show p + 3 ≤ p + 13; omega, cf, fun i h1 h2 => ?_⟩
          · show ast c (p + 2 + 1) = some 0
            rw [ast_next a2, cf]; rfl
          · have h2 : i + 1 < p + 3 := h2
            have : i = p ∨ i = p + 1 := by omega
            rcases this with rfl | rfl
            · exact hn
            · exact (dgt_59 (dg_iff.mp d1).2).1
        · rw [if_neg f1]
          refine Or.inr ⟨rfl, by show p + 2 ≤ t; omega, 2, a2, fun hl2 => ?_, fun _ => Or.inl (by decide)⟩
          have hl2 : p + 2 < t := hl2
          show ast c (p + 2 + 1) = none
          rw [ast_next a2]
          have h9 : ¬ c (p + 2) = 59 := fun z => f1 (ch_iff.mpr ⟨hl2, z⟩)
          simp [aft, h9]
      · rw [if_neg d1]
        exact Or.inr ⟨rfl, bad_digit (by omega) a1 (by decide) d1 (a_d 1 (by decide)).1⟩
  · rw [if_neg c1]
    refine Or.inr ⟨rfl, hp, 0, h0, fun hl => ?_, fun _ => Or.inr rfl⟩
    have hl : p < t := hl
    show ast c (p + 1) = none
    rw [ast_next h0]
    have n1 : ¬ isQ (c p) = true := fun z => c1 ⟨hl, Or.inl z⟩
    have n2 : ¬ c p = 108 := fun z => c1 ⟨hl, Or.inr z⟩
    simp [aft, n1, n2]
end
