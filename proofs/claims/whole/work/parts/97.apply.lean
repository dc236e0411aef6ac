/-! ===== villages told in letters: what a statement does ===== -/
/-- the least number of houses that the first k lanes need -/
def mEn (V : Vd) : Nat → Nat
  | 0 => 0
  | k + 1 => max (mEn V k) (max (V.2.2 k 1) (V.2.2 k 2) + 1)
def tH (V : Vd) : Nat → Nat
  | 0 => 2
  | k + 1 => max (max (tH V k) (V.2.2 k 1 + 1)) (V.2.2 k 2 + 1)
def rl (L : Nat) : Nat := if L = 107 then 1 else if L = 120 then 2 else 0
def addV (V : Vd) (v : Nat → Nat) : Vd := (V.1, V.2.1 + 1, fun l => if l = V.2.1 then (fun k => if k < 6 then v k else 0) else V.2.2 l)
/-- whether a statement can come, and the village after it -/
def apO (V : Vd) (L : Nat) (v : Nat → Nat) : Bool := if L = 104 then decide (tH V V.2.1 ≤ v 0 ∧ v 0 ≤ 7) else if L = 108 then decide (V.2.1 < 10 ∧ v 0 ≤ 5 ∧ v 1 < V.1 ∧ v 2 < V.1 ∧ v 1 ≠ v 2 ∧ 1 ≤ v 3 ∧ v 3 ≤ 4) else decide (v 0 < V.2.1)
def apV (V : Vd) (L : Nat) (v : Nat → Nat) : Vd := if L = 104 then (v 0, V.2.1, V.2.2) else if L = 108 then addV V v else upR V (v 0) (rl L)
section
variable {F : Nat} {m : Mem} {V : Vd}
theorem rl_le (L : Nat) : rl L ≤ 2 := by unfold rl; split <;> (try split) <;> omega
theorem tH_is : ∀ k, tH V k = max 2 (mEn V k)
  | 0 => rfl
  | k + 1 => by
    have := tH_is k
    rw [tH, mEn, this]
    omega
theorem tH_end : ∀ k l, l < k → V.2.2 l 1 < tH V k ∧ V.2.2 l 2 < tH V k
  | 0, l, h => absurd h (by omega)
  | k + 1, l, h => by
    rw [tH]
    by_cases e : l = k
    · subst e; omega
    · have := tH_end k l (by omega)
      omega
theorem mEn_le (hV : okV V) : ∀ k, k ≤ V.2.1 → mEn V k ≤ V.1
  | 0, _ => Nat.zero_le _
  | k + 1, hk => by
    have i := mEn_le hV k (by omega)
    have e := hV.ends k (by omega)
    rw [mEn]
    omega
theorem apV_ok (hV : okV V) {L : Nat} {v : Nat → Nat} (h : apO V L v = true) (h45 : L = 108 → v 4 ≤ 99 ∧ v 5 ≤ 99) : okV (apV V L v) := by
  unfold apO at h
  unfold apV
  by_cases c1 : L = 104
  · rw [if_pos c1, decide_eq_true_eq] at h
    rw [if_pos c1]
    obtain ⟨a, b⟩ := h
    have h2 : 2 ≤ tH V V.2.1 := by rw [tH_is]; omega
    refine ⟨by show 2 ≤ v 0; omega, b, hV.2.2.1, fun l hl => ?_⟩
    have hl : l < V.2.1 := hl
    obtain ⟨e1, e2⟩ := tH_end (V := V) V.2.1 l hl
    obtain ⟨g0, g1, g2, g3⟩ := hV.2.2.2 l hl
    exact ⟨g0, by show V.2.2 l 1 < v 0; omega, by show V.2.2 l 2 < v 0; omega, g3⟩
  · rw [if_neg c1] at h ⊢
    by_cases c2 : L = 108
    · rw [if_pos c2, decide_eq_true_eq] at h
      rw [if_pos c2]
      obtain ⟨b0, b1, b2, b3, b4, b5, b6⟩ := h
      refine ⟨hV.1, hV.2.1, by show V.2.1 + 1 ≤ 10; omega, fun l hl => ?_⟩
      have hl : l < V.2.1 + 1 := hl
      show okL V.1 ((addV V v).2.2 l)
      unfold addV
      dsimp only
      by_cases e : l = V.2.1
      · rw [if_pos e]
        exact ⟨b1, b2, b3, b4, b5, b6, (h45 c2).1, (h45 c2).2, Nat.zero_le _⟩
      · rw [if_neg e]
        exact hV.2.2.2 l (by omega)
    · rw [if_neg c2]
      exact upR_ok hV (rl_le L)
theorem dec_lt {v H : Nat} (hv : v < 2 ^ 31) (hH : H < 2 ^ 31) : decide (¬ nI v < 0 ∧ ¬ nI H ≤ nI v) = decide (v < H) := by
  apply decide_eq_decide.mpr
  rw [le_nI hH hv]
  constructor
  · rintro ⟨-, h⟩; omega
  · intro h; exact ⟨nI_pos hv, by omega⟩
/-! the class -/
def fI (k : Nat) : Int32 := if k = 0 then -1 else nI (k - 1)
theorem fI_lt {k x : Nat} (hk : k < 2 ^ 30) (hx : x < 2 ^ 30) : (fI k < nI x) ↔ k ≤ x := by
  unfold fI
  by_cases e : k = 0
  · rw [if_pos e]
    constructor
    · intro _; omega
    · intro _; exact Int32.not_le.mp (not_m1 (by omega))
  · rw [if_neg e, lt_nI (by omega) (by omega)]
    omega
theorem x_far (hF : 2000 ≤ F) (hV : okV V) {v : Nat} (hx : IX m v V) : gX6_farthestHouse F m v = some (fI (mEn V V.2.1)) := by
  have hn := hV.2.2.1
  have hH := hV.2.1
  have q := iter_at (F := F) (f := bX6_farthestHouse_4 m v) (fun i => (fI (mEn V i), nI i)) V.2.1 (fI (mEn V V.2.1), nI V.2.1) (fun i hi => ?_) ?_ (by omega)
  · have e0 : iter F (bX6_farthestHouse_4 m v) (-1, 0) = _ := q
    rw [gX6_farthestHouse, e0, Option.bind_some]
  · obtain ⟨-, e1, e2, -⟩ := hx.2.2.2.2 i hi
    obtain ⟨b1, b2⟩ := hV.ends i hi
    have hm := mEn_le hV i (by omega)
    have ib : inb (nI i) 10 := inb_nI (by omega) (by omega)
    have emax : (if nI (V.2.2 i 1) < nI (V.2.2 i 2) then nI (V.2.2 i 2) else nI (V.2.2 i 1)) = nI (max (V.2.2 i 1) (V.2.2 i 2)) := by
      rw [ite_ltN (by omega) (by omega)]
      split <;> congr 1 <;> omega
    rw [bX6_farthestHouse_4, hx.2.1, ite_leN (by omega) (by omega), if_neg (by omega), show (10 : Int32) = nI 10 from rfl, ite_leN (by omega) (by omega), if_neg (by omega), chk_pos ib, chk_pos ib, lete_eq, nI_clamp (by omega), e1, e2, emax, nI_1, mEn]
    have hlt := fI_lt (k := mEn V i) (x := max (V.2.2 i 1) (V.2.2 i 2)) (by omega) (by omega)
    by_cases c : mEn V i ≤ max (V.2.2 i 1) (V.2.2 i 2)
    · rw [if_pos (hlt.mpr c), show max (mEn V i) (max (V.2.2 i 1) (V.2.2 i 2) + 1) = max (V.2.2 i 1) (V.2.2 i 2) + 1 by omega]
      unfold fI
      rw [if_neg (by omega), Nat.add_sub_cancel]
    · rw [if_neg (fun z => c (hlt.mp z)), show max (mEn V i) (max (V.2.2 i 1) (V.2.2 i 2) + 1) = mEn V i by omega]
  · rw [bX6_farthestHouse_4, hx.2.1, ite_leN (by omega) (by omega), if_pos (Nat.le_refl _)]
theorem x_setHouses (hF : 2000 ≤ F) (hV : okV V) {w x : Nat} (hx : IX m w V) (hw : x < 1000) : ∃ m', gX6_setHouses F m w (nI x) = some (decide (tH V V.2.1 ≤ x ∧ x ≤ 7), m') ∧ EC w m m' ∧ (tH V V.2.1 ≤ x ∧ x ≤ 7 → IX m' w (x, V.2.1, V.2.2)) := by
  have hm := mEn_le hV V.2.1 (Nat.le_refl _)
  have hH := hV.2.1
  have ht := tH_is (V := V) V.2.1
  rw [gX6_setHouses, show (2 : Int32) = nI 2 from rfl, ite_ltN (by omega) (by omega), show (7 : Int32) = nI 7 from rfl, ite_ltN (by omega) (by omega), x_far hF hV hx, Option.bind_some]
  have hlt := fI_lt (k := mEn V V.2.1) (x := x) (by omega) (by omega)
  by_cases c1 : x < 2
  · rw [if_pos c1, decide_eq_false (by omega)]
    exact ⟨m, rfl, EC.rf _ _, fun z => by omega⟩
  · rw [if_neg c1]
    by_cases c2 : 7 < x
    · rw [if_pos c2, decide_eq_false (by omega)]
      exact ⟨m, rfl, EC.rf _ _, fun z => by omega⟩
    · rw [if_neg c2]
      by_cases c3 : mEn V V.2.1 ≤ x
      · rw [if_pos (hlt.mpr c3), lete_eq, decide_eq_true (by omega)]
        refine ⟨_, rfl, EC.mu0, fun _ => ⟨mu_same _ _ _ _, ?_, ?_, ?_, fun l hl => ?_⟩⟩
        · rw [mu_ne _ _ (Or.inr (by decide))]; exact hx.2.1
        · rw [mu_ne _ _ (Or.inr (by decide))]; exact hx.2.2.1
        · rw [mu_ne _ _ (Or.inr (by decide))]; exact hx.2.2.2.1
        · rw [mu_row _ _ (by omega), mu_row _ _ (by omega), mu_row _ _ (by omega), mu_row _ _ (by omega), mu_row _ _ (by omega), mu_row _ _ (by omega)]
          exact hx.2.2.2.2 l hl
      · rw [if_neg (fun z => c3 (hlt.mp z)), decide_eq_false (by omega)]
        exact ⟨m, rfl, EC.rf _ _, fun z => by omega⟩
theorem x_tellRule (hV : okV V) {L x : Nat} (hx : IX m 8 V) (hL : L < 1000) (h2 : x ≤ 2) : ∃ m', gX3_tellRule m (nI L) (nI x) = some (decide (L < V.2.1), m') ∧ EC 8 m m' ∧ (L < V.2.1 → IX m' 8 (upR V L x)) := by
  have hn := hV.2.2.1
  rw [gX3_tellRule, x_hasLane hV hx, Option.bind_some, dec_lt (by omega) (by omega)]
  by_cases c : L < V.2.1
  · obtain ⟨m', g1, g2, g3⟩ := x_ruled hV hx c h2
    rw [decide_eq_true c, if_pos rfl, g1, Option.bind_some]
    exact ⟨m', rfl, ⟨fun j hj => g2.1 j (by omega), g2.2⟩, fun _ => g3⟩
  · rw [decide_eq_false c, if_neg (fun z => by cases z)]
    exact ⟨m, rfl, EC.rf _ _, fun z => absurd z c⟩
theorem kinds {v : Nat → Nat} (h0 : v 0 ≤ 5) (h3 : v 3 ≤ 4) (h4 : v 4 ≤ 99) (h5 : v 5 ≤ 99) : gX6_weightByKind (nI (v 0)) (nI (v 3)) = some (nI (wt (fun k => if k < 6 then v k else 0))) ∧ gX6_costByKind (nI (v 0)) (nI (v 4)) = some (nI (ct (fun k => if k < 6 then v k else 0))) ∧ gX6_driftByKind (nI (v 0)) (nI (v 5)) = some (nI (dr (fun k => if k < 6 then v k else 0))) := by
  refine ⟨?_, ?_, ?_⟩
  · rw [gX6_weightByKind, show (1 : Int32) = nI 1 from rfl, show (5 : Int32) = nI 5 from rfl, show (2 : Int32) = nI 2 from rfl, pk_mul, nI_add, ite_eqN (by omega) (by omega), ite_eqN (by omega) (by omega)]
    unfold wt
    simp only [show (0 : Nat) < 6 by decide, show (3 : Nat) < 6 by decide, if_true]
    (repeat' split) <;> rfl
  · rw [gX6_costByKind, show (3 : Int32) = nI 3 from rfl, show (5 : Int32) = nI 5 from rfl, show (2 : Int32) = nI 2 from rfl, show (4 : Int32) = nI 4 from rfl, show (10 : Int32) = nI 10 from rfl, nI_add, pk_mul, pk_div (by omega) (by omega) (by omega), ite_eqN (by omega) (by omega), ite_eqN (by omega) (by omega), ite_eqN (by omega) (by omega), ite_eqN (by omega) (by omega)]
    unfold ct
    simp only [show (0 : Nat) < 6 by decide, show (4 : Nat) < 6 by decide, if_true]
    (repeat' split) <;> first | rfl | omega
  · rw [gX6_driftByKind, show (4 : Int32) = nI 4 from rfl, show (20 : Int32) = nI 20 from rfl, show (99 : Int32) = nI 99 from rfl, nI_add, ite_eqN (by omega) (by omega), ite_ltN (by omega) (by omega)]
    unfold dr
    simp only [show (0 : Nat) < 6 by decide, show (5 : Nat) < 6 by decide, if_true]
    (repeat' split) <;> rfl
theorem rB_add {v : Nat → Nat} {x : Nat} (h : x ≠ 0) : rB (addV V v).2.2 x (V.2.1 + 1) = rB V.2.2 x V.2.1 := by
  have key : ∀ k, k ≤ V.2.1 → rB (addV V v).2.2 x k = rB V.2.2 x k := by
    intro k
    induction k with
    | zero => intro _; rfl
    | succ k ih =>
      intro hk
      rw [rB, rB, ih (by omega)]
      have : (addV V v).2.2 k 6 = V.2.2 k 6 := by
        unfold addV
        dsimp only
        rw [if_neg (by omega)]
      rw [this]
  rw [rB, key V.2.1 (Nat.le_refl _)]
  have : (addV V v).2.2 V.2.1 6 = 0 := by
    unfold addV
    dsimp only
    rw [if_pos rfl, if_neg (by decide)]
  rw [this, if_neg (fun z => h z.symm), Nat.add_zero]
theorem x_addLane (hV : okV V) {v : Nat → Nat} (hx : IX m 8 V) (hv : ∀ i, v i < 1000) (h4 : v 4 ≤ 99) (h5 : v 5 ≤ 99) : ∃ m', gX6_addLane m 8 (nI (v 0)) (nI (v 1)) (nI (v 2)) (nI (v 3)) (nI (v 4)) (nI (v 5)) = some (apO V 108 v, m') ∧ EC 8 m m' ∧ (apO V 108 v = true → IX m' 8 (addV V v)) := by
  have hn := hV.2.2.1
  have hH := hV.2.1
  have v0 := hv 0
  have v1 := hv 1
  have v2 := hv 2
  have v3 := hv 3
  have eO : apO V 108 v = decide (V.2.1 < 10 ∧ v 0 ≤ 5 ∧ v 1 < V.1 ∧ v 2 < V.1 ∧ v 1 ≠ v 2 ∧ 1 ≤ v 3 ∧ v 3 ≤ 4) := rfl
  rw [eO]
  have no : ∀ (h : ¬ (V.2.1 < 10 ∧ v 0 ≤ 5 ∧ v 1 < V.1 ∧ v 2 < V.1 ∧ v 1 ≠ v 2 ∧ 1 ≤ v 3 ∧ v 3 ≤ 4)), ∃ m', (some (false, m) : Option (Bool × Mem)) = some (decide (V.2.1 < 10 ∧ v 0 ≤ 5 ∧ v 1 < V.1 ∧ v 2 < V.1 ∧ v 1 ≠ v 2 ∧ 1 ≤ v 3 ∧ v 3 ≤ 4), m') ∧ EC 8 m m' ∧ (decide (V.2.1 < 10 ∧ v 0 ≤ 5 ∧ v 1 < V.1 ∧ v 2 < V.1 ∧ v 1 ≠ v 2 ∧ 1 ≤ v 3 ∧ v 3 ≤ 4) = true → IX m' 8 (addV V v)) := fun h => ⟨m, by rw [decide_eq_false h], EC.rf _ _, fun z => absurd (of_decide_eq_true z) h⟩
  rw [gX6_addLane, hx.2.1, show (10 : Int32) = nI 10 from rfl, ite_leN (by omega) (by omega)]
  by_cases c0 : 10 ≤ V.2.1
  · rw [if_pos c0]; exact no (by omega)
  · rw [if_neg c0, if_neg (nI_pos (by omega)), show (5 : Int32) = nI 5 from rfl, ite_ltN (by omega) (by omega)]
    by_cases c1 : 5 < v 0
    · rw [if_pos c1]; exact no (by omega)
    · rw [if_neg c1, show (1 : Int32) = nI 1 from rfl, ite_ltN (by omega) (by omega)]
      by_cases c2 : v 3 < 1
      · rw [if_pos c2]; exact no (by omega)
      · rw [if_neg c2, show (4 : Int32) = nI 4 from rfl, ite_leN (by omega) (by omega)]
        by_cases c3 : v 3 ≤ 4
        · rw [if_pos c3, x_hasHouse hx, dec_lt (by omega) (by omega), Option.bind_some, x_hasHouse hx, dec_lt (by omega) (by omega), Option.bind_some]
          by_cases c4 : v 1 < V.1
          · rw [decide_eq_true c4, if_pos rfl]
            by_cases c5 : v 2 < V.1
            · rw [decide_eq_true c5, if_pos rfl, ite_eqN (by omega) (by omega)]
              by_cases c6 : v 1 = v 2
              · rw [if_pos c6]; exact no (fun z => z.2.2.2.2.1 c6)
              · have hyes : V.2.1 < 10 ∧ v 0 ≤ 5 ∧ v 1 < V.1 ∧ v 2 < V.1 ∧ v 1 ≠ v 2 ∧ 1 ≤ v 3 ∧ v 3 ≤ 4 := ⟨by omega, by omega, c4, c5, c6, by omega, c3⟩
                obtain ⟨k1, k2, k3⟩ := kinds (v := v) (by omega) c3 h4 h5
                have ib : inb (nI V.2.1) 10 := inb_nI (by omega) (by omega)
                have r0 : m.1 8 1 = nI V.2.1 := hx.2.1
                have r1 : ∀ {M : Mem} {j k : Nat} {x : Int32}, 9 ≤ j → M.1 8 1 = nI V.2.1 → (mu M j k x).1 8 1 = nI V.2.1 := fun hj h => by rw [mu_ne _ _ (Or.inl (by omega))]; exact h
                have q1 := r1 (k := V.2.1) (x := nI (v 0)) (show 9 ≤ 8 + 1 by omega) r0
                have q2 := r1 (k := V.2.1) (x := nI (v 1)) (show 9 ≤ 8 + 2 by omega) q1
                have q3 := r1 (k := V.2.1) (x := nI (v 2)) (show 9 ≤ 8 + 3 by omega) q2
                have q4 := r1 (k := V.2.1) (x := nI (wt (fun k => if k < 6 then v k else 0))) (show 9 ≤ 8 + 4 by omega) q3
                have q5 := r1 (k := V.2.1) (x := nI (ct (fun k => if k < 6 then v k else 0))) (show 9 ≤ 8 + 5 by omega) q4
                have q6 := r1 (k := V.2.1) (x := nI (dr (fun k => if k < 6 then v k else 0))) (show 9 ≤ 8 + 6 by omega) q5
                rw [if_neg c6, chk_pos ib, lete_eq, nI_clamp (by omega), q1, chk_pos ib, lete_eq, nI_clamp (by omega), q2, chk_pos ib, lete_eq, nI_clamp (by omega), k1, Option.bind_some, q3, chk_pos ib, lete_eq, nI_clamp (by omega), k2, Option.bind_some, q4, chk_pos ib, lete_eq, nI_clamp (by omega), k3, Option.bind_some, q5, chk_pos ib, lete_eq, nI_clamp (by omega), lete_eq, q6, nI_add, decide_eq_true hyes]
                let g : Nat → Int32 := fun q => if q = 1 then nI (v 0) else if q = 2 then nI (v 1) else if q = 3 then nI (v 2) else if q = 4 then nI (wt (fun k => if k < 6 then v k else 0)) else if q = 5 then nI (ct (fun k => if k < 6 then v k else 0)) else nI (dr (fun k => if k < 6 then v k else 0))
                refine ⟨mu (w6 m 8 V.2.1 g) 8 1 (nI (V.2.1 + 1)), rfl, w6_ec.tr EC.mu0, fun _ => ⟨?_, mu_same _ _ _ _, ?_, ?_, fun l hl => ?_⟩⟩
                · rw [mu_ne _ _ (Or.inr (by decide)), w6_v]; exact hx.1
                · rw [mu_ne _ _ (Or.inr (by decide)), w6_v, hx.2.2.1]
                  unfold mus
                  show _ = nI (rB (addV V v).2.2 1 (V.2.1 + 1))
                  rw [rB_add (by decide)]
                · rw [mu_ne _ _ (Or.inr (by decide)), w6_v, hx.2.2.2.1]
                  unfold bar
                  show _ = nI (rB (addV V v).2.2 2 (V.2.1 + 1))
                  rw [rB_add (by decide)]
                · have hl : l < V.2.1 + 1 := hl
                  rw [mu_ne _ _ (Or.inl (by decide)), mu_ne _ _ (Or.inl (by decide)), mu_ne _ _ (Or.inl (by decide)), mu_ne _ _ (Or.inl (by decide)), mu_ne _ _ (Or.inl (by decide)), mu_ne _ _ (Or.inl (by decide)), w6_get (by decide) (by decide), w6_get (by decide) (by decide), w6_get (by decide) (by decide), w6_get (by decide) (by decide), w6_get (by decide) (by decide), w6_get (by decide) (by decide)]
                  by_cases e : l = V.2.1
                  · have er : (addV V v).2.2 l = fun k => if k < 6 then v k else 0 := by
                      unfold addV
                      dsimp only
                      rw [if_pos e]
                    rw [if_pos e, if_pos e, if_pos e, if_pos e, if_pos e, if_pos e, er]
                    exact ⟨rfl, rfl, rfl, rfl, rfl, rfl⟩
                  · have er : (addV V v).2.2 l = V.2.2 l := by
                      unfold addV
                      dsimp only
                      rw [if_neg e]
                    rw [if_neg e, if_neg e, if_neg e, if_neg e, if_neg e, if_neg e, er]
                    exact hx.2.2.2.2 l (by omega)
            · rw [decide_eq_false c5, if_neg (fun z => by cases z)]; exact no (fun z => c5 z.2.2.2.1)
          · rw [decide_eq_false c4, if_neg (fun z => by cases z)]; exact no (fun z => c4 z.2.2.1)
        · rw [if_neg c3]; exact no (by omega)
end
