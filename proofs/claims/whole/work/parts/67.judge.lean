/-! ===== a told row judged ===== -/
section
variable {PM PS : Nat → Nat → Nat} {m : Mem} {V : Vd} {F : Nat}
def okJ (V : Vd) (s l : Nat) : Bool := decide (l < V.2.1) && (decide (V.2.2 l 6 ≠ 2) && (!s.testBit l && decide (lb V.2.2 s V.2.1 (V.2.2 l 1) ≠ lb V.2.2 s V.2.1 (V.2.2 l 2))))
def ahd (c : Nat → Nat) : Nat → Nat
  | 0 => 0
  | k + 1 => ahd c k ||| 2 ^ c k
theorem rg_zero (f : Nat → Nat → Nat) : ∀ k, rg f 0 k = 0
  | 0 => rfl
  | k + 1 => by simp [rg, rg_zero f k]
theorem okV.ends (h : okV V) : ∀ q, q < V.2.1 → V.2.2 q 1 < V.1 ∧ V.2.2 q 2 < V.1 := fun l hl => ⟨(h.2.2.2 l hl).2.1, (h.2.2.2 l hl).2.2.1⟩
theorem ahd_ok (hV : okV V) {c : Nat → Nat} : ∀ k, (∀ j, j < k → okJ V (ahd c j) (c j) = true) → ahd c k < 2 ^ V.2.1 ∧ rg V.2.2 (ahd c k) V.2.1 = 0
  | 0, _ => ⟨Nat.one_le_two_pow, rg_zero _ _⟩
  | k + 1, h => by
    obtain ⟨h1, h2⟩ := ahd_ok hV k (fun j hj => h j (by omega))
    have h3 := h k (by omega)
    unfold okJ at h3
    simp only [Bool.and_eq_true, decide_eq_true_eq, Bool.not_eq_true'] at h3
    obtain ⟨a1, a2, a3, a4⟩ := h3
    refine ⟨Nat.or_lt_two_pow h1 (Nat.pow_lt_pow_right (by decide) a1), (rg_or hV.ends a1 a3 h2).mpr a4⟩
theorem lane_not (hV : okV V) {l : Nat} (hl : ¬ l < V.2.1) (h9 : l ≤ 9) : decide (¬ nI l < 0 ∧ ¬ nI V.2.1 ≤ nI l) = false := by
  have hn := hV.2.2.1
  apply decide_eq_false
  rintro ⟨_, z⟩
  rw [le_nI (by omega) (by omega)] at z
  omega
theorem lane_yes (hV : okV V) {l : Nat} (hl : l < V.2.1) : decide (¬ nI l < 0 ∧ ¬ nI V.2.1 ≤ nI l) = true := by
  have hn := hV.2.2.1
  apply decide_eq_true
  exact ⟨nI_pos (by omega), nI_ge hl (by omega)⟩
/-- what the judge says, once it is known where the first wrong lane stands -/
def jans (V : Vd) (c : Nat → Nat) (t K : Nat) : Int32 := if K < t then nI K else if isW V (ahd c t) = true then -9 else nI t
set_option maxHeartbeats 1000000 in
theorem x_judged (hF : 2000 ≤ F) (hV : okV V) (hx : IX m 1 V) (hj : IJ m V) {c : Nat → Nat} {t K : Nat} (ht : t ≤ 10) (hK : K ≤ t) (h3 : m.1 35 3 = nI t) (hc : ∀ i, i < t → c i ≤ 9 ∧ m.1 36 i = nI (c i)) (hok : ∀ j, j < K → okJ V (ahd c j) (c j) = true) (hbad : K < t → okJ V (ahd c K) (c K) = false) : gX5_judged F m = some (jans V c t K) := by
  have hn := hV.2.2.1
  rw [gX5_judged]
  obtain ⟨e, h1, h2⟩ := iter_inv (f := bX5_judged_4 m) (fun i q => q = (nI (ahd c i), nI i)) K (fun e => (Sum.elim (fun s12 => (gX2_isWay m s12.1).bind (fun x13 => (if x13 = true then some (-9) else some (m.1 35 3)))) (fun q => some q) e : Option Int32) = some (jans V c t K)) (by
      rintro i q hi rfl
      obtain ⟨a1, a2⟩ := ahd_ok hV i (fun j hj => hok j (by omega))
      have a10 := hV.sl a1
      have hoi := hok i hi
      have hnext : ahd c i ||| 2 ^ c i < 2 ^ V.2.1 ∧ rg V.2.2 (ahd c i ||| 2 ^ c i) V.2.1 = 0 := ahd_ok hV (i + 1) (fun j hj => hok j (by omega))
      unfold okJ at hoi
      simp only [Bool.and_eq_true, decide_eq_true_eq, Bool.not_eq_true'] at hoi
      obtain ⟨b1, b2, b3, b4⟩ := hoi
      obtain ⟨c1, c2⟩ := hc i (by omega)
      have r6 := (hV.2.2.2 (c i) b1).2.2.2.2.2.2.2.2
      refine Or.inl ⟨_, ?_, rfl⟩
      simp only [bX5_judged_4]
      rw [h3, ite_leN (by omega) (by omega), if_neg (by omega), show (10 : Int32) = nI 10 from rfl, ite_leN (by omega) (by omega), if_neg (by omega), chk_pos (inb_nI (by omega) (by omega)), nI_clamp (by omega), lete_eq, c2, x_hasLane hV hx, lane_yes hV b1, Option.bind_some, if_pos rfl, x_ruleOf hV hx b1, Option.bind_some, show (2 : Int32) = nI 2 from rfl, ite_eqN (by omega) (by omega), if_neg b2, lete_eq, ite_bitb (by omega) (by omega), if_neg (by rw [b3]; decide), sh1 (by omega), orI, x_hasRing hV hj hnext.1, Option.bind_some, hnext.2, if_neg (by simp), lete_eq, nI_1]
      rfl) (by
      rintro q rfl
      obtain ⟨a1, a2⟩ := ahd_ok hV K hok
      have a10 := hV.sl a1
      by_cases hKt : K < t
      · have hbk := hbad hKt
        have hr : jans V c t K = nI K := by unfold jans; rw [if_pos hKt]
        obtain ⟨c1, c2⟩ := hc K hKt
        refine ⟨.inr (nI K), ?_, by rw [hr]; rfl⟩
        simp only [bX5_judged_4]
        rw [h3, ite_leN (by omega) (by omega), if_neg (by omega), show (10 : Int32) = nI 10 from rfl, ite_leN (by omega) (by omega), if_neg (by omega), chk_pos (inb_nI (by omega) (by omega)), nI_clamp (by omega), lete_eq, c2, x_hasLane hV hx]
        by_cases b1 : c K < V.2.1
        · have r6 := (hV.2.2.2 (c K) b1).2.2.2.2.2.2.2.2
          rw [lane_yes hV b1, Option.bind_some, if_pos rfl, x_ruleOf hV hx b1, Option.bind_some, show (2 : Int32) = nI 2 from rfl, ite_eqN (by omega) (by omega)]
          by_cases b2 : V.2.2 (c K) 6 = 2
          · rw [if_pos b2]
          · rw [if_neg b2, lete_eq, ite_bitb (by omega) (by omega)]
            by_cases b3 : (ahd c K).testBit (c K) = true
            · rw [if_pos b3]
            · have b3' : (ahd c K).testBit (c K) = false := by simpa using b3
              have hlt : ahd c K ||| 2 ^ c K < 2 ^ V.2.1 := Nat.or_lt_two_pow a1 (Nat.pow_lt_pow_right (by decide) b1)
              have hrg : rg V.2.2 (ahd c K ||| 2 ^ c K) V.2.1 ≠ 0 := by
                intro z
                have := (rg_or hV.ends b1 b3' a2).mp z
                unfold okJ at hbk
                rw [decide_eq_true b1, decide_eq_true b2, b3', decide_eq_true this] at hbk
                cases hbk
              rw [if_neg b3, sh1 (by omega), orI, x_hasRing hV hj hlt, Option.bind_some, decide_eq_true hrg, if_pos rfl]
        · rw [lane_not hV b1 c1, Option.bind_some, if_neg (by decide)]
      · have hKt2 : K = t := by omega
        subst hKt2
        refine ⟨.inl (nI (ahd c K), nI K), ?_, ?_⟩
        · simp only [bX5_judged_4]
          rw [h3, ite_leN (by omega) (by omega), if_pos (by omega)]
        · show (gX2_isWay m (nI (ahd c K))).bind _ = _
          rw [x_isWay hV hx hj a1, Option.bind_some, h3]
          unfold jans
          rw [if_neg hKt]
          split <;> rfl) F 0 (0, 0) (Nat.zero_le _) (by omega) rfl
  rw [h1, Option.bind_some, h2]
set_option maxHeartbeats 2000000 in
theorem m_judge (hF : 2000 ≤ F) (hV : okV V) (hm : IM m V) {c : Nat → Nat} {t K : Nat} (ht : t ≤ 10) (hK : K ≤ t) (hc : ∀ i, i < t → c i ≤ 9 ∧ m.1 63 i = nI (c i)) (hok : ∀ j, j < K → okJ V (ahd c j) (c j) = true) (hbad : K < t → okJ V (ahd c K) (c K) = false) : ∃ m', (iter F (bX9_judge_14 F (nI t)) (0, 0, m)).bind (fun e16 => Sum.elim (fun s18 => (gX9_isWay F s18.2.2 s18.1).bind (fun q19 => (if q19.1 = true then some ((-9), q19.2) else some (nI t, q19.2)))) (fun q => some q) e16) = some (jans V c t K, m') ∧ E57 m m' := by
  have hn := hV.2.2.1
  have hH := hV.2.1
  obtain ⟨e, h1, h2⟩ := iter_inv (f := bX9_judge_14 F (nI t)) (fun i q => q.1 = nI (ahd c i) ∧ q.2.1 = nI i ∧ E57 m q.2.2) K (fun e => ∃ m', (Sum.elim (fun s18 => (gX9_isWay F s18.2.2 s18.1).bind (fun q19 => (if q19.1 = true then some ((-9), q19.2) else some (nI t, q19.2)))) (fun q => some q) e : Option (Int32 × Mem)) = some (jans V c t K, m') ∧ E57 m m') (by
      rintro i ⟨y, z, m1⟩ hi ⟨rfl, hz, he⟩
      dsimp only at hz he
      subst hz
      obtain ⟨a1, a2⟩ := ahd_ok hV i (fun j hj => hok j (by omega))
      have a10 := hV.sl a1
      have hoi := hok i hi
      unfold okJ at hoi
      simp only [Bool.and_eq_true, decide_eq_true_eq, Bool.not_eq_true'] at hoi
      obtain ⟨b1, b2, b3, b4⟩ := hoi
      obtain ⟨c1, c2⟩ := hc i (by omega)
      have hm1 := he.im hm
      have ok := hV.2.2.2 (c i) b1
      have r6 := ok.2.2.2.2.2.2.2.2
      have d1 := ok.2.1
      have d2 := ok.2.2.1
      have e63 : m1.1 63 i = nI (c i) := by rw [he.1 63 (by decide)]; exact c2
      have e51 : m1.1 51 (c i) = nI (V.2.2 (c i) 6) := hm1.at (k := 6) b1 (by decide)
      obtain ⟨m2, g1, g2, g3⟩ := m_partsOf hF hV hm1 a1
      have hm2 := g2.im hm1
      have e46 : m2.1 46 (c i) = nI (V.2.2 (c i) 1) := hm2.at (k := 1) b1 (by decide)
      have e47 : m2.1 47 (c i) = nI (V.2.2 (c i) 2) := hm2.at (k := 2) b1 (by decide)
      have pb := pl_lt V.2.2 (ahd c i) V.1 V.2.1 hV.ends
      have p1 := pb _ d1
      have p2 := pb _ d2
      have pj := pl_lb V.2.2 (ahd c i) V.2.1 (V.2.2 (c i) 1) (V.2.2 (c i) 2)
      have hib : inb (nI (c i)) 11 := inb_nI (by omega) (by omega)
      refine Or.inl ⟨(nI (ahd c (i + 1)), nI (i + 1), m2), ?_, rfl, rfl, he.tr g2⟩
      simp only [bX9_judge_14]
      rw [ite_leN (by omega) (by omega), if_neg (by omega), chk_pos (inb_nI (by omega) (by omega)), nI_clamp (by omega), lete_eq, e63, m_isLane hV hm1, lane_yes hV b1, Option.bind_some, if_pos rfl, chk_pos hib, nI_clamp (by omega), e51, show (2 : Int32) = nI 2 from rfl, ite_eqN (by omega) (by omega), if_neg b2, ite_bit0 (by omega) (by omega), if_neg (by rw [b3]; decide), g1, Option.bind_some, chk_pos hib, e46, chk_pos (inb_nI (by omega) (by omega)), chk_pos hib, e47, chk_pos (inb_nI (by omega) (by omega)), nI_clamp (by omega), nI_clamp (by omega), g3 _ d1, g3 _ d2, ite_eqN (by omega) (by omega), if_neg (fun z => b4 (pj.mp z)), lete_eq, sh1 (by omega), orI, nI_1]
      rfl) (by
      rintro ⟨y, z, m1⟩ ⟨rfl, hz, he⟩
      dsimp only at hz he
      subst hz
      obtain ⟨a1, a2⟩ := ahd_ok hV K hok
      have a10 := hV.sl a1
      have hm1 := he.im hm
      by_cases hKt : K < t
      · have hbk := hbad hKt
        have hr : jans V c t K = nI K := by unfold jans; rw [if_pos hKt]
        obtain ⟨c1, c2⟩ := hc K hKt
        have e63 : m1.1 63 K = nI (c K) := by rw [he.1 63 (by decide)]; exact c2
        have hib : inb (nI (c K)) 11 := inb_nI (by omega) (by omega)
        simp only [bX9_judge_14]
        rw [ite_leN (by omega) (by omega), if_neg (by omega), chk_pos (inb_nI (by omega) (by omega)), nI_clamp (by omega), lete_eq, e63, m_isLane hV hm1]
        by_cases b1 : c K < V.2.1
        · have ok := hV.2.2.2 (c K) b1
          have r6 := ok.2.2.2.2.2.2.2.2
          have d1 := ok.2.1
          have d2 := ok.2.2.1
          have e51 : m1.1 51 (c K) = nI (V.2.2 (c K) 6) := hm1.at (k := 6) b1 (by decide)
          rw [lane_yes hV b1, Option.bind_some, if_pos rfl, chk_pos hib, nI_clamp (by omega), e51, show (2 : Int32) = nI 2 from rfl, ite_eqN (by omega) (by omega)]
          by_cases b2 : V.2.2 (c K) 6 = 2
          · rw [if_pos b2]
            exact ⟨_, rfl, m1, by rw [hr]; rfl, he⟩
          · rw [if_neg b2, ite_bit0 (by omega) (by omega)]
            by_cases b3 : (ahd c K).testBit (c K) = true
            · rw [if_pos b3]
              exact ⟨_, rfl, m1, by rw [hr]; rfl, he⟩
            · have b3' : (ahd c K).testBit (c K) = false := by simpa using b3
              obtain ⟨m2, g1, g2, g3⟩ := m_partsOf hF hV hm1 a1
              have hm2 := g2.im hm1
              have e46 : m2.1 46 (c K) = nI (V.2.2 (c K) 1) := hm2.at (k := 1) b1 (by decide)
              have e47 : m2.1 47 (c K) = nI (V.2.2 (c K) 2) := hm2.at (k := 2) b1 (by decide)
              have pb := pl_lt V.2.2 (ahd c K) V.1 V.2.1 hV.ends
              have p1 := pb _ d1
              have p2 := pb _ d2
              have pj := pl_lb V.2.2 (ahd c K) V.2.1 (V.2.2 (c K) 1) (V.2.2 (c K) 2)
              have heq : pl V.2.2 (ahd c K) V.2.1 (V.2.2 (c K) 1) = pl V.2.2 (ahd c K) V.2.1 (V.2.2 (c K) 2) := by
                rw [pj]
                unfold okJ at hbk
                rw [decide_eq_true b1, decide_eq_true b2, b3'] at hbk
                simpa using hbk
              rw [if_neg b3, g1, Option.bind_some, chk_pos hib, e46, chk_pos (inb_nI (by omega) (by omega)), chk_pos hib, e47, chk_pos (inb_nI (by omega) (by omega)), nI_clamp (by omega), nI_clamp (by omega), g3 _ d1, g3 _ d2, ite_eqN (by omega) (by omega), if_pos heq]
              exact ⟨_, rfl, m2, by rw [hr]; rfl, he.tr g2⟩
        · rw [lane_not hV b1 c1, Option.bind_some, if_neg (by decide)]
          exact ⟨_, rfl, m1, by rw [hr]; rfl, he⟩
      · have hKt2 : K = t := by omega
        subst hKt2
        obtain ⟨m2, g1, g2⟩ := m_isWay hF hV hm1 a1
        refine ⟨.inl (nI (ahd c K), nI K, m1), ?_, m2, ?_, he.tr g2⟩
        · simp only [bX9_judge_14]
          rw [ite_leN (by omega) (by omega), if_pos (by omega)]
        · show (gX9_isWay F m1 (nI (ahd c K))).bind _ = _
          rw [g1, Option.bind_some]
          unfold jans
          rw [if_neg hKt]
          dsimp only
          split <;> rfl) F 0 (0, 0, m) (Nat.zero_le _) (by omega) ⟨rfl, rfl, E57.rf m⟩
  obtain ⟨m', h3, h4⟩ := h2
  exact ⟨m', by rw [h1, Option.bind_some, h3], h4⟩
theorem first_bad (P : Nat → Bool) (t : Nat) : ∃ K, K ≤ t ∧ (∀ j, j < K → P j = true) ∧ (K < t → P K = false) := by
  induction t with
  | zero => exact ⟨0, Nat.le_refl _, fun j hj => absurd hj (by omega), fun h => absurd h (by omega)⟩
  | succ t ih =>
    obtain ⟨K, h1, h2, h3⟩ := ih
    by_cases hK : K < t
    · exact ⟨K, by omega, h2, fun _ => h3 hK⟩
    · have : K = t := by omega
      subst this
      cases hp : P K with
      | false => exact ⟨K, by omega, h2, fun _ => hp⟩
      | true =>
        refine ⟨K + 1, by omega, fun j hj => ?_, fun h => absurd h (by omega)⟩
        by_cases hj2 : j = K
        · subst hj2; exact hp
        · exact h2 j (by omega)
/-- the told row, as numbers -/
theorem IRo.told (h : IRo m) : ∃ (t : Nat) (c : Nat → Nat), t ≤ 10 ∧ m.1 35 3 = nI t ∧ m.1 43 34 = nI t ∧ ∀ i, i < t → c i ≤ 9 ∧ m.1 36 i = nI (c i) ∧ m.1 63 i = nI (c i) := by
  obtain ⟨t, ht, l1, l2, l3⟩ := h
  refine ⟨t, fun i => Int32.toNatClampNeg (m.1 36 i), ht, l1, l2, fun i hi => ?_⟩
  obtain ⟨c, c1, c2, c3⟩ := l3 i hi
  dsimp only
  rw [c2, nI_clamp (by omega)]
  exact ⟨c1, rfl, c3⟩
theorem pu_judge (hF : 2000 ≤ F) : PU_judge F (Inv PM PS) := by
  rintro m ⟨V, hI⟩
  obtain ⟨hV, hx, hm, hj, hw, hso, hle, him, hro, hre, hpq⟩ := id hI
  obtain ⟨t, c, ht, l1, l2, l3⟩ := hro.told
  obtain ⟨K, hK, hok, hbad⟩ := first_bad (fun i => okJ V (ahd c i) (c i)) t
  have hm2 : IM (mu (mu m 35 3 0) 43 34 0) V := hm.sm (by simp [mu_g]) (by simp [mu_g]) (fun k hk => by rw [mu_row _ _ (by omega), mu_row _ _ (by omega)])
  obtain ⟨m', g1, g2⟩ := m_judge hF hV hm2 ht hK (fun i hi => ⟨(l3 i hi).1, by rw [mu_ne _ _ (Or.inl (by decide)), mu_ne _ _ (Or.inl (by decide))]; exact (l3 i hi).2.2⟩) hok hbad
  refine ⟨jans V c t K, mu m 35 3 0, m', ?_, ?_, V, ?_⟩
  · rw [gX8_judge, x_judged hF hV hx hj ht hK l1 (fun i hi => ⟨(l3 i hi).1, (l3 i hi).2.1⟩) hok hbad, Option.bind_some]
    rfl
  · have e34 : (mu m 35 3 0).1 43 34 = nI t := by rw [mu_ne _ _ (Or.inl (by decide))]; exact l2
    rw [gX9_judge, lete_eq, e34, lete_eq, g1]
  · refine IAll.sm (m := mu (mu m 35 3 0) 43 34 0) ?_ g2.sm
    refine hI.row (fun j h1 h2 h3 h4 => by rw [mu_row _ _ h4, mu_row _ _ h1]) (fun k hk => by rw [mu_ne _ _ (Or.inr hk), mu_ne _ _ (Or.inl (by decide))]) ⟨0, by omega, by rw [mu_ne _ _ (Or.inl (by decide)), mu_same]; rfl, by rw [mu_same]; rfl, fun i hi => absurd hi (by omega)⟩
end
