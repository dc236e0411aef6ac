section
variable {F : Nat} {m : Mem} {V : Vd} {c : Nat → Nat} {t : Nat}
theorem stm_lane {p : Nat} (h : (stm c t p).1 = true) (h8 : c p = 108) : p < t ∧ dg c t (p + 1) = true ∧ dg c t (p + 2) = true ∧ dg c t (p + 3) = true ∧ dg c t (p + 4) = true ∧ dg c t (p + 5) = true ∧ ch c t 44 (kf c t p) = true ∧ dg c t (kf c t p + 1) = true ∧ ch c t 59 (ef c t p) = true ∧ (stm c t p).2 = ef c t p + 1 := by
  unfold stm at h ⊢
  by_cases c1 : p < t ∧ (isQ (c p) = true ∨ c p = 108)
  · rw [if_pos c1] at h ⊢
    by_cases d1 : dg c t (p + 1) = true
    · rw [if_pos d1, if_pos h8] at h ⊢
      by_cases d2 : dg c t (p + 2) = true
      · rw [if_pos d2] at h ⊢
        by_cases d3 : dg c t (p + 3) = true
        · rw [if_pos d3] at h ⊢
          by_cases d4 : dg c t (p + 4) = true
          · rw [if_pos d4] at h ⊢
            by_cases d5 : dg c t (p + 5) = true
            · rw [if_pos d5] at h ⊢
              by_cases e1 : ch c t 44 (kf c t p) = true
              · rw [if_pos e1] at h ⊢
                by_cases d7 : dg c t (kf c t p + 1) = true
                · rw [if_pos d7] at h ⊢
                  by_cases f1 : ch c t 59 (ef c t p) = true
                  · rw [if_pos f1]
                    exact ⟨c1.1, d1, d2, d3, d4, d5, e1, d7, f1, rfl⟩
                  · rw [if_neg f1] at h; cases h
                · rw [if_neg d7] at h; cases h
              · rw [if_neg e1] at h; cases h
            · rw [if_neg d5] at h; cases h
          · rw [if_neg d4] at h; cases h
        · rw [if_neg d3] at h; cases h
      · rw [if_neg d2] at h; cases h
    · rw [if_neg d1] at h; cases h
  · rw [if_neg c1] at h; cases h
theorem stm_one {p : Nat} (h : (stm c t p).1 = true) (h8 : ¬ c p = 108) : p < t ∧ isQ (c p) = true ∧ dg c t (p + 1) = true ∧ ch c t 59 (p + 2) = true ∧ (stm c t p).2 = p + 3 := by
  unfold stm at h ⊢
  by_cases c1 : p < t ∧ (isQ (c p) = true ∨ c p = 108)
  · rw [if_pos c1] at h ⊢
    by_cases d1 : dg c t (p + 1) = true
    · rw [if_pos d1, if_neg h8] at h ⊢
      by_cases f1 : ch c t 59 (p + 2) = true
      · rw [if_pos f1]
        exact ⟨c1.1, c1.2.resolve_right h8, d1, f1, rfl⟩
      · rw [if_neg f1] at h; cases h
    · rw [if_neg d1] at h; cases h
  · rw [if_neg c1] at h; cases h
theorem dgt_b {x : Nat} (h : dgt x = true) : 48 ≤ x ∧ x ≤ 57 := by
  unfold dgt at h
  simpa using h
theorem vd_le {p : Nat} (h : dg c t p = true) : vd c t p 2 ≤ 99 := by
  have a := dgt_b (dg_iff.mp h).2
  unfold vd
  by_cases e : 2 = 2 ∧ dg c t (p + 1) = true
  · rw [if_pos e]
    have b := dgt_b (dg_iff.mp e.2).2
    omega
  · rw [if_neg e]; omega
theorem val_lane {p : Nat} (h : (stm c t p).1 = true) (h8 : c p = 108) : ∀ i, val c t p i ≤ 99 := by
  obtain ⟨-, d1, d2, d3, d4, d5, -, d7, -, -⟩ := stm_lane h h8
  have a1 := dgt_b (dg_iff.mp d1).2
  have a2 := dgt_b (dg_iff.mp d2).2
  have a3 := dgt_b (dg_iff.mp d3).2
  have a4 := dgt_b (dg_iff.mp d4).2
  have v4 := vd_le d5
  have v5 := vd_le d7
  intro i
  match i with
  | 0 => show c (p + 1) - 48 ≤ 99; omega
  | 1 => show c (p + 2) - 48 ≤ 99; omega
  | 2 => show c (p + 3) - 48 ≤ 99; omega
  | 3 => show c (p + 4) - 48 ≤ 99; omega
  | 4 => exact v4
  | _ + 5 => exact v5
theorem val_0 {p : Nat} (h : (stm c t p).1 = true) : val c t p 0 ≤ 9 := by
  have d1 : dg c t (p + 1) = true := by
    by_cases h8 : c p = 108
    · exact (stm_lane h h8).2.1
    · exact (stm_one h h8).2.2.1
  have a1 := dgt_b (dg_iff.mp d1).2
  show c (p + 1) - 48 ≤ 9
  omega
theorem x_letterAt (hl : LX c t m) {i : Nat} (hi : i < 1000) : gX3_letterAt m (nI i) = some (nI (if i < t then c i else 0)) := by
  obtain ⟨h1, h72, hc⟩ := hl
  rw [gX3_letterAt, if_neg (nI_pos (by omega)), h1, ite_leN (by omega) (by omega), show (72 : Int32) = nI 72 from rfl, ite_leN (by omega) (by omega)]
  by_cases c1 : i < t
  · rw [if_neg (by omega), if_neg (by omega), if_pos c1, chk_pos (inb_nI (by omega) (by omega)), nI_clamp (by omega), (hc i c1).1]
  · rw [if_pos (by omega), if_neg c1]; rfl
theorem x_isDig {x : Nat} (hx : x < 1000) : gX3_isDigit (nI x) = some (dgt x) := by
  rw [gX3_isDigit, show (48 : Int32) = nI 48 from rfl, show (57 : Int32) = nI 57 from rfl, ite_ltN (by omega) (by omega), ite_ltN (by omega) (by omega)]
  unfold dgt
  by_cases a : x < 48
  · have : ¬ 48 ≤ x := by omega
    rw [if_pos a]; simp [this]
  · rw [if_neg a]
    have a2 : 48 ≤ x := by omega
    by_cases b : 57 < x
    · have : ¬ x ≤ 57 := by omega
      rw [if_pos b]; simp [this]
    · have : x ≤ 57 := by omega
      rw [if_neg b]; simp [this, a2]
theorem x_digitAt (hl : LX c t m) {i : Nat} (hd : dg c t i = true) : gX3_digitAt m (nI i) = some (nI (c i - 48)) := by
  obtain ⟨h1, h2⟩ := dg_iff.mp hd
  have := dgt_b h2
  have h72 := hl.2.1
  rw [gX3_digitAt, x_letterAt hl (by omega), if_pos h1, Option.bind_some, show (48 : Int32) = nI 48 from rfl, pk_sub (by omega)]
theorem num_step (hl : LX c t m) {i e v : Nat} (hi : i < e) (he : e < 1000) (hd : dg c t i = true) : bX3_number_5 m (nI e) (nI v, nI i) = some (.inl (nI (v * 10 + (c i - 48)), nI (i + 1))) := by
  obtain ⟨h1, h2⟩ := dg_iff.mp hd
  have hb := dgt_b h2
  rw [bX3_number_5, ite_leN (by omega) (by omega), if_neg (by omega), x_letterAt hl (by omega), if_pos h1, Option.bind_some, x_isDig (by omega), h2, Option.bind_some, if_pos rfl, x_digitAt hl hd, Option.bind_some, lete_eq, show (10 : Int32) = nI 10 from rfl, pk_mul, nI_add, nI_1]
theorem num_end {e v : Nat} (he : e < 1000) : bX3_number_5 m (nI e) (nI v, nI e) = some (.inr (nI v, nI e)) := by
  rw [bX3_number_5, ite_leN (by omega) (by omega), if_pos (Nat.le_refl _)]
theorem x_numV (hF : 2000 ≤ F) (hl : LX c t m) {p : Nat} (hd : dg c t p = true) : gX3_number F m (nI p) (nI (nd c t p 2)) = some (nI (vd c t p 2)) := by
  have h1 := (dg_iff.mp hd).1
  have h72 := hl.2.1
  unfold nd vd
  by_cases e : 2 = 2 ∧ dg c t (p + 1) = true
  · rw [if_pos e, if_pos e]
    have s1 := num_step hl (v := 0) (show p < p + 2 by omega) (by omega) hd
    rw [Nat.zero_mul, Nat.zero_add] at s1
    have s2 := num_step hl (v := c p - 48) (show p + 1 < p + 2 by omega) (by omega) e.2
    have s3 := num_end (m := m) (e := p + 2) (v := (c p - 48) * 10 + (c (p + 1) - 48)) (by omega)
    have hit : iter F (bX3_number_5 m (nI (p + 2))) (0, nI p) = some (nI ((c p - 48) * 10 + (c (p + 1) - 48)), nI (p + 2)) := by
      show iter F (bX3_number_5 m (nI (p + 2))) (nI 0, nI p) = _
      rw [iter_in (by omega) s1, iter_in (by omega) s2, iter_out (by omega) s3]
    rw [gX3_number, hit, Option.bind_some, Nat.mul_comm]
  · rw [if_neg e, if_neg e]
    have s1 := num_step hl (v := 0) (show p < p + 1 by omega) (by omega) hd
    rw [Nat.zero_mul, Nat.zero_add] at s1
    have s3 := num_end (m := m) (e := p + 1) (v := c p - 48) (by omega)
    have hit : iter F (bX3_number_5 m (nI (p + 1))) (0, nI p) = some (nI (c p - 48), nI (p + 1)) := by
      show iter F (bX3_number_5 m (nI (p + 1))) (nI 0, nI p) = _
      rw [iter_in (by omega) s1, iter_out (by omega) s3]
    rw [gX3_number, hit, Option.bind_some]
theorem x_num1 (hF : 2000 ≤ F) (hl : LX c t m) {p : Nat} (hd : dg c t p = true) : gX3_number F m (nI p) (nI (p + 1)) = some (nI (c p - 48)) := by
  have h1 := (dg_iff.mp hd).1
  have h72 := hl.2.1
  have s1 := num_step hl (v := 0) (show p < p + 1 by omega) (by omega) hd
  rw [Nat.zero_mul, Nat.zero_add] at s1
  have s3 := num_end (m := m) (e := p + 1) (v := c p - 48) (by omega)
  have hit : iter F (bX3_number_5 m (nI (p + 1))) (0, nI p) = some (nI (c p - 48), nI (p + 1)) := by
    show iter F (bX3_number_5 m (nI (p + 1))) (nI 0, nI p) = _
    rw [iter_in (by omega) s1, iter_out (by omega) s3]
  rw [gX3_number, hit, Option.bind_some]
theorem x_numAny (hF : 2000 ≤ F) (hl : LX c t m) {p e : Nat} (hp : p ≤ e) (he : e ≤ t) : ∃ x, gX3_number F m (nI p) (nI e) = some x := by
  have h72 := hl.2.1
  obtain ⟨d, k1, -⟩ := iter_inv (f := bX3_number_5 m (nI e)) (fun i q => ∃ v, q = (nI v, nI (p + i))) (e - p) (fun _ => True) (by
      rintro i q hi ⟨v, rfl⟩
      by_cases hd : dg c t (p + i) = true
      · exact Or.inl ⟨_, num_step hl (by omega) (by omega) hd, _, rfl⟩
      · refine Or.inr ⟨(nI v, nI (p + i)), ?_, trivial⟩
        have hlt : p + i < t := by omega
        have hc := (hl.2.2 (p + i) hlt).2
        have hdg : dgt (c (p + i)) = false := by
          cases hx : dgt (c (p + i)) with
          | false => rfl
          | true => exact absurd (dg_iff.mpr ⟨hlt, hx⟩) hd
        rw [bX3_number_5, ite_leN (by omega) (by omega), if_neg (by omega), x_letterAt hl (by omega), if_pos hlt, Option.bind_some, x_isDig (by omega), hdg, Option.bind_some, if_neg (fun z => by cases z)]) (by
      rintro q ⟨v, rfl⟩
      rw [show p + (e - p) = e by omega]
      exact ⟨_, num_end (by omega), trivial⟩) F 0 (nI 0, nI p) (Nat.zero_le _) (by omega) ⟨0, rfl⟩
  refine ⟨d.1, ?_⟩
  have k1' : iter F (bX3_number_5 m (nI e)) (0, nI p) = some d := k1
  rw [gX3_number, k1', Option.bind_some]
theorem x_tellLane (hF : 2000 ≤ F) (hV : okV V) (hl : LX c t m) (hx : IX m 8 V) {p : Nat} (h : (stm c t p).1 = true) (h8 : c p = 108) : ∃ m', gX3_tellLane F m (nI p) (nI (ef c t p)) = some (apO V 108 (val c t p), m') ∧ EC 8 m m' ∧ (apO V 108 (val c t p) = true → IX m' 8 (addV V (val c t p))) := by
  have hv := val_lane h h8
  obtain ⟨hp, d1, d2, d3, d4, d5, e1, d7, f1, -⟩ := stm_lane h h8
  have h72 := hl.2.1
  have l5 := (dg_iff.mp d5).1
  obtain ⟨m', a1, a2, a3⟩ := x_addLane hV hx (v := val c t p) (fun i => by have := hv i; omega) (hv 4) (hv 5)
  refine ⟨m', ?_, a2, a3⟩
  have n1 := x_digitAt hl d1
  have n2 := x_digitAt hl d2
  have n3 := x_digitAt hl d3
  have n4 := x_digitAt hl d4
  have n5 := x_numV hF hl d5
  have n6 := x_numV hF hl d7
  have hk : nd c t (p + 5) 2 = kf c t p := by
    unfold nd kf
    by_cases z : dg c t (p + 6) = true
    · rw [if_pos z, if_pos ⟨rfl, z⟩]
    · rw [if_neg z, if_neg (fun y => z y.2)]
  have he : nd c t (kf c t p + 1) 2 = ef c t p := by
    unfold nd ef
    by_cases z : dg c t (kf c t p + 2) = true
    · rw [if_pos z, if_pos ⟨rfl, z⟩]
    · rw [if_neg z, if_neg (fun y => z y.2)]
  rw [hk] at n5
  rw [he] at n6
  have a1' : gX6_addLane m 8 (nI (c (p + 1) - 48)) (nI (c (p + 2) - 48)) (nI (c (p + 3) - 48)) (nI (c (p + 4) - 48)) (nI (vd c t (p + 5) 2)) (nI (vd c t (kf c t p + 1) 2)) = some (apO V 108 (val c t p), m') := a1
  have s1 : nI p + 1 = nI (p + 1) := nI_1 p
  have s2 : nI p + 2 = nI (p + 2) := nI_add p 2
  have s3 : nI p + 3 = nI (p + 3) := nI_add p 3
  have s4 : nI p + 4 = nI (p + 4) := nI_add p 4
  have s5 : nI p + 5 = nI (p + 5) := nI_add p 5
  have s6 : nI p + 6 = nI (p + 6) := nI_add p 6
  rw [gX3_tellLane, lete_eq, s1, s2, s3, s4, s5, s6, x_letterAt hl (by omega), Option.bind_some, show (44 : Int32) = nI 44 from rfl]
  by_cases z : dg c t (p + 6) = true
  · have hkf : kf c t p = p + 7 := by unfold kf; rw [if_pos z]
    have hc := (dgt_59 (dg_iff.mp z).2).2
    have hb := dgt_b (dg_iff.mp z).2
    rw [if_pos (dg_iff.mp z).1, ite_eqN (by omega) (by omega), if_neg hc, n1, Option.bind_some, n2, Option.bind_some, n3, Option.bind_some, n4, Option.bind_some, nI_1, show p + 6 + 1 = kf c t p by omega, n5, Option.bind_some, nI_1, n6, Option.bind_some, a1']
    rfl
  · have hkf : kf c t p = p + 6 := by unfold kf; rw [if_neg z]
    have hc := ch_iff.mp e1
    rw [hkf] at hc
    rw [if_pos hc.1, hc.2, if_pos rfl, n1, Option.bind_some, n2, Option.bind_some, n3, Option.bind_some, n4, Option.bind_some, show p + 6 = kf c t p by omega, n5, Option.bind_some, nI_1, n6, Option.bind_some, a1']
    rfl
theorem x_tellOne (hF : 2000 ≤ F) (hV : okV V) (hl : LX c t m) (hx : IX m 8 V) {p e : Nat} (h : (stm c t p).1 = true) (he : (stm c t p).2 = e + 1) : ∃ m', gX3_tellOne F m (nI p) (nI e) = some (apO V (c p) (val c t p), m') ∧ EC 8 m m' ∧ (apO V (c p) (val c t p) = true → IX m' 8 (apV V (c p) (val c t p))) := by
  have h72 := hl.2.1
  have v0 := val_0 h
  by_cases h8 : c p = 108
  · obtain ⟨hp, d1, d2, d3, d4, d5, e1, d7, f1, e2⟩ := stm_lane h h8
    have hee : e = ef c t p := by omega
    have l9 := (ch_iff.mp f1).1
    have hke : p + 1 ≤ ef c t p := by
      have : p + 6 ≤ kf c t p := by unfold kf; split <;> omega
      have : kf c t p + 2 ≤ ef c t p := by unfold ef; split <;> omega
      omega
    obtain ⟨x1, hx1⟩ := x_numAny hF hl (p := p + 1) (e := e) (by omega) (by omega)
    obtain ⟨m', a1, a2, a3⟩ := x_tellLane hF hV hl hx h h8
    refine ⟨m', ?_, a2, ?_⟩
    · rw [gX3_tellOne, nI_1, hx1, Option.bind_some, x_letterAt hl (by omega), if_pos hp, Option.bind_some, h8, if_neg (by decide), if_neg (by decide), if_neg (by decide), if_neg (by decide), hee, a1]
      rfl
    · rw [h8]
      exact a3
  · obtain ⟨hp, hq, d1, f1, e2⟩ := stm_one h h8
    have hee : e = p + 2 := by omega
    have n1 := x_num1 hF hl d1
    have n1' : gX3_number F m (nI (p + 1)) (nI e) = some (nI (val c t p 0)) := by rw [hee]; exact n1
    have hq2 := hq
    unfold isQ at hq2
    simp only [Bool.or_eq_true, decide_eq_true_eq] at hq2
    rw [gX3_tellOne, nI_1, n1', Option.bind_some, x_letterAt hl (by omega), if_pos hp, Option.bind_some]
    rcases hq2 with q | q | q | q
    · obtain ⟨m', g1, g2, g3⟩ := x_tellRule hV hx (L := val c t p 0) (x := 0) (by omega) (by omega)
      have g1' : gX3_tellRule m (nI (val c t p 0)) 0 = _ := g1
      refine ⟨m', ?_, g2, ?_⟩
      · rw [q, if_pos (by decide), g1', Option.bind_some]
        rfl
      · rw [q]
        intro z
        exact g3 (of_decide_eq_true z)
    · obtain ⟨m', g1, g2, g3⟩ := x_setHouses hF hV hx (x := val c t p 0) (by omega)
      refine ⟨m', ?_, g2, ?_⟩
      · rw [q, if_neg (by decide), if_pos (by decide), g1, Option.bind_some]
        rfl
      · rw [q]
        intro z
        exact g3 (of_decide_eq_true z)
    · obtain ⟨m', g1, g2, g3⟩ := x_tellRule hV hx (L := val c t p 0) (x := 1) (by omega) (by omega)
      have g1' : gX3_tellRule m (nI (val c t p 0)) 1 = _ := g1
      refine ⟨m', ?_, g2, ?_⟩
      · rw [q, if_neg (by decide), if_neg (by decide), if_pos (by decide), g1', Option.bind_some]
        rfl
      · rw [q]
        intro z
        exact g3 (of_decide_eq_true z)
    · obtain ⟨m', g1, g2, g3⟩ := x_tellRule hV hx (L := val c t p 0) (x := 2) (by omega) (by omega)
      have g1' : gX3_tellRule m (nI (val c t p 0)) 2 = _ := g1
      refine ⟨m', ?_, g2, ?_⟩
      · rw [q, if_neg (by decide), if_neg (by decide), if_neg (by decide), if_pos (by decide), g1', Option.bind_some]
        rfl
      · rw [q]
        intro z
        exact g3 (of_decide_eq_true z)
end
