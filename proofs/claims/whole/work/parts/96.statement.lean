section
variable {F : Nat} {m : Mem} {c : Nat → Nat} {t : Nat}
def stT (F : Nat) (m : Mem) (x7 : Int32) : Option (Bool × Mem) := (gX9_reads F m (x7 + 4) 2).bind (fun q16 => (if q16.1 = true then (gX9_isNext q16.2 44).bind (fun q17 => (if q17.1 = true then (gX9_reads F q17.2 (x7 + 5) 2).bind (fun q18 => (if q18.1 = true then (gX9_isNext q18.2 59).bind (fun q19 => some (q19.1, q19.2)) else some (false, q18.2))) else some (false, q17.2))) else some (false, q16.2)))
def stR (F : Nat) (x1 : Int32) (x7 : Int32) (m6 : Mem) : Option (Bool × Mem) := (gX9_reads F m6 x7 1).bind (fun q8 => (if q8.1 = true then (if x1 = 108 then (iter F (bX9_statement_97 F x7) (1, q8.2)).bind (fun e13 => Sum.elim (fun s15 => stT F s15.2 x7) (fun q => some q) e13) else (gX9_isNext q8.2 59).bind (fun q9 => some (q9.1, q9.2))) else some (false, q8.2)))
def stB (F : Nat) (m : Mem) (x1 : Int32) : Option (Bool × Mem) := chk (inb (m.1 43 16) 36) (lete (mu m 53 (Int32.toNatClampNeg (m.1 43 16)) x1) (fun m3 => chk (inb (m3.1 43 16) 36) (lete (mu m3 54 (Int32.toNatClampNeg (m3.1 43 16)) (m3.1 43 15)) (fun m5 => lete (mu m5 43 15 ((m5.1 43 15) + 1)) (fun m6 => lete (6 * (m6.1 43 16)) (fun x7 => stR F x1 x7 m6))))))
theorem st_is : gX9_statement F m = (gX9_next m).bind (fun x1 => (if x1 = 104 then stB F m x1 else (if x1 = 108 then stB F m x1 else (if x1 = 107 then stB F m x1 else (if x1 = 120 then stB F m x1 else (if x1 = 102 then stB F m x1 else some (false, m))))))) := rfl
theorem ac_bad {n p j P : Nat} {q d : Int32} {m1 : Mem} (h : AC c t n p j P m m1) (hg : ¬ dg c t P = true) : gX9_reads F m1 q d = some (false, m1) := m_readsNot h.1 hg
theorem ac_is {n p j P x : Nat} {m1 : Mem} (hx : x < 256) (h : AC c t n p j P m m1) : gX9_isNext m1 (nI x) = if ch c t x P = true then some (true, mu m1 43 15 (nI (P + 1))) else some (false, m1) := m_isNext hx h.1
/-- what comes of a statement -/
def SR (c : Nat → Nat) (t n p : Nat) (m : Mem) (r : Option (Bool × Mem)) (w : Bool × Nat) : Prop := ∃ m', r = some (w.1, m') ∧ TP c t w.2 m' ∧ ST n m m' ∧ (w.1 = true → m'.1 53 n = nI (c p) ∧ m'.1 54 n = nI p ∧ m'.1 55 (6 * n) = nI (val c t p 0) ∧ (c p = 108 → ∀ i, i < 6 → m'.1 55 (6 * n + i) = nI (val c t p i)))
theorem sr_bad {n p j P : Nat} {m1 : Mem} (h : AC c t n p j P m m1) : SR c t n p m (some (false, m1)) (false, P) := ⟨m1, rfl, h.1, h.2.1, fun z => by cases z⟩
theorem sr_lane {n p P : Nat} {m1 : Mem} (h : AC c t n p 6 P m m1) : SR c t n p m (some (true, m1)) (true, P) := ⟨m1, rfl, h.1, h.2.1, fun _ => ⟨h.2.2.2.1, h.2.2.2.2, h.2.2.1 0 (by omega), fun _ i hi => h.2.2.1 i hi⟩⟩
theorem sr_one {n p P : Nat} {m1 : Mem} (h : AC c t n p 1 P m m1) (hn : ¬ c p = 108) : SR c t n p m (some (true, m1)) (true, P) := ⟨m1, rfl, h.1, h.2.1, fun _ => ⟨h.2.2.2.1, h.2.2.2.2, h.2.2.1 0 (by omega), fun z => absurd z hn⟩⟩
theorem m_tail (hF : 2000 ≤ F) {n p : Nat} {m1 : Mem} (hn : n < 36) (h : AC c t n p 4 (p + 5) m m1) : SR c t n p m (stT F m1 (nI (6 * n))) (if dg c t (p + 5) = true then if ch c t 44 (kf c t p) = true then if dg c t (kf c t p + 1) = true then if ch c t 59 (ef c t p) = true then (true, ef c t p + 1) else (false, ef c t p) else (false, kf c t p + 1) else (false, kf c t p) else (false, p + 5)) := by
  have e4 : nI (6 * n) + 4 = nI (6 * n + 4) := nI_add (6 * n) 4
  have e5 : nI (6 * n) + 5 = nI (6 * n + 5) := nI_add (6 * n) 5
  rw [stT, e4, e5]
  by_cases d5 : dg c t (p + 5) = true
  · rw [if_pos d5]
    obtain ⟨m2, g1, g2⟩ := ac_read hF h hn (by omega) (Or.inr rfl) d5 rfl
    have hk : nd c t (p + 5) 2 = kf c t p := by
      unfold nd kf
      by_cases z : dg c t (p + 6) = true
      · rw [if_pos z, if_pos ⟨rfl, z⟩]
      · rw [if_neg z, if_neg (fun y => z y.2)]
    rw [hk] at g2
    have g1' : gX9_reads F m1 (nI (6 * n + 4)) 2 = some (true, m2) := g1
    rw [g1', Option.bind_some, if_pos rfl]
    have i1 : gX9_isNext m2 44 = _ := ac_is (x := 44) (by omega) g2
    rw [i1]
    by_cases e1 : ch c t 44 (kf c t p) = true
    · rw [if_pos e1, if_pos e1, Option.bind_some, if_pos rfl]
      have g3 := ac_next g2 (ch_iff.mp e1).1
      generalize mu m2 43 15 (nI (kf c t p + 1)) = m3 at g3 ⊢
      by_cases d7 : dg c t (kf c t p + 1) = true
      · rw [if_pos d7]
        obtain ⟨m4, j1, j2⟩ := ac_read hF g3 hn (by omega) (Or.inr rfl) d7 rfl
        have he : nd c t (kf c t p + 1) 2 = ef c t p := by
          unfold nd ef
          by_cases z : dg c t (kf c t p + 2) = true
          · rw [if_pos z, if_pos ⟨rfl, z⟩]
          · rw [if_neg z, if_neg (fun y => z y.2)]
        rw [he] at j2
        have j1' : gX9_reads F m3 (nI (6 * n + 5)) 2 = some (true, m4) := j1
        show SR c t n p m ((gX9_reads F m3 (nI (6 * n + 5)) 2).bind _) _
        rw [j1', Option.bind_some, if_pos rfl]
        have i2 : gX9_isNext m4 59 = _ := ac_is (x := 59) (by omega) j2
        show SR c t n p m ((gX9_isNext m4 59).bind _) _
        rw [i2]
        by_cases f1 : ch c t 59 (ef c t p) = true
        · rw [if_pos f1, if_pos f1, Option.bind_some]
          exact sr_lane (ac_next j2 (ch_iff.mp f1).1)
        · rw [if_neg f1, if_neg f1, Option.bind_some]
          exact sr_bad j2
      · rw [if_neg d7]
        show SR c t n p m ((gX9_reads F m3 (nI (6 * n + 5)) 2).bind _) _
        rw [ac_bad g3 d7, Option.bind_some, if_neg (fun z => by cases z)]
        exact sr_bad g3
    · rw [if_neg e1, if_neg e1, Option.bind_some, if_neg (fun z => by cases z)]
      exact sr_bad g2
  · rw [if_neg d5, ac_bad h d5, Option.bind_some, if_neg (fun z => by cases z)]
    exact sr_bad h
theorem lane_step (hF : 2000 ≤ F) {n p k : Nat} {m1 : Mem} (hn : n < 36) (hk : k < 4) (h : AC c t n p k (p + 1 + k) m m1) (hd : dg c t (p + 1 + k) = true) : ∃ m2, bX9_statement_97 F (nI (6 * n)) (nI k, m1) = some (.inl (nI (k + 1), m2)) ∧ AC c t n p (k + 1) (p + 1 + (k + 1)) m m2 := by
  have hv : vd c t (p + 1 + k) 1 = val c t p k := by
    have : k = 0 ∨ k = 1 ∨ k = 2 ∨ k = 3 := by omega
    unfold vd
    rw [if_neg (fun z => absurd z.1 (by decide))]
    rcases this with rfl | rfl | rfl | rfl <;> rfl
  obtain ⟨m2, g1, g2⟩ := ac_read hF h hn (by omega) (Or.inl rfl) hd hv
  have hnd : nd c t (p + 1 + k) 1 = p + 1 + (k + 1) := by
    unfold nd
    rw [if_neg (fun z => absurd z.1 (by decide))]
    omega
  rw [hnd] at g2
  refine ⟨m2, ?_, g2⟩
  have g1' : gX9_reads F m1 (nI (6 * n + k)) 1 = some (true, m2) := g1
  rw [bX9_statement_97, show (4 : Int32) = nI 4 from rfl, ite_leN (by omega) (by omega), if_neg (by omega), nI_add, g1', Option.bind_some, if_pos rfl, nI_1]
theorem lane_stop {n p k : Nat} {m1 : Mem} (hk : k < 4) (h : AC c t n p k (p + 1 + k) m m1) (hd : ¬ dg c t (p + 1 + k) = true) : bX9_statement_97 F (nI (6 * n)) (nI k, m1) = some (.inr (.inr (false, m1))) := by
  rw [bX9_statement_97, show (4 : Int32) = nI 4 from rfl, ite_leN (by omega) (by omega), if_neg (by omega), ac_bad h hd, Option.bind_some, if_neg (fun z => by cases z)]
theorem m_body (hF : 2000 ≤ F) {n p : Nat} {m1 : Mem} (hn : n < 36) (hc : c p ≤ 255) (h : AC c t n p 0 (p + 1) m m1) (hk : p < t ∧ (isQ (c p) = true ∨ c p = 108)) : SR c t n p m (stR F (nI (c p)) (nI (6 * n)) m1) (stm c t p) := by
  unfold stm
  rw [if_pos hk, stR]
  by_cases d1 : dg c t (p + 1) = true
  · rw [if_pos d1]
    obtain ⟨m2, g1, g2⟩ := ac_read hF h hn (by omega) (Or.inl rfl) d1 (by
      unfold vd
      rw [if_neg (fun z => absurd z.1 (by decide))]
      rfl)
    have hnd : nd c t (p + 1) 1 = p + 1 + 1 := by
      unfold nd
      rw [if_neg (fun z => absurd z.1 (by decide))]
    rw [hnd] at g2
    have g1' : gX9_reads F m1 (nI (6 * n)) 1 = some (true, m2) := g1
    rw [g1', Option.bind_some, if_pos rfl]
    by_cases c108 : c p = 108
    · rw [if_pos c108, if_pos (by rw [c108]; rfl)]
      show SR c t n p m ((iter F (bX9_statement_97 F (nI (6 * n))) (nI 1, m2)).bind _) _
      by_cases d2 : dg c t (p + 2) = true
      · rw [if_pos d2]
        obtain ⟨m3, s2, a3⟩ := lane_step hF (k := 1) hn (by omega) g2 d2
        rw [iter_in (by omega) s2]
        by_cases d3 : dg c t (p + 3) = true
        · rw [if_pos d3]
          obtain ⟨m4, s3, a4⟩ := lane_step hF (k := 2) hn (by omega) a3 d3
          rw [iter_in (by omega) s3]
          by_cases d4 : dg c t (p + 4) = true
          · rw [if_pos d4]
            obtain ⟨m5, s4, a5⟩ := lane_step hF (k := 3) hn (by omega) a4 d4
            have s5 : bX9_statement_97 F (nI (6 * n)) (nI 4, m5) = some (.inr (.inl (nI 4, m5))) := by
              rw [bX9_statement_97, if_pos (by decide)]
            rw [iter_in (by omega) s4, iter_out (by omega) s5, Option.bind_some]
            exact m_tail hF hn a5
          · rw [if_neg d4, iter_out (by omega) (lane_stop (k := 3) (by omega) a4 d4), Option.bind_some]
            exact sr_bad a4
        · rw [if_neg d3, iter_out (by omega) (lane_stop (k := 2) (by omega) a3 d3), Option.bind_some]
          exact sr_bad a3
      · rw [if_neg d2, iter_out (by omega) (lane_stop (k := 1) (by omega) g2 d2), Option.bind_some]
        exact sr_bad g2
    · have n108 : ¬ nI (c p) = 108 := fun z => c108 ((nI_eq (show c p < 2 ^ 31 by omega) (show 108 < 2 ^ 31 by omega)).mp z)
      rw [if_neg c108, if_neg n108]
      have i2 : gX9_isNext m2 59 = _ := ac_is (x := 59) (by omega) g2
      show SR c t n p m ((gX9_isNext m2 59).bind _) _
      rw [i2]
      by_cases f1 : ch c t 59 (p + 2) = true
      · rw [if_pos f1, if_pos f1, Option.bind_some]
        exact sr_one (ac_next g2 (ch_iff.mp f1).1) c108
      · rw [if_neg f1, if_neg f1, Option.bind_some]
        exact sr_bad g2
  · rw [if_neg d1, ac_bad h d1, Option.bind_some, if_neg (fun z => by cases z)]
    exact sr_bad h
theorem m_statement (hF : 2000 ≤ F) {n p : Nat} (hn : n < 36) (h : TP c t p m) (h16 : m.1 43 16 = nI n) : SR c t n p m (gX9_statement F m) (stm c t p) := by
  obtain ⟨y, g1, -, g3, g4⟩ := m_isDig h
  rw [st_is, g1, Option.bind_some]
  by_cases hl : p < t
  · have hc := (h.2.2.2.2 p hl).2
    rw [g3 hl, show (104 : Int32) = nI 104 from rfl, show (108 : Int32) = nI 108 from rfl, show (107 : Int32) = nI 107 from rfl, show (120 : Int32) = nI 120 from rfl, show (102 : Int32) = nI 102 from rfl, ite_eqN (by omega) (by omega), ite_eqN (by omega) (by omega), ite_eqN (by omega) (by omega), ite_eqN (by omega) (by omega), ite_eqN (by omega) (by omega)]
    by_cases hk : isQ (c p) = true ∨ c p = 108
    · have hst : SR c t n p m (stB F m (nI (c p))) (stm c t p) := by
        have ib : inb (nI n) 36 := inb_nI hn (by omega)
        have e1 : (mu m 53 n (nI (c p))).1 43 16 = nI n := by rw [mu_ne _ _ (Or.inl (by decide))]; exact h16
        have e2 : (mu m 53 n (nI (c p))).1 43 15 = nI p := by rw [mu_ne _ _ (Or.inl (by decide))]; exact h.2.1
        have e3 : (mu (mu m 53 n (nI (c p))) 54 n (nI p)).1 43 15 = nI p := by rw [mu_ne _ _ (Or.inl (by decide))]; exact e2
        have e4 : (mu (mu (mu m 53 n (nI (c p))) 54 n (nI p)) 43 15 (nI (p + 1))).1 43 16 = nI n := by rw [mu_ne _ _ (Or.inr (by decide)), mu_ne _ _ (Or.inl (by decide))]; exact e1
        rw [stB, h16, chk_pos ib, lete_eq, nI_clamp (by omega), e1, chk_pos ib, lete_eq, e2, nI_clamp (by omega), lete_eq, e3, nI_1, lete_eq, e4, show (6 : Int32) = nI 6 from rfl, pk_mul]
        refine m_body hF hn hc ⟨?_, ⟨fun q h1 h2 h3 h4 => ?_, fun k hk => ?_, fun q hq => ?_, fun i hi => ?_, rfl⟩, fun i hi => absurd hi (by omega), ?_, ?_⟩ ⟨hl, hk⟩
        · have t1 := h.move hl
          obtain ⟨w1, w2, w3, w4, w5⟩ := h
          refine ⟨?_, mu_same _ _ _ _, w3, by omega, fun i hi => ?_⟩
          · rw [mu_ne _ _ (Or.inr (by decide)), mu_ne _ _ (Or.inl (by decide)), mu_ne _ _ (Or.inl (by decide))]; exact w1
          · rw [mu_ne _ _ (Or.inl (by decide)), mu_ne _ _ (Or.inl (by decide)), mu_ne _ _ (Or.inl (by decide))]; exact w5 i hi
        · rw [mu_row _ _ h1, mu_row _ _ h3, mu_row _ _ h2]
        · rw [mu_ne _ _ (Or.inr hk), mu_ne _ _ (Or.inl (by decide)), mu_ne _ _ (Or.inl (by decide))]
        · constructor
          · rw [mu_ne _ _ (Or.inl (by decide)), mu_ne _ _ (Or.inl (by decide)), mu_ne _ _ (Or.inr hq)]
          · rw [mu_ne _ _ (Or.inl (by decide)), mu_ne _ _ (Or.inr hq), mu_ne _ _ (Or.inl (by decide))]
        · rw [mu_ne _ _ (Or.inl (by decide)), mu_ne _ _ (Or.inl (by decide)), mu_ne _ _ (Or.inl (by decide))]
        · rw [mu_ne _ _ (Or.inl (by decide)), mu_ne _ _ (Or.inl (by decide)), mu_same]
        · rw [mu_ne _ _ (Or.inl (by decide)), mu_same]
      (repeat' split)
      · exact hst
      · exact hst
      · exact hst
      · exact hst
      · exact hst
      · exfalso
        unfold isQ at hk
        simp only [Bool.or_eq_true, decide_eq_true_eq] at hk
        omega
    · have hq : ¬ isQ (c p) = true := fun z => hk (Or.inl z)
      unfold isQ at hq
      simp only [Bool.or_eq_true, decide_eq_true_eq] at hq
      rw [if_neg (by omega), if_neg (fun z => hk (Or.inr z)), if_neg (by omega), if_neg (by omega), if_neg (by omega)]
      have hs : stm c t p = (false, p) := by
        unfold stm
        rw [if_neg (fun z => hk z.2)]
      rw [hs]
      exact ⟨m, rfl, h, ST.rf n m, fun z => by cases z⟩
  · rw [g4 hl, if_neg (by decide), if_neg (by decide), if_neg (by decide), if_neg (by decide), if_neg (by decide)]
    have hs : stm c t p = (false, p) := by
      unfold stm
      rw [if_neg (fun z => hl z.1)]
    rw [hs]
    exact ⟨m, rfl, h, ST.rf n m, fun z => by cases z⟩
end
