/-! ===== the best plans, of the reference ===== -/
section
variable {F : Nat} {m : Mem} {V : Vd}
def ER (m m' : Mem) : Prop := (∀ j, j ≠ 57 → j ≠ 60 → j ≠ 61 → j ≠ 62 → j ≠ 43 → m'.1 j = m.1 j) ∧ ∀ k, (k < 28 ∨ 31 < k) → m'.1 43 k = m.1 43 k
theorem ER.rf (m : Mem) : ER m m := ⟨fun _ _ _ _ _ _ => rfl, fun _ _ => rfl⟩
theorem ER.tr {a b c : Mem} (h : ER a b) (g : ER b c) : ER a c := ⟨fun j h1 h2 h3 h4 h5 => (g.1 j h1 h2 h3 h4 h5).trans (h.1 j h1 h2 h3 h4 h5), fun k hk => (g.2 k hk).trans (h.2 k hk)⟩
theorem E57.er {m m' : Mem} (h : E57 m m') : ER m m' := ⟨fun j h1 _ _ _ _ => h.1 j h1, fun k _ => by rw [h.1 43 (by decide)]⟩
theorem ER.im {m m' : Mem} (h : ER m m') (hm : IM m V) : IM m' V := hm.sm (h.2 8 (by decide)) (h.2 9 (by decide)) (fun k hk => h.1 _ (by omega) (by omega) (by omega) (by omega) (by omega))
theorem ER.sm {m m' : Mem} (h : ER m m') : Sm m m' := ⟨fun j hj => h.1 j (fun e => by subst e; cases hj) (fun e => by subst e; cases hj) (fun e => by subst e; cases hj) (fun e => by subst e; cases hj) (fun e => by subst e; cases hj), fun k hk => h.2 k (by
  unfold rdF at hk
  simp only [Bool.or_eq_true, decide_eq_true_eq] at hk
  omega), fun k _ => by rw [h.1 56 (by decide) (by decide) (by decide) (by decide) (by decide)]⟩
theorem ER.mu43 {m : Mem} {k : Nat} {v : Int32} (h : 28 ≤ k ∧ k ≤ 31) : ER m (mu m 43 k v) := ⟨fun j _ _ _ _ h5 => mu_row _ _ h5, fun q hq => mu_ne _ _ (Or.inr (by omega))⟩
theorem ER.mu {m : Mem} {j k : Nat} {v : Int32} (h : 60 ≤ j ∧ j ≤ 62) : ER m (mu m j k v) := ⟨fun i _ _ _ _ _ => mu_row _ _ (by omega), fun q hq => mu_ne _ _ (Or.inl (by omega))⟩
/-- the first c pairs of houses are told -/
def PRa (h c : Nat) (m : Mem) : Prop := m.1 43 28 = nI c ∧ ∀ l, l < c → m.1 60 l = nI ((Vp h).2.2 l 1) ∧ m.1 61 l = nI ((Vp h).2.2 l 2)
theorem PRa.of {h c : Nat} {m m' : Mem} (hp : PRa h c m) (h0 : m'.1 43 28 = m.1 43 28) (h1 : m'.1 60 = m.1 60) (h2 : m'.1 61 = m.1 61) : PRa h c m' := by
  unfold PRa at hp ⊢
  rw [h0, h1, h2]
  exact hp
def pst (m : Mem) (c a b : Nat) : Mem := mu (mu (mu m 60 c (nI a)) 61 c (nI b)) 43 28 (nI (c + 1))
theorem pst_er {c a b : Nat} : ER m (pst m c a b) := ((ER.mu (by decide)).tr (ER.mu (by decide))).tr (ER.mu43 (by decide))
theorem pst_ok {h c a b : Nat} (hp : PRa h c m) (ha : (Vp h).2.2 c 1 = a) (hb : (Vp h).2.2 c 2 = b) : PRa h (c + 1) (pst m c a b) := by
  have e60 : ∀ l, (pst m c a b).1 60 l = if l = c then nI a else m.1 60 l := fun l => by
    unfold pst
    rw [mu_ne _ _ (Or.inl (by decide)), mu_ne _ _ (Or.inl (by decide)), mu_g, if_pos rfl]
  have e61 : ∀ l, (pst m c a b).1 61 l = if l = c then nI b else m.1 61 l := fun l => by
    unfold pst
    rw [mu_ne _ _ (Or.inl (by decide)), mu_g, if_pos rfl, mu_ne _ _ (Or.inl (by decide))]
  refine ⟨mu_same _ _ _ _, fun l hl => ?_⟩
  rw [e60, e61]
  by_cases e : l = c
  · subst e
    rw [if_pos rfl, if_pos rfl, ha, hb]
    exact ⟨rfl, rfl⟩
  · rw [if_neg e, if_neg e]
    exact hp.2 l (by omega)
theorem m_pairsIn (hF : 2000 ≤ F) {h a : Nat} (h2 : 2 ≤ h) (h5 : h ≤ 5) (ha : a < h) (h8 : m.1 43 8 = nI h) (hp : PRa h (off h a) m) : ∃ e, iter F (bX9_plan_95 (nI a)) (nI (a + 1), m) = some e ∧ ER m e.2 ∧ PRa h (off h (a + 1)) e.2 := by
  exact iter_inv (f := bX9_plan_95 (nI a)) (fun i q => q.1 = nI (a + 1 + i) ∧ ER m q.2 ∧ PRa h (off h a + i) q.2) (h - 1 - a) (fun e => ER m e.2 ∧ PRa h (off h (a + 1)) e.2) (by
      rintro i ⟨y, m1⟩ hi ⟨rfl, he, hw⟩
      dsimp only at he hw
      refine Or.inl ?_
      have e8 : m1.1 43 8 = nI h := by rw [he.2 8 (by decide)]; exact h8
      obtain ⟨v1, v2, v3⟩ := Vp_at (a := a) (b := a + 1 + i) h2 h5 (by omega) (by omega)
      rw [show a + 1 + i - a - 1 = i by omega] at v1 v2 v3
      have hn := (Vp_ok h2 h5).2.2.1
      have hib : inb (nI (off h a + i)) 10 := inb_nI (by omega) (by omega)
      have e1 : (mu m1 60 (off h a + i) (nI a)).1 43 28 = nI (off h a + i) := by rw [mu_ne _ _ (Or.inl (by decide))]; exact hw.1
      have e2 : (mu (mu m1 60 (off h a + i) (nI a)) 61 (off h a + i) (nI (a + 1 + i))).1 43 28 = nI (off h a + i) := by rw [mu_ne _ _ (Or.inl (by decide))]; exact e1
      rw [bX9_plan_95, e8, ite_leN (by omega) (by omega), if_neg (by omega), hw.1, chk_pos hib, lete_eq, nI_clamp (by omega), e1, chk_pos hib, lete_eq, nI_clamp (by omega), lete_eq, e2, nI_1, nI_1]
      exact ⟨_, rfl, rfl, he.tr pst_er, pst_ok hw v2 v3⟩) (by
      rintro ⟨y, m1⟩ ⟨rfl, he, hw⟩
      dsimp only at he hw
      have e8 : m1.1 43 8 = nI h := by rw [he.2 8 (by decide)]; exact h8
      refine ⟨(nI (a + 1 + (h - 1 - a)), m1), ?_, he, hw⟩
      rw [bX9_plan_95, e8, ite_leN (by omega) (by omega), if_pos (by omega)]) F 0 (nI (a + 1), m) (Nat.zero_le _) (by omega) ⟨rfl, ER.rf _, hp⟩
theorem m_pairs (hF : 2000 ≤ F) {h : Nat} (h2 : 2 ≤ h) (h5 : h ≤ 5) (h8 : m.1 43 8 = nI h) (hp : PRa h 0 m) : ∃ e, iter F (bX9_plan_80 F) (nI 0, m) = some e ∧ ER m e.2 ∧ PRa h (Vp h).2.1 e.2 := by
  exact iter_inv (f := bX9_plan_80 F) (fun a q => q.1 = nI a ∧ ER m q.2 ∧ PRa h (off h a) q.2) h (fun e => ER m e.2 ∧ PRa h (Vp h).2.1 e.2) (by
      rintro a ⟨y, m1⟩ ha ⟨rfl, he, hw⟩
      dsimp only at he hw
      refine Or.inl ?_
      have e8 : m1.1 43 8 = nI h := by rw [he.2 8 (by decide)]; exact h8
      obtain ⟨e, g1, g2, g3⟩ := m_pairsIn hF h2 h5 ha e8 hw
      rw [bX9_plan_80, e8, ite_leN (by omega) (by omega), if_neg (by omega), lete_eq, nI_1, g1, Option.bind_some]
      exact ⟨_, rfl, rfl, he.tr g2, g3⟩) (by
      rintro ⟨y, m1⟩ ⟨rfl, he, hw⟩
      dsimp only at he hw
      have e8 : m1.1 43 8 = nI h := by rw [he.2 8 (by decide)]; exact h8
      refine ⟨(nI h, m1), ?_, he, ?_⟩
      · rw [bX9_plan_80, e8, ite_leN (by omega) (by omega), if_pos (by omega)]
      · rw [← (Vp_n h2 h5).2]
        exact hw) F 0 (nI 0, m) (Nat.zero_le _) (by omega) ⟨rfl, ER.rf _, hp⟩
theorem E57.pra {h c : Nat} {m m' : Mem} (he : E57 m m') (hp : PRa h c m) : PRa h c m' := hp.of (by rw [he.1 43 (by decide)]) (he.1 60 (by decide)) (he.1 61 (by decide))
theorem jo88 : bX9_doJoin_88 = bX9_partsOf_88 := rfl
theorem jo2 : bX9_doJoin_2 = bX9_partsOf_2 := rfl
theorem m_own (hF : 2000 ≤ F) (h : okV V) (hm : IM m V) : ∃ e, iter F bX9_partsOf_2 (nI 0, m) = some e ∧ E57 m e.2 ∧ ∀ g, g < V.1 → e.2.1 57 g = nI g := by
  have hH := h.2.1
  exact iter_inv (f := bX9_partsOf_2) (fun i s => s.1 = nI i ∧ E57 m s.2 ∧ ∀ g, g < i → s.2.1 57 g = nI g) V.1 (fun e => E57 m e.2 ∧ ∀ g, g < V.1 → e.2.1 57 g = nI g) (by
      rintro i ⟨y, m1⟩ hi ⟨rfl, he, hv⟩
      dsimp only at he hv
      have hib : inb (nI i) 7 := inb_nI (by omega) (by omega)
      refine Or.inl ?_
      simp only [bX9_partsOf_2, lete, chk_pos hib]
      rw [(he.im hm).1, ite_leN (by omega) (by omega), if_neg (by omega), nI_clamp (by omega)]
      refine ⟨_, rfl, nI_1 i, he.tr E57.mu, fun g hg => ?_⟩
      rw [mu_g]
      by_cases eg : g = i
      · subst eg; simp
      · simp [eg, hv g (by omega)]) (by
      rintro ⟨y, m1⟩ ⟨rfl, he, hv⟩
      dsimp only at he hv
      refine ⟨(nI V.1, m1), ?_, he, hv⟩
      simp only [bX9_partsOf_2]
      rw [(he.im hm).1, ite_leN (by omega) (by omega), if_pos (by omega)]) F 0 (nI 0, m) (Nat.zero_le _) (by omega) ⟨rfl, E57.rf m, fun g hg => absurd hg (by omega)⟩
set_option maxHeartbeats 2000000 in
theorem m_doJoin (hF : 2000 ≤ F) (hV : okV V) (hm : IM m V) {h s : Nat} (hh : V.1 = h) (h5 : h ≤ 5) (hp : PRa h (Vp h).2.1 m) (hs : s < 2 ^ (Vp h).2.1) : ∃ m', gX9_doJoin F m (nI s) = some (decide (prt (Vp h) s = 1), m') ∧ E57 m m' := by
  have h2 : 2 ≤ h := by rw [← hh]; exact hV.1
  have hok := Vp_ok h2 h5
  have hn := hok.2.2.1
  have h10 := hok.sl hs
  have en := hok.ends
  obtain ⟨e, h1, h2', h3⟩ := m_own hF hV hm
  have hm1 := h2'.im hm
  have hp1 := h2'.pra hp
  obtain ⟨d, k1, k2, k3⟩ := iter_inv (f := bX9_doJoin_30 F (nI s)) (fun i q => q.1 = nI (h - jn (Vp h).2.2 s i) ∧ q.2.1 = nI i ∧ E57 e.2 q.2.2 ∧ ∀ g, g < h → q.2.2.1 57 g = nI (pl (Vp h).2.2 s i g)) (Vp h).2.1 (fun q => q.1 = nI (prt (Vp h) s) ∧ E57 e.2 q.2.2) (by
      rintro i ⟨y, z, m1⟩ hi ⟨rfl, hz, he, hv⟩
      dsimp only at hz he hv ⊢
      subst hz
      refine Or.inl ?_
      have hm2 := he.im hm1
      have hp2 := he.pra hp1
      obtain ⟨c1, c2⟩ := en i hi
      have c1 : (Vp h).2.2 i 1 < h := c1
      have c2 : (Vp h).2.2 i 2 < h := c2
      obtain ⟨e1, e2⟩ := hp2.2 i hi
      have pb := pl_lt (Vp h).2.2 s h i (fun l hl => en l (by omega))
      have p1 := pb _ c1
      have p2 := pb _ c2
      have hib : inb (nI i) 10 := inb_nI (by omega) (by omega)
      rw [bX9_doJoin_30, hp2.1, ite_leN (by omega) (by omega), if_neg (by omega), chk_pos hib, nI_clamp (by omega), e1, chk_pos (inb_nI (by omega) (by omega)), lete_eq, nI_clamp (by omega), hv _ c1, chk_pos hib, e2, chk_pos (inb_nI (by omega) (by omega)), lete_eq, nI_clamp (by omega), hv _ c2, ite_bit0 (by omega) (by omega), ite_eqN (by omega) (by omega)]
      have pj := pl_lb (Vp h).2.2 s i ((Vp h).2.2 i 1) ((Vp h).2.2 i 2)
      by_cases hb : s.testBit i = true
      · rw [if_pos hb]
        by_cases hq : pl (Vp h).2.2 s i ((Vp h).2.2 i 1) = pl (Vp h).2.2 s i ((Vp h).2.2 i 2)
        · rw [if_pos hq]
          have ej : jn (Vp h).2.2 s (i + 1) = jn (Vp h).2.2 s i := by simp [jn, hb, pj.mp hq]
          refine ⟨_, rfl, by rw [ej], nI_1 i, he, fun g hg => ?_⟩
          rw [hv g hg]
          simp only [pl, hb, hq, ne_eq, not_true_eq_false, and_false, if_false]
        · rw [if_neg hq]
          obtain ⟨r, r1, r2, r3⟩ := m_relabel hF hV hm2 (p := pl (Vp h).2.2 s i) (a := pl (Vp h).2.2 s i ((Vp h).2.2 i 1)) (b := pl (Vp h).2.2 s i ((Vp h).2.2 i 2)) (fun g hg => by have := pb g (by omega); omega) (by omega) (by rw [hh]; exact hv)
          rw [jo88, show (0 : Int32) = nI 0 from rfl, r1, Option.bind_some]
          have hq2 : ¬ lb (Vp h).2.2 s i ((Vp h).2.2 i 1) = lb (Vp h).2.2 s i ((Vp h).2.2 i 2) := fun q => hq (pj.mpr q)
          have ej : jn (Vp h).2.2 s (i + 1) = jn (Vp h).2.2 s i + 1 := by simp [jn, hb, hq2]
          have jb := jn_rt (Vp h).2.2 s (H := h) (i + 1) (fun l hl => en l (by omega))
          refine ⟨_, rfl, ?_, nI_1 i, he.tr r2, fun g hg => ?_⟩
          · dsimp only
            rw [ej, show h - jn (Vp h).2.2 s i = (h - (jn (Vp h).2.2 s i + 1)) + 1 by omega]
            exact pk_m1 _
          · rw [r3 g (by omega)]
            simp only [pl, hb, hq, ne_eq, not_false_eq_true, and_self, if_true]
      · rw [if_neg hb]
        have ej : jn (Vp h).2.2 s (i + 1) = jn (Vp h).2.2 s i := by simp [jn, hb]
        refine ⟨_, rfl, by rw [ej], nI_1 i, he, fun g hg => ?_⟩
        rw [hv g hg]
        simp [pl, hb]) (by
      rintro ⟨y, z, m1⟩ ⟨rfl, hz, he, hv⟩
      dsimp only at hz he hv ⊢
      subst hz
      refine ⟨(nI (h - jn (Vp h).2.2 s (Vp h).2.1), nI (Vp h).2.1, m1), ?_, rfl, he⟩
      rw [bX9_doJoin_30, (he.pra hp1).1, ite_leN (by omega) (by omega), if_pos (by omega)]) F 0 (nI h, nI 0, e.2) (Nat.zero_le _) (by omega) ⟨rfl, rfl, E57.rf _, fun g hg => h3 g (by omega)⟩
  have hP : prt (Vp h) s ≤ 7 := by
    unfold prt
    have : (Vp h).1 = h := rfl
    omega
  refine ⟨d.2.2, ?_, h2'.tr k3⟩
  rw [gX9_doJoin, jo2, show (0 : Int32) = nI 0 from rfl, h1, Option.bind_some, lete_eq, hm1.1, hh, k1, Option.bind_some, k2, show (1 : Int32) = nI 1 from rfl, ite_eqN (by omega) (by omega)]
  by_cases q : prt (Vp h) s = 1
  · rw [if_pos q, decide_eq_true q]
  · rw [if_neg q, decide_eq_false q]
end
