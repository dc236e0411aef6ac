section
variable {F : Nat} {m : Mem} {V : Vd}
def TL (m : Mem) (L : List Nat) : Prop := m.1 43 29 = nI L.length ∧ ∀ i t, L[i]? = some t → m.1 62 i = nI t
def trs (h i : Nat) : List Nat := (List.range i).filter (Tp h)
theorem trs_succ (h i : Nat) : trs h (i + 1) = trs h i ++ (if Tp h i = true then [i] else []) := by
  unfold trs
  rw [List.range_succ, List.filter_append]
  congr 1
  by_cases q : Tp h i = true <;> simp [q]
theorem trs_pre (h : Nat) {i N : Nat} (hi : i ≤ N) : (trs h i).length ≤ (trs h N).length := by
  induction N with
  | zero => rw [show i = 0 by omega]; exact Nat.le_refl _
  | succ N ih =>
    by_cases e : i = N + 1
    · subst e; exact Nat.le_refl _
    · have := ih (by omega)
      rw [trs_succ, List.length_append]; omega
theorem tp_iff {h s : Nat} (h2 : 2 ≤ h) (h5 : h ≤ 5) (hs : s < 2 ^ (Vp h).2.1) : Tp h s = (decide (pcn s 31 = h - 1) && decide (prt (Vp h) s = 1)) := by
  have hok := Vp_ok h2 h5
  have h1 := pc_jr (Vp h).2.2 s (Vp h).2.1
  have hj := hok.jn s
  have e31 := pcn31 hok hs
  have hV1 : (Vp h).1 = h := rfl
  rw [Bool.eq_iff_iff]
  unfold Tp frs
  simp only [Bool.and_eq_true, decide_eq_true_eq]
  unfold prt
  rw [hV1] at hj ⊢
  constructor
  · rintro ⟨a, b⟩
    omega
  · rintro ⟨a, b⟩
    omega
theorem TL.of {m m' : Mem} {L : List Nat} (h : TL m L) (h1 : m'.1 43 29 = m.1 43 29) (h2 : m'.1 62 = m.1 62) : TL m' L := by
  unfold TL at h ⊢
  rw [h1, h2]
  exact h
theorem TL.app {m : Mem} {L : List Nat} {t : Nat} (h : TL m L) : TL (mu (mu m 62 L.length (nI t)) 43 29 (nI (L.length + 1))) (L ++ [t]) := by
  refine ⟨?_, fun i s hs => ?_⟩
  · rw [mu_same, List.length_append]; rfl
  · rw [mu_ne _ _ (Or.inl (by decide)), mu_g, if_pos rfl]
    rcases Nat.lt_or_ge i L.length with hz | hz
    · rw [List.getElem?_append_left hz] at hs
      rw [if_neg (by omega)]
      exact h.2 i s hs
    · rw [List.getElem?_append_right hz] at hs
      have hz2 : i - L.length = 0 := by
        have := (List.getElem?_eq_some_iff.mp hs).1
        simp at this; omega
      rw [hz2] at hs
      have e5 : t = s := by simpa using hs
      rw [if_pos (by omega), e5]
set_option maxHeartbeats 2000000 in
theorem m_trees (hF : 2000 ≤ F) (hV : okV V) (hm : IM m V) {h : Nat} (hh : V.1 = h) (h5 : h ≤ 5) (hp : PRa h (Vp h).2.1 m) (h0 : m.1 43 29 = nI 0) : ∃ e, iter F (bX9_findPlan_7 F) (nI 0, m) = some e ∧ ER m e.2 ∧ PRa h (Vp h).2.1 e.2 ∧ TL e.2 (trs h (2 ^ (Vp h).2.1)) := by
  have h2 : 2 ≤ h := by rw [← hh]; exact hV.1
  have hok := Vp_ok h2 h5
  have hn := hok.2.2.1
  have h10 := pow10 hn
  have hlen : (trs h (2 ^ (Vp h).2.1)).length ≤ 130 := trees_le h2 h5
  exact iter_inv (f := bX9_findPlan_7 F) (fun i q => q.1 = nI i ∧ ER m q.2 ∧ PRa h (Vp h).2.1 q.2 ∧ TL q.2 (trs h i)) (2 ^ (Vp h).2.1) (fun e => ER m e.2 ∧ PRa h (Vp h).2.1 e.2 ∧ TL e.2 (trs h (2 ^ (Vp h).2.1))) (by
      rintro i ⟨y, m1⟩ hi ⟨rfl, he, hp1, ht⟩
      dsimp only at he hp1 ht
      refine Or.inl ?_
      have hm1 := he.im hm
      have hpc := pcn_n (by omega) hi
      have htp := tp_iff h2 h5 hi
      rw [bX9_findPlan_7, hp1.1, sh1 (by omega), ite_leN (by omega) (by omega), if_neg (by omega), m_bits hF (by omega), Option.bind_some, hm1.1, hh, show (1 : Int32) = nI 1 from rfl, pk_sub (by omega), ite_eqN (by omega) (by omega), nI_add]
      by_cases hq : pcn i 31 = h - 1
      · rw [if_pos hq]
        obtain ⟨m2, g1, g2⟩ := m_doJoin hF hV hm1 hh h5 hp1 hi
        rw [g1, Option.bind_some]
        have hp2 := g2.pra hp1
        have ht2 : TL m2 (trs h i) := ht.of (by rw [g2.1 43 (by decide)]) (g2.1 62 (by decide))
        by_cases hc : prt (Vp h) i = 1
        · have hT : Tp h i = true := by rw [htp]; simp [hq, hc]
          have hlt : (trs h i).length < 130 := by
            have := trs_pre h (show i + 1 ≤ 2 ^ (Vp h).2.1 by omega)
            rw [trs_succ, if_pos hT, List.length_append] at this
            simp only [List.length_cons, List.length_nil] at this
            omega
          have e29 : (mu m2 62 (trs h i).length (nI i)).1 43 29 = nI (trs h i).length := by rw [mu_ne _ _ (Or.inl (by decide))]; exact ht2.1
          rw [if_pos (decide_eq_true hc), ht2.1, chk_pos (inb_nI hlt (by omega)), lete_eq, nI_clamp (by omega), lete_eq, e29, nI_add]
          refine ⟨_, rfl, rfl, he.tr (g2.er.tr ((ER.mu (by decide)).tr (ER.mu43 (by decide)))), hp2.of ?_ ?_ ?_, ?_⟩
          · rw [mu_ne _ _ (Or.inr (by decide)), mu_ne _ _ (Or.inl (by decide))]
          · rw [mu_row _ _ (by decide), mu_row _ _ (by decide)]
          · rw [mu_row _ _ (by decide), mu_row _ _ (by decide)]
          · rw [trs_succ, if_pos hT]
            exact ht2.app
        · have hT : ¬ Tp h i = true := by rw [htp]; simp [hc]
          rw [if_neg (by simp [hc])]
          refine ⟨_, rfl, rfl, he.tr g2.er, hp2, ?_⟩
          rw [trs_succ, if_neg hT, List.append_nil]
          exact ht2
      · have hT : ¬ Tp h i = true := by rw [htp]; simp [hq]
        rw [if_neg hq]
        refine ⟨_, rfl, rfl, he, hp1, ?_⟩
        rw [trs_succ, if_neg hT, List.append_nil]
        exact ht) (by
      rintro ⟨y, m1⟩ ⟨rfl, he, hp1, ht⟩
      dsimp only at he hp1 ht
      refine ⟨(nI (2 ^ (Vp h).2.1), m1), ?_, he, hp1, ht⟩
      rw [bX9_findPlan_7, hp1.1, sh1 (by omega), ite_leN (by omega) (by omega), if_pos (Nat.le_refl _)]) F 0 (nI 0, m) (Nat.zero_le _) (by omega) ⟨rfl, ER.rf _, hp, h0, fun i t ht => by simp [trs] at ht⟩
theorem smw_fil {P T : Nat → Bool} {w : Nat → Nat} : ∀ N, smw P w ((List.range N).filter T) = sst (fun t => T t && P t) w N
  | 0 => rfl
  | N + 1 => by
    rw [List.range_succ, List.filter_append, smw_app, smw_fil N, sst]
    congr 1
    by_cases c : T N = true <;> simp [c, smw]
theorem m_treesIn (hF : 2000 ≤ F) {L : List Nat} (hL : L.length ≤ 130) (h1024 : ∀ t ∈ L, t < 1024) (ht : TL m L) {s : Nat} (hs : s < 1024) : iter F (bX9_findPlan_105 (nI s) m) (nI 0, nI 0) = some (nI (smw (fun t => decide (t &&& s = t)) (fun _ => 1) L), nI L.length) := by
  have q := iter_at (F := F) (f := bX9_findPlan_105 (nI s) m) (fun i => (nI (smw (fun t => decide (t &&& s = t)) (fun _ => 1) (L.take i)), nI i)) L.length (nI (smw (fun t => decide (t &&& s = t)) (fun _ => 1) L), nI L.length) (fun i hi => ?_) ?_ (by omega)
  · exact q
  · obtain ⟨t, et⟩ : ∃ t, L[i]? = some t := ⟨_, List.getElem?_eq_getElem hi⟩
    have hb := h1024 t (List.mem_of_getElem? et)
    have hw : wo t s < 1024 := wo_lt (k := 10) hb
    have hww : wo t s = 0 ↔ t &&& s = t := by rw [sub_and, Nat.and_comm]
    rw [bX9_findPlan_105, ht.1, ite_leN (by omega) (by omega), if_neg (by omega), chk_pos (inb_nI (by omega) (by omega)), nI_clamp (by omega), ht.2 i t et, woI, lete_eq, lete_eq, nI_1, nI_1, show (0 : Int32) = nI 0 from rfl, ite_eqN (by omega) (by omega), nI_add, Nat.add_zero, smw_take et]
    by_cases c : t &&& s = t
    · rw [if_pos (hww.mpr c)]; simp [c]
    · rw [if_neg (fun z => c (hww.mp z))]; simp [c]
  · rw [bX9_findPlan_105, ht.1, ite_leN (by omega) (by omega), if_pos (Nat.le_refl _), List.take_length]
theorem cp_is {h s : Nat} (hs : s < 2 ^ (Vp h).2.1) : smw (fun t => decide (t &&& s = t)) (fun _ => 1) (trs h (2 ^ (Vp h).2.1)) = Cp h s := by
  unfold trs Cp
  rw [smw_fil, Zr_all hs]
  rfl
theorem Cp_le {h : Nat} (h2 : 2 ≤ h) (h5 : h ≤ 5) (s : Nat) : Cp h s ≤ 1024 := Nat.le_trans (Zr_le _ _) (pow10 (Vp_ok h2 h5).2.2.1)
set_option maxHeartbeats 2000000 in
theorem m_findPlan (hF : 2000 ≤ F) (hV : okV V) (hm : IM m V) {h k : Nat} (hh : V.1 = h) (h5 : h ≤ 5) (hk : k ≤ 10) (hp : PRa h (Vp h).2.1 m) : ∃ m', gX9_findPlan F m (nI k) = some m' ∧ ER m m' ∧ m'.1 43 30 = nI (PMd h k) ∧ m'.1 43 31 = nI (PSd h k) := by
  have h2 : 2 ≤ h := by rw [← hh]; exact hV.1
  have hok := Vp_ok h2 h5
  have hn := hok.2.2.1
  have h10 := pow10 hn
  have hlen : (trs h (2 ^ (Vp h).2.1)).length ≤ 130 := trees_le h2 h5
  have e0 : ER m (mu m 43 29 (nI 0)) := ER.mu43 (by decide)
  obtain ⟨d, d1, d2, d3, d4⟩ := m_trees (m := mu m 43 29 (nI 0)) hF hV (e0.im hm) hh h5 (hp.of (mu_ne _ _ (Or.inr (by decide))) (mu_row _ _ (by decide)) (mu_row _ _ (by decide))) (mu_same _ _ _ _)
  have e3 : ER d.2 (mu (mu d.2 43 30 (nI 0)) 43 31 (nI 0)) := (ER.mu43 (by decide)).tr (ER.mu43 (by decide))
  have p3 : PRa h (Vp h).2.1 (mu (mu d.2 43 30 (nI 0)) 43 31 (nI 0)) := d3.of (by rw [mu_ne _ _ (Or.inr (by decide)), mu_ne _ _ (Or.inr (by decide))]) (by rw [mu_row _ _ (by decide), mu_row _ _ (by decide)]) (by rw [mu_row _ _ (by decide), mu_row _ _ (by decide)])
  have t3 : TL (mu (mu d.2 43 30 (nI 0)) 43 31 (nI 0)) (trs h (2 ^ (Vp h).2.1)) := d4.of (by rw [mu_ne _ _ (Or.inr (by decide)), mu_ne _ _ (Or.inr (by decide))]) (by rw [mu_row _ _ (by decide), mu_row _ _ (by decide)])
  obtain ⟨e, k1, k2, k3, k4⟩ := iter_inv (f := bX9_findPlan_79 F (nI k)) (fun i q => q.1 = nI i ∧ ER m q.2 ∧ PRa h (Vp h).2.1 q.2 ∧ TL q.2 (trs h (2 ^ (Vp h).2.1)) ∧ q.2.1 43 30 = nI (bst (Cp h) k i).1 ∧ q.2.1 43 31 = nI (bst (Cp h) k i).2) (2 ^ (Vp h).2.1) (fun e => ER m e.2 ∧ e.2.1 43 30 = nI (PMd h k) ∧ e.2.1 43 31 = nI (PSd h k)) (by
      rintro i ⟨y, m1⟩ hi ⟨rfl, he, hp1, ht, w1, w2⟩
      dsimp only at he hp1 ht w1 w2
      refine Or.inl ?_
      have hpc := pcn_n (by omega) hi
      have hci := Cp_le h2 h5 i
      have hbl := (bst_le (k := k) (Cp_le h2 h5) i).1
      have hcount := m_treesIn hF hlen (fun t ht => by
        unfold trs at ht
        have := List.mem_range.mp (List.mem_filter.mp ht).1
        omega) ht (show i < 1024 by omega)
      rw [cp_is hi] at hcount
      rw [bX9_findPlan_79, hp1.1, sh1 (by omega), ite_leN (by omega) (by omega), if_neg (by omega), m_bits hF (by omega), Option.bind_some, ite_eqN (by omega) (by omega), nI_1]
      by_cases hq : pcn i 31 = k
      · rw [if_pos hq, show (0 : Int32) = nI 0 from rfl, hcount, Option.bind_some, w1, ite_ltN (by omega) (by omega)]
        by_cases hc : (bst (Cp h) k i).1 < Cp h i
        · rw [if_pos hc, lete_eq, lete_eq]
          refine ⟨_, rfl, rfl, he.tr ((ER.mu43 (by decide)).tr (ER.mu43 (by decide))), hp1.of (by rw [mu_ne _ _ (Or.inr (by decide)), mu_ne _ _ (Or.inr (by decide))]) (by rw [mu_row _ _ (by decide), mu_row _ _ (by decide)]) (by rw [mu_row _ _ (by decide), mu_row _ _ (by decide)]), ht.of (by rw [mu_ne _ _ (Or.inr (by decide)), mu_ne _ _ (Or.inr (by decide))]) (by rw [mu_row _ _ (by decide), mu_row _ _ (by decide)]), ?_, ?_⟩
          · rw [mu_ne _ _ (Or.inr (by decide)), mu_same, bst, if_pos ⟨hq, hc⟩]
          · rw [mu_same, bst, if_pos ⟨hq, hc⟩]
        · rw [if_neg hc]
          refine ⟨_, rfl, rfl, he, hp1, ht, ?_, ?_⟩
          · rw [bst, if_neg (fun z => hc z.2)]; exact w1
          · rw [bst, if_neg (fun z => hc z.2)]; exact w2
      · rw [if_neg hq]
        refine ⟨_, rfl, rfl, he, hp1, ht, ?_, ?_⟩
        · rw [bst, if_neg (fun z => hq z.1)]; exact w1
        · rw [bst, if_neg (fun z => hq z.1)]; exact w2) (by
      rintro ⟨y, m1⟩ ⟨rfl, he, hp1, ht, w1, w2⟩
      dsimp only at he hp1 ht w1 w2
      refine ⟨(nI (2 ^ (Vp h).2.1), m1), ?_, he, w1, w2⟩
      rw [bX9_findPlan_79, hp1.1, sh1 (by omega), ite_leN (by omega) (by omega), if_pos (Nat.le_refl _)]) F 0 (nI 0, mu (mu d.2 43 30 (nI 0)) 43 31 (nI 0)) (Nat.zero_le _) (by omega) ⟨rfl, (e0.tr d2).tr e3, p3, t3, by rw [mu_ne _ _ (Or.inr (by decide)), mu_same]; rfl, by rw [mu_same]; rfl⟩
  refine ⟨e.2, ?_, k2, k3, k4⟩
  rw [gX9_findPlan, lete_eq, show (0 : Int32) = nI 0 from rfl, d1, Option.bind_some, lete_eq, lete_eq, k1, Option.bind_some]
theorem m_plan (hF : 2000 ≤ F) (hV : okV V) (hm : IM m V) {h k : Nat} (hh : V.1 = h) (h5 : h ≤ 5) (hk : k ≤ 10) : ∃ e m', iter F (bX9_plan_80 F) (0, mu m 43 28 0) = some e ∧ gX9_findPlan F e.2 (nI k) = some m' ∧ ER m m' ∧ m'.1 43 30 = nI (PMd h k) ∧ m'.1 43 31 = nI (PSd h k) := by
  have h2 : 2 ≤ h := by rw [← hh]; exact hV.1
  have e0 : ER m (mu m 43 28 0) := ER.mu43 (by decide)
  obtain ⟨e, a1, a2, a3⟩ := m_pairs (m := mu m 43 28 0) hF h2 h5 (by rw [mu_ne _ _ (Or.inr (by decide)), hm.1, hh]) ⟨mu_same _ _ _ _, fun l hl => absurd hl (by omega)⟩
  obtain ⟨m', b1, b2, b3, b4⟩ := m_findPlan (m := e.2) hF hV ((e0.tr a2).im hm) hh h5 hk a3
  exact ⟨e, m', a1, b1, (e0.tr a2).tr b2, b3, b4⟩
end
