section
variable {F : Nat} {m : Mem} {V : Vd}
def wRs (V : Vd) (s : Ws) : Int32 := if s.2.1 = 2 ^ V.1 - 1 then nI s.2.2.1 else -9
theorem wnx_z {s : Ws} {p : Nat} {z : Int32} : (wnx V s p z).2.2.2 = z := by unfold wnx; split <;> rfl
theorem wst_succ {z : Int32} {i : Nat} : wst V z (i + 1) = wnx V (wst V z i) (wpk V (wst V z i)) (lcg (wst V z i).2.2.2) := rfl
theorem wgo_iff {s : Ws} : wgo V s = true ↔ (¬ s.2.1 = 2 ^ V.1 - 1) ∧ onW V s.1 V.2.1 ≠ 0 := by
  unfold wgo
  simp only [Bool.and_eq_true, Bool.not_eq_true', decide_eq_false_iff_not, ne_eq]
theorem LR.e37 {m m' : Mem} (h : LR V m) (he : E1 37 m m') : LR V m' := by
  unfold LR at h ⊢
  rw [he.1 38 (by decide), he.1 39 (by decide)]
  exact h
theorem x_allHouses (hV : okV V) (hx : IX m 1 V) : gX6_allHouses m 1 = some (nI (2 ^ V.1 - 1)) := by
  have hH := hV.2.1
  rw [gX6_allHouses, hx.1, sh1 (by omega), show (1 : Int32) = nI 1 from rfl, pk_sub (Nat.one_le_two_pow)]
theorem x_oneStep (hF : 2000 ≤ F) (hV : okV V) (hx : IX m 1 V) (hl : LR V m) {s : Ws} {i : Nat} {z : Int32} (hi : i < 200) (hz : m.1 37 3 = s.2.2.2) (hok : wok V s) (hg : wgo V s = true) (ez : lcg s.2.2.2 = z) : bX0_walkAbout_18 F (nI (2 ^ V.1 - 1)) (wE s i m) = some (.inl (wE (wnx V s (wpk V s) z) (i + 1) (mu m 37 3 z))) := by
  have hH := hV.2.1
  obtain ⟨g1, g2⟩ := wgo_iff.mp hg
  have h7 := hok.1
  have hx2 : IX (mu m 37 3 z) 1 V := hx.sm (fun k hk => mu_row _ _ (by omega))
  have hlane := x_laneFrom hF hV hx hl (h := s.1) (s := z) (by omega) (by rw [hz]; exact ez) rfl g2 rfl
  have hpk : wpk V s = pck V s.1 (rA z % onW V s.1 V.2.1) V.2.1 := by unfold wpk; rw [ez]
  rw [hpk]
  exact x_walkStep (q7 := (nI (pck V s.1 (rA z % onW V s.1 V.2.1) V.2.1), mu m 37 3 z)) hV hok hi g1 hlane rfl (by rw [← hpk]; exact wpk_ok hV g2) hx2
theorem x_walk (hF : 2000 ≤ F) (hV : okV V) {z : Int32} {T : Nat} (hx : IX m 1 V) (hl : LR V m) (hz : m.1 37 3 = z) (hT : T ≤ 200) (hgo : ∀ j, j < T → wgo V (wst V z j) = true) (hst : T < 200 → wgo V (wst V z T) = false) : ∃ m', gX0_walkAbout F m = some (wRs V (wst V z T), m') ∧ E1 37 m m' ∧ m'.1 37 3 = (wst V z T).2.2.2 := by
  have hH := hV.2.1
  have h7 := p7 hH
  obtain ⟨e, k1, m', k2, k3, k4⟩ := iter_inv (f := bX0_walkAbout_18 F (nI (2 ^ V.1 - 1))) (fun i s => ∃ m1, s = wE (wst V z i) i m1 ∧ E1 37 m m1 ∧ m1.1 37 3 = (wst V z i).2.2.2) T (fun e => ∃ m', E1 37 m m' ∧ m'.1 37 3 = (wst V z T).2.2.2 ∧ Sum.elim (fun s20 => (if s20.2.1 = nI (2 ^ V.1 - 1) then some (s20.2.2.1, s20.2.2.2.2) else some ((-9), s20.2.2.2.2))) (fun q => some q) e = some (wRs V (wst V z T), m')) (by
      rintro i s hi ⟨m1, rfl, he, hz1⟩
      refine Or.inl ?_
      have hok := wst_ok (z := z) hV i (fun j hj => hgo j (by omega))
      have hg := hgo i hi
      have hsu := wst_succ (V := V) (z := z) (i := i)
      generalize wst V z (i + 1) = s' at hsu ⊢
      generalize wst V z i = s at hsu hok hg hz1 ⊢
      have hx1 : IX m1 1 V := hx.sm (fun k hk => he.1 _ (by omega))
      generalize ez : lcg s.2.2.2 = z' at hsu
      have st := x_oneStep hF hV hx1 (hl.e37 he) (i := i) (by omega) hz1 hok hg ez
      rw [hsu]
      exact ⟨_, st, _, rfl, he.tr E1.mu, by rw [mu_same, wnx_z]⟩) (by
      rintro s ⟨m1, rfl, he, hz1⟩
      have hok := wst_ok (z := z) hV T hgo
      generalize wst V z T = s at hok hst hz1 ⊢
      have h1 := hok.1
      have h2 := hok.2.1
      have hx1 : IX m1 1 V := hx.sm (fun k hk => he.1 _ (by omega))
      have out : Sum.elim (fun s20 : Int32 × Int32 × Int32 × Int32 × Mem => (if s20.2.1 = nI (2 ^ V.1 - 1) then some (s20.2.2.1, s20.2.2.2.2) else some ((-9), s20.2.2.2.2))) (fun q : Int32 × Mem => some q) (.inl (wE s T m1)) = some (wRs V s, m1) := by
        show (if nI s.2.1 = nI (2 ^ V.1 - 1) then some (nI s.2.2.1, m1) else some ((-9), m1)) = _
        unfold wRs
        rw [ite_eqN (by omega) (by omega)]
        by_cases c : s.2.1 = 2 ^ V.1 - 1
        · rw [if_pos c, if_pos c]
        · rw [if_neg c, if_neg c]
      by_cases h200 : T = 200
      · refine ⟨.inl (wE s T m1), ?_, m1, he, hz1, out⟩
        unfold wE
        rw [bX0_walkAbout_18, show (200 : Int32) = nI 200 from rfl, ite_leN (by omega) (by omega), if_pos (by omega)]
      · by_cases c : s.2.1 = 2 ^ V.1 - 1
        · refine ⟨.inl (wE s T m1), ?_, m1, he, hz1, out⟩
          unfold wE
          rw [bX0_walkAbout_18, show (200 : Int32) = nI 200 from rfl, ite_leN (by omega) (by omega), if_neg (by omega), ite_eqN (by omega) (by omega), if_pos c]
        · have hW : onW V s.1 V.2.1 = 0 := by
            have := hst (by omega)
            by_cases z0 : onW V s.1 V.2.1 = 0
            · exact z0
            · rw [wgo_iff.mpr ⟨c, z0⟩] at this; cases this
          refine ⟨.inr (-9, m1), ?_, m1, he, hz1, ?_⟩
          · unfold wE
            have hno : gX6_hasLane m1 1 (-9) = some false := by
              rw [x_hasLane hV hx1]
              rw [decide_eq_false (fun z => z.1 (by decide))]
            rw [bX0_walkAbout_18, show (200 : Int32) = nI 200 from rfl, ite_leN (by omega) (by omega), if_neg (by omega), ite_eqN (by omega) (by omega), if_neg c, x_laneNot hV (hl.e37 he) (by omega) hW, Option.bind_some, hno, Option.bind_some, if_neg (fun z => by cases z)]
          · unfold wRs
            rw [if_neg c]
            rfl) F 0 (wE (wst V z 0) 0 m) (Nat.zero_le _) (by omega) ⟨m, rfl, E1.rf _ _, hz⟩
  refine ⟨m', ?_, k2, k3⟩
  rw [gX0_walkAbout, x_allHouses hV hx, Option.bind_some]
  have k1' : iter F (bX0_walkAbout_18 F (nI (2 ^ V.1 - 1))) (0, 1, 0, 0, m) = some e := k1
  rw [k1', Option.bind_some]
  exact k4
/-- only the reference's seed differs -/
def E43 (m m' : Mem) : Prop := (∀ j, j ≠ 43 → m'.1 j = m.1 j) ∧ (∀ k, k ≠ 32 → m'.1 43 k = m.1 43 k) ∧ m'.2 = m.2
theorem E43.rf (m : Mem) : E43 m m := ⟨fun _ _ => rfl, fun _ _ => rfl, rfl⟩
theorem E43.tr {a b c : Mem} (h : E43 a b) (g : E43 b c) : E43 a c := ⟨fun j h1 => (g.1 j h1).trans (h.1 j h1), fun k hk => (g.2.1 k hk).trans (h.2.1 k hk), g.2.2.trans h.2.2⟩
theorem E43.mu {m : Mem} {v : Int32} : E43 m (mu m 43 32 v) := ⟨fun _ hj => mu_row _ _ hj, fun _ hk => mu_ne _ _ (Or.inr hk), rfl⟩
theorem E43.im {m m' : Mem} (h : E43 m m') (hm : IM m V) : IM m' V := hm.sm (h.2.1 8 (by decide)) (h.2.1 9 (by decide)) (fun k hk => h.1 _ (by omega))
theorem E43.sm {m m' : Mem} (h : E43 m m') : Sm m m' := ⟨fun j hj => h.1 j (fun e => by subst e; cases hj), fun k hk => h.2.1 k (fun e => by subst e; cases hk), fun k _ => by rw [h.1 56 (by decide)]⟩
theorem m_oneStep (hF : 2000 ≤ F) (hV : okV V) (hm : IM m V) {s : Ws} {i : Nat} {z : Int32} (hi : i < 200) (hz : m.1 43 32 = s.2.2.2) (hok : wok V s) (hg : wgo V s = true) (ez : lcg s.2.2.2 = z) : bX9_walks_9 F (wE s i m) = some (.inl (wE (wnx V s (wpk V s) z) (i + 1) (mu m 43 32 z))) := by
  have hH := hV.2.1
  have hn := hV.2.2.1
  obtain ⟨g1, g2⟩ := wgo_iff.mp hg
  have h7 := hok.1
  have hWl := onW_le hV s.1 V.2.1 (Nat.le_refl _)
  have hm2 : IM (mu m 43 32 z) V := E43.mu.im hm
  have hpk : wpk V s = pck V s.1 (rA z % onW V s.1 V.2.1) V.2.1 := by unfold wpk; rw [ez]
  have hd : gX9_drawn m (lN (onW V s.1 V.2.1)) = some (nI (rA z % onW V s.1 V.2.1), mu m 43 32 z) := by rw [m_drawn (by omega) (by omega), hz, ez]
  have hW := m_weightsFrom hF hV hm (h := s.1) (by omega)
  rw [hpk]
  have hR : rA z % onW V s.1 V.2.1 < onW V s.1 V.2.1 := Nat.mod_lt _ (by omega)
  generalize rA z % onW V s.1 V.2.1 = R at hd hR ⊢
  obtain ⟨p1, p2, p3, p4⟩ := pck_ok V.2.1 hR
  generalize pck V s.1 R V.2.1 = p at p1 p2 p3 p4 ⊢
  have hk := m_pick hF hV (q3 := (nI R, mu m 43 32 z)) hm2 (show s.1 < 7 by omega) (show R < 1000 by omega) p1 p2 p3 p4
  exact m_walkStep (q7 := (nI R, mu m 43 32 z)) hV hm hok hi g1 hW g2 (by omega) hd rfl hk p1 p2 hm2
theorem m_walk (hF : 2000 ≤ F) (hV : okV V) {z : Int32} {T : Nat} (hm : IM m V) (hz : m.1 43 32 = z) (hT : T ≤ 200) (hgo : ∀ j, j < T → wgo V (wst V z j) = true) (hst : T < 200 → wgo V (wst V z T) = false) : ∃ m', gX9_walks F m = some (wRs V (wst V z T), m') ∧ E43 m m' ∧ m'.1 43 32 = (wst V z T).2.2.2 := by
  have hH := hV.2.1
  have h7 := p7 hH
  have hA : (1 : Int32) <<< (nI V.1 &&& 31) - 1 = nI (2 ^ V.1 - 1) := by
    rw [sh1 (by omega), show (1 : Int32) = nI 1 from rfl, pk_sub (Nat.one_le_two_pow)]
  obtain ⟨e, k1, m', k2, k3, k4⟩ := iter_inv (f := bX9_walks_9 F) (fun i s => ∃ m1, s = wE (wst V z i) i m1 ∧ E43 m m1 ∧ m1.1 43 32 = (wst V z i).2.2.2) T (fun e => ∃ m', E43 m m' ∧ m'.1 43 32 = (wst V z T).2.2.2 ∧ Sum.elim (fun s28 => (if s28.2.1 = (((1 : Int32) <<< ((s28.2.2.2.2.1 43 8) &&& 31)) - 1) then some (s28.2.2.1, s28.2.2.2.2) else some ((-9), s28.2.2.2.2))) (fun q => some q) e = some (wRs V (wst V z T), m')) (by
      rintro i s hi ⟨m1, rfl, he, hz1⟩
      refine Or.inl ?_
      have hok := wst_ok (z := z) hV i (fun j hj => hgo j (by omega))
      have hg := hgo i hi
      have hsu := wst_succ (V := V) (z := z) (i := i)
      generalize wst V z (i + 1) = s' at hsu ⊢
      generalize wst V z i = s at hsu hok hg hz1 ⊢
      generalize ez : lcg s.2.2.2 = z' at hsu
      have st := m_oneStep hF hV (he.im hm) (i := i) (by omega) hz1 hok hg ez
      rw [hsu]
      exact ⟨_, st, _, rfl, he.tr E43.mu, by rw [mu_same, wnx_z]⟩) (by
      rintro s ⟨m1, rfl, he, hz1⟩
      have hok := wst_ok (z := z) hV T hgo
      generalize wst V z T = s at hok hst hz1 ⊢
      have h1 := hok.1
      have h2 := hok.2.1
      have hm1 := he.im hm
      have out : Sum.elim (fun s28 : Int32 × Int32 × Int32 × Int32 × Mem => (if s28.2.1 = (((1 : Int32) <<< ((s28.2.2.2.2.1 43 8) &&& 31)) - 1) then some (s28.2.2.1, s28.2.2.2.2) else some ((-9), s28.2.2.2.2))) (fun q : Int32 × Mem => some q) (.inl (wE s T m1)) = some (wRs V s, m1) := by
        show (if nI s.2.1 = (((1 : Int32) <<< ((m1.1 43 8) &&& 31)) - 1) then some (nI s.2.2.1, m1) else some ((-9), m1)) = _
        unfold wRs
        rw [hm1.1, hA, ite_eqN (by omega) (by omega)]
        by_cases c : s.2.1 = 2 ^ V.1 - 1
        · rw [if_pos c, if_pos c]
        · rw [if_neg c, if_neg c]
      by_cases h200 : T = 200
      · refine ⟨.inl (wE s T m1), ?_, m1, he, hz1, out⟩
        unfold wE
        rw [bX9_walks_9, show (200 : Int32) = nI 200 from rfl, ite_leN (by omega) (by omega), if_pos (by omega)]
      · by_cases c : s.2.1 = 2 ^ V.1 - 1
        · refine ⟨.inl (wE s T m1), ?_, m1, he, hz1, out⟩
          unfold wE
          rw [bX9_walks_9, show (200 : Int32) = nI 200 from rfl, ite_leN (by omega) (by omega), if_neg (by omega), hm1.1, hA, ite_eqN (by omega) (by omega), if_pos c]
        · have hW : onW V s.1 V.2.1 = 0 := by
            have := hst (by omega)
            by_cases z0 : onW V s.1 V.2.1 = 0
            · exact z0
            · rw [wgo_iff.mpr ⟨c, z0⟩] at this; cases this
          refine ⟨.inr (-9, m1), ?_, m1, he, hz1, ?_⟩
          · unfold wE
            rw [bX9_walks_9, show (200 : Int32) = nI 200 from rfl, ite_leN (by omega) (by omega), if_neg (by omega), hm1.1, hA, ite_eqN (by omega) (by omega), if_neg c, m_weightsFrom hF hV hm1 (by omega), Option.bind_some, hW, if_pos (show nI 0 = (0 : Int32) from rfl)]
          · unfold wRs
            rw [if_neg c]
            rfl) F 0 (wE (wst V z 0) 0 m) (Nat.zero_le _) (by omega) ⟨m, rfl, E43.rf _, hz⟩
  refine ⟨m', ?_, k2, k3⟩
  rw [gX9_walks]
  have k1' : iter F (bX9_walks_9 F) (0, 1, 0, 0, m) = some e := k1
  rw [k1', Option.bind_some]
  exact k4
theorem walk_both (hF : 2000 ≤ F) (hV : okV V) (z : Int32) : ∃ r z', (r = -9 ∨ ∃ s, s < 2 ^ V.2.1 ∧ r = nI s) ∧ (∀ m, IX m 1 V → LR V m → m.1 37 3 = z → ∃ m', gX0_walkAbout F m = some (r, m') ∧ E1 37 m m' ∧ m'.1 37 3 = z') ∧ (∀ m, IM m V → m.1 43 32 = z → ∃ m', gX9_walks F m = some (r, m') ∧ E43 m m' ∧ m'.1 43 32 = z') := by
  obtain ⟨T, hT, hgo, hst⟩ := first_bad (fun j => wgo V (wst V z j)) 200
  have hok := wst_ok (z := z) hV T hgo
  refine ⟨wRs V (wst V z T), (wst V z T).2.2.2, ?_, fun m hx hl hz => x_walk hF hV hx hl hz hT hgo hst, fun m hm hz => m_walk hF hV hm hz hT hgo hst⟩
  unfold wRs
  by_cases c : (wst V z T).2.1 = 2 ^ V.1 - 1
  · rw [if_pos c]; exact Or.inr ⟨_, hok.2.2, rfl⟩
  · rw [if_neg c]; exact Or.inl rfl
end
