/-! ===== the keys in order ===== -/
def cw (K : Nat → Nat) (w : Nat) : Nat → Nat
  | 0 => 0
  | n + 1 => cw K w n + (if K n = w then 1 else 0)
def kup (K : Nat → Nat) (a v : Nat) : Nat → Nat := fun i => if i = a then v else K i
theorem kup_same (K : Nat → Nat) (a v : Nat) : kup K a v a = v := by unfold kup; rw [if_pos rfl]
theorem kup_ne {K : Nat → Nat} {a v i : Nat} (h : i ≠ a) : kup K a v i = K i := by unfold kup; rw [if_neg h]
theorem cw_same {K K' : Nat → Nat} {w : Nat} : ∀ N, (∀ i, i < N → K' i = K i) → cw K' w N = cw K w N
  | 0, _ => rfl
  | N + 1, h => by rw [cw, cw, cw_same N (fun i hi => h i (by omega)), h N (by omega)]
theorem cw_upd {K : Nat → Nat} {a v w : Nat} : ∀ N, a < N → cw (kup K a v) w N + (if K a = w then 1 else 0) = cw K w N + (if v = w then 1 else 0)
  | 0, h => absurd h (by omega)
  | N + 1, h => by
    by_cases e : a = N
    · subst e
      rw [cw, cw, cw_same (K := K) (K' := kup K a v) a (fun i hi => kup_ne (by omega)), kup_same]
      omega
    · have := cw_upd (K := K) (a := a) (v := v) (w := w) N (by omega)
      rw [cw, cw, kup_ne (fun z => e z.symm)]
      omega
theorem cw_count {K : Nat → Nat} {w : Nat} : ∀ N, ((List.range N).map K).count w = cw K w N
  | 0 => rfl
  | N + 1 => by
    rw [List.range_succ, List.map_append, List.count_append, cw_count N, cw]
    congr 1
    by_cases c : K N = w
    · simp [c]
    · simp [c]
section
variable {F : Nat} {m : Mem} {V : Vd}
/-- the row of keys holds these numbers -/
def RK (K : Nat → Nat) (N : Nat) (m : Mem) : Prop := ∀ i, i < N → m.1 29 i = nI (K i) ∧ K i < 2 ^ 31
theorem RK.up {K : Nat → Nat} {N a v : Nat} (h : RK K N m) (hv : v < 2 ^ 31) : RK (kup K a v) N (mu m 29 a (nI v)) := by
  intro i hi
  rw [mu_g, if_pos rfl]
  by_cases e : i = a
  · subst e; rw [if_pos rfl, kup_same]; exact ⟨rfl, hv⟩
  · rw [if_neg e, kup_ne e]; exact h i hi
def Srt (K : Nat → Nat) (i : Nat) : Prop := ∀ a b, a < b → b < i → K a ≤ K b
theorem x_insert (hF : 2000 ≤ F) {K0 : Nat → Nat} {N g i : Nat} (hN : N ≤ 252) (hg : 1 ≤ g) (hgi : g ≤ i) (hi : i < N) (hr : RK K0 N m) (hs : g = 1 → Srt K0 i) : ∃ e, iter F (bX7_sortEvery_33 (nI g) (nI (K0 i))) (nI i, m) = some e ∧ ∃ hole K, e.1 = nI hole ∧ hole ≤ i ∧ E1 29 m e.2 ∧ RK K N e.2 ∧ (∀ w, cw K w N + (if K0 i = w then 1 else 0) = cw K0 w N + (if K hole = w then 1 else 0)) ∧ (g = 1 → (∀ a b, a < b → b ≤ i → a ≠ hole → b ≠ hole → K a ≤ K b) ∧ (∀ b, hole < b → b ≤ i → K0 i ≤ K b) ∧ (hole = 0 ∨ K (hole - 1) ≤ K0 i)) := by
  have hk := (hr i hi).2
  exact iter_inv (f := bX7_sortEvery_33 (nI g) (nI (K0 i))) (fun t q => ∃ hole K, q.1 = nI hole ∧ hole + t ≤ i ∧ E1 29 m q.2 ∧ RK K N q.2 ∧ (∀ w, cw K w N + (if K0 i = w then 1 else 0) = cw K0 w N + (if K hole = w then 1 else 0)) ∧ (g = 1 → (∀ a b, a < b → b ≤ i → a ≠ hole → b ≠ hole → K a ≤ K b) ∧ (∀ b, hole < b → b ≤ i → K0 i ≤ K b))) i (fun e => ∃ hole K, e.1 = nI hole ∧ hole ≤ i ∧ E1 29 m e.2 ∧ RK K N e.2 ∧ (∀ w, cw K w N + (if K0 i = w then 1 else 0) = cw K0 w N + (if K hole = w then 1 else 0)) ∧ (g = 1 → (∀ a b, a < b → b ≤ i → a ≠ hole → b ≠ hole → K a ≤ K b) ∧ (∀ b, hole < b → b ≤ i → K0 i ≤ K b) ∧ (hole = 0 ∨ K (hole - 1) ≤ K0 i))) (by
      rintro t ⟨y, m1⟩ ht ⟨hole, K, rfl, hb, he, hK, hc, hso⟩
      dsimp only at he hK
      by_cases h1 : hole < g
      · refine Or.inr ⟨(nI hole, m1), ?_, hole, K, rfl, by omega, he, hK, hc, fun z => ⟨(hso z).1, (hso z).2, Or.inl (by omega)⟩⟩
        rw [bX7_sortEvery_33, ite_ltN (by omega) (by omega), if_pos h1]
      · obtain ⟨v1, v2⟩ := hK (hole - g) (by omega)
        have hib : inb (nI (hole - g)) 252 := inb_nI (by omega) (by omega)
        rw [bX7_sortEvery_33, ite_ltN (by omega) (by omega), if_neg h1, pk_sub (by omega), chk_pos hib, nI_clamp (by omega), v1, ite_leN (by omega) (by omega)]
        by_cases h2 : K (hole - g) ≤ K0 i
        · rw [if_pos h2]
          exact Or.inr ⟨_, rfl, hole, K, rfl, by omega, he, hK, hc, fun z => ⟨(hso z).1, (hso z).2, Or.inr (by rw [z] at h2; exact h2)⟩⟩
        · rw [if_neg h2, chk_pos hib, chk_pos (inb_nI (by omega) (by omega)), lete_eq, lete_eq, nI_clamp (by omega)]
          refine Or.inl ⟨_, rfl, hole - g, kup K hole (K (hole - g)), rfl, by omega, he.tr E1.mu, hK.up v2, fun w => ?_, fun z => ⟨fun a b hab hbi ha hb' => ?_, fun b hb' hbi => ?_⟩⟩
          · have u := cw_upd (K := K) (a := hole) (v := K (hole - g)) (w := w) N (by omega)
            have := hc w
            rw [kup_ne (show hole - g ≠ hole by omega)]
            omega
          · obtain ⟨s1, s2⟩ := hso z
            subst z
            by_cases e1 : a = hole
            · subst e1
              rw [kup_same, kup_ne (by omega)]
              exact s1 _ _ (by omega) hbi (by omega) (by omega)
            · rw [kup_ne e1]
              by_cases e2 : b = hole
              · subst e2
                rw [kup_same]
                exact s1 _ _ (by omega) (by omega) (by omega) (by omega)
              · rw [kup_ne e2]
                exact s1 _ _ hab hbi e1 e2
          · obtain ⟨s1, s2⟩ := hso z
            subst z
            by_cases e2 : b = hole
            · subst e2
              rw [kup_same]; omega
            · rw [kup_ne e2]
              exact s2 b (by omega) hbi) (by
      rintro ⟨y, m1⟩ ⟨hole, K, rfl, hb, he, hK, hc, hso⟩
      dsimp only at he hK
      refine ⟨(nI hole, m1), ?_, hole, K, rfl, by omega, he, hK, hc, fun z => ⟨(hso z).1, (hso z).2, Or.inl (by omega)⟩⟩
      rw [bX7_sortEvery_33, ite_ltN (by omega) (by omega), if_pos (by omega)]) F 0 (nI i, m) (Nat.zero_le _) (by omega) ⟨i, K0, rfl, by omega, E1.rf _ _, hr, fun w => rfl, fun z => ⟨fun a b hab hbi ha hb' => hs z a b hab (by omega), fun b h1 h2 => by omega⟩⟩
theorem x_every (hF : 2000 ≤ F) {K0 : Nat → Nat} {N g : Nat} (hN : N ≤ 252) (hg : 1 ≤ g) (hg2 : g ≤ 40) (h2 : m.1 26 2 = nI N) (hr : RK K0 N m) : ∃ m', gX7_sortEvery F m (nI g) = some m' ∧ E1 29 m m' ∧ ∃ K, RK K N m' ∧ (∀ w, cw K w N = cw K0 w N) ∧ (g = 1 → Srt K N) := by
  obtain ⟨e, k1, k2, k3⟩ := iter_inv (f := bX7_sortEvery_8 F (nI g)) (fun t q => q.1 = nI (g + t) ∧ E1 29 m q.2 ∧ ∃ K, RK K N q.2 ∧ (∀ w, cw K w N = cw K0 w N) ∧ (g = 1 → Srt K (g + t))) (N - g) (fun e => E1 29 m e.2 ∧ ∃ K, RK K N e.2 ∧ (∀ w, cw K w N = cw K0 w N) ∧ (g = 1 → Srt K N)) (by
      rintro t ⟨y, m1⟩ ht ⟨rfl, he, K, hK, hc, hso⟩
      dsimp only at he hK
      refine Or.inl ?_
      have e2 : m1.1 26 2 = nI N := by rw [he.1 26 (by decide)]; exact h2
      obtain ⟨v1, v2⟩ := hK (g + t) (by omega)
      obtain ⟨d, d1, hole, K', d2, d3, d4, d5, d6, d7⟩ := x_insert hF hN hg (show g ≤ g + t by omega) (show g + t < N by omega) hK hso
      rw [bX7_sortEvery_8, e2, ite_leN (by omega) (by omega), if_neg (by omega), show (252 : Int32) = nI 252 from rfl, ite_leN (by omega) (by omega), if_neg (by omega), chk_pos (inb_nI (by omega) (by omega)), lete_eq, nI_clamp (by omega), v1, d1, Option.bind_some, d2, chk_pos (inb_nI (by omega) (by omega)), lete_eq, nI_clamp (by omega), nI_1]
      refine ⟨_, rfl, rfl, he.tr (d4.tr E1.mu), kup K' hole (K (g + t)), d5.up v2, fun w => ?_, fun z => ?_⟩
      · have u := cw_upd (K := K') (a := hole) (v := K (g + t)) (w := w) N (by omega)
        have u2 := d6 w
        have u3 := hc w
        omega
      · obtain ⟨s1, s2, s3⟩ := d7 z
        intro a b hab hb
        by_cases e1 : a = hole
        · subst e1
          rw [kup_same, kup_ne (by omega)]
          exact s2 b hab (by omega)
        · rw [kup_ne e1]
          by_cases e3 : b = hole
          · subst e3
            rw [kup_same]
            rcases s3 with s3 | s3
            · omega
            · by_cases e4 : a = b - 1
              · subst e4; exact s3
              · exact Nat.le_trans (s1 a (b - 1) (by omega) (by omega) (by omega) (by omega)) s3
          · rw [kup_ne e3]
            exact s1 a b hab (by omega) e1 e3) (by
      rintro ⟨y, m1⟩ ⟨rfl, he, K, hK, hc, hso⟩
      dsimp only at he hK
      have e2 : m1.1 26 2 = nI N := by rw [he.1 26 (by decide)]; exact h2
      refine ⟨(nI (g + (N - g)), m1), ?_, he, K, hK, hc, fun z => ?_⟩
      · rw [bX7_sortEvery_8, e2, ite_leN (by omega) (by omega), if_pos (by omega)]
      · intro a b hab hb
        exact hso z a b hab (by omega)) F 0 (nI g, m) (Nat.zero_le _) (by omega) ⟨rfl, E1.rf _ _, K0, hr, fun _ => rfl, fun z a b hab hb => by omega⟩
  refine ⟨e.2, ?_, k2, k3⟩
  rw [gX7_sortEvery, show (1 : Int32) = nI 1 from rfl, ite_leN (by omega) (by omega), if_pos hg, k1, Option.bind_some]
/-- the key of the q-th way -/
def kq (V : Vd) (q : Nat) : Nat := key V ((ways V).getD q 0)
theorem kq_at {q s : Nat} (h : (ways V)[q]? = some s) : kq V q = key V s := by unfold kq; rw [List.getD_eq_getElem?_getD, h]; rfl
theorem key_lt (hV : okV V) {s : Nat} (hs : s < 2 ^ V.2.1) : key V s < 2 ^ 31 ∧ key V s / 1024 = cos V s ∧ key V s % 1024 = s := by
  have h1 := cos_le hV s
  have h2 := hV.sl hs
  unfold key
  omega
theorem kq_all : (List.range (ways V).length).map (kq V) = (ways V).map (key V) := by
  apply List.ext_getElem?
  intro i
  rw [List.getElem?_map, List.getElem?_map]
  by_cases hi : i < (ways V).length
  · obtain ⟨s, hs⟩ := ways_at hi
    rw [List.getElem?_range hi, hs]
    show some (kq V i) = some (key V s)
    rw [kq_at hs]
  · have n1 : (List.range (ways V).length)[i]? = none := List.getElem?_eq_none (by rw [List.length_range]; omega)
    have n2 : (ways V)[i]? = none := List.getElem?_eq_none (by omega)
    rw [n1, n2, Option.map_none, Option.map_none]
theorem x_keys (hF : 2000 ≤ F) (hV : okV V) (hx : IX m 1 V) (hw : IW m V) : ∃ e, iter F (bX7_sortByCost_10 F) (0, m) = some e ∧ E1 29 m e.2 ∧ RK (kq V) (ways V).length e.2 := by
  have hl := ways_le hV
  exact iter_inv (f := bX7_sortByCost_10 F) (fun i q => q.1 = nI i ∧ E1 29 m q.2 ∧ RK (kq V) i q.2) (ways V).length (fun e => E1 29 m e.2 ∧ RK (kq V) (ways V).length e.2) (by
      rintro i ⟨y, m1⟩ hi ⟨rfl, he, hK⟩
      dsimp only at he hK
      refine Or.inl ?_
      obtain ⟨s, hs⟩ := ways_at hi
      have hsl := (ways_in hs).1
      have e2 : m1.1 26 2 = nI (ways V).length := by rw [he.1 26 (by decide)]; exact hw.1
      have e27 : m1.1 27 i = nI s := by rw [he.1 27 (by decide)]; exact (hw.2 i s hs).1
      have hx1 : IX m1 1 V := hx.sm (fun k hk => he.1 _ (by omega))
      have hib : inb (nI i) 252 := inb_nI (by omega) (by omega)
      rw [bX7_sortByCost_10, e2, ite_leN (by omega) (by omega), if_neg (by omega), show (252 : Int32) = nI 252 from rfl, ite_leN (by omega) (by omega), if_neg (by omega), chk_pos hib, nI_clamp (by omega), e27, x_costOf hF hV hx1 hsl, Option.bind_some, chk_pos hib, chk_pos hib, lete_eq, show (1024 : Int32) = nI 1024 from rfl, pk_mul, nI_add, nI_1]
      refine ⟨_, rfl, rfl, he.tr E1.mu, fun q hq => ?_⟩
      dsimp only
      rw [mu_g, if_pos rfl]
      by_cases e : q = i
      · subst e
        rw [if_pos rfl, kq_at hs]
        exact ⟨rfl, (key_lt hV hsl).1⟩
      · rw [if_neg e]; exact hK q (by omega)) (by
      rintro ⟨y, m1⟩ ⟨rfl, he, hK⟩
      dsimp only at he hK
      have e2 : m1.1 26 2 = nI (ways V).length := by rw [he.1 26 (by decide)]; exact hw.1
      refine ⟨(nI (ways V).length, m1), ?_, he, hK⟩
      rw [bX7_sortByCost_10, e2, ite_leN (by omega) (by omega), if_pos (Nat.le_refl _)]) F 0 (0, m) (Nat.zero_le _) (by omega) ⟨rfl, E1.rf _ _, fun q hq => absurd hq (by omega)⟩
/-- only the order of the keys differs -/
def ES (m m' : Mem) : Prop := (∀ j, j ≠ 26 → j ≠ 29 → m'.1 j = m.1 j) ∧ (∀ k, k ≠ 6 → m'.1 26 k = m.1 26 k) ∧ m'.2 = m.2
/-- the keys in order -/
def KS (V : Vd) (m : Mem) (ks : List Nat) : Prop := ks.Perm ((ways V).map (key V)) ∧ ks.Pairwise (· ≤ ·) ∧ ∀ i k, ks[i]? = some k → m.1 29 i = nI k
theorem x_sort (hF : 2000 ≤ F) (hV : okV V) (hx : IX m 1 V) (hw : IW m V) (hs : ISo m V) : ∃ m', gX7_sortByCost F m = some m' ∧ ES m m' ∧ m'.1 26 6 = 1 ∧ ∃ ks, KS V m' ks := by
  rcases hs with h0 | ⟨h1, ks, h2⟩
  · have hl := ways_le hV
    obtain ⟨ea, a1, a2, a3⟩ := x_keys hF hV hx hw
    have e2 : ∀ {m'}, E1 29 m m' → m'.1 26 2 = nI (ways V).length := fun he => by rw [he.1 26 (by decide)]; exact hw.1
    obtain ⟨mb, b1, b2, Kb, b3, b4, -⟩ := x_every (g := 40) hF hl (by omega) (by omega) (e2 a2) a3
    obtain ⟨mc, c1, c2, Kc, c3, c4, -⟩ := x_every (g := 13) hF hl (by omega) (by omega) (e2 (a2.tr b2)) b3
    obtain ⟨md, d1, d2, Kd, d3, d4, -⟩ := x_every (g := 4) hF hl (by omega) (by omega) (e2 ((a2.tr b2).tr c2)) c3
    obtain ⟨me, e1, e2', Ke, e3, e4, e5⟩ := x_every (g := 1) hF hl (by omega) (by omega) (e2 (((a2.tr b2).tr c2).tr d2)) d3
    have hE : E1 29 m me := (((a2.tr b2).tr c2).tr d2).tr e2'
    refine ⟨mu me 26 6 1, ?_, ⟨fun j h1 h2 => by rw [mu_row _ _ h1]; exact hE.1 j h2, fun k hk => by rw [mu_ne _ _ (Or.inr hk), hE.1 26 (by decide)], hE.2⟩, mu_same _ _ _ _, (List.range (ways V).length).map Ke, ?_, ?_, ?_⟩
    · rw [gX7_sortByCost, if_pos h0, a1, Option.bind_some, show (40 : Int32) = nI 40 from rfl, b1, Option.bind_some, show (13 : Int32) = nI 13 from rfl, c1, Option.bind_some, show (4 : Int32) = nI 4 from rfl, d1, Option.bind_some, show (1 : Int32) = nI 1 from rfl, e1, Option.bind_some, lete_eq]
    · rw [← kq_all, List.perm_iff_count]
      intro w
      rw [cw_count, cw_count, e4, d4, c4, b4]
    · rw [List.pairwise_map]
      refine List.Pairwise.imp_of_mem ?_ (List.pairwise_lt_range (n := (ways V).length))
      intro a b ha hb hab
      exact e5 rfl a b hab (List.mem_range.mp hb)
    · intro i k hk
      rw [List.getElem?_map] at hk
      by_cases hi : i < (ways V).length
      · rw [List.getElem?_range hi] at hk
        have : Ke i = k := by simpa using hk
        rw [mu_row _ _ (by decide), (e3 i hi).1, this]
      · rw [List.getElem?_eq_none (by rw [List.length_range]; omega)] at hk
        cases hk
  · refine ⟨m, ?_, ⟨fun _ _ _ => rfl, fun _ _ => rfl, rfl⟩, h1, ks, h2⟩
    rw [gX7_sortByCost, if_neg (by rw [h1]; decide)]
theorem IAll.sorted {PM PS : Nat → Nat → Nat} {m1 : Mem} (h : IAll PM PS m V) (he : ES m m1) (h6 : m1.1 26 6 = 1) (hs : ∃ ks, KS V m1 ks) : IAll PM PS m1 V := by
  obtain ⟨a1, a2, a3, a4, a5, a6, a7, a8, a9, a10, a11⟩ := h
  have r := he.1
  refine ⟨a1, a2.sm (fun k hk => r _ (by omega) (by omega)), a3.sm (by rw [r 43 (by decide) (by decide)]) (by rw [r 43 (by decide) (by decide)]) (fun k hk => r _ (by omega) (by omega)), ?_, a5.sm (he.2.1 2 (by decide)) (r 27 (by decide) (by decide)) (r 28 (by decide) (by decide)), Or.inr ⟨h6, hs⟩, a7.sm (by rw [r 22 (by decide) (by decide)]) (by rw [r 43 (by decide) (by decide)]) (r 23 (by decide) (by decide)) (r 52 (by decide) (by decide)), a8.sm (by rw [r 0 (by decide) (by decide)]) (by rw [r 43 (by decide) (by decide)]) (fun k hk => r _ (by omega) (by omega)) (fun k hk => by rw [r 56 (by decide) (by decide)]), a9.sm (by rw [r 35 (by decide) (by decide)]) (by rw [r 43 (by decide) (by decide)]) (r 36 (by decide) (by decide)) (r 63 (by decide) (by decide)), a10.sm (r 42 (by decide) (by decide)) (r 44 (by decide) (by decide)), a11.sm (by rw [r 31 (by decide) (by decide)]) (r 33 (by decide) (by decide)) (r 34 (by decide) (by decide))⟩
  unfold IJ at a4 ⊢
  rw [r 25 (by decide) (by decide)]
  exact a4
end
