section
variable {F : Nat} {m : Mem} {V : Vd}
theorem lgE {α : Type} {a b : Nat} (ha : a < 2 ^ 63) (hb : b < 2 ^ 63) (x y : α) : (if lg_cmp (lN a) (lN b) = 0 then x else y) = if a = b then x else y := by
  rw [lg_cmpN ha hb]
  by_cases c : a = b
  · subst c
    rw [if_neg (Nat.lt_irrefl a), if_pos rfl, if_pos rfl, if_pos rfl]
  · rw [if_neg c, if_neg c]
    by_cases d : b < a
    · rw [if_pos d, if_neg (by decide)]
    · rw [if_neg d, if_neg (by decide)]
theorem lgZ {α : Type} {a : Nat} (ha : a < 2 ^ 63) (x y : α) : (if lg_cmp (lN a) 0 ≤ 0 then x else y) = if a = 0 then x else y := by
  rw [show (0 : Int64) = lN 0 from rfl, lg_cmpN ha (by omega)]
  by_cases c : a = 0
  · subst c
    rw [if_neg (Nat.lt_irrefl 0), if_pos rfl, if_pos rfl, if_pos (by decide)]
  · rw [if_neg c, if_pos (show 0 < a by omega), if_neg (by decide), if_neg c]
theorem lgG {α : Type} {a b : Nat} (ha : a < 2 ^ 63) (hb : b < 2 ^ 63) (x y : α) : (if 0 ≤ lg_cmp (lN a) (lN b) then x else y) = if b ≤ a then x else y := by
  rw [lg_cmpN ha hb]
  by_cases c : b ≤ a
  · rw [if_pos c]
    by_cases d : b < a
    · rw [if_pos d, if_pos (by decide)]
    · rw [if_neg d, if_pos (show a = b by omega), if_pos (by decide)]
  · rw [if_neg c, if_neg (show ¬ b < a by omega), if_neg (show ¬ a = b by omega), if_neg (by decide)]
theorem E43.fw {m m' : Mem} {L : List Nat} (h : E43 m m') (hw : FW m V L) : FW m' V L := by
  unfold FW at hw ⊢
  rw [h.2.1 24 (by decide), h.1 58 (by decide), h.2.2]
  exact hw
theorem m_dStep (hF : 2000 ≤ F) (hV : okV V) (hm : IM m V) (hw : FW m V (ways V)) {s : Ds} {l : Nat} {z : Int32} (hl : l < V.2.1) (hok : dok V l s) (hz : m.1 43 32 = s.2.2) (ez : lcg s.2.2 = z) : ∃ m', bX9_steps_6 F (mE s l m) = some (.inl (mE (dnx V l s z) (l + 1) m')) ∧ E43 m m' ∧ m'.1 43 32 = (dnx V l s z).2.2 := by
  obtain ⟨A, B, y⟩ := s
  dsimp only at hz ez
  obtain ⟨o1, o2, -, hpos⟩ := hok
  dsimp only at o1 o2 hpos
  have hn := hV.2.2.1
  have h1 := (more_lt o1).2
  have hS := pS_le hV A B
  have hSa := pS_le hV (A ||| 2 ^ l) B
  have h11 : 2 ^ (l + 1) ≤ 2 ^ 10 := Nat.pow_le_pow_right (by decide) (by omega)
  have h12 : 2 ^ l ≤ 2 ^ 10 := Nat.pow_le_pow_right (by decide) (by omega)
  have s5 : gX9_sumWith F m (nI A) (nI B) = some (lN (pS V A B)) := m_sumWith hF hV hw (by omega) (by omega)
  have s6 : gX9_sumWith F m (nI (A ||| 2 ^ l)) (nI B) = some (lN (pS V (A ||| 2 ^ l) B)) := m_sumWith hF hV hw (by omega) (by omega)
  have hR := Nat.mod_lt (rA z) hpos
  have hb : gX9_drawn m (lN (pS V A B)) = some (nI (rA z % pS V A B), mu m 43 32 z) := by rw [m_drawn hpos (by omega), hz, ez]
  unfold dnx mE
  dsimp only
  generalize rA z % pS V A B = R at hb hR ⊢
  rw [bX9_steps_6, hm.2.1, ite_leN (by omega) (by omega), if_neg (by omega), s5, Option.bind_some, sh1 (by omega), orI, s6, Option.bind_some, lgE (by omega) (by omega), lgZ (by omega), orI, lete_eq, lete_eq, hb, Option.bind_some, nI_1]
  dsimp only
  rw [nI_l (by omega), lgG (by omega) (by omega), lete_eq, lete_eq]
  by_cases c1 : pS V (A ||| 2 ^ l) B = pS V A B
  · rw [if_pos c1, if_pos c1]
    exact ⟨m, rfl, E43.rf m, hz⟩
  · rw [if_neg c1, if_neg c1]
    by_cases c2 : pS V (A ||| 2 ^ l) B = 0
    · rw [if_pos c2, if_pos c2]
      exact ⟨m, rfl, E43.rf m, hz⟩
    · rw [if_neg c2, if_neg c2]
      by_cases c3 : pS V (A ||| 2 ^ l) B ≤ R
      · rw [if_pos c3, if_pos c3]
        exact ⟨_, rfl, E43.mu, mu_same _ _ _ _⟩
      · rw [if_neg c3, if_neg c3]
        exact ⟨_, rfl, E43.mu, mu_same _ _ _ _⟩
theorem m_steps (hF : 2000 ≤ F) (hV : okV V) (hm : IM m V) (hw : FW m V (ways V)) (hN : 0 < (ways V).length) {z : Int32} (hz : m.1 43 32 = z) : ∃ m', gX9_steps F m = some (nI (dst V z V.2.1).1, m') ∧ E43 m m' ∧ m'.1 43 32 = (dst V z V.2.1).2.2 := by
  have hn := hV.2.2.1
  obtain ⟨e, k1, m', k2, k3, k4⟩ := iter_inv (f := bX9_steps_6 F) (fun i s => ∃ m2, s = mE (dst V z i) i m2 ∧ E43 m m2 ∧ m2.1 43 32 = (dst V z i).2.2) V.2.1 (fun e => ∃ m2, e = mE (dst V z V.2.1) V.2.1 m2 ∧ E43 m m2 ∧ m2.1 43 32 = (dst V z V.2.1).2.2) (by
      rintro i s hi ⟨m2, rfl, he, hz2⟩
      refine Or.inl ?_
      have hok := dst_ok (V := V) (z := z) hN hV i
      have hsu := dst_succ (V := V) (z := z) (l := i)
      generalize dst V z (i + 1) = s' at hsu ⊢
      generalize dst V z i = s at hsu hz2 hok ⊢
      generalize ez : lcg s.2.2 = z' at hsu
      obtain ⟨m3, g1, g2, g3⟩ := m_dStep hF hV (he.im hm) (he.fw hw) hi hok hz2 ez
      rw [hsu]
      exact ⟨_, g1, m3, rfl, he.tr g2, g3⟩) (by
      rintro s ⟨m2, rfl, he, hz2⟩
      refine ⟨mE (dst V z V.2.1) V.2.1 m2, ?_, m2, rfl, he, hz2⟩
      unfold mE
      rw [bX9_steps_6, (he.im hm).2.1, ite_leN (by omega) (by omega), if_pos (Nat.le_refl _)]) F 0 (mE (dst V z 0) 0 m) (Nat.zero_le _) (by omega) ⟨m, rfl, E43.rf _, hz⟩
  refine ⟨m', ?_, k3, k4⟩
  have k1' : iter F (bX9_steps_6 F) (0, 0, 0, m) = some e := k1
  rw [gX9_steps, k1', Option.bind_some, k2]
  rfl
/-! ===== the dearest ===== -/
/-- the way of most cost, of several the least -/
def Dst (V : Vd) (s : Nat) : Prop := s ∈ ways V ∧ ∀ w, w ∈ ways V → cos V w < cos V s ∨ (cos V w = cos V s ∧ s ≤ w)
theorem Dst.uniq {s t : Nat} (h : Dst V s) (g : Dst V t) : s = t := by
  have a := h.2 t g.1
  have b := g.2 s h.1
  omega
theorem m_dearest (hF : 2000 ≤ F) (hV : okV V) (hm : IM m V) (hw : FW m V (ways V)) (hN : 0 < (ways V).length) : ∃ s, gX9_dearest F m = some (nI s) ∧ Dst V s := by
  have hl := ways_le hV
  obtain ⟨e, k1, p, k2, k3, k4⟩ := iter_inv (f := bX9_dearest_4 F m) (fun i s => s.2 = nI (i + 1) ∧ ∃ p, s.1 = nI p ∧ p < i + 1 ∧ ∀ q, q < i + 1 → cos V (wq V q) < cos V (wq V p) ∨ (cos V (wq V q) = cos V (wq V p) ∧ p ≤ q)) ((ways V).length - 1) (fun e => ∃ p, e.1 = nI p ∧ p < (ways V).length ∧ ∀ q, q < (ways V).length → cos V (wq V q) < cos V (wq V p) ∨ (cos V (wq V q) = cos V (wq V p) ∧ p ≤ q)) (by
      rintro i ⟨y, z⟩ hi ⟨hz, p, hy, hp, hb⟩
      dsimp only at hz hy
      subst hz; subst hy
      refine Or.inl ?_
      have c1 := cos_le hV (wq V p)
      have c2 := cos_le hV (wq V (i + 1))
      rw [bX9_dearest_4, hw.1, ite_leN (by omega) (by omega), if_neg (by omega), chk_pos (inb_nI (by omega) (by omega)), nI_clamp (by omega), m_cost hF hV hm hw (show i + 1 < (ways V).length by omega), Option.bind_some, chk_pos (inb_nI (by omega) (by omega)), nI_clamp (by omega), m_cost hF hV hm hw (show p < (ways V).length by omega), Option.bind_some, ite_leN (by omega) (by omega), nI_1]
      by_cases c : cos V (wq V (i + 1)) ≤ cos V (wq V p)
      · rw [if_pos c]
        refine ⟨_, rfl, rfl, p, rfl, by omega, fun q hq => ?_⟩
        by_cases e : q = i + 1
        · subst e; omega
        · exact hb q (by omega)
      · rw [if_neg c]
        refine ⟨_, rfl, rfl, i + 1, rfl, by omega, fun q hq => ?_⟩
        by_cases e : q = i + 1
        · subst e; omega
        · have := hb q (by omega)
          omega) (by
      rintro ⟨y, z⟩ ⟨hz, p, hy, hp, hb⟩
      dsimp only at hz hy
      subst hz; subst hy
      refine ⟨(nI p, nI ((ways V).length - 1 + 1)), ?_, p, rfl, by omega, fun q hq => hb q (by omega)⟩
      rw [bX9_dearest_4, hw.1, ite_leN (by omega) (by omega), if_pos (by omega)]) F 0 (0, 1) (Nat.zero_le _) (by omega) ⟨rfl, 0, rfl, by omega, fun q hq => by
        have : q = 0 := by omega
        subst this
        exact Or.inr ⟨rfl, Nat.le_refl _⟩⟩
  refine ⟨wq V p, ?_, List.mem_of_getElem? (wq_at k3), fun w hw2 => ?_⟩
  · rw [gX9_dearest, k1, Option.bind_some, k2, chk_pos (inb_nI (by omega) (by omega)), nI_clamp (by omega), (hw.2 p _ (wq_at k3)).1]
  · obtain ⟨q, hq⟩ := List.getElem?_of_mem hw2
    have hqN := (List.getElem?_eq_some_iff.mp hq).1
    have e : wq V q = w := by
      have := wq_at hqN
      rw [hq] at this
      simpa using this.symm
    have := k4 q hqN
    rw [e] at this
    rcases this with t | ⟨t, u⟩
    · exact Or.inl t
    · refine Or.inr ⟨t, ?_⟩
      by_cases g : p = q
      · subst g; omega
      · have := wq_mono (show p < q by omega) hqN
        omega
end
