/-! ===== the cheapest, one after the other ===== -/
theorem pw_at {R : Nat → Nat → Prop} {L : List Nat} (h : L.Pairwise R) {a b x y : Nat} (hab : a < b) (ha : L[a]? = some x) (hb : L[b]? = some y) : R x y := by
  obtain ⟨a1, a2⟩ := List.getElem?_eq_some_iff.mp ha
  obtain ⟨b1, b2⟩ := List.getElem?_eq_some_iff.mp hb
  have := List.pairwise_iff_getElem.mp h a b a1 b1 hab
  rw [a2, b2] at this
  exact this
section
variable {F : Nat} {m : Mem} {V : Vd}
def wq (V : Vd) (q : Nat) : Nat := (ways V).getD q 0
theorem wq_at {q : Nat} (h : q < (ways V).length) : (ways V)[q]? = some (wq V q) := by
  obtain ⟨s, hs⟩ := ways_at h
  unfold wq
  rw [List.getD_eq_getElem?_getD, hs]
  rfl
theorem wq_lt (hV : okV V) {q : Nat} (h : q < (ways V).length) : wq V q < 2 ^ V.2.1 ∧ wq V q < 1024 := ⟨(ways_in (wq_at h)).1, hV.sl (ways_in (wq_at h)).1⟩
theorem wq_mono {a b : Nat} (hab : a < b) (hb : b < (ways V).length) : wq V a < wq V b := ways_mono hab (wq_at (by omega)) (wq_at hb)
theorem kq_is (q : Nat) : kq V q = cos V (wq V q) * 1024 + wq V q := rfl
theorem ks_lt (hV : okV V) {ks : List Nat} (h1 : ks.Perm ((ways V).map (key V))) (h2 : ks.Pairwise (· ≤ ·)) : ks.Pairwise (· < ·) := by
  have hn : ((ways V).map (key V)).Nodup := by
    unfold List.Nodup
    rw [List.pairwise_map]
    refine List.Pairwise.imp_of_mem ?_ (ways_lt (V := V))
    intro a b ha hb hab e
    have ka := (key_lt hV (way_mem ha).1).2.2
    have kb := (key_lt hV (way_mem hb).1).2.2
    rw [e, kb] at ka
    omega
  have hn2 : ks.Nodup := h1.symm.nodup hn
  exact (h2.and hn2).imp (fun h => Nat.lt_of_le_of_ne h.1 h.2)
def oI : Option Nat → Int32
  | none => -1
  | some p => nI p
def cand (V : Vd) (c : Option Nat) (q : Nat) : Prop := ∀ p, c = some p → kq V p < kq V q
theorem m_cost (hF : 2000 ≤ F) (hV : okV V) (hm : IM m V) (hw : FW m V (ways V)) {q : Nat} (hq : q < (ways V).length) : gX9_costsOf F m (m.1 58 q) = some (nI (cos V (wq V q))) := by
  rw [(hw.2 q _ (wq_at hq)).1, m_costsOf hF hV hm (wq_lt hV hq).1]
def bz (V : Vd) (o : Option Nat) (i : Nat) : Option Nat := match o with
  | none => some i
  | some p => if cos V (wq V p) ≤ cos V (wq V i) then some p else some i
theorem m_blk (hF : 2000 ≤ F) (hV : okV V) (hm : IM m V) (hw : FW m V (ways V)) {i : Nat} (hi : i < (ways V).length) {o : Option Nat} (ho : ∀ p, o = some p → p < (ways V).length) : (if oI o < 0 then (some (.inl (nI i, nI i + 1)) : Option ((Int32 × Int32) ⊕ (Int32 × Int32))) else chk (inb (nI i) 1024) ((gX9_costsOf F m (m.1 58 (Int32.toNatClampNeg (nI i)))).bind (fun x6 => chk (inb (oI o) 1024) ((gX9_costsOf F m (m.1 58 (Int32.toNatClampNeg (oI o)))).bind (fun x8 => (if x8 ≤ x6 then some (.inl (oI o, nI i + 1)) else some (.inl (nI i, nI i + 1)))))))) = some (.inl (oI (bz V o i), nI (i + 1))) := by
  have hl := ways_le hV
  cases o with
  | none => rw [if_pos (show oI none < 0 by decide), nI_1]; rfl
  | some p =>
    have hp := ho p rfl
    have c1 := cos_le hV (wq V p)
    have c2 := cos_le hV (wq V i)
    rw [show oI (some p) = nI p from rfl]
    rw [if_neg (nI_pos (by omega)), chk_pos (inb_nI (by omega) (by omega)), nI_clamp (by omega), m_cost hF hV hm hw hi, Option.bind_some, chk_pos (inb_nI (by omega) (by omega)), nI_clamp (by omega), m_cost hF hV hm hw hp, Option.bind_some, ite_leN (by omega) (by omega), nI_1]
    unfold bz
    dsimp only
    by_cases q : cos V (wq V p) ≤ cos V (wq V i)
    · rw [if_pos q, if_pos q]; rfl
    · rw [if_neg q, if_neg q]; rfl
/-- the best so far -/
def Bo (V : Vd) (c o : Option Nat) (i : Nat) : Prop := (o = none → ∀ q, q < i → ¬ cand V c q) ∧ ∀ p, o = some p → p < i ∧ cand V c p ∧ ∀ q, q < i → cand V c q → kq V p ≤ kq V q
theorem Bo.skip {c o : Option Nat} {i : Nat} (h : Bo V c o i) (hn : ¬ cand V c i) : Bo V c o (i + 1) := by
  refine ⟨fun e q hq => ?_, fun p e => ?_⟩
  · by_cases z : q = i
    · subst z; exact hn
    · exact h.1 e q (by omega)
  · obtain ⟨a, b, d⟩ := h.2 p e
    refine ⟨by omega, b, fun q hq hc => ?_⟩
    by_cases z : q = i
    · subst z; exact absurd hc hn
    · exact d q (by omega) hc
theorem Bo.take (hV : okV V) {c o : Option Nat} {i : Nat} (hi : i < (ways V).length) (h : Bo V c o i) (hn : cand V c i) : Bo V c (bz V o i) (i + 1) := by
  cases o with
  | none =>
    refine ⟨fun e => (by simp [bz] at e), fun p e => ?_⟩
    have : i = p := by simpa [bz] using e
    subst this
    refine ⟨by omega, hn, fun q hq hc => ?_⟩
    by_cases z : q = i
    · subst z; exact Nat.le_refl _
    · exact absurd hc (h.1 rfl q (by omega))
  | some p0 =>
    obtain ⟨a, b, d⟩ := h.2 p0 rfl
    have hmo := wq_mono a hi
    have l1 := (wq_lt hV hi).2
    have l0 := (wq_lt hV (show p0 < (ways V).length by omega)).2
    unfold bz
    dsimp only
    by_cases q0 : cos V (wq V p0) ≤ cos V (wq V i)
    · rw [if_pos q0]
      refine ⟨fun e => (by cases e), fun p e => ?_⟩
      have : p0 = p := by simpa using e
      subst this
      refine ⟨by omega, b, fun q hq hc => ?_⟩
      by_cases z : q = i
      · subst z
        rw [kq_is, kq_is]
        omega
      · exact d q (by omega) hc
    · rw [if_neg q0]
      refine ⟨fun e => (by cases e), fun p e => ?_⟩
      have : i = p := by simpa using e
      subst this
      refine ⟨by omega, hn, fun q hq hc => ?_⟩
      by_cases z : q = i
      · subst z; exact Nat.le_refl _
      · refine Nat.le_trans ?_ (d q (by omega) hc)
        rw [kq_is, kq_is]
        omega
set_option maxHeartbeats 2000000 in
theorem m_next (hF : 2000 ≤ F) (hV : okV V) (hm : IM m V) (hw : FW m V (ways V)) {c : Option Nat} (hc : ∀ p, c = some p → p < (ways V).length) : ∃ e, iter F (bX9_cheapest_15 F m (oI c)) (-1, 0) = some e ∧ ∃ o, e.1 = oI o ∧ Bo V c o (ways V).length := by
  have hl := ways_le hV
  exact iter_inv (f := bX9_cheapest_15 F m (oI c)) (fun i q => q.2 = nI i ∧ ∃ o, q.1 = oI o ∧ Bo V c o i) (ways V).length (fun e => ∃ o, e.1 = oI o ∧ Bo V c o (ways V).length) (by
      rintro i ⟨y, z⟩ hi ⟨hz, o, hy, hb⟩
      dsimp only at hz hy
      subst hz; subst hy
      refine Or.inl ?_
      have ho : ∀ p, o = some p → p < (ways V).length := fun p e => by have := (hb.2 p e).1; omega
      have hK := m_blk hF hV hm hw hi ho
      have ib : inb (nI i) 1024 := inb_nI (by omega) (by omega)
      have ci := m_cost hF hV hm hw hi
      cases c with
      | none =>
        rw [bX9_cheapest_15, hw.1, ite_leN (by omega) (by omega), if_neg (by omega), if_pos (show oI none < 0 by decide), hK]
        exact ⟨_, rfl, rfl, _, rfl, hb.take hV hi (fun p e => by cases e)⟩
      | some p0 =>
        have hp := hc p0 rfl
        have pb : inb (nI p0) 1024 := inb_nI (by omega) (by omega)
        have cp := m_cost hF hV hm hw hp
        have c1 := cos_le hV (wq V p0)
        have c2 := cos_le hV (wq V i)
        have l0 := (wq_lt hV hp).2
        have l1 := (wq_lt hV hi).2
        show ∃ s', bX9_cheapest_15 F m (nI p0) (oI o, nI i) = some (.inl s') ∧ _
        rw [bX9_cheapest_15, hK, hw.1, ite_leN (by omega) (by omega), if_neg (by omega), if_neg (nI_pos (by omega)), chk_pos ib, chk_pos ib, nI_clamp (show i < 2 ^ 31 by omega), nI_clamp (show p0 < 2 ^ 31 by omega), ci, cp, Option.bind_some, chk_pos pb, Option.bind_some, Option.bind_some, chk_pos pb, Option.bind_some, ite_ltN (by omega) (by omega), ite_eqN (by omega) (by omega), ite_leN (by omega) (by omega), nI_1]
        by_cases q1 : cos V (wq V p0) < cos V (wq V i)
        · rw [if_pos q1]
          refine ⟨_, rfl, rfl, _, rfl, hb.take hV hi (fun p e => ?_)⟩
          have : p0 = p := by simpa using e
          subst this
          rw [kq_is, kq_is]; omega
        · rw [if_neg q1]
          by_cases q2 : cos V (wq V i) = cos V (wq V p0)
          · rw [if_pos q2]
            by_cases q3 : i ≤ p0
            · rw [if_pos q3]
              refine ⟨_, rfl, rfl, _, rfl, hb.skip (fun z => ?_)⟩
              have := z p0 rfl
              rw [kq_is, kq_is] at this
              by_cases q4 : i = p0
              · subst q4; omega
              · have := wq_mono (show i < p0 by omega) hp
                omega
            · rw [if_neg q3]
              refine ⟨_, rfl, rfl, _, rfl, hb.take hV hi (fun p e => ?_)⟩
              have : p0 = p := by simpa using e
              subst this
              have := wq_mono (show p0 < i by omega) hi
              rw [kq_is, kq_is]; omega
          · rw [if_neg q2]
            refine ⟨_, rfl, rfl, _, rfl, hb.skip (fun z => ?_)⟩
            have := z p0 rfl
            rw [kq_is, kq_is] at this
            omega) (by
      rintro ⟨y, z⟩ ⟨hz, o, hy, hb⟩
      dsimp only at hz hy
      subst hz; subst hy
      refine ⟨(oI o, nI (ways V).length), ?_, o, rfl, hb⟩
      rw [bX9_cheapest_15, hw.1, ite_leN (by omega) (by omega), if_pos (Nat.le_refl _)]) F 0 (-1, 0) (Nat.zero_le _) (by omega) ⟨rfl, none, rfl, fun _ q hq => absurd hq (by omega), fun p e => by cases e⟩
/-- so many have been passed -/
def Ps (V : Vd) (ks : List Nat) (r : Nat) (c : Option Nat) : Prop := (r = 0 ∧ c = none) ∨ ∃ t p, r = t + 1 ∧ c = some p ∧ p < (ways V).length ∧ ks[t]? = some (kq V p)
theorem Ps.next (hV : okV V) {ks : List Nat} (h1 : ks.Perm ((ways V).map (key V))) (h2 : ks.Pairwise (· ≤ ·)) {r : Nat} {c o : Option Nat} (hr : r < (ways V).length) (h : Ps V ks r c) (hb : Bo V c o (ways V).length) : Ps V ks (r + 1) o := by
  have hlt := ks_lt hV h1 h2
  have hlen : ks.length = (ways V).length := by rw [h1.length_eq, List.length_map]
  obtain ⟨k, hk⟩ : ∃ k, ks[r]? = some k := ⟨_, List.getElem?_eq_getElem (by omega)⟩
  have hin : k ∈ (ways V).map (key V) := (h1.mem_iff).mp (List.mem_of_getElem? hk)
  obtain ⟨s, hs, hsk⟩ := List.mem_map.mp hin
  obtain ⟨q, hq⟩ := List.getElem?_of_mem hs
  have hqN := (List.getElem?_eq_some_iff.mp hq).1
  have hkq : kq V q = k := by rw [kq_at hq, hsk]
  have hcand : cand V c q := by
    rintro p rfl
    rcases h with ⟨-, h⟩ | ⟨t, p', e1, e2, e3, e4⟩
    · cases h
    · have : p = p' := by simpa using e2
      subst this
      rw [hkq]
      exact pw_at hlt (show t < r by omega) e4 hk
  cases o with
  | none => exact absurd hcand (hb.1 rfl q hqN)
  | some p =>
    obtain ⟨b1, b2, b3⟩ := hb.2 p rfl
    refine Or.inr ⟨r, p, rfl, rfl, b1, ?_⟩
    rw [hk]
    congr 1
    have u := b3 q hqN hcand
    rw [hkq] at u
    have hpin : kq V p ∈ ks := (h1.mem_iff).mpr (List.mem_map.mpr ⟨wq V p, List.mem_of_getElem? (wq_at b1), rfl⟩)
    obtain ⟨j, hj⟩ := List.getElem?_of_mem hpin
    rcases Nat.lt_trichotomy j r with g | g | g
    · exfalso
      rcases h with ⟨h, -⟩ | ⟨t, p', e1, e2, e3, e4⟩
      · omega
      · have v := b2 p' e2
        by_cases z : j = t
        · subst z
          rw [hj] at e4
          have : kq V p = kq V p' := by simpa using e4
          omega
        · have := pw_at hlt (show j < t by omega) hj e4
          omega
    · subst g
      rw [hk] at hj
      simpa using hj
    · have := pw_at hlt g hk hj
      omega
theorem m_cheapest (hF : 2000 ≤ F) (hV : okV V) (hm : IM m V) (hw : FW m V (ways V)) {ks : List Nat} (h1 : ks.Perm ((ways V).map (key V))) (h2 : ks.Pairwise (· ≤ ·)) {i : Nat} (hi : i < (ways V).length) : ∃ p, gX9_cheapest F m (nI i) = some (nI p) ∧ p < (ways V).length ∧ ks[i]? = some (kq V p) := by
  have hl := ways_le hV
  obtain ⟨e, e1, c, e2, e3⟩ := iter_inv (f := bX9_cheapest_4 F m (nI i)) (fun r q => q.2 = nI r ∧ ∃ c, q.1 = oI c ∧ Ps V ks r c) (i + 1) (fun e => ∃ c, e.1 = oI c ∧ Ps V ks (i + 1) c) (by
      rintro r ⟨y, z⟩ hr ⟨hz, c, hy, hp⟩
      dsimp only at hz hy
      subst hz; subst hy
      refine Or.inl ?_
      obtain ⟨d, d1, o, d2, d3⟩ := m_next hF hV hm hw (c := c) (fun p e => by
        rcases hp with ⟨-, h⟩ | ⟨t, p', -, e2, e3, -⟩
        · rw [h] at e; cases e
        · rw [e2] at e
          have : p' = p := by simpa using e
          omega)
      rw [bX9_cheapest_4, ite_ltN (by omega) (by omega), if_neg (by omega), d1, Option.bind_some, d2, nI_1]
      exact ⟨_, rfl, rfl, o, rfl, hp.next hV h1 h2 (by omega) d3⟩) (by
      rintro ⟨y, z⟩ ⟨hz, c, hy, hp⟩
      dsimp only at hz hy
      subst hz; subst hy
      refine ⟨(oI c, nI (i + 1)), ?_, c, rfl, hp⟩
      rw [bX9_cheapest_4, ite_ltN (by omega) (by omega), if_pos (by omega)]) F 0 (-1, 0) (Nat.zero_le _) (by omega) ⟨rfl, none, rfl, Or.inl ⟨rfl, rfl⟩⟩
  rcases e3 with ⟨h, -⟩ | ⟨t, p, t1, t2, t3, t4⟩
  · omega
  · have : t = i := by omega
    subst this
    refine ⟨p, ?_, t3, t4⟩
    rw [gX9_cheapest, e1, Option.bind_some, e2, t2]
    rfl
theorem rem_key {k s : Nat} (hk : k < 2 ^ 31) (hs : k % 1024 = s) : nI k - nI k / 1024 * 1024 = nI s := by
  rw [show (1024 : Int32) = nI 1024 from rfl, pk_div (by omega) (by omega) (by omega), pk_mul, pk_sub (by omega)]
  congr 1
  omega
theorem div_key {k : Nat} (hk : k < 2 ^ 31) : nI k / 1024 = nI (k / 1024) := by
  rw [show (1024 : Int32) = nI 1024 from rfl, pk_div (by omega) (by omega) (by omega)]
end
