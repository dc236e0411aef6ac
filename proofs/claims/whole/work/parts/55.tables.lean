/-! ===== the class's tables: what the sets of lanes join ===== -/
theorem enc_upd {l l' : Nat → Nat} {k : Nat} : ∀ n, k < n → (∀ i, i ≠ k → l' i = l i) → enc l' n + l k * 8 ^ k = enc l n + l' k * 8 ^ k
  | 0, h, _ => absurd h (by omega)
  | n + 1, h, g => by
    by_cases e : k = n
    · subst e
      have : ∀ q, q ≤ k → enc l' q = enc l q := by
        intro q hq
        induction q with
        | zero => rfl
        | succ q ih => rw [enc, enc, ih (by omega), g q (by omega)]
      rw [enc, enc, this k (Nat.le_refl k)]
      omega
    · have := enc_upd n (by omega) g
      rw [enc, enc, g n (fun q => e q.symm)]
      omega
theorem enc_same {l l' : Nat → Nat} : ∀ n, (∀ i, i < n → l' i = l i) → enc l' n = enc l n
  | 0, _ => rfl
  | n + 1, g => by rw [enc, enc, enc_same n (fun i hi => g i (by omega)), g n (by omega)]
/-- a state: the marks of the houses, a ring, the parts -/
def est (l : Nat → Nat) (r p : Nat) : Nat := enc l 7 + r * 8 ^ 7 + p * 2 ^ 22
theorem est_lt {l : Nat → Nat} {r p : Nat} (hl : ∀ i, i < 7 → l i < 8) (hr : r ≤ 1) (hp : p ≤ 7) : est l r p < 2 ^ 25 := by
  have := enc_lt 7 hl
  unfold est
  omega
theorem est_digit {l : Nat → Nat} {r p h : Nat} (hl : ∀ i, i < 7 → l i < 8) (hh : h < 7) : est l r p / 8 ^ h % 8 = l h := by
  have e : est l r p = enc l 7 + (r + 2 * p) * 8 ^ 7 := by unfold est; omega
  rw [e]
  exact enc_digit 7 _ h hh hl
theorem g_apart {F H : Nat} (hF : 2000 ≤ F) (hH : H ≤ 7) : gX2_apart F (nI H) = some (nI (est (fun h => h) 0 H)) := by
  have hs : ∀ i, i ≤ 7 → enc (fun h => h) i < 8 ^ i := fun i hi => enc_lt i (fun j hj => by omega)
  simp only [gX2_apart, lete]
  rw [show (22 : Int32) = nI 22 from rfl, shl1N (by omega) (by omega)]
  suffices e9 : iter F bX2_apart_7 (nI (H * 2 ^ 22), 0) = some (nI (est (fun h => h) 0 H), nI 7) by rw [e9]; rfl
  generalize hP : H * 2 ^ 22 = P
  have q := iter_at (F := F) (f := bX2_apart_7) (fun i => (nI (P + enc (fun h => h) i), nI i)) 7 (nI (est (fun h => h) 0 H), nI 7) (fun i hi => ?_) ?_ (by omega)
  · exact q
  · simp only [bX2_apart_7, lete]
    rw [show (7 : Int32) = nI 7 from rfl, ite_leN (by omega) (by omega), if_neg (by omega), show (3 : Int32) = nI 3 from rfl, pk_mul, nI_1]
    have key : ∀ i, i < 7 → ∀ H, H < 8 → (nI (H * 2 ^ 22 + enc (fun h => h) i) ||| (nI i <<< (nI (3 * i) &&& 31))) = nI (H * 2 ^ 22 + enc (fun h => h) (i + 1)) := by decide +kernel
    rw [← hP, key i hi H (by omega)]
  · simp only [bX2_apart_7]
    rw [show (7 : Int32) = nI 7 from rfl, ite_leN (by omega) (by omega), if_pos (by omega)]
    rw [← hP]
    unfold est
    rw [Nat.zero_mul, Nat.add_zero, Nat.add_comm]
/-- a lane more -/
def lj (l : Nat → Nat) (a b : Nat) : Nat → Nat := fun h => if l h = max (l a) (l b) then min (l a) (l b) else l h
set_option maxHeartbeats 2000000 in
theorem g_joined {F : Nat} {l : Nat → Nat} {r p a b : Nat} (hF : 2000 ≤ F) (hl : ∀ i, l i ≤ i) (hr : r ≤ 1) (hp : p ≤ 7) (ha : a < 7) (hb : b < 7) (hp1 : l a ≠ l b → 1 ≤ p) : gX2_joined F (nI (est l r p)) (nI a) (nI b) = some (nI (if l a = l b then est l 1 p else est (lj l a b) r (p - 1))) := by
  have hl8 : ∀ i, i < 7 → l i < 8 := fun i hi => by have := hl i; omega
  have hE := est_lt hl8 hr hp
  have la := hl a
  have lb := hl b
  unfold gX2_joined
  rw [x_partOf (by omega) ha, Option.bind_some, x_partOf (by omega) hb, Option.bind_some, est_digit hl8 ha, est_digit hl8 hb, ite_eqN (by omega) (by omega)]
  by_cases hq : l a = l b
  · rw [if_pos hq, if_pos hq]
    congr 1
    rw [show (2097152 : Int32) = nI (2 ^ 21) from rfl, orI]
    congr 1
    have hT : enc l 7 < 2 ^ 21 := by have := enc_lt 7 hl8; omega
    have e0 : est l 0 p = 2 ^ 21 * (2 * p) + enc l 7 := by unfold est; omega
    have e1 : est l 1 p = 2 ^ 21 * (1 + 2 * p) + enc l 7 := by unfold est; omega
    have bitE : ∀ q i, (2 ^ 21 * q + enc l 7).testBit i = if i < 21 then (enc l 7).testBit i else q.testBit (i - 21) := fun q i => Nat.testBit_two_pow_mul_add q hT i
    have hr2 : r = 0 ∨ r = 1 := by omega
    apply Nat.eq_of_testBit_eq
    intro i
    rw [Nat.testBit_or, Nat.testBit_two_pow, e1, bitE]
    have er : est l r p = 2 ^ 21 * (r + 2 * p) + enc l 7 := by unfold est; omega
    rw [er, bitE]
    by_cases hi : i < 21
    · have : ¬ 21 = i := by omega
      simp [hi, this]
    · rw [if_neg hi, if_neg hi]
      by_cases h21 : 21 = i
      · subst h21
        simp [tb_div]
      · obtain ⟨d, hd⟩ : ∃ d, i - 21 = d + 1 := ⟨i - 22, by omega⟩
        rw [hd, Nat.testBit_succ, Nat.testBit_succ]
        have : (r + 2 * p) / 2 = (1 + 2 * p) / 2 := by omega
        rw [this]
        simp [h21]
  · rw [if_neg hq, if_neg hq]
    have hp2 := hp1 hq
    simp only [lete]
    rw [ite_ltN (by omega) (by omega), ite_ltN (by omega) (by omega)]
    have emin : (if l b < l a then nI (l b) else nI (l a)) = nI (min (l a) (l b)) := by split <;> congr 1 <;> omega
    have emax : (if l a < l b then nI (l b) else nI (l a)) = nI (max (l a) (l b)) := by split <;> congr 1 <;> omega
    rw [emin, emax]
    generalize hM : max (l a) (l b) = M
    generalize hN : min (l a) (l b) = N
    have hMN : N < M := by omega
    have hM7 : M < 7 := by omega
    have esub : nI (est l r p) - 4194304 = nI (est l r (p - 1)) := by
      rw [show (4194304 : Int32) = nI (2 ^ 22) from rfl, pk_sub (by unfold est; omega), show est l r p - 2 ^ 22 = est l r (p - 1) by unfold est; omega]
    rw [esub]
    have elj : ∀ h, lj l a b h = if l h = M then N else l h := fun h => by unfold lj; rw [hM, hN]
    suffices e9 : iter F (bX2_joined_50 (nI (est l r p)) (nI N) (nI M)) (nI (est l r (p - 1)), nI M) = some (nI (est (lj l a b) r (p - 1)), nI 7) by rw [e9]; rfl
    have hmix : ∀ i, i < 7 → (fun h => if h < i then lj l a b h else l h) i = l i := fun i _ => by simp
    have q := iter_at (F := F) (f := bX2_joined_50 (nI (est l r p)) (nI N) (nI M)) (fun i => (nI (est (fun h => if h < M + i then lj l a b h else l h) r (p - 1)), nI (M + i))) (7 - M) (nI (est (lj l a b) r (p - 1)), nI 7) (fun i hi => ?_) ?_ (by omega)
    rotate_left
    · simp only [bX2_joined_50, lete]
      rw [show (7 : Int32) = nI 7 from rfl, ite_leN (by omega) (by omega), if_neg (by omega), x_partOf (by omega) (by omega), Option.bind_some, est_digit hl8 (by omega), ite_eqN (by have := hl (M + i); omega) (by omega)]
      have hnext : ∀ h, h ≠ M + i → (if h < M + (i + 1) then lj l a b h else l h) = (if h < M + i then lj l a b h else l h) := by
        intro h hh
        by_cases h1 : h < M + i
        · rw [if_pos h1, if_pos (by omega)]
        · rw [if_neg h1, if_neg (by omega)]
      have hu := enc_upd (l := fun h => if h < M + i then lj l a b h else l h) (l' := fun h => if h < M + (i + 1) then lj l a b h else l h) (k := M + i) 7 (by omega) hnext
      simp only [Nat.lt_irrefl, if_false, show M + i < M + (i + 1) by omega, if_true] at hu
      have hp8 : 8 ^ (M + i) ≤ 8 ^ 6 := Nat.pow_le_pow_right (by decide) (by omega)
      by_cases hc : l (M + i) = M
      · rw [if_pos hc, show (3 : Int32) = nI 3 from rfl, pk_mul, pk_sub (by omega), shl1N (by omega) (by
          rw [Nat.pow_mul]
          have : (M - N) * (2 ^ 3) ^ (M + i) ≤ 7 * 8 ^ 6 := Nat.mul_le_mul (by omega) hp8
          omega), Nat.pow_mul, nI_1, Nat.add_assoc]
        rw [elj, if_pos hc, hc] at hu
        have hM8 : (M - N) * 8 ^ (M + i) + N * 8 ^ (M + i) = M * 8 ^ (M + i) := by rw [← Nat.add_mul]; congr 1; omega
        rw [pk_sub (by
          show (M - N) * 8 ^ (M + i) ≤ _
          unfold est
          omega)]
        congr 4
        show est _ r (p - 1) - (M - N) * 8 ^ (M + i) = _
        unfold est
        omega
      · rw [if_neg hc, nI_1, Nat.add_assoc]
        rw [elj, if_neg hc] at hu
        congr 4
        unfold est
        omega
    · simp only [bX2_joined_50]
      rw [show (7 : Int32) = nI 7 from rfl, show M + (7 - M) = 7 by omega, ite_leN (by omega) (by omega), if_pos (by omega)]
      congr 4
    · have e0 : est (fun h => if h < M + 0 then lj l a b h else l h) r (p - 1) = est l r (p - 1) := by
        unfold est
        rw [enc_same (l := l) (l' := fun h => if h < M + 0 then lj l a b h else l h) 7 (fun i hi => by
          by_cases h1 : i < M
          · have h2 := hl i
            have h3 : ¬ l i = M := by omega
            simp [h1, elj, h3]
          · simp [h1])]
      rw [e0] at q
      exact q
theorem pw2 {l : Nat} (h : l ≤ 9) : 2 ^ l ≤ 512 := Nat.pow_le_pow_right (by decide) h
/-- only one row of cells differs -/
def E1 (j : Nat) (m m' : Mem) : Prop := (∀ i, i ≠ j → m'.1 i = m.1 i) ∧ m'.2 = m.2
theorem E1.rf (j : Nat) (m : Mem) : E1 j m m := ⟨fun _ _ => rfl, rfl⟩
theorem E1.tr {j : Nat} {a b c : Mem} (h : E1 j a b) (g : E1 j b c) : E1 j a c := ⟨fun i hi => (g.1 i hi).trans (h.1 i hi), g.2.trans h.2⟩
theorem E1.mu {j : Nat} {m : Mem} {k : Nat} {v : Int32} : E1 j m (mu m j k v) := ⟨fun _ hi => mu_row m v hi, rfl⟩
set_option maxHeartbeats 2000000 in
/-- every set gets a lane more -/
theorem g_joinAll {F : Nat} (hF : 2000 ≤ F) {m : Mem} {j l a b : Nat} (hl : l ≤ 9) (T T' : Nat → Nat) (ht : ∀ s, s < 2 ^ l → m.1 j s = nI (T s)) (hj : ∀ s, s < 2 ^ l → gX2_joined F (nI (T s)) (nI a) (nI b) = some (nI (T' s))) : ∃ m', gX2_joinAll F m j (nI l) (nI a) (nI b) = some m' ∧ E1 j m m' ∧ ∀ s, s < 2 ^ l → m'.1 j s = nI (T s) ∧ m'.1 j (2 ^ l + s) = nI (T' s) := by
  have hp := pw2 hl
  obtain ⟨e, h1, h2, h3, h4⟩ := iter_inv (f := bX2_joinAll_8 F j (nI a) (nI b) (nI (2 ^ l))) (fun i q => q.1 = nI i ∧ E1 j m q.2 ∧ (∀ s, s < 2 ^ l → q.2.1 j s = nI (T s)) ∧ ∀ s, s < i → q.2.1 j (2 ^ l + s) = nI (T' s)) (2 ^ l) (fun q => E1 j m q.2 ∧ (∀ s, s < 2 ^ l → q.2.1 j s = nI (T s)) ∧ ∀ s, s < 2 ^ l → q.2.1 j (2 ^ l + s) = nI (T' s)) (by
      rintro i ⟨y, m1⟩ hi ⟨rfl, he, hv, hw⟩
      dsimp only at he hv hw
      refine Or.inl ?_
      simp only [bX2_joinAll_8, lete]
      rw [nI_add, ite_leN (by omega) (by omega), if_neg (by omega), show (1024 : Int32) = nI 1024 from rfl, ite_leN (by omega) (by omega), if_neg (by omega), chk_pos (inb_nI (by omega) (by omega)), nI_clamp (by omega), hv i hi, hj i hi, Option.bind_some, chk_pos (inb_nI (by omega) (by omega)), nI_clamp (by omega), nI_1]
      refine ⟨_, rfl, rfl, he.tr E1.mu, fun s hs => ?_, fun s hs => ?_⟩
      · rw [mu_ne _ _ (Or.inr (by omega))]; exact hv s hs
      · rw [mu_g]
        by_cases hq : s = i
        · subst hq; simp
        · have : ¬ 2 ^ l + s = 2 ^ l + i := by omega
          simp only [this, if_true, if_false]
          exact hw s (by omega)) (by
      rintro ⟨y, m1⟩ ⟨rfl, he, hv, hw⟩
      dsimp only at he hv hw
      refine ⟨(nI (2 ^ l), m1), ?_, he, hv, hw⟩
      simp only [bX2_joinAll_8]
      rw [ite_leN (by omega) (by omega), if_pos (Nat.le_refl _)]) F 0 (nI 0, m) (Nat.zero_le _) (by omega) ⟨rfl, E1.rf j m, ht, fun s hs => absurd hs (by omega)⟩
  refine ⟨e.2, ?_, h2, fun s hs => ⟨h3 s hs, h4 s hs⟩⟩
  simp only [gX2_joinAll, lete]
  rw [sh1 (by omega), show (0 : Int32) = nI 0 from rfl, h1, Option.bind_some]
/-- the state of a set by the first k lanes -/
def sts (V : Vd) (s k : Nat) : Nat := est (lb V.2.2 s k) (if rg V.2.2 s k = 0 then 0 else 1) (V.1 - jn V.2.2 s k)
theorem stt_sts (V : Vd) (s : Nat) : stt V s = sts V s V.2.1 := rfl
theorem low_same {f : Nat → Nat → Nat} {s t : Nat} : ∀ k, (∀ i, i < k → s.testBit i = t.testBit i) → (∀ h, lb f s k h = lb f t k h) ∧ jn f s k = jn f t k ∧ rg f s k = rg f t k
  | 0, _ => ⟨fun _ => rfl, rfl, rfl⟩
  | k + 1, g => by
    obtain ⟨h1, h2, h3⟩ := low_same (f := f) k (fun i hi => g i (by omega))
    have hk := g k (by omega)
    refine ⟨fun h => ?_, ?_, ?_⟩
    · simp only [lb, hk, h1]
    · simp only [jn, hk, h1, h2]
    · simp only [rg, hk, h1, h3]
theorem sts_low {V : Vd} {s t k : Nat} (h : ∀ i, i < k → s.testBit i = t.testBit i) : sts V s k = sts V t k := by
  obtain ⟨h1, h2, h3⟩ := low_same (f := V.2.2) k h
  unfold sts
  rw [h2, h3]
  congr 1
  exact funext h1
theorem tb_add {l s i : Nat} (hs : s < 2 ^ l) : (2 ^ l + s).testBit i = if i < l then s.testBit i else decide (i = l) := by
  have := Nat.testBit_two_pow_mul_add 1 hs i
  rw [Nat.mul_one] at this
  rw [this]
  split
  · rfl
  · rename_i h
    rw [show (1 : Nat) = 2 ^ 0 from rfl, Nat.testBit_two_pow]
    apply decide_eq_decide.mpr
    omega
theorem sts_without {V : Vd} {s l : Nat} (hs : s < 2 ^ l) : sts V s (l + 1) = sts V s l := by
  have hb : s.testBit l = false := tb_hi hs (Nat.le_refl l)
  unfold sts
  have h1 : lb V.2.2 s (l + 1) = lb V.2.2 s l := funext fun h => by simp [lb, hb]
  have h2 : jn V.2.2 s (l + 1) = jn V.2.2 s l := by simp [jn, hb]
  have h3 : rg V.2.2 s (l + 1) = rg V.2.2 s l := by simp [rg, hb]
  rw [h1, h2, h3]
theorem sts_with {F : Nat} (hF : 2000 ≤ F) {V : Vd} (h : okV V) {s l : Nat} (hl : l < V.2.1) (hs : s < 2 ^ l) : gX2_joined F (nI (sts V s l)) (nI (V.2.2 l 1)) (nI (V.2.2 l 2)) = some (nI (sts V (2 ^ l + s) (l + 1))) := by
  have hH := h.2.1
  have c1 := (h.2.2.2 l hl).2.1
  have c2 := (h.2.2.2 l hl).2.2.1
  have jb := jn_rt V.2.2 s (H := V.1) l (fun q hq => ⟨(h.2.2.2 q (by omega)).2.1, (h.2.2.2 q (by omega)).2.2.1⟩)
  have jb2 := jn_rt V.2.2 (2 ^ l + s) (H := V.1) (l + 1) (fun q hq => ⟨(h.2.2.2 q (by omega)).2.1, (h.2.2.2 q (by omega)).2.2.1⟩)
  have hb : (2 ^ l + s).testBit l = true := by rw [tb_add hs]; simp
  obtain ⟨h1, h2, h3⟩ := low_same (f := V.2.2) (s := 2 ^ l + s) (t := s) l (fun i hi => by rw [tb_add hs, if_pos hi])
  have e1 : ∀ g, lb V.2.2 (2 ^ l + s) (l + 1) g = lj (lb V.2.2 s l) (V.2.2 l 1) (V.2.2 l 2) g := fun g => by simp [lb, hb, h1, lj]
  have e2 : jn V.2.2 (2 ^ l + s) (l + 1) = jn V.2.2 s l + (if lb V.2.2 s l (V.2.2 l 1) = lb V.2.2 s l (V.2.2 l 2) then 0 else 1) := by
    simp only [jn, hb, h1, h2, true_and, ne_eq]
    congr 1
    split <;> simp_all
  have e3 : rg V.2.2 (2 ^ l + s) (l + 1) = rg V.2.2 s l + (if lb V.2.2 s l (V.2.2 l 1) = lb V.2.2 s l (V.2.2 l 2) then 1 else 0) := by simp only [rg, hb, h1, h3, true_and]
  unfold sts
  rw [g_joined hF (lb_le V.2.2 s l) (by split <;> omega) (by omega) (by omega) (by omega) (fun q => by rw [e2, if_neg q] at jb2; omega)]
  congr 2
  rw [show lb V.2.2 (2 ^ l + s) (l + 1) = lj (lb V.2.2 s l) (V.2.2 l 1) (V.2.2 l 2) from funext e1, e2, e3]
  by_cases q : lb V.2.2 s l (V.2.2 l 1) = lb V.2.2 s l (V.2.2 l 2)
  · rw [if_pos q, if_pos q, if_pos q, if_neg (by omega), Nat.add_zero]
    have : lj (lb V.2.2 s l) (V.2.2 l 1) (V.2.2 l 2) = lb V.2.2 s l := by
      funext g
      unfold lj
      rw [q, Nat.max_self, Nat.min_self]
      split
      · rename_i e; exact e.symm
      · rfl
    rw [this]
  · rw [if_neg q, if_neg q, if_neg q, Nat.add_zero]
    congr 1
set_option maxHeartbeats 2000000 in
theorem x_build {F : Nat} (hF : 2000 ≤ F) {V : Vd} {m : Mem} (h : okV V) (hx : IX m 1 V) : ∃ m', gX2_build F m = some m' ∧ E1 25 m m' ∧ IJ m' V := by
  have hn := h.2.2.1
  have hH := h.2.1
  have h0 : E1 25 m (mu m 25 0 (nI (est (fun h => h) 0 V.1))) := E1.mu
  have hx1 : ∀ {m'}, E1 25 m m' → IX m' 1 V := fun he => hx.sm (fun k hk => he.1 _ (by omega))
  obtain ⟨e, h1, h2, h3⟩ := iter_inv (f := bX2_build_18 F) (fun i q => q.1 = nI i ∧ E1 25 m q.2 ∧ ∀ s, s < 2 ^ i → q.2.1 25 s = nI (sts V s i)) V.2.1 (fun q => E1 25 m q.2 ∧ IJ q.2 V) (by
      rintro i ⟨y, m1⟩ hi ⟨rfl, he, hv⟩
      dsimp only at he hv
      refine Or.inl ?_
      have hx2 := hx1 he
      obtain ⟨m2, g1, g2, g3⟩ := g_joinAll hF (m := m1) (j := 25) (l := i) (a := V.2.2 i 1) (b := V.2.2 i 2) (by omega) (fun s => sts V s i) (fun s => sts V (2 ^ i + s) (i + 1)) hv (fun s hs => sts_with hF h hi hs)
      simp only [bX2_build_18, lete]
      have e3 : m1.1 3 i = nI (V.2.2 i 1) := (hx2.2.2.2.2 i hi).2.1
      have e4 : m1.1 4 i = nI (V.2.2 i 2) := (hx2.2.2.2.2 i hi).2.2.1
      rw [hx2.2.1, ite_leN (by omega) (by omega), if_neg (by omega), show (10 : Int32) = nI 10 from rfl, ite_leN (by omega) (by omega), if_neg (by omega), chk_pos (inb_nI (by omega) (by omega)), chk_pos (inb_nI (by omega) (by omega)), nI_clamp (by omega), e3, e4, g1, Option.bind_some, nI_1]
      refine ⟨_, rfl, rfl, he.tr g2, fun s hs => ?_⟩
      dsimp only
      rcases Nat.lt_or_ge s (2 ^ i) with q | q
      · rw [(g3 s q).1, sts_without q]
      · rw [Nat.pow_succ] at hs
        have := (g3 (s - 2 ^ i) (by omega)).2
        rw [show 2 ^ i + (s - 2 ^ i) = s by omega] at this
        rw [this]) (by
      rintro ⟨y, m1⟩ ⟨rfl, he, hv⟩
      dsimp only at he hv
      refine ⟨(nI V.2.1, m1), ?_, he, hv⟩
      simp only [bX2_build_18]
      rw [(hx1 he).2.1, ite_leN (by omega) (by omega), if_pos (Nat.le_refl _)]) F 0 (nI 0, mu m 25 0 (nI (est (fun h => h) 0 V.1))) (Nat.zero_le _) (by omega) ⟨rfl, h0, fun s hs => by
        have : s = 0 := by simpa using hs
        subst this
        rw [mu_same]
        rfl⟩
  refine ⟨e.2, ?_, h2, h3⟩
  simp only [gX2_build, lete]
  rw [hx.1, g_apart hF hH, Option.bind_some, chk_pos (by decide), show (Int32.toNatClampNeg 0) = 0 from rfl, show (0 : Int32) = nI 0 from rfl, h1, Option.bind_some]
