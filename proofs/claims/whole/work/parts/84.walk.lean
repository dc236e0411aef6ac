section
variable {F : Nat} {m : Mem} {V : Vd}
def wE (s : Ws) (i : Nat) (m : Mem) : Int32 × Int32 × Int32 × Int32 × Mem := (nI s.1, nI s.2.1, nI s.2.2.1, nI i, m)
theorem or_same {b o : Nat} (h : b.testBit o = true) : b ||| 2 ^ o = b := by
  apply Nat.eq_of_testBit_eq
  intro i
  rw [or_bit]
  by_cases e : o = i
  · subst e; rw [h]; rfl
  · simp [e]
theorem p7 {n : Nat} (h : n ≤ 7) : 2 ^ n ≤ 128 := Nat.pow_le_pow_right (by decide) h
theorem x_walkStep (hV : okV V) {s : Ws} {i p : Nat} {z : Int32} {q7 : Int32 × Mem} (hs : wok V s) (hi : i < 200) (hb : ¬ s.2.1 = 2 ^ V.1 - 1) (hl : gX0_laneFrom F m (nI s.1) = some q7) (hq : q7.1 = nI p) (hp : p < V.2.1) (hx : IX q7.2 1 V) : bX0_walkAbout_18 F (nI (2 ^ V.1 - 1)) (wE s i m) = some (.inl (wE (wnx V s p z) (i + 1) q7.2)) := by
  obtain ⟨h1, h2, h3⟩ := hs
  have hn := hV.2.2.1
  have hH := hV.2.1
  have h7 := p7 hH
  have ip : inb (nI p) 10 := inb_nI (by omega) (by omega)
  have e3 : q7.2.1 3 p = nI (V.2.2 p 1) := (hx.2.2.2.2 p hp).2.1
  have e4 : q7.2.1 4 p = nI (V.2.2 p 2) := (hx.2.2.2.2 p hp).2.2.1
  have b1 := (hV.2.2.2 p hp).2.1
  have b2 := (hV.2.2.2 p hp).2.2.1
  unfold wE
  rw [bX0_walkAbout_18, show (200 : Int32) = nI 200 from rfl, ite_leN (by omega) (by omega), if_neg (by omega), ite_eqN (by omega) (by omega), if_neg hb, hl, Option.bind_some, hq, x_hasLaneN hV hx hp, Option.bind_some, if_pos rfl, chk_pos ip, chk_pos ip, chk_pos ip, nI_clamp (by omega), e3, e4, lete_eq, lete_eq, lete_eq, lete_eq, lete_eq, lete_eq, ite_eqN (by omega) (by omega), ite_bit0 (by omega) (by omega), ite_bit0 (by omega) (by omega), sh1 (by omega), sh1 (by omega), sh1 (by omega), orI, orI, orI, nI_1]
  unfold wnx oth
  by_cases c : V.2.2 p 1 = s.1
  · rw [if_pos c, if_pos c]
    by_cases d : s.2.1.testBit (V.2.2 p 2) = true
    · rw [if_pos d, if_pos d]
    · rw [if_neg d, if_neg d]
  · rw [if_neg c, if_neg c]
    by_cases d : s.2.1.testBit (V.2.2 p 1) = true
    · rw [if_pos d, if_pos d]
    · rw [if_neg d, if_neg d]
theorem m_walkStep (hV : okV V) (hm : IM m V) {s : Ws} {i p R W d : Nat} {z : Int32} {q7 : Int32 × Mem} (hs : wok V s) (hi : i < 200) (hb : ¬ s.2.1 = 2 ^ V.1 - 1) (hW : gX9_weightsFrom F m (nI s.1) = some (nI W)) (hW0 : W ≠ 0) (hW1 : W < 2 ^ 31) (hl : gX9_drawn m (lN W) = some q7) (hq : q7.1 = nI R) (hk : iter F (bX9_walks_56 (nI s.1) q7) (nI R, nI 0) = some (nI d, nI p)) (hp : p < V.2.1) (hg : gO V s.1 p = true) (hm7 : IM q7.2 V) : bX9_walks_9 F (wE s i m) = some (.inl (wE (wnx V s p z) (i + 1) q7.2)) := by
  obtain ⟨h1, h2, h3⟩ := hs
  have hn := hV.2.2.1
  have hH := hV.2.1
  have h7 := p7 hH
  have ho := oth_lt hV (h := s.1) hp
  have hA : (1 : Int32) <<< (nI V.1 &&& 31) - 1 = nI (2 ^ V.1 - 1) := by
    rw [sh1 (by omega), show (1 : Int32) = nI 1 from rfl, pk_sub (Nat.one_le_two_pow)]
  have hne : ¬ nI W = 0 := fun e => hW0 ((nI_eq hW1 (by omega)).mp (e.trans (show (0 : Int32) = nI 0 from rfl)))
  unfold wE
  rw [bX9_walks_9, show (200 : Int32) = nI 200 from rfl, ite_leN (by omega) (by omega), if_neg (by omega), hm.1, hA, ite_eqN (by omega) (by omega), if_neg hb, hW, Option.bind_some, if_neg hne, nI_l hW1, hl, Option.bind_some, hq, show (0 : Int32) = nI 0 from rfl, hk, Option.bind_some, m_leads hV hm7 (by omega) hp, if_pos hg, Option.bind_some, ← show (0 : Int32) = nI 0 from rfl, ite_bit0 (by omega) (by omega), lete_eq, lete_eq, lete_eq, sh1 (by omega), sh1 (by omega), orI, orI, nI_1]
  unfold wnx
  by_cases c : s.2.1.testBit (oth V s.1 p) = true
  · rw [if_pos c, if_pos c, or_same c]
  · rw [if_neg c, if_neg c]
end
