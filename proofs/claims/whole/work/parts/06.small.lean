/-! ===== small rows of the walks ===== -/
section
variable {K : KX} {cc : ByteArray} {own : String} {G : Option Value → Mem → Prop} {pc : Nat} {ls : List (Nat × Value)} {st : List Value} {m : Mem}
def lete {α β : Type} (x : α) (f : α → β) : β := f x
theorem lete_some {α β : Type} {x : α} {f : α → Option β} {r : β} (h : lete x f = some r) : ∃ y, x = y ∧ f y = some r := ⟨x, rfl, h⟩
theorem R_top {x y : Int32} (h : x = y) (kk : RX K pc ls (.int y :: st) m) : RX K pc ls (.int x :: st) m := h ▸ kk
theorem R_topL {x y : Int64} (h : x = y) (kk : RX K pc ls (.long y :: st) m) : RX K pc ls (.long x :: st) m := h ▸ kk
theorem R_mem {m' : Mem} (h : m = m') (kk : RX K pc ls st m') : RX K pc ls st m := h ▸ kk
theorem R_ifB_eq (hC : Cx K cc own G) {b : Bool} {off : Int} {tgt : Nat} (hdg : decode cc pc = .ok (.ifCond .eq off, 3)) (ht : (pc : Int) + off = (tgt : Int)) (kt : ¬ b = true → RX K tgt ls st m) (kf : b = true → RX K (pc + 3) ls st m) : RX K pc ls (.int (b2i b) :: st) m := R_if_eq hC hdg ht (fun c => kt (fun h => by subst h; exact absurd c (by decide))) (fun c => kf (by cases b with | true => rfl | false => exact absurd rfl c))
theorem R_ifB_ne (hC : Cx K cc own G) {b : Bool} {off : Int} {tgt : Nat} (hdg : decode cc pc = .ok (.ifCond .ne off, 3)) (ht : (pc : Int) + off = (tgt : Int)) (kt : b = true → RX K tgt ls st m) (kf : ¬ b = true → RX K (pc + 3) ls st m) : RX K pc ls (.int (b2i b) :: st) m := R_if_ne hC hdg ht (fun c => kt (by cases b with | true => rfl | false => exact absurd rfl c)) (fun c => kf (fun h => by subst h; exact absurd c (by decide)))
theorem iter_walk {σ ρ : Type} {f : σ → Option (σ ⊕ ρ)} {P : σ → Prop} {Qe : ρ → Prop} (hb : ∀ s o, f s = some o → (∀ s', o = .inl s' → P s') → (∀ e, o = .inr e → Qe e) → P s) : ∀ (n : Nat) (s : σ) (e : ρ), iter n f s = some e → Qe e → P s
  | 0, _, _, h, _ => by cases h
  | n + 1, s, e, h, hQ => by
    rw [iter] at h
    cases hf : f s with
    | none => rw [hf] at h; cases h
    | some o =>
      rw [hf] at h
      refine hb s o hf (fun s' e1 => ?_) (fun e' e1 => ?_)
      · subst e1
        exact iter_walk hb n s' e h hQ
      · subst e1
        have : e' = e := Option.some.inj h
        rw [this]; exact hQ
theorem iv {x : Int32} {n : Int} {c : Int32} (h : Int32.ofInt n = c) : x + Int32.ofInt n = x + c := h ▸ rfl
theorem nb1 (b : Bool) : narrow .boolean (.int (b2i b)) = .int (b2i b) := by cases b <;> rfl
theorem nb2 (b : Bool) : fits .boolean (.int (b2i b)) = true := by cases b <;> rfl
theorem isv1 : isV 1 := Or.inl rfl
theorem isv8 : isV 8 := Or.inr (Or.inl rfl)
theorem isv15 : isV 15 := Or.inr (Or.inr rfl)
theorem jv0 {n v : Nat} (h : 43 ≤ n) (hv : isV v) : v < n := jv (k := 0) h hv rfl
def isS (j : Nat) : Prop := j = 25 ∨ j = 32
theorem js {n j : Nat} (h : 43 ≤ n) (hj : isS j) : j < n := by rcases hj with rfl | rfl <;> omega
theorem lyS {j : Nat} (hj : isS j) : lay j = .inl (false, 1024) := by rcases hj with rfl | rfl <;> rfl
def isP (j : Nat) : Prop := 45 ≤ j ∧ j ≤ 51
theorem jp {n j : Nat} (h : 64 ≤ n) (hj : isP j) : j < n := by have := hj.2; omega
theorem lyP {j : Nat} (hj : isP j) : lay j = .inl (false, 11) := by
  have : j = 45 ∨ j = 46 ∨ j = 47 ∨ j = 48 ∨ j = 49 ∨ j = 50 ∨ j = 51 := by have := hj.1; have := hj.2; omega
  rcases this with rfl | rfl | rfl | rfl | rfl | rfl | rfl <;> rfl
theorem lva1 {v : Nat} (h : isV v) : lay (v + 1) = .inl (false, 10) := layVa h (by decide) (by decide)
theorem lva2 {v : Nat} (h : isV v) : lay (v + 2) = .inl (false, 10) := layVa h (by decide) (by decide)
theorem lva3 {v : Nat} (h : isV v) : lay (v + 3) = .inl (false, 10) := layVa h (by decide) (by decide)
theorem lva4 {v : Nat} (h : isV v) : lay (v + 4) = .inl (false, 10) := layVa h (by decide) (by decide)
theorem lva5 {v : Nat} (h : isV v) : lay (v + 5) = .inl (false, 10) := layVa h (by decide) (by decide)
theorem lva6 {v : Nat} (h : isV v) : lay (v + 6) = .inl (false, 10) := layVa h (by decide) (by decide)
theorem ly0 : lay 0 = .inr (8, [some 1, some 8, some 15, none, some 22, some 24, some 26, some 30, some 31, some 35, some 37, some 42]) := rfl
theorem ly1 : lay 1 = .inr (6, [none, none, none, none, some 2, some 3, some 4, some 5, some 6, some 7]) := rfl
theorem ly2 : lay 2 = .inl (false, 10) := rfl
theorem ly3 : lay 3 = .inl (false, 10) := rfl
theorem ly4 : lay 4 = .inl (false, 10) := rfl
theorem ly5 : lay 5 = .inl (false, 10) := rfl
theorem ly6 : lay 6 = .inl (false, 10) := rfl
theorem ly7 : lay 7 = .inl (false, 10) := rfl
theorem ly8 : lay 8 = .inr (6, [none, none, none, none, some 9, some 10, some 11, some 12, some 13, some 14]) := rfl
theorem ly9 : lay 9 = .inl (false, 10) := rfl
theorem ly10 : lay 10 = .inl (false, 10) := rfl
theorem ly11 : lay 11 = .inl (false, 10) := rfl
theorem ly12 : lay 12 = .inl (false, 10) := rfl
theorem ly13 : lay 13 = .inl (false, 10) := rfl
theorem ly14 : lay 14 = .inl (false, 10) := rfl
theorem ly15 : lay 15 = .inr (6, [none, none, none, none, some 16, some 17, some 18, some 19, some 20, some 21]) := rfl
theorem ly16 : lay 16 = .inl (false, 10) := rfl
theorem ly17 : lay 17 = .inl (false, 10) := rfl
theorem ly18 : lay 18 = .inl (false, 10) := rfl
theorem ly19 : lay 19 = .inl (false, 10) := rfl
theorem ly20 : lay 20 = .inl (false, 10) := rfl
theorem ly21 : lay 21 = .inl (false, 10) := rfl
theorem ly22 : lay 22 = .inr (3, [some 23, none]) := rfl
theorem ly23 : lay 23 = .inl (false, 72) := rfl
theorem ly24 : lay 24 = .inr (2, [some 1, some 25]) := rfl
theorem ly25 : lay 25 = .inl (false, 1024) := rfl
theorem ly26 : lay 26 = .inr (7, [some 1, some 24, none, some 27, some 28, some 29, none]) := rfl
theorem ly27 : lay 27 = .inl (false, 252) := rfl
theorem ly28 : lay 28 = .inl (false, 252) := rfl
theorem ly29 : lay 29 = .inl (false, 252) := rfl
theorem ly30 : lay 30 = .inr (1, [some 1, some 24]) := rfl
theorem ly31 : lay 31 = .inr (4, [none, some 32, some 33, some 34]) := rfl
theorem ly32 : lay 32 = .inl (false, 1024) := rfl
theorem ly33 : lay 33 = .inl (false, 11) := rfl
theorem ly34 : lay 34 = .inl (false, 11) := rfl
theorem ly35 : lay 35 = .inr (5, [some 1, some 24, some 36, none]) := rfl
theorem ly36 : lay 36 = .inl (false, 10) := rfl
theorem ly37 : lay 37 = .inr (0, [some 1, some 26, some 35, none, some 38, some 39, some 40, some 41]) := rfl
theorem ly38 : lay 38 = .inl (false, 7) := rfl
theorem ly39 : lay 39 = .inl (false, 7) := rfl
theorem ly40 : lay 40 = .inl (false, 252) := rfl
theorem ly41 : lay 41 = .inl (false, 252) := rfl
theorem ly42 : lay 42 = .inl (false, 7) := rfl
theorem ly43 : lay 43 = .inr (9, [some 44, some 45, some 46, some 47, some 48, some 49, some 50, some 51, none, none, some 52, some 53, some 54, some 55, none, none, none, some 56, none, none, none, some 57, some 58, some 59, none, some 60, some 61, some 62, none, none, none, none, none, some 63, none]) := rfl
theorem ly44 : lay 44 = .inl (false, 7) := rfl
theorem ly45 : lay 45 = .inl (false, 11) := rfl
theorem ly46 : lay 46 = .inl (false, 11) := rfl
theorem ly47 : lay 47 = .inl (false, 11) := rfl
theorem ly48 : lay 48 = .inl (false, 11) := rfl
theorem ly49 : lay 49 = .inl (false, 11) := rfl
theorem ly50 : lay 50 = .inl (false, 11) := rfl
theorem ly51 : lay 51 = .inl (false, 11) := rfl
theorem ly52 : lay 52 = .inl (false, 72) := rfl
theorem ly53 : lay 53 = .inl (false, 36) := rfl
theorem ly54 : lay 54 = .inl (false, 36) := rfl
theorem ly55 : lay 55 = .inl (false, 216) := rfl
theorem ly56 : lay 56 = .inl (false, 200) := rfl
theorem ly57 : lay 57 = .inl (false, 7) := rfl
theorem ly58 : lay 58 = .inl (false, 1024) := rfl
theorem ly59 : lay 59 = .inl (true, 1024) := rfl
theorem ly60 : lay 60 = .inl (false, 10) := rfl
theorem ly61 : lay 61 = .inl (false, 10) := rfl
theorem ly62 : lay 62 = .inl (false, 130) := rfl
theorem ly63 : lay 63 = .inl (false, 10) := rfl
theorem ki_m1 : Int32.ofInt (-1) = (-1) := by decide
theorem ki_0 : Int32.ofInt 0 = 0 := by decide
theorem ki_1 : Int32.ofInt 1 = 1 := by decide
theorem ki_2 : Int32.ofInt 2 = 2 := by decide
theorem ki_3 : Int32.ofInt 3 = 3 := by decide
theorem ki_4 : Int32.ofInt 4 = 4 := by decide
theorem ki_5 : Int32.ofInt 5 = 5 := by decide
theorem kb_m9 : (Int8.ofInt (-9)).toInt32 = (-9) := by decide
theorem kb_m6 : (Int8.ofInt (-6)).toInt32 = (-6) := by decide
theorem kb_m4 : (Int8.ofInt (-4)).toInt32 = (-4) := by decide
theorem kb_m3 : (Int8.ofInt (-3)).toInt32 = (-3) := by decide
theorem kb_m2 : (Int8.ofInt (-2)).toInt32 = (-2) := by decide
theorem kb_6 : (Int8.ofInt 6).toInt32 = 6 := by decide
theorem kb_7 : (Int8.ofInt 7).toInt32 = 7 := by decide
theorem kb_8 : (Int8.ofInt 8).toInt32 = 8 := by decide
theorem kb_9 : (Int8.ofInt 9).toInt32 = 9 := by decide
theorem kb_10 : (Int8.ofInt 10).toInt32 = 10 := by decide
theorem kb_11 : (Int8.ofInt 11).toInt32 = 11 := by decide
theorem kb_13 : (Int8.ofInt 13).toInt32 = 13 := by decide
theorem kb_16 : (Int8.ofInt 16).toInt32 = 16 := by decide
theorem kb_17 : (Int8.ofInt 17).toInt32 = 17 := by decide
theorem kb_20 : (Int8.ofInt 20).toInt32 = 20 := by decide
theorem kb_21 : (Int8.ofInt 21).toInt32 = 21 := by decide
theorem kb_22 : (Int8.ofInt 22).toInt32 = 22 := by decide
theorem kb_30 : (Int8.ofInt 30).toInt32 = 30 := by decide
theorem kb_31 : (Int8.ofInt 31).toInt32 = 31 := by decide
theorem kb_40 : (Int8.ofInt 40).toInt32 = 40 := by decide
theorem kb_44 : (Int8.ofInt 44).toInt32 = 44 := by decide
theorem kb_48 : (Int8.ofInt 48).toInt32 = 48 := by decide
theorem kb_57 : (Int8.ofInt 57).toInt32 = 57 := by decide
theorem kb_59 : (Int8.ofInt 59).toInt32 = 59 := by decide
theorem kb_63 : (Int8.ofInt 63).toInt32 = 63 := by decide
theorem kb_72 : (Int8.ofInt 72).toInt32 = 72 := by decide
theorem kb_99 : (Int8.ofInt 99).toInt32 = 99 := by decide
theorem kb_100 : (Int8.ofInt 100).toInt32 = 100 := by decide
theorem kb_102 : (Int8.ofInt 102).toInt32 = 102 := by decide
theorem kb_104 : (Int8.ofInt 104).toInt32 = 104 := by decide
theorem kb_107 : (Int8.ofInt 107).toInt32 = 107 := by decide
theorem kb_108 : (Int8.ofInt 108).toInt32 = 108 := by decide
theorem kb_120 : (Int8.ofInt 120).toInt32 = 120 := by decide
theorem ks_m2000 : (Int16.ofInt (-2000)).toInt32 = (-2000) := by decide
theorem ks_m1000 : (Int16.ofInt (-1000)).toInt32 = (-1000) := by decide
theorem ks_200 : (Int16.ofInt 200).toInt32 = 200 := by decide
theorem ks_252 : (Int16.ofInt 252).toInt32 = 252 := by decide
theorem ks_255 : (Int16.ofInt 255).toInt32 = 255 := by decide
theorem ks_1024 : (Int16.ofInt 1024).toInt32 = 1024 := by decide
theorem ks_12345 : (Int16.ofInt 12345).toInt32 = 12345 := by decide
theorem kl_0 : Int64.ofNat ((0 : Fin 2) : Nat) = 0 := by decide
theorem kl_1 : Int64.ofNat ((1 : Fin 2) : Nat) = 1 := by decide
end
