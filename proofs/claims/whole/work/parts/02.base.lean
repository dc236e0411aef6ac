/-! ===== the class's own small words ===== -/
abbrev Mem : Type := (Nat → Nat → Int32) × (Nat → Nat → Int64)
def mu (m : Mem) (j k : Nat) (v : Int32) : Mem := (fun i => if i = j then upd (m.1 j) k v else m.1 i, m.2)
def muL (m : Mem) (j k : Nat) (v : Int64) : Mem := (m.1, fun i => if i = j then vp_updL (m.2 j) k v else m.2 i)
def b2i (b : Bool) : Int32 := if b = true then 1 else 0
/-- the cells in the order in which they are made: an array (long or not, its length), or an object (its class, its fields: none a number, some j the cell j) -/
abbrev LayT : Type := (Bool × Nat) ⊕ (Nat × List (Option Nat))
def layV (v : Nat) : LayT := .inr (6, [none, none, none, none, some (v + 1), some (v + 2), some (v + 3), some (v + 4), some (v + 5), some (v + 6)])
def layL : List LayT := [
  .inr (8, [some 1, some 8, some 15, none, some 22, some 24, some 26, some 30, some 31, some 35, some 37, some 42]),
  layV 1, .inl (false, 10), .inl (false, 10), .inl (false, 10), .inl (false, 10), .inl (false, 10), .inl (false, 10),
  layV 8, .inl (false, 10), .inl (false, 10), .inl (false, 10), .inl (false, 10), .inl (false, 10), .inl (false, 10),
  layV 15, .inl (false, 10), .inl (false, 10), .inl (false, 10), .inl (false, 10), .inl (false, 10), .inl (false, 10),
  .inr (3, [some 23, none]), .inl (false, 72),
  .inr (2, [some 1, some 25]), .inl (false, 1024),
  .inr (7, [some 1, some 24, none, some 27, some 28, some 29, none]), .inl (false, 252), .inl (false, 252), .inl (false, 252),
  .inr (1, [some 1, some 24]),
  .inr (4, [none, some 32, some 33, some 34]), .inl (false, 1024), .inl (false, 11), .inl (false, 11),
  .inr (5, [some 1, some 24, some 36, none]), .inl (false, 10),
  .inr (0, [some 1, some 26, some 35, none, some 38, some 39, some 40, some 41]), .inl (false, 7), .inl (false, 7), .inl (false, 252), .inl (false, 252),
  .inl (false, 7),
  .inr (9, [some 44, some 45, some 46, some 47, some 48, some 49, some 50, some 51, none, none, some 52, some 53, some 54, some 55, none, none, none, some 56, none, none, none, some 57, some 58, some 59, none, some 60, some 61, some 62, none, none, none, none, none, some 63, none]),
  .inl (false, 7), .inl (false, 11), .inl (false, 11), .inl (false, 11), .inl (false, 11), .inl (false, 11), .inl (false, 11), .inl (false, 11),
  .inl (false, 72), .inl (false, 36), .inl (false, 36), .inl (false, 216), .inl (false, 200), .inl (false, 7), .inl (false, 1024), .inl (true, 1024), .inl (false, 10), .inl (false, 10), .inl (false, 130), .inl (false, 10)]
def lay (j : Nat) : LayT := layL.getD j (.inl (false, 0))
def cfv (a : Nat → Nat) (f : Nat → Int32) : Nat → List (Option Nat) → List Value
  | _, [] => []
  | k, none :: fs => .int (f k) :: cfv a f (k + 1) fs
  | k, some j :: fs => .ref (a j) :: cfv a f (k + 1) fs
def cellQ (cI cJ : ClassId) (a : Nat → Nat) (f : Nat → Int32) (g : Nat → Int64) : LayT → va_E
  | .inl (false, n) => .inl (cI, n, .inl f)
  | .inl (true, n) => .inl (cJ, n, .inr (.inl g))
  | .inr (ci, fs) => .inr (ci, cfv a f 0 fs)
def cellsL (cI cJ : ClassId) (a : Nat → Nat) (n : Nat) (m : Mem) : va_W := (List.range n).map (fun j => (a j, cellQ cI cJ a (m.1 j) (m.2 j) (lay j)))
theorem cellsL_get {cI cJ : ClassId} {a : Nat → Nat} {n : Nat} {m : Mem} {j : Nat} (hj : j < n) : (cellsL cI cJ a n m)[j]? = some (a j, cellQ cI cJ a (m.1 j) (m.2 j) (lay j)) := by
  unfold cellsL
  rw [List.getElem?_map, List.getElem?_range hj]
  rfl
theorem cfv_int {a : Nat → Nat} {f : Nat → Int32} : ∀ (fs : List (Option Nat)) (i k : Nat), fs[k]? = some none → (cfv a f i fs)[k]? = some (.int (f (i + k)))
  | [], _, k, h => by simp at h
  | x :: fs, i, 0, h => by
    have hx : x = none := by simpa using h
    subst hx
    simp [cfv]
  | none :: fs, i, k + 1, h => by
    have := cfv_int (a := a) (f := f) fs (i + 1) k (by simpa using h)
    simp only [cfv, List.getElem?_cons_succ]
    rw [this]
    congr 3
    omega
  | some j :: fs, i, k + 1, h => by
    have := cfv_int (a := a) (f := f) fs (i + 1) k (by simpa using h)
    simp only [cfv, List.getElem?_cons_succ]
    rw [this]
    congr 3
    omega
theorem cfv_ref {a : Nat → Nat} {f : Nat → Int32} {j : Nat} : ∀ (fs : List (Option Nat)) (i k : Nat), fs[k]? = some (some j) → (cfv a f i fs)[k]? = some (.ref (a j))
  | [], _, k, h => by simp at h
  | x :: fs, i, 0, h => by
    have hx : x = some j := by simpa using h
    subst hx
    simp [cfv]
  | none :: fs, i, k + 1, h => by
    simp only [cfv, List.getElem?_cons_succ]
    exact cfv_ref fs (i + 1) k (by simpa using h)
  | some _ :: fs, i, k + 1, h => by
    simp only [cfv, List.getElem?_cons_succ]
    exact cfv_ref fs (i + 1) k (by simpa using h)
theorem cfv_len {a : Nat → Nat} {f : Nat → Int32} : ∀ (fs : List (Option Nat)) (i : Nat), (cfv a f i fs).length = fs.length
  | [], _ => rfl
  | none :: fs, i => by simp [cfv, cfv_len fs (i + 1)]
  | some _ :: fs, i => by simp [cfv, cfv_len fs (i + 1)]
theorem cfv_out {a : Nat → Nat} {f : Nat → Int32} {v : Int32} : ∀ (fs : List (Option Nat)) (i k : Nat), k < i → cfv a (upd f k v) i fs = cfv a f i fs
  | [], _, _, _ => rfl
  | none :: fs, i, k, h => by
    have h1 : upd f k v i = f i := by simp [upd]; omega
    simp only [cfv, cfv_out fs (i + 1) k (by omega), h1]
  | some _ :: fs, i, k, h => by simp only [cfv, cfv_out fs (i + 1) k (by omega)]
theorem cfv_set {a : Nat → Nat} {f : Nat → Int32} {v : Int32} : ∀ (fs : List (Option Nat)) (i k : Nat), fs[k]? = some none → (cfv a f i fs).set k (.int v) = cfv a (upd f (i + k) v) i fs
  | [], _, k, h => by simp at h
  | x :: fs, i, 0, h => by
    have hx : x = none := by simpa using h
    subst hx
    simp only [cfv, List.set_cons_zero, Nat.add_zero]
    rw [cfv_out fs (i + 1) i (by omega)]
    simp [upd]
  | none :: fs, i, k + 1, h => by
    have h1 := cfv_set (a := a) (f := f) (v := v) fs (i + 1) k (by simpa using h)
    have h2 : upd f (i + (k + 1)) v i = f i := by simp [upd]
    simp only [cfv, List.set_cons_succ, h1, h2]
    rw [show i + 1 + k = i + (k + 1) by omega]
  | some _ :: fs, i, k + 1, h => by
    have h1 := cfv_set (a := a) (f := f) (v := v) fs (i + 1) k (by simpa using h)
    simp only [cfv, List.set_cons_succ, h1]
    rw [show i + 1 + k = i + (k + 1) by omega]
theorem cellsL_set {cI cJ : ClassId} {a : Nat → Nat} {n : Nat} {m m' : Mem} {j : Nat} {e : va_E} (ho : ∀ i, i ≠ j → m'.1 i = m.1 i ∧ m'.2 i = m.2 i) (he : cellQ cI cJ a (m'.1 j) (m'.2 j) (lay j) = e) : (cellsL cI cJ a n m).set j (a j, e) = cellsL cI cJ a n m' := by
  apply List.ext_getElem?
  intro i
  rw [List.getElem?_set]
  by_cases hi : j = i
  · subst hi
    rw [if_pos rfl]
    by_cases hj : j < n
    · rw [if_pos (by simp [cellsL, hj]), cellsL_get hj, he]
    · rw [if_neg (by simp [cellsL, hj])]
      symm
      rw [List.getElem?_eq_none_iff]
      simp [cellsL]; omega
  · rw [if_neg hi]
    by_cases hj : i < n
    · rw [cellsL_get hj, cellsL_get hj, (ho i (fun h => hi h.symm)).1, (ho i (fun h => hi h.symm)).2]
    · rw [List.getElem?_eq_none_iff.mpr (by simp [cellsL]; omega), List.getElem?_eq_none_iff.mpr (by simp [cellsL]; omega)]
theorem mu_o {m : Mem} {j k : Nat} {v : Int32} : ∀ i, i ≠ j → (mu m j k v).1 i = m.1 i ∧ (mu m j k v).2 i = m.2 i := fun i h => ⟨if_neg h, rfl⟩
theorem mu_s {m : Mem} {j k : Nat} {v : Int32} : (mu m j k v).1 j = upd (m.1 j) k v := if_pos rfl
theorem muL_o {m : Mem} {j k : Nat} {v : Int64} : ∀ i, i ≠ j → (muL m j k v).1 i = m.1 i ∧ (muL m j k v).2 i = m.2 i := fun i h => ⟨rfl, if_neg h⟩
theorem muL_s {m : Mem} {j k : Nat} {v : Int64} : (muL m j k v).2 j = vp_updL (m.2 j) k v := if_pos rfl
def gv (a : Nat → Nat) : Value → Value
  | .ref j => .ref (a j)
  | v => v
def gl (a : Nat → Nat) (ls : List (Nat × Value)) : List (Nat × Value) := ls.map (fun q => (q.1, gv a q.2))
theorem gv_cat (a : Nat → Nat) (v : Value) : (gv a v).category = v.category := by cases v <;> rfl
