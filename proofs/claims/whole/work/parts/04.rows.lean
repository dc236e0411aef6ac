/-! ===== the words of the tables: those that every method takes along, and those of nest mates ===== -/
def isNest : Cond → Bool
  | .fieldLinkNest .. => true
  | .methodLinkNest .. => true
  | _ => false
def gdW : List Cond := lw_tbl.filter goodWord
def nsW : List Cond := tables_1.filter isNest
theorem gdW_in {w : Cond} (h : w ∈ lw_tbl) (g : goodWord w = true) : w ∈ gdW := List.mem_filter.mpr ⟨h, g⟩
theorem gdW_at {w : Cond} (i : Nat) (h : tables_1[i]? = some w) (g : goodWord w = true) : w ∈ gdW := gdW_in (List.mem_append_right _ (List.mem_of_getElem? h)) g
theorem nsW_at {w : Cond} (i : Nat) (h : tables_1[i]? = some w) (g : isNest w = true) : w ∈ nsW := List.mem_filter.mpr ⟨List.mem_of_getElem? h, g⟩
theorem gdW_sel {q : MethodName × Nat} (i : Nat) (h : lw_privs[i]? = some q) : Cond.selects q.1.cls q.1 q.1 ∈ gdW := gdW_in (List.mem_append_left _ (List.mem_map.mpr ⟨q, List.mem_of_getElem? h, rfl⟩)) rfl
theorem nsW_warm {s U : State} (hW : s.WarmedH U.vm) (h : ∀ w ∈ nsW, va_Nw w s) : ∀ w ∈ nsW, va_Nw w U := by
  intro w hw
  have h1 := h w hw
  have h2 : isNest w = true := (List.mem_filter.mp hw).2
  cases w <;> first | exact va_Nw.warmF hW h1 | exact va_Nw.warmM hW h1 | (simp [isNest] at h2)
/-- the words of a method: its own code, and the tables' -/
def wsM (y : MethodName) (cc : ByteArray) (nL : Nat) (ret : Option FieldType) : List Cond := Cond.code y cc nL ret :: gdW
theorem wsM_good {y : MethodName} {cc : ByteArray} {nL : Nat} {ret : Option FieldType} (h : Cond.code y cc nL ret ∈ gdW) : GoodIn gdW (wsM y cc nL ret) := by
  intro w hw
  have h1 : w ∈ gdW := (List.mem_cons.mp hw).elim (fun e => e ▸ h) id
  exact ⟨h1, good_of_word (List.mem_filter.mp h1).2⟩
/-! ===== the frame of a walk: all that stays ===== -/
abbrev KX : Type := Program × Launch × Env × Room × State × MethodId × Array Value × List Frame × Method × Code × Nat × va_G × ClassId × ClassId × (Nat → Nat) × Nat × (Nat → Prop) × (State → Prop) × Nat × Nat
def kp (K : KX) : Program := K.1
def kl (K : KX) : Launch := K.2.1
def ke (K : KX) : Env := K.2.2.1
def kR (K : KX) : Room := K.2.2.2.1
def ks (K : KX) : State := K.2.2.2.2.1
def km (K : KX) : MethodId := K.2.2.2.2.2.1
def ka (K : KX) : Array Value := K.2.2.2.2.2.2.1
def kb (K : KX) : List Frame := K.2.2.2.2.2.2.2.1
def kM (K : KX) : Method := K.2.2.2.2.2.2.2.2.1
def kc (K : KX) : Code := K.2.2.2.2.2.2.2.2.2.1
def kL (K : KX) : Nat := K.2.2.2.2.2.2.2.2.2.2.1
def kD (K : KX) : va_G := K.2.2.2.2.2.2.2.2.2.2.2.1
def kI (K : KX) : ClassId := K.2.2.2.2.2.2.2.2.2.2.2.2.1
def kJ (K : KX) : ClassId := K.2.2.2.2.2.2.2.2.2.2.2.2.2.1
def kad (K : KX) : Nat → Nat := K.2.2.2.2.2.2.2.2.2.2.2.2.2.2.1
def kn (K : KX) : Nat := K.2.2.2.2.2.2.2.2.2.2.2.2.2.2.2.1
def kA (K : KX) : Nat → Prop := K.2.2.2.2.2.2.2.2.2.2.2.2.2.2.2.2.1
def kQ (K : KX) : State → Prop := K.2.2.2.2.2.2.2.2.2.2.2.2.2.2.2.2.2.1
def kz (K : KX) : Nat := K.2.2.2.2.2.2.2.2.2.2.2.2.2.2.2.2.2.2.1
def kw (K : KX) : Nat := K.2.2.2.2.2.2.2.2.2.2.2.2.2.2.2.2.2.2.2
def RW (K : KX) (H : Heap) (locs : List Loc) (g : JFrame) : Prop := W (kp K) (kl K) (ke K) (kR K) (ks K) (km K) (ka K) (kb K) (kM K) (kc K) H locs (kz K) (kw K) (kQ K) g
def cels (K : KX) (m : Mem) : va_W := cellsL (kI K) (kJ K) (kad K) (kn K) m
def RX (K : KX) (pc : Nat) (ls : List (Nat × Value)) (st : List Value) (m : Mem) : Prop := ∀ (H : Heap) (locs : List Loc) (la : Array Slot), va_P (kD K) vwCl (cels K m) H → va_S (kA K) (ks K).heap H locs → lv_has la (kL K) (gl (kad K) ls) → RW K H locs (F0 (km K) pc la (st.map (gv (kad K))))
def retI : Option Value → Instr
  | some (.long _) => .lreturn
  | some _ => .ireturn
  | none => .return_
/-- what holds all along a walk: the machine, the code, the words, the tables, the cells apart; and how it may end -/
def Cx (K : KX) (cc : ByteArray) (own : String) (G : Option Value → Mem → Prop) : Prop :=
  (kp K).tables.exec = Jvm.exec ∧ (kc K).code = cc ∧ (kc K).maxLocals = kL K ∧ (ks K).vm.findClass own = some (km K).cls ∧ (∀ w ∈ gdW, w.before (ka K) (ks K) = true) ∧ (∀ w ∈ nsW, va_Nw w (ks K)) ∧ va_K (kD K) vwCl [(kI K, .int), (kJ K, .long)] (ks K) ∧ (∀ m, va_D (kA K) (cels K m)) ∧ (∀ q, (ks K).heap.size ≤ q → kA K q) ∧ (kz K ≤ (kR K).cells ∧ kw K ≤ (kR K).slots) ∧
  (∀ (pc : Nat) (la : Array Slot) (H : Heap) (locs : List Loc) (m : Mem) (r : Option Value), va_P (kD K) vwCl (cels K m) H → va_S (kA K) (ks K).heap H locs → G r m → decode cc pc = .ok (retI r, 1) → RW K H locs (F0 (km K) pc la r.toList))
theorem gl_at {a : Nat → Nat} {ls : List (Nat × Value)} {q i : Nat} {v : Value} (h : ls[q]? = some (i, v)) : (gl a ls)[q]? = some (i, gv a v) := by
  unfold gl; rw [List.getElem?_map, h]; rfl
def lst1 (i : Nat) (v : Value) (ls : List (Nat × Value)) : List (Nat × Value) := (i, v) :: ls.filter (fun q => !(q.1 == i) && !(q.1 + 1 == i && q.2.category == 2))
def lst2 (i : Nat) (v : Value) (ls : List (Nat × Value)) : List (Nat × Value) := (i, v) :: ls.filter (fun q => !(q.1 == i) && (!(q.1 == i + 1) && !(q.1 + 1 == i && q.2.category == 2)))
theorem gl_lst1 (a : Nat → Nat) (i : Nat) (v : Value) (ls : List (Nat × Value)) : (i, gv a v) :: (gl a ls).filter (fun q => !(q.1 == i) && !(q.1 + 1 == i && q.2.category == 2)) = gl a (lst1 i v ls) := by
  unfold gl lst1
  rw [List.map_cons, List.filter_map]
  congr 2
  apply List.filter_congr
  intro q _
  simp [gv_cat]
theorem gl_lst2 (a : Nat → Nat) (i : Nat) (v : Value) (ls : List (Nat × Value)) : (i, gv a v) :: (gl a ls).filter (fun q => !(q.1 == i) && (!(q.1 == i + 1) && !(q.1 + 1 == i && q.2.category == 2))) = gl a (lst2 i v ls) := by
  unfold gl lst2
  rw [List.map_cons, List.filter_map]
  congr 2
  apply List.filter_congr
  intro q _
  simp [gv_cat]
theorem gl_pick (a : Nat → Nat) (ls : List (Nat × Value)) (ks : List Nat) : lv_pick (gl a ls) ks = gl a (lv_pick ls ks) := by
  unfold lv_pick gl
  induction ks with
  | nil => rfl
  | cons k ks ih =>
    simp only [List.filterMap_cons, List.getElem?_map]
    cases h : ls[k]? with
    | none => simpa [h, List.getElem?_map] using ih
    | some x => simpa [h, List.getElem?_map] using ih
section
variable {K : KX} {cc : ByteArray} {own : String} {G : Option Value → Mem → Prop} {pc : Nat} {ls : List (Nat × Value)} {st : List Value} {m : Mem}
theorem R_pick (kS : List Nat) {ls' : List (Nat × Value)} (hl : lv_pick ls kS = ls') (kk : RX K pc ls' st m) : RX K pc ls st m := fun H locs la hP hS h => kk H locs la hP hS (lv_sub h kS (by rw [gl_pick, hl]))
theorem R_iconst (hC : Cx K cc own G) {n : Int} {v : Int32} (hdg : decode cc pc = .ok (.iconst n, 1)) (hv : Int32.ofInt n = v) (kk : RX K (pc + 1) ls (.int v :: st) m) : RX K pc ls st m := fun H locs la hP hS hl => lv_iconst hC.1 hC.2.1 hdg hv (kk H locs la hP hS hl)
theorem R_bipush (hC : Cx K cc own G) {n : Int} {v : Int32} (hdg : decode cc pc = .ok (.bipush n, 2)) (hv : (Int8.ofInt n).toInt32 = v) (kk : RX K (pc + 2) ls (.int v :: st) m) : RX K pc ls st m := fun H locs la hP hS hl => lv_bipush hC.1 hC.2.1 hdg hv (kk H locs la hP hS hl)
theorem R_sipush (hC : Cx K cc own G) {n : Int} {v : Int32} (hdg : decode cc pc = .ok (.sipush n, 3)) (hv : (Int16.ofInt n).toInt32 = v) (kk : RX K (pc + 3) ls (.int v :: st) m) : RX K pc ls st m := fun H locs la hP hS hl => lv_sipush hC.1 hC.2.1 hdg hv (kk H locs la hP hS hl)
theorem R_lconst (hC : Cx K cc own G) {n : Fin 2} {v : Int64} (hdg : decode cc pc = .ok (.lconst n, 1)) (hv : Int64.ofNat (n : Nat) = v) (kk : RX K (pc + 1) ls (.long v :: st) m) : RX K pc ls st m := fun H locs la hP hS hl => lv_lconst hC.1 hC.2.1 hdg hv (kk H locs la hP hS hl)
theorem R_iload_n (hC : Cx K cc own G) {k : Fin 4} {x : Int32} (q : Nat) {i : Nat} (hdg : decode cc pc = .ok (.iload_n k, 1)) (hi : (k : Nat) = i) (hq : ls[q]? = some (i, .int x)) (kk : RX K (pc + 1) ls (.int x :: st) m) : RX K pc ls st m := fun H locs la hP hS hl => lv_iload_n hC.1 hC.2.1 hdg hi (lv_at hl q (gl_at hq)) (kk H locs la hP hS hl)
theorem R_iload (hC : Cx K cc own G) {x : Int32} (q : Nat) {i : Nat} (hdg : decode cc pc = .ok (.iload i, 2)) (hq : ls[q]? = some (i, .int x)) (kk : RX K (pc + 2) ls (.int x :: st) m) : RX K pc ls st m := fun H locs la hP hS hl => lv_iload hC.1 hC.2.1 hdg (lv_at hl q (gl_at hq)) (kk H locs la hP hS hl)
theorem R_lload_n (hC : Cx K cc own G) {k : Fin 4} {x : Int64} (q : Nat) {i : Nat} (hdg : decode cc pc = .ok (.lload_n k, 1)) (hi : (k : Nat) = i) (hq : ls[q]? = some (i, .long x)) (kk : RX K (pc + 1) ls (.long x :: st) m) : RX K pc ls st m := fun H locs la hP hS hl => lv_lload_n hC.1 hC.2.1 hdg hi (lv_at hl q (gl_at hq)) (kk H locs la hP hS hl)
theorem R_lload (hC : Cx K cc own G) {x : Int64} (q : Nat) {i : Nat} (hdg : decode cc pc = .ok (.lload i, 2)) (hq : ls[q]? = some (i, .long x)) (kk : RX K (pc + 2) ls (.long x :: st) m) : RX K pc ls st m := fun H locs la hP hS hl => lv_lload hC.1 hC.2.1 hdg (lv_at hl q (gl_at hq)) (kk H locs la hP hS hl)
theorem R_aload_n (hC : Cx K cc own G) {k : Fin 4} {x : Nat} (q : Nat) {i : Nat} (hdg : decode cc pc = .ok (.aload_n k, 1)) (hi : (k : Nat) = i) (hq : ls[q]? = some (i, .ref x)) (kk : RX K (pc + 1) ls (.ref x :: st) m) : RX K pc ls st m := fun H locs la hP hS hl => lv_aload_n hC.1 hC.2.1 hdg hi (lv_at hl q (gl_at hq)) (kk H locs la hP hS hl)
theorem R_istore_n (hC : Cx K cc own G) {k : Fin 4} {x : Int32} {i : Nat} {ls' : List (Nat × Value)} (hdg : decode cc pc = .ok (.istore_n k, 1)) (hi : (k : Nat) = i) {nL : Nat} (hL : kL K = nL) (hn : Nat.blt i nL = true) (he : lst1 i (.int x) ls = ls') (kk : RX K (pc + 1) ls' st m) : RX K pc ls (.int x :: st) m := fun H locs la hP hS hl => lv_istore_n hC.1 hC.2.1 hdg hi hl (hL ▸ Nat.le_of_ble_eq_true hn) (gl_lst1 (kad K) i (.int x) ls) (fun la' hl' => kk H locs la' hP hS (he ▸ hl'))
theorem R_istore (hC : Cx K cc own G) {x : Int32} {i : Nat} {ls' : List (Nat × Value)} (hdg : decode cc pc = .ok (.istore i, 2)) {nL : Nat} (hL : kL K = nL) (hn : Nat.blt i nL = true) (he : lst1 i (.int x) ls = ls') (kk : RX K (pc + 2) ls' st m) : RX K pc ls (.int x :: st) m := fun H locs la hP hS hl => lv_istore hC.1 hC.2.1 hdg hl (hL ▸ Nat.le_of_ble_eq_true hn) (gl_lst1 (kad K) i (.int x) ls) (fun la' hl' => kk H locs la' hP hS (he ▸ hl'))
theorem R_lstore_n (hC : Cx K cc own G) {k : Fin 4} {x : Int64} {i : Nat} {ls' : List (Nat × Value)} (hdg : decode cc pc = .ok (.lstore_n k, 1)) (hi : (k : Nat) = i) {nL : Nat} (hL : kL K = nL) (hn : Nat.blt (i + 1) nL = true) (he : lst2 i (.long x) ls = ls') (kk : RX K (pc + 1) ls' st m) : RX K pc ls (.long x :: st) m := fun H locs la hP hS hl => lv_lstore_n hC.1 hC.2.1 hdg hi hl (hL ▸ Nat.le_of_ble_eq_true hn) (gl_lst2 (kad K) i (.long x) ls) (fun la' hl' => kk H locs la' hP hS (he ▸ hl'))
theorem R_lstore (hC : Cx K cc own G) {x : Int64} {i : Nat} {ls' : List (Nat × Value)} (hdg : decode cc pc = .ok (.lstore i, 2)) {nL : Nat} (hL : kL K = nL) (hn : Nat.blt (i + 1) nL = true) (he : lst2 i (.long x) ls = ls') (kk : RX K (pc + 2) ls' st m) : RX K pc ls (.long x :: st) m := fun H locs la hP hS hl => lv_lstore hC.1 hC.2.1 hdg hl (hL ▸ Nat.le_of_ble_eq_true hn) (gl_lst2 (kad K) i (.long x) ls) (fun la' hl' => kk H locs la' hP hS (he ▸ hl'))
theorem R_iinc (hC : Cx K cc own G) {x v : Int32} {n : Int} (q : Nat) {i : Nat} {ls' : List (Nat × Value)} (hdg : decode cc pc = .ok (.iinc i n, 3)) (hq : ls[q]? = some (i, .int x)) (hv : x + Int32.ofInt n = v) {nL : Nat} (hL : kL K = nL) (hn : Nat.blt i nL = true) (he : lst1 i (.int v) ls = ls') (kk : RX K (pc + 3) ls' st m) : RX K pc ls st m := fun H locs la hP hS hl => lv_iinc hC.1 hC.2.1 hdg hl (gl_at hq) hv (hL ▸ Nat.le_of_ble_eq_true hn) (gl_lst1 (kad K) i (.int v) ls) (fun la' hl' => kk H locs la' hP hS (he ▸ hl'))
theorem R_iadd (hC : Cx K cc own G) {x y : Int32} (hdg : decode cc pc = .ok (.iadd, 1)) (kk : RX K (pc + 1) ls (.int (x + y) :: st) m) : RX K pc ls (.int y :: .int x :: st) m := fun H locs la hP hS hl => lv_iadd hC.1 hC.2.1 hdg (kk H locs la hP hS hl)
theorem R_isub (hC : Cx K cc own G) {x y : Int32} (hdg : decode cc pc = .ok (.isub, 1)) (kk : RX K (pc + 1) ls (.int (x - y) :: st) m) : RX K pc ls (.int y :: .int x :: st) m := fun H locs la hP hS hl => lv_isub hC.1 hC.2.1 hdg (kk H locs la hP hS hl)
theorem R_imul (hC : Cx K cc own G) {x y : Int32} (hdg : decode cc pc = .ok (.imul, 1)) (kk : RX K (pc + 1) ls (.int (x * y) :: st) m) : RX K pc ls (.int y :: .int x :: st) m := fun H locs la hP hS hl => lv_imul hC.1 hC.2.1 hdg (kk H locs la hP hS hl)
theorem R_iand (hC : Cx K cc own G) {x y : Int32} (hdg : decode cc pc = .ok (.iand, 1)) (kk : RX K (pc + 1) ls (.int (x &&& y) :: st) m) : RX K pc ls (.int y :: .int x :: st) m := fun H locs la hP hS hl => lv_iand hC.1 hC.2.1 hdg (kk H locs la hP hS hl)
theorem R_ior (hC : Cx K cc own G) {x y : Int32} (hdg : decode cc pc = .ok (.ior, 1)) (kk : RX K (pc + 1) ls (.int (x ||| y) :: st) m) : RX K pc ls (.int y :: .int x :: st) m := fun H locs la hP hS hl => lv_ior hC.1 hC.2.1 hdg (kk H locs la hP hS hl)
theorem R_ixor (hC : Cx K cc own G) {x y : Int32} (hdg : decode cc pc = .ok (.ixor, 1)) (kk : RX K (pc + 1) ls (.int (x ^^^ y) :: st) m) : RX K pc ls (.int y :: .int x :: st) m := fun H locs la hP hS hl => lv_ixor hC.1 hC.2.1 hdg (kk H locs la hP hS hl)
theorem R_ishl (hC : Cx K cc own G) {x y : Int32} (hdg : decode cc pc = .ok (.ishl, 1)) (kk : RX K (pc + 1) ls (.int (x <<< (y &&& 31)) :: st) m) : RX K pc ls (.int y :: .int x :: st) m := fun H locs la hP hS hl => lv_ishl hC.1 hC.2.1 hdg (kk H locs la hP hS hl)
theorem R_ishr (hC : Cx K cc own G) {x y : Int32} (hdg : decode cc pc = .ok (.ishr, 1)) (kk : RX K (pc + 1) ls (.int (x >>> (y &&& 31)) :: st) m) : RX K pc ls (.int y :: .int x :: st) m := fun H locs la hP hS hl => lv_ishr hC.1 hC.2.1 hdg (kk H locs la hP hS hl)
theorem R_iushr (hC : Cx K cc own G) {x y : Int32} (hdg : decode cc pc = .ok (.iushr, 1)) (kk : RX K (pc + 1) ls (.int ((x.toUInt32 >>> (y.toUInt32 &&& Int32.toUInt32 31)).toInt32) :: st) m) : RX K pc ls (.int y :: .int x :: st) m := fun H locs la hP hS hl => lv_iushr hC.1 hC.2.1 hdg rfl (kk H locs la hP hS hl)
theorem R_idiv (hC : Cx K cc own G) {x y : Int32} (hdg : decode cc pc = .ok (.idiv, 1)) (hne : ¬ y = 0) (kk : RX K (pc + 1) ls (.int (x / y) :: st) m) : RX K pc ls (.int y :: .int x :: st) m := fun H locs la hP hS hl => lv_idiv hC.1 hC.2.1 hdg hne (kk H locs la hP hS hl)
theorem R_irem (hC : Cx K cc own G) {x y : Int32} (hdg : decode cc pc = .ok (.irem, 1)) (hne : ¬ y = 0) (kk : RX K (pc + 1) ls (.int (x - x / y * y) :: st) m) : RX K pc ls (.int y :: .int x :: st) m := fun H locs la hP hS hl => lv_irem hC.1 hC.2.1 hdg hne (kk H locs la hP hS hl)
theorem R_ineg (hC : Cx K cc own G) {x : Int32} (hdg : decode cc pc = .ok (.ineg, 1)) (kk : RX K (pc + 1) ls (.int (-x) :: st) m) : RX K pc ls (.int x :: st) m := fun H locs la hP hS hl => lv_ineg hC.1 hC.2.1 hdg (kk H locs la hP hS hl)
theorem R_ladd (hC : Cx K cc own G) {x y : Int64} (hdg : decode cc pc = .ok (.ladd, 1)) (kk : RX K (pc + 1) ls (.long (x + y) :: st) m) : RX K pc ls (.long y :: .long x :: st) m := fun H locs la hP hS hl => lv_ladd hC.1 hC.2.1 hdg (kk H locs la hP hS hl)
theorem R_lsub (hC : Cx K cc own G) {x y : Int64} (hdg : decode cc pc = .ok (.lsub, 1)) (kk : RX K (pc + 1) ls (.long (x - y) :: st) m) : RX K pc ls (.long y :: .long x :: st) m := fun H locs la hP hS hl => lv_lsub hC.1 hC.2.1 hdg (kk H locs la hP hS hl)
theorem R_lmul (hC : Cx K cc own G) {x y : Int64} (hdg : decode cc pc = .ok (.lmul, 1)) (kk : RX K (pc + 1) ls (.long (x * y) :: st) m) : RX K pc ls (.long y :: .long x :: st) m := fun H locs la hP hS hl => lv_lmul hC.1 hC.2.1 hdg (kk H locs la hP hS hl)
theorem R_land (hC : Cx K cc own G) {x y : Int64} (hdg : decode cc pc = .ok (.land, 1)) (kk : RX K (pc + 1) ls (.long (x &&& y) :: st) m) : RX K pc ls (.long y :: .long x :: st) m := fun H locs la hP hS hl => lv_land hC.1 hC.2.1 hdg (kk H locs la hP hS hl)
theorem R_ldiv (hC : Cx K cc own G) {x y : Int64} (hdg : decode cc pc = .ok (.ldiv, 1)) (hne : ¬ y = 0) (kk : RX K (pc + 1) ls (.long (x / y) :: st) m) : RX K pc ls (.long y :: .long x :: st) m := fun H locs la hP hS hl => lv_ldiv hC.1 hC.2.1 hdg hne (kk H locs la hP hS hl)
theorem R_lrem (hC : Cx K cc own G) {x y : Int64} (hdg : decode cc pc = .ok (.lrem, 1)) (hne : ¬ y = 0) (kk : RX K (pc + 1) ls (.long (x - x / y * y) :: st) m) : RX K pc ls (.long y :: .long x :: st) m := fun H locs la hP hS hl => lv_lrem hC.1 hC.2.1 hdg hne (kk H locs la hP hS hl)
theorem R_lshr (hC : Cx K cc own G) {x : Int64} {y : Int32} (hdg : decode cc pc = .ok (.lshr, 1)) (kk : RX K (pc + 1) ls (.long (x >>> (y.toInt64 &&& 63)) :: st) m) : RX K pc ls (.int y :: .long x :: st) m := fun H locs la hP hS hl => lv_lshr hC.1 hC.2.1 hdg rfl (kk H locs la hP hS hl)
theorem R_lcmp (hC : Cx K cc own G) {x y : Int64} (hdg : decode cc pc = .ok (.lcmp, 1)) (kk : RX K (pc + 1) ls (.int (lg_cmp x y) :: st) m) : RX K pc ls (.long y :: .long x :: st) m := fun H locs la hP hS hl => W.lcmp hC.1 hC.2.1 hdg (kk H locs la hP hS hl)
theorem R_i2l (hC : Cx K cc own G) {x : Int32} (hdg : decode cc pc = .ok (.i2l, 1)) (kk : RX K (pc + 1) ls (.long x.toInt64 :: st) m) : RX K pc ls (.int x :: st) m := fun H locs la hP hS hl => lv_i2l hC.1 hC.2.1 hdg rfl (kk H locs la hP hS hl)
theorem R_l2i (hC : Cx K cc own G) {x : Int64} (hdg : decode cc pc = .ok (.l2i, 1)) (kk : RX K (pc + 1) ls (.int x.toInt32 :: st) m) : RX K pc ls (.long x :: st) m := fun H locs la hP hS hl => lv_l2i hC.1 hC.2.1 hdg rfl (kk H locs la hP hS hl)
theorem R_dup (hC : Cx K cc own G) {v : Value} (hdg : decode cc pc = .ok (.dup, 1)) (hv : v.category = 1) (kk : RX K (pc + 1) ls (v :: v :: st) m) : RX K pc ls (v :: st) m := fun H locs la hP hS hl => lv_dup hC.1 hC.2.1 hdg ((gv_cat (kad K) v).trans hv) (kk H locs la hP hS hl)
theorem R_pop (hC : Cx K cc own G) {v : Value} (hdg : decode cc pc = .ok (.pop, 1)) (hv : v.category = 1) (kk : RX K (pc + 1) ls st m) : RX K pc ls (v :: st) m := fun H locs la hP hS hl => lv_pop hC.1 hC.2.1 hdg ((gv_cat (kad K) v).trans hv) (kk H locs la hP hS hl)
theorem R_dup2 (hC : Cx K cc own G) {v w : Value} (hdg : decode cc pc = .ok (.dup2, 1)) (hv : v.category = 1) (hw : w.category = 1) (kk : RX K (pc + 1) ls (v :: w :: v :: w :: st) m) : RX K pc ls (v :: w :: st) m := fun H locs la hP hS hl => lv_dup2_11 hC.1 hC.2.1 hdg ((gv_cat (kad K) v).trans hv) ((gv_cat (kad K) w).trans hw) (kk H locs la hP hS hl)
theorem R_goto (hC : Cx K cc own G) {off : Int} {tgt : Nat} (hdg : decode cc pc = .ok (.goto off, 3)) (ht : (pc : Int) + off = (tgt : Int)) (kk : RX K tgt ls st m) : RX K pc ls st m := fun H locs la hP hS hl => lv_goto hC.1 hC.2.1 hdg ht (kk H locs la hP hS hl)
theorem R_ldc (hC : Cx K cc own G) {index : Nat} {v : Int32} (hw : Cond.constant own index v ∈ gdW) (hdg : decode cc pc = .ok (.ldc index, 2)) (kk : RX K (pc + 2) ls (.int v :: st) m) : RX K pc ls st m := fun H locs la hP hS hl => lv_ldc hC.1 hC.2.1 hC.2.2.2.1 (hC.2.2.2.2.1 _ hw) hdg (kk H locs la hP hS hl)
theorem R_ldcw (hC : Cx K cc own G) {index : Nat} {v : Int32} (hw : Cond.constant own index v ∈ gdW) (hdg : decode cc pc = .ok (.ldc_w index, 3)) (kk : RX K (pc + 3) ls (.int v :: st) m) : RX K pc ls st m := fun H locs la hP hS hl => lv_ldcw hC.1 hC.2.1 hC.2.2.2.1 (hC.2.2.2.2.1 _ hw) hdg (kk H locs la hP hS hl)
theorem R_ldc2 (hC : Cx K cc own G) {index : Nat} {v : Int64} (hw : Cond.constantLong own index v ∈ gdW) (hdg : decode cc pc = .ok (.ldc2_w index, 3)) (kk : RX K (pc + 3) ls (.long v :: st) m) : RX K pc ls st m := fun H locs la hP hS hl => lv_ldc2 hC.1 hC.2.1 hC.2.2.2.1 (hC.2.2.2.2.1 _ hw) hdg (kk H locs la hP hS hl)
theorem R_icmp_eq (hC : Cx K cc own G) {x y : Int32} {off : Int} {tgt : Nat} (hdg : decode cc pc = .ok (.if_icmp .eq off, 3)) (ht : (pc : Int) + off = (tgt : Int)) (kt : x = y → RX K tgt ls st m) (kf : ¬ x = y → RX K (pc + 3) ls st m) : RX K pc ls (.int y :: .int x :: st) m := fun H locs la hP hS hl => lv_icmp_eq hC.1 hC.2.1 hdg ht (fun c => kt c H locs la hP hS hl) (fun c => kf c H locs la hP hS hl)
theorem R_if_eq (hC : Cx K cc own G) {x : Int32} {off : Int} {tgt : Nat} (hdg : decode cc pc = .ok (.ifCond .eq off, 3)) (ht : (pc : Int) + off = (tgt : Int)) (kt : x = 0 → RX K tgt ls st m) (kf : ¬ x = 0 → RX K (pc + 3) ls st m) : RX K pc ls (.int x :: st) m := fun H locs la hP hS hl => lv_if_eq hC.1 hC.2.1 hdg ht (fun c => kt c H locs la hP hS hl) (fun c => kf c H locs la hP hS hl)
theorem R_icmp_ne (hC : Cx K cc own G) {x y : Int32} {off : Int} {tgt : Nat} (hdg : decode cc pc = .ok (.if_icmp .ne off, 3)) (ht : (pc : Int) + off = (tgt : Int)) (kt : ¬ x = y → RX K tgt ls st m) (kf : x = y → RX K (pc + 3) ls st m) : RX K pc ls (.int y :: .int x :: st) m := fun H locs la hP hS hl => lv_icmp_ne hC.1 hC.2.1 hdg ht (fun c => kt c H locs la hP hS hl) (fun c => kf c H locs la hP hS hl)
theorem R_if_ne (hC : Cx K cc own G) {x : Int32} {off : Int} {tgt : Nat} (hdg : decode cc pc = .ok (.ifCond .ne off, 3)) (ht : (pc : Int) + off = (tgt : Int)) (kt : ¬ x = 0 → RX K tgt ls st m) (kf : x = 0 → RX K (pc + 3) ls st m) : RX K pc ls (.int x :: st) m := fun H locs la hP hS hl => lv_if_ne hC.1 hC.2.1 hdg ht (fun c => kt c H locs la hP hS hl) (fun c => kf c H locs la hP hS hl)
theorem R_icmp_lt (hC : Cx K cc own G) {x y : Int32} {off : Int} {tgt : Nat} (hdg : decode cc pc = .ok (.if_icmp .lt off, 3)) (ht : (pc : Int) + off = (tgt : Int)) (kt : x < y → RX K tgt ls st m) (kf : ¬ x < y → RX K (pc + 3) ls st m) : RX K pc ls (.int y :: .int x :: st) m := fun H locs la hP hS hl => lv_icmp_lt hC.1 hC.2.1 hdg ht (fun c => kt c H locs la hP hS hl) (fun c => kf c H locs la hP hS hl)
theorem R_if_lt (hC : Cx K cc own G) {x : Int32} {off : Int} {tgt : Nat} (hdg : decode cc pc = .ok (.ifCond .lt off, 3)) (ht : (pc : Int) + off = (tgt : Int)) (kt : x < 0 → RX K tgt ls st m) (kf : ¬ x < 0 → RX K (pc + 3) ls st m) : RX K pc ls (.int x :: st) m := fun H locs la hP hS hl => lv_if_lt hC.1 hC.2.1 hdg ht (fun c => kt c H locs la hP hS hl) (fun c => kf c H locs la hP hS hl)
theorem R_icmp_ge (hC : Cx K cc own G) {x y : Int32} {off : Int} {tgt : Nat} (hdg : decode cc pc = .ok (.if_icmp .ge off, 3)) (ht : (pc : Int) + off = (tgt : Int)) (kt : y ≤ x → RX K tgt ls st m) (kf : ¬ y ≤ x → RX K (pc + 3) ls st m) : RX K pc ls (.int y :: .int x :: st) m := fun H locs la hP hS hl => lv_icmp_ge hC.1 hC.2.1 hdg ht (fun c => kt c H locs la hP hS hl) (fun c => kf c H locs la hP hS hl)
theorem R_if_ge (hC : Cx K cc own G) {x : Int32} {off : Int} {tgt : Nat} (hdg : decode cc pc = .ok (.ifCond .ge off, 3)) (ht : (pc : Int) + off = (tgt : Int)) (kt : 0 ≤ x → RX K tgt ls st m) (kf : ¬ 0 ≤ x → RX K (pc + 3) ls st m) : RX K pc ls (.int x :: st) m := fun H locs la hP hS hl => lv_if_ge hC.1 hC.2.1 hdg ht (fun c => kt c H locs la hP hS hl) (fun c => kf c H locs la hP hS hl)
theorem R_icmp_gt (hC : Cx K cc own G) {x y : Int32} {off : Int} {tgt : Nat} (hdg : decode cc pc = .ok (.if_icmp .gt off, 3)) (ht : (pc : Int) + off = (tgt : Int)) (kt : y < x → RX K tgt ls st m) (kf : ¬ y < x → RX K (pc + 3) ls st m) : RX K pc ls (.int y :: .int x :: st) m := fun H locs la hP hS hl => lv_icmp_gt hC.1 hC.2.1 hdg ht (fun c => kt c H locs la hP hS hl) (fun c => kf c H locs la hP hS hl)
theorem R_if_gt (hC : Cx K cc own G) {x : Int32} {off : Int} {tgt : Nat} (hdg : decode cc pc = .ok (.ifCond .gt off, 3)) (ht : (pc : Int) + off = (tgt : Int)) (kt : 0 < x → RX K tgt ls st m) (kf : ¬ 0 < x → RX K (pc + 3) ls st m) : RX K pc ls (.int x :: st) m := fun H locs la hP hS hl => lv_if_gt hC.1 hC.2.1 hdg ht (fun c => kt c H locs la hP hS hl) (fun c => kf c H locs la hP hS hl)
theorem R_icmp_le (hC : Cx K cc own G) {x y : Int32} {off : Int} {tgt : Nat} (hdg : decode cc pc = .ok (.if_icmp .le off, 3)) (ht : (pc : Int) + off = (tgt : Int)) (kt : x ≤ y → RX K tgt ls st m) (kf : ¬ x ≤ y → RX K (pc + 3) ls st m) : RX K pc ls (.int y :: .int x :: st) m := fun H locs la hP hS hl => lv_icmp_le hC.1 hC.2.1 hdg ht (fun c => kt c H locs la hP hS hl) (fun c => kf c H locs la hP hS hl)
theorem R_if_le (hC : Cx K cc own G) {x : Int32} {off : Int} {tgt : Nat} (hdg : decode cc pc = .ok (.ifCond .le off, 3)) (ht : (pc : Int) + off = (tgt : Int)) (kt : x ≤ 0 → RX K tgt ls st m) (kf : ¬ x ≤ 0 → RX K (pc + 3) ls st m) : RX K pc ls (.int x :: st) m := fun H locs la hP hS hl => lv_if_le hC.1 hC.2.1 hdg ht (fun c => kt c H locs la hP hS hl) (fun c => kf c H locs la hP hS hl)
/-- an end -/
theorem R_ret (hC : Cx K cc own G) (r : Option Value) (hv : st = r.toList) (hg : r.toList.map (gv (kad K)) = r.toList) (hG : G r m) (hdg : decode cc pc = .ok (retI r, 1)) : RX K pc ls st m := by
  intro H locs la hP hS hl
  rw [hv, hg]
  exact hC.2.2.2.2.2.2.2.2.2.2 pc la H locs m r hP hS hG hdg
theorem R_ireturn (hC : Cx K cc own G) {v : Int32} (hdg : decode cc pc = .ok (.ireturn, 1)) (hG : G (some (.int v)) m) : RX K pc ls [.int v] m := R_ret hC (some (.int v)) rfl rfl hG hdg
theorem R_lreturn (hC : Cx K cc own G) {v : Int64} (hdg : decode cc pc = .ok (.lreturn, 1)) (hG : G (some (.long v)) m) : RX K pc ls [.long v] m := R_ret hC (some (.long v)) rfl rfl hG hdg
theorem R_return (hC : Cx K cc own G) (hdg : decode cc pc = .ok (.return_, 1)) (hG : G none m) : RX K pc ls [] m := R_ret hC none rfl rfl hG hdg
/-- arrays -/
theorem R_iaload (hC : Cx K cc own G) (j : Nat) {n : Nat} {i : Int32} (hj : j < kn K) (hy : lay j = .inl (false, n)) (hin : vp_in i n) (hdg : decode cc pc = .ok (.iaload, 1)) (kk : RX K (pc + 1) ls (.int (m.1 j i.toNatClampNeg) :: st) m) : RX K pc ls (.int i :: .ref j :: st) m := fun H locs la hP hS hl => va_iald hC.1 hC.2.1 hC.2.2.2.2.2.2.1 hP j 0 (by unfold cels; rw [cellsL_get hj, hy]; rfl) rfl hin hdg (kk H locs la hP hS hl)
theorem R_laload (hC : Cx K cc own G) (j : Nat) {n : Nat} {i : Int32} (hj : j < kn K) (hy : lay j = .inl (true, n)) (hin : vp_in i n) (hdg : decode cc pc = .ok (.laload, 1)) (kk : RX K (pc + 1) ls (.long (m.2 j i.toNatClampNeg) :: st) m) : RX K pc ls (.int i :: .ref j :: st) m := fun H locs la hP hS hl => va_lald hC.1 hC.2.1 hC.2.2.2.2.2.2.1 hP j 1 (by unfold cels; rw [cellsL_get hj, hy]; rfl) rfl hin hdg (kk H locs la hP hS hl)
theorem R_iastore (hC : Cx K cc own G) (j : Nat) {n : Nat} {i x : Int32} (hj : j < kn K) (hy : lay j = .inl (false, n)) (hin : vp_in i n) (hdg : decode cc pc = .ok (.iastore, 1)) (kk : RX K (pc + 1) ls st (mu m j i.toNatClampNeg x)) : RX K pc ls (.int x :: .int i :: .ref j :: st) m := by
  intro H locs la hP hS hl
  refine va_iast hC.1 hC.2.1 hC.2.2.2.2.2.2.1 hP (hC.2.2.2.2.2.2.2.1 m) hS j 0 (n := n) (f := m.1 j) (by unfold cels; rw [cellsL_get hj, hy]; rfl) rfl hin hdg (fun H1 locs1 hP1 hD1 hS1 => ?_)
  refine kk H1 locs1 la ?_ hS1 hl
  have e : (cels K m).set j (kad K j, Sum.inl (kI K, n, Sum.inl (upd (m.1 j) i.toNatClampNeg x))) = cels K (mu m j i.toNatClampNeg x) := cellsL_set mu_o (by rw [mu_s, hy]; rfl)
  rw [← e]
  exact hP1
theorem R_lastore (hC : Cx K cc own G) (j : Nat) {n : Nat} {i : Int32} {x : Int64} (hj : j < kn K) (hy : lay j = .inl (true, n)) (hin : vp_in i n) (hdg : decode cc pc = .ok (.lastore, 1)) (kk : RX K (pc + 1) ls st (muL m j i.toNatClampNeg x)) : RX K pc ls (.long x :: .int i :: .ref j :: st) m := by
  intro H locs la hP hS hl
  refine va_last hC.1 hC.2.1 hC.2.2.2.2.2.2.1 hP (hC.2.2.2.2.2.2.2.1 m) hS j 1 (n := n) (f := m.2 j) (by unfold cels; rw [cellsL_get hj, hy]; rfl) rfl hin hdg (fun H1 locs1 hP1 hD1 hS1 => ?_)
  refine kk H1 locs1 la ?_ hS1 hl
  have e : (cels K m).set j (kad K j, Sum.inl (kJ K, n, Sum.inr (Sum.inl (vp_updL (m.2 j) i.toNatClampNeg x)))) = cels K (muL m j i.toNatClampNeg x) := cellsL_set muL_o (by rw [muL_s, hy]; rfl)
  rw [← e]
  exact hP1
theorem R_alen (hC : Cx K cc own G) (j : Nat) {n : Nat} (hj : j < kn K) (hy : lay j = .inl (false, n)) (hdg : decode cc pc = .ok (.arraylength, 1)) (kk : RX K (pc + 1) ls (.int (Int32.ofNat n) :: st) m) : RX K pc ls (.ref j :: st) m := fun H locs la hP hS hl => va_alen hC.1 hC.2.1 hC.2.2.2.2.2.2.1 hP j 0 (x := (n, .inl (m.1 j))) (by unfold cels; rw [cellsL_get hj, hy]; rfl) rfl rfl hdg (kk H locs la hP hS hl)
/-- fields: a number, a cell; of one's own class or of a nest mate -/
theorem R_getI (hC : Cx K cc own G) {C : String} {T : u_T} {N ci k index : Nat} {fs : List (Option Nat)} (j : Nat) (hj : j < kn K) (hy : lay j = .inr (ci, fs)) (hc : vwCl[ci]? = some (C, T, N)) (hin : ∀ w ∈ u_ws C T N, w ∈ gdW) (hk : k < N) (hw : Cond.fieldLink own index (T k).1 (T k).2.1 (T k).2.2.1 ∈ gdW) (hf : fs[k]? = some none) (hdg : decode cc pc = .ok (.getfield index, 3)) (kk : RX K (pc + 3) ls (.int (m.1 j k) :: st) m) : RX K pc ls (.ref j :: st) m := fun H locs la hP hS hl => va_get hC.1 hC.2.1 hC.2.2.2.2.1 hin hC.2.2.2.1 hC.2.2.2.2.2.2.1 hP j (by unfold cels; rw [cellsL_get hj, hy]; rfl) hc k hk (hC.2.2.2.2.1 _ hw) (fun _ h => h) (by have := cfv_int (a := kad K) (f := m.1 j) fs 0 k hf; rw [Nat.zero_add] at this; exact this) hdg (kk H locs la hP hS hl)
theorem R_getR (hC : Cx K cc own G) {C : String} {T : u_T} {N ci k index j' : Nat} {fs : List (Option Nat)} (j : Nat) (hj : j < kn K) (hy : lay j = .inr (ci, fs)) (hc : vwCl[ci]? = some (C, T, N)) (hin : ∀ w ∈ u_ws C T N, w ∈ gdW) (hk : k < N) (hw : Cond.fieldLink own index (T k).1 (T k).2.1 (T k).2.2.1 ∈ gdW) (hf : fs[k]? = some (some j')) (hdg : decode cc pc = .ok (.getfield index, 3)) (kk : RX K (pc + 3) ls (.ref j' :: st) m) : RX K pc ls (.ref j :: st) m := fun H locs la hP hS hl => va_get hC.1 hC.2.1 hC.2.2.2.2.1 hin hC.2.2.2.1 hC.2.2.2.2.2.2.1 hP j (by unfold cels; rw [cellsL_get hj, hy]; rfl) hc k hk (hC.2.2.2.2.1 _ hw) (fun _ h => h) (cfv_ref (a := kad K) (f := m.1 j) fs 0 k hf) hdg (kk H locs la hP hS hl)
theorem R_getIN (hC : Cx K cc own G) {C host : String} {T : u_T} {N ci k index : Nat} {fs : List (Option Nat)} (j : Nat) (hj : j < kn K) (hy : lay j = .inr (ci, fs)) (hc : vwCl[ci]? = some (C, T, N)) (hin : ∀ w ∈ u_ws C T N, w ∈ gdW) (hk : k < N) (hw : Cond.fieldLinkNest own index (T k).1 (T k).2.1 (T k).2.2.1 host ∈ nsW) (hf : fs[k]? = some none) (hdg : decode cc pc = .ok (.getfield index, 3)) (kk : RX K (pc + 3) ls (.int (m.1 j k) :: st) m) : RX K pc ls (.ref j :: st) m := fun H locs la hP hS hl => va_getN hC.1 hC.2.1 hC.2.2.2.2.1 hin hC.2.2.2.1 hC.2.2.2.2.2.2.1 hP j (by unfold cels; rw [cellsL_get hj, hy]; rfl) hc k hk (va_Nw.use rfl (hC.2.2.2.2.2.1 _ hw)) (fun _ h => h) (by have := cfv_int (a := kad K) (f := m.1 j) fs 0 k hf; rw [Nat.zero_add] at this; exact this) hdg (kk H locs la hP hS hl)
theorem R_getRN (hC : Cx K cc own G) {C host : String} {T : u_T} {N ci k index j' : Nat} {fs : List (Option Nat)} (j : Nat) (hj : j < kn K) (hy : lay j = .inr (ci, fs)) (hc : vwCl[ci]? = some (C, T, N)) (hin : ∀ w ∈ u_ws C T N, w ∈ gdW) (hk : k < N) (hw : Cond.fieldLinkNest own index (T k).1 (T k).2.1 (T k).2.2.1 host ∈ nsW) (hf : fs[k]? = some (some j')) (hdg : decode cc pc = .ok (.getfield index, 3)) (kk : RX K (pc + 3) ls (.ref j' :: st) m) : RX K pc ls (.ref j :: st) m := fun H locs la hP hS hl => va_getN hC.1 hC.2.1 hC.2.2.2.2.1 hin hC.2.2.2.1 hC.2.2.2.2.2.2.1 hP j (by unfold cels; rw [cellsL_get hj, hy]; rfl) hc k hk (va_Nw.use rfl (hC.2.2.2.2.2.1 _ hw)) (fun _ h => h) (cfv_ref (a := kad K) (f := m.1 j) fs 0 k hf) hdg (kk H locs la hP hS hl)
theorem R_put (hC : Cx K cc own G) {C : String} {T : u_T} {N ci k index : Nat} {fs : List (Option Nat)} (ty0 : Nat → FieldType) (hty : ∀ k, k < N → parseFieldDescriptor (T k).2.2.1 = some (ty0 k)) (hnm : ∀ a, a < N → ∀ b, b < N → a ≠ b → (T a).2.1 ≠ (T b).2.1) (j : Nat) (hj : j < kn K) (hy : lay j = .inr (ci, fs)) (hc : vwCl[ci]? = some (C, T, N)) (hin : ∀ w ∈ u_ws C T N, w ∈ gdW) (hk : k < N) (hw : Cond.fieldLink own index (T k).1 (T k).2.1 (T k).2.2.1 ∈ gdW) (hf : fs[k]? = some none) (hfin : (T k).2.2.2 = false) {x : Int32} (hn : narrow (ty0 k) (.int x) = .int x) (hfit : fits (ty0 k) (.int x) = true) (hdg : decode cc pc = .ok (.putfield index, 3)) (kk : RX K (pc + 3) ls st (mu m j k x)) : RX K pc ls (.int x :: .ref j :: st) m := by
  intro H locs la hP hS hl
  have hlen : k < fs.length := (List.getElem?_eq_some_iff.mp hf).1
  refine va_put hC.1 hC.2.1 hC.2.2.2.2.1 hin ty0 hty hnm hC.2.2.2.1 hC.2.2.2.2.2.2.1 hP (hC.2.2.2.2.2.2.2.1 m) hS j (by unfold cels; rw [cellsL_get hj, hy]; rfl) hc k hk (hC.2.2.2.2.1 _ hw) (fun _ h => h) hfin (hty k hk) hn hfit (by rw [cfv_len]; exact hlen) hdg (fun H1 locs1 hP1 hD1 hS1 => ?_)
  refine kk H1 locs1 la ?_ hS1 hl
  have e : (cels K m).set j (kad K j, Sum.inr (ci, (cfv (kad K) (m.1 j) 0 fs).set k (.int x))) = cels K (mu m j k x) := cellsL_set mu_o (by rw [mu_s, hy, cfv_set fs 0 k hf, Nat.zero_add]; rfl)
  rw [← e]
  exact hP1
end
