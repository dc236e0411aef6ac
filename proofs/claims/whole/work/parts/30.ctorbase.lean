/-! ===== where cells are made: the world as a list ===== -/
def RZ (K : KX) (z w : Nat) (ws : va_W) (pc : Nat) (ls : List (Nat × Value)) (st : List Value) : Prop := ∀ (H : Heap) (locs : List Loc) (la : Array Slot), va_P (kD K) vwCl ws H → va_D (kA K) ws → va_S (kA K) (ks K).heap H locs → lv_has la (kL K) ls → W (kp K) (kl K) (ke K) (kR K) (ks K) (km K) (ka K) (kb K) (kM K) (kc K) H locs z w (kQ K) (F0 (km K) pc la st)
def CL (K : KX) (cc : ByteArray) (own : String) : Prop :=
  (kp K).tables.exec = Jvm.exec ∧ (kc K).code = cc ∧ (kc K).maxLocals = kL K ∧ (ks K).vm.findClass own = some (km K).cls ∧ (∀ w ∈ gdW, w.before (ka K) (ks K) = true) ∧ (∀ w ∈ nsW, va_Nw w (ks K)) ∧ va_K (kD K) vwCl [(kI K, .int), (kJ K, .long)] (ks K) ∧ (∀ q, (ks K).heap.size ≤ q → kA K q)
section
variable {K : KX} {cc : ByteArray} {own : String} {pc z w : Nat} {ws : va_W} {ls : List (Nat × Value)} {st : List Value}
theorem RZ_aload_n (hC : CL K cc own) {k : Fin 4} {x : Nat} (q : Nat) {i : Nat} (hdg : decode cc pc = .ok (.aload_n k, 1)) (hi : (k : Nat) = i) (hq : ls[q]? = some (i, .ref x)) (kk : RZ K z w ws (pc + 1) ls (.ref x :: st)) : RZ K z w ws pc ls st := fun H locs la hP hD hS hl => lv_aload_n hC.1 hC.2.1 hdg hi (lv_at hl q hq) (kk H locs la hP hD hS hl)
theorem RZ_astore_n (hC : CL K cc own) {k : Fin 4} {x i : Nat} {ls' : List (Nat × Value)} (hdg : decode cc pc = .ok (.astore_n k, 1)) (hi : (k : Nat) = i) {nL : Nat} (hL : kL K = nL) (hn : Nat.blt i nL = true) (he : (i, Value.ref x) :: ls.filter (fun q => !(q.1 == i) && !(q.1 + 1 == i && q.2.category == 2)) = ls') (kk : RZ K z w ws (pc + 1) ls' st) : RZ K z w ws pc ls (.ref x :: st) := fun H locs la hP hD hS hl => lv_astore_n hC.1 hC.2.1 hdg hi hl (hL ▸ Nat.le_of_ble_eq_true hn) he (fun la' hl' => kk H locs la' hP hD hS hl')
theorem RZ_istore_n (hC : CL K cc own) {k : Fin 4} {x : Int32} {i : Nat} {ls' : List (Nat × Value)} (hdg : decode cc pc = .ok (.istore_n k, 1)) (hi : (k : Nat) = i) {nL : Nat} (hL : kL K = nL) (hn : Nat.blt i nL = true) (he : (i, Value.int x) :: ls.filter (fun q => !(q.1 == i) && !(q.1 + 1 == i && q.2.category == 2)) = ls') (kk : RZ K z w ws (pc + 1) ls' st) : RZ K z w ws pc ls (.int x :: st) := fun H locs la hP hD hS hl => lv_istore_n hC.1 hC.2.1 hdg hi hl (hL ▸ Nat.le_of_ble_eq_true hn) he (fun la' hl' => kk H locs la' hP hD hS hl')
theorem RZ_iconst (hC : CL K cc own) {n : Int} {v : Int32} (hdg : decode cc pc = .ok (.iconst n, 1)) (hv : Int32.ofInt n = v) (kk : RZ K z w ws (pc + 1) ls (.int v :: st)) : RZ K z w ws pc ls st := fun H locs la hP hD hS hl => lv_iconst hC.1 hC.2.1 hdg hv (kk H locs la hP hD hS hl)
theorem RZ_bipush (hC : CL K cc own) {n : Int} {v : Int32} (hdg : decode cc pc = .ok (.bipush n, 2)) (hv : (Int8.ofInt n).toInt32 = v) (kk : RZ K z w ws (pc + 2) ls (.int v :: st)) : RZ K z w ws pc ls st := fun H locs la hP hD hS hl => lv_bipush hC.1 hC.2.1 hdg hv (kk H locs la hP hD hS hl)
theorem RZ_sipush (hC : CL K cc own) {n : Int} {v : Int32} (hdg : decode cc pc = .ok (.sipush n, 3)) (hv : (Int16.ofInt n).toInt32 = v) (kk : RZ K z w ws (pc + 3) ls (.int v :: st)) : RZ K z w ws pc ls st := fun H locs la hP hD hS hl => lv_sipush hC.1 hC.2.1 hdg hv (kk H locs la hP hD hS hl)
theorem RZ_dup (hC : CL K cc own) {x : Nat} (hdg : decode cc pc = .ok (.dup, 1)) (kk : RZ K z w ws (pc + 1) ls (.ref x :: .ref x :: st)) : RZ K z w ws pc ls (.ref x :: st) := fun H locs la hP hD hS hl => lv_dup hC.1 hC.2.1 hdg rfl (kk H locs la hP hD hS hl)
theorem RZ_objInit (hC : CL K cc own) {x idx : Nat} (h1 : Cond.methodLink own idx Lib.objectInit ∈ gdW) (h2 : Cond.instanceMethod Lib.objectInit ∈ gdW) (h3 : Cond.code Lib.objectInit ⟨#[0xb1]⟩ 1 none ∈ gdW) {R : Room} (hR : kR K = R) (hr : (Nat.ble 1 R.frames && Nat.ble 12 R.locals) = true) (hdg : decode cc pc = .ok (.invokespecial idx, 3)) (kk : RZ K z w ws (pc + 3) ls []) : RZ K z w ws pc ls [.ref x] := by
  intro H locs la hP hD hS hl
  have h8 : 1 ≤ (kR K).frames ∧ 12 ≤ (kR K).locals := by
    rw [hR]
    simp only [Bool.and_eq_true] at hr
    exact ⟨Nat.le_of_ble_eq_true hr.1, Nat.le_of_ble_eq_true hr.2⟩
  exact W.objInit hC.1 hC.2.1 hC.2.2.2.1 (hC.2.2.2.2.1 _ h1) (hC.2.2.2.2.1 _ h2) (hC.2.2.2.2.1 _ h3) rfl (hl.1.trans hC.2.2.1.symm) rfl hdg h8.1 h8.2 (kk H locs la hP hD hS hl)
theorem RZ_new (hC : CL K cc own) {C : String} {T : u_T} {N ci index : Nat} {fs : List Value} (ty : Nat → FieldType) (hty : ∀ k, k < N → parseFieldDescriptor (T k).2.2.1 = some (ty k)) (hin : ∀ w ∈ u_ws C T N, w ∈ gdW) (hcl : Cond.classLink own index C ∈ gdW) (hinst : Cond.instantiable C N ∈ gdW) (hini : Cond.initialized C ∈ gdW) (hc : vwCl[ci]? = some (C, T, N)) (hfs : ∀ j, j < N → defaultValue (ty j) = vp_V fs j) {R : Room} (hR : kR K = R) (hz : z + 1 ≤ R.cells) (hw : w + N ≤ R.slots) (hdg : decode cc pc = .ok (.new index, 3)) (kk : ∀ q : Nat, RZ K (z + 1) (w + N) (ws ++ [(q, .inr (ci, fs))]) (pc + 3) ls (.ref q :: st)) : RZ K z w ws pc ls st := fun H locs la hP hD hS hl => va_new hC.1 hC.2.1 hC.2.2.2.2.1 hin ty hty hC.2.2.2.1 (hC.2.2.2.2.1 _ hcl) (hC.2.2.2.2.1 _ hinst) (hC.2.2.2.2.1 _ hini) hC.2.2.2.2.2.2.1 hP hD hS hC.2.2.2.2.2.2.2 hc hfs (hR ▸ hz) (hR ▸ hw) hdg (fun q H1 hP1 hD1 hS1 => kk q H1 locs la hP1 hD1 hS1 hl)
theorem RZ_newI (hC : CL K cc own) {n : Int32} {N : Nat} (harr : Cond.arrayClass .int ∈ gdW) (hn : ¬ n < 0) (hN : n.toNatClampNeg = N) (hby : N * 4 ≤ 536870912) {R : Room} (hR : kR K = R) (hz : z + 1 ≤ R.cells) (hw : w + N ≤ R.slots) (hdg : decode cc pc = .ok (.newarray .int, 2)) (kk : ∀ q : Nat, RZ K (z + 1) (w + N) (ws ++ [(q, .inl (kI K, N, .inl (fun _ => 0)))]) (pc + 2) ls (.ref q :: st)) : RZ K z w ws pc ls (.int n :: st) := by
  intro H locs la hP hD hS hl
  refine va_newa hC.1 hC.2.1 (atype := .int) (ty := .int) (hC.2.2.2.2.1 _ harr) rfl hC.2.2.2.2.2.2.1 hP hD hS hC.2.2.2.2.2.2.2 (a0 := (N, .inl (fun _ => 0))) (N' := N) (fun _ => rfl) hn hN hby (hR ▸ hz) (hR ▸ hw) hdg (fun q cA H1 hK1 hP1 hD1 hS1 => ?_)
  have e1 : (ks K).vm.findClass ("[" ++ FieldType.int.toString) = some cA := (hK1.2 2 _ rfl).2
  have e2 : (ks K).vm.findClass ("[" ++ FieldType.int.toString) = some (kI K) := (hK1.2 0 _ rfl).2
  have e3 : cA = kI K := Option.some.inj (e1.symm.trans e2)
  subst e3
  exact kk q H1 locs la hP1 hD1 hS1 hl
theorem RZ_newJ (hC : CL K cc own) {n : Int32} {N : Nat} (harr : Cond.arrayClass .long ∈ gdW) (hn : ¬ n < 0) (hN : n.toNatClampNeg = N) (hby : N * 8 ≤ 536870912) {R : Room} (hR : kR K = R) (hz : z + 1 ≤ R.cells) (hw : w + N ≤ R.slots) (hdg : decode cc pc = .ok (.newarray .long, 2)) (kk : ∀ q : Nat, RZ K (z + 1) (w + N) (ws ++ [(q, .inl (kJ K, N, .inr (.inl (fun _ => 0))))]) (pc + 2) ls (.ref q :: st)) : RZ K z w ws pc ls (.int n :: st) := by
  intro H locs la hP hD hS hl
  refine va_newa hC.1 hC.2.1 (atype := .long) (ty := .long) (hC.2.2.2.2.1 _ harr) rfl hC.2.2.2.2.2.2.1 hP hD hS hC.2.2.2.2.2.2.2 (a0 := (N, .inr (.inl (fun _ => 0)))) (N' := N) (fun _ => rfl) hn hN hby (hR ▸ hz) (hR ▸ hw) hdg (fun q cA H1 hK1 hP1 hD1 hS1 => ?_)
  have e1 : (ks K).vm.findClass ("[" ++ FieldType.long.toString) = some cA := (hK1.2 2 _ rfl).2
  have e2 : (ks K).vm.findClass ("[" ++ FieldType.long.toString) = some (kJ K) := (hK1.2 1 _ rfl).2
  have e3 : cA = kJ K := Option.some.inj (e1.symm.trans e2)
  subst e3
  exact kk q H1 locs la hP1 hD1 hS1 hl
/-- a final field, in its constructor; a field of a number -/
theorem RZ_putF (hC : CL K cc own) (hin2 : (kM K).name = "<init>") {C : String} {T : u_T} {N ci index a : Nat} {fs : List Value} {v : Value} {ws' : va_W} (ty0 : Nat → FieldType) (hty : ∀ k, k < N → parseFieldDescriptor (T k).2.2.1 = some (ty0 k)) (hnm : ∀ a, a < N → ∀ b, b < N → a ≠ b → (T a).2.1 ≠ (T b).2.1) (hin : ∀ w ∈ u_ws C T N, w ∈ gdW) (hc : vwCl[ci]? = some (C, T, N)) (p k : Nat) (he : ws[p]? = some (a, .inr (ci, fs))) (hk : k < N) (hlink : Cond.fieldLink own index (T k).1 (T k).2.1 (T k).2.2.1 ∈ gdW) (hfin : (T k).2.2.2 = true) (hdecl : (T k).1 = own) (hn : narrow (ty0 k) v = v) (hfit : fits (ty0 k) v = true) (hl1 : k < fs.length) (hws : ws.set p (a, .inr (ci, fs.set k v)) = ws') (hdg : decode cc pc = .ok (.putfield index, 3)) (kk : RZ K z w ws' (pc + 3) ls st) : RZ K z w ws pc ls (v :: .ref a :: st) := fun H locs la hP hD hS hl => va_putF hC.1 hC.2.1 hC.2.2.2.2.1 hin ty0 hty hnm hC.2.2.2.1 hC.2.2.2.2.2.2.1 hP hD hS p he hc k hk (hC.2.2.2.2.1 _ hlink) (fun _ h => h) hfin hin2 hdecl (hty k hk) hn hfit hl1 hdg (fun H1 locs1 hP1 hD1 hS1 => kk H1 locs1 la (hws ▸ hP1) (hws ▸ hD1) hS1 hl)
theorem RZ_put (hC : CL K cc own) {C : String} {T : u_T} {N ci index a : Nat} {fs : List Value} {v : Value} {ws' : va_W} (ty0 : Nat → FieldType) (hty : ∀ k, k < N → parseFieldDescriptor (T k).2.2.1 = some (ty0 k)) (hnm : ∀ a, a < N → ∀ b, b < N → a ≠ b → (T a).2.1 ≠ (T b).2.1) (hin : ∀ w ∈ u_ws C T N, w ∈ gdW) (hc : vwCl[ci]? = some (C, T, N)) (p k : Nat) (he : ws[p]? = some (a, .inr (ci, fs))) (hk : k < N) (hlink : Cond.fieldLink own index (T k).1 (T k).2.1 (T k).2.2.1 ∈ gdW) (hfin : (T k).2.2.2 = false) (hn : narrow (ty0 k) v = v) (hfit : fits (ty0 k) v = true) (hl1 : k < fs.length) (hws : ws.set p (a, .inr (ci, fs.set k v)) = ws') (hdg : decode cc pc = .ok (.putfield index, 3)) (kk : RZ K z w ws' (pc + 3) ls st) : RZ K z w ws pc ls (v :: .ref a :: st) := fun H locs la hP hD hS hl => va_put hC.1 hC.2.1 hC.2.2.2.2.1 hin ty0 hty hnm hC.2.2.2.1 hC.2.2.2.2.2.2.1 hP hD hS p he hc k hk (hC.2.2.2.2.1 _ hlink) (fun _ h => h) hfin (hty k hk) hn hfit hl1 hdg (fun H1 locs1 hP1 hD1 hS1 => kk H1 locs1 la (hws ▸ hP1) (hws ▸ hD1) hS1 hl)
theorem RZ_get (hC : CL K cc own) {C : String} {T : u_T} {N ci index a : Nat} {fs : List Value} {v : Value} (hin : ∀ w ∈ u_ws C T N, w ∈ gdW) (hc : vwCl[ci]? = some (C, T, N)) (p k : Nat) (he : ws[p]? = some (a, .inr (ci, fs))) (hk : k < N) (hlink : Cond.fieldLink own index (T k).1 (T k).2.1 (T k).2.2.1 ∈ gdW) (hv : fs[k]? = some v) (hdg : decode cc pc = .ok (.getfield index, 3)) (kk : RZ K z w ws (pc + 3) ls (v :: st)) : RZ K z w ws pc ls (.ref a :: st) := fun H locs la hP hD hS hl => va_get hC.1 hC.2.1 hC.2.2.2.2.1 hin hC.2.2.2.1 hC.2.2.2.2.2.2.1 hP p he hc k hk (hC.2.2.2.2.1 _ hlink) (fun _ h => h) hv hdg (kk H locs la hP hD hS hl)
end
/-! ===== a constructor's contract: of its object alone (fields fs0) it makes the cells that post says, k of them new ===== -/
def PcC (D : va_G) (cI cJ : ClassId) (av : List Value) (ci : Nat) (fs0 : List Value) (h0 sz : Nat) : Array Value → State → Prop := va_Pc (.ref h0 :: av) (fun U => U.heap.size = sz ∧ va_P D vwCl [(h0, .inr (ci, fs0))] U.heap ∧ va_K D vwCl [(cI, .int), (cJ, .long)] U ∧ va_D (fun _ => True) [(h0, .inr (ci, fs0))] ∧ ∀ w ∈ nsW, va_Nw w U)
def QcC (D : va_G) (post : List Nat → va_W) (k : Nat) (A : Nat → Prop) : Array Value → State → Outcome → State → Prop := fun _ s0 oc t => oc = .returned none ∧ (∃ qs : List Nat, qs.length = k ∧ va_P D vwCl (post qs) t.heap ∧ va_D A (post qs)) ∧ va_F A s0 t
def MC (y : MethodName) (cc : ByteArray) (nL : Nat) (rm : Room) (ci : Nat) (av : List Value) (fs0 : List Value) (post : ClassId → ClassId → Nat → List Nat → va_W) (k : Nat) : Prop :=
  ∀ (l : Launch) (D : va_G) (cI cJ : ClassId) (h0 sz : Nat), Met l y (wsM y cc nL none) rm (PcC D cI cJ av ci fs0 h0 sz) (QcC D (post cI cJ h0) k (va_A [(h0, .inr (ci, fs0))] sz)) rm.cells rm.slots (va_A [(h0, .inr (ci, fs0))] sz)
def RetZ (K : KX) (cc : ByteArray) (rm : Room) (k : Nat) (post : List Nat → va_W) : Prop := ∀ (qs : List Nat) (pc : Nat) (la : Array Slot) (H : Heap) (locs : List Loc), qs.length = k → decode cc pc = .ok (.return_, 1) → va_P (kD K) vwCl (post qs) H → va_D (kA K) (post qs) → va_S (kA K) (ks K).heap H locs → W (kp K) (kl K) (ke K) (kR K) (ks K) (km K) (ka K) (kb K) (kM K) (kc K) H locs rm.cells rm.slots (kQ K) (F0 (km K) pc la [])
theorem RZ_ret {K : KX} {cc : ByteArray} {rm : Room} {k : Nat} {post : List Nat → va_W} (h : RetZ K cc rm k post) (qs : List Nat) (pc : Nat) (ls : List (Nat × Value)) (hk : qs.length = k) (hdg : decode cc pc = .ok (.return_, 1)) : RZ K rm.cells rm.slots (post qs) pc ls [] := fun H locs la hP hD hS _ => h qs pc la H locs hk hdg hP hD hS
set_option maxHeartbeats 4000000 in
theorem MC_of {y : MethodName} {cc : ByteArray} {nL : Nat} {rm : Room} {ci : Nat} {av fs0 : List Value} {post : ClassId → ClassId → Nat → List Nat → va_W} {k : Nat} (hy : plainName y.cls = true) (hyn : y.name = "<init>") (hn : (lg_sl (.ref 0 :: av)).length ≤ nL)
    (walk : ∀ (K : KX) (h0 : Nat), CL K cc y.cls → (kM K).name = "<init>" → kL K = nL → kR K = rm →
      RetZ K cc rm k (post (kI K) (kJ K) h0) → RZ K 0 0 [(h0, .inr (ci, fs0))] 0 (lv_args 0 (.ref h0 :: av)) []) : MC y cc nL rm ci av fs0 post k := by
  intro l D cI cJ h0 sz
  refine Met.ofW (cc := cc) (maxL := nL) (ret := none) hy rfl ?_
  intro p e s mid args below meth c s₁ B hml hv
  obtain ⟨rfl, hsz, hP, hK, hD0, hN⟩ := hv
  have hx := B.exec
  have hb := B.bytes
  have hrt := B.returns
  have hts := atoms_spec (ws := wsM y cc nL none) B.pre
  have hown : s.vm.findClass y.cls = some mid.cls := findClass_of_methodNamed B.named
  have hin : meth.name = "<init>" := (name_of_methodNamed B.named B.method).1.trans hyn
  have hlocks := B.notSynchronized
  subst hsz
  have hD := hD0.self (sz := s.heap.size)
  let K : KX := (p, l, e, rm, s, mid, (Value.ref h0 :: av).toArray, below, meth, c, nL, D, cI, cJ, (fun _ => 0), 0, va_A [(h0, .inr (ci, fs0))] s.heap.size, MQ below (QcC D (post cI cJ h0) k (va_A [(h0, .inr (ci, fs0))] s.heap.size)) (Value.ref h0 :: av).toArray s rm.cells rm.slots (va_A [(h0, .inr (ci, fs0))] s.heap.size), 0, 0)
  have hC : CL K cc y.cls := ⟨hx, hb, hml, hown, fun w hw => hts w (List.mem_cons_of_mem _ hw), hN, hK, fun q h => Or.inr h⟩
  have hw := walk K h0 hC hin rfl rfl (by
    intro qs pc la H locs hk hdg hP2 hD2 hS2
    exact W.vret hx hb hrt (fun t ht _ => ⟨rfl, ⟨qs, hk, by rw [ht]; exact hP2, hD2⟩, hS2.F ht⟩) hS2.2.2 hdg)
  have hl := lv_entry (Value.ref h0 :: av) (n := nL) hn
  rw [lg_entry_eq]
  exact hw s.heap [] _ hP hD va_S.rf hl
set_option maxHeartbeats 4000000 in
theorem nd_of : ∀ (l : List Nat), l.Nodup → va_nd l = true
  | [], _ => rfl
  | a :: l, h => by
    rw [List.nodup_cons] at h
    simp only [va_nd, Bool.and_eq_true, decide_eq_true_eq]
    exact ⟨h.1, nd_of l h.2⟩
theorem range_map {α : Type} (wr : List α) (x : α) : (List.range wr.length).map (fun i => (wr ++ [x])[i]?) = wr.map some := by
  apply List.ext_getElem?
  intro i
  simp only [List.getElem?_map]
  by_cases hi : i < wr.length
  · rw [List.getElem?_range hi]
    simp [hi, List.getElem?_append_left]
  · rw [List.getElem?_eq_none_iff.mpr (by simpa using hi), List.getElem?_eq_none_iff.mpr (by simpa using hi)]
    rfl
theorem range_dis {α : Type} (wr : List α) : ∀ i ∈ List.range wr.length, i ∉ [wr.length] := by
  intro i hi h
  simp at hi h
  omega
theorem RZ_call {K : KX} {cc : ByteArray} {own : String} (hC : CL K cc own) {H : Heap} {locs : List Loc} {la : Array Slot} {st0 rest : List Value} {arr : Array Value} {pc z w mc ms k q ci : Nat} {wr : va_W} {fs0 : List Value} {post : List Nat → va_W} (hP : va_P (kD K) vwCl (wr ++ [(q, .inr (ci, fs0))]) H) (hD : va_D (kA K) (wr ++ [(q, .inr (ci, fs0))])) (hS : va_S (kA K) (ks K).heap H locs)
    (hr : va_Run (kp K) (kl K) (ke K) (kR K) (ks K) (km K) (ka K) (kb K) (kM K) (kc K) H locs z w mc ms (F0 (km K) pc la st0) rest (QcC (kD K) post k (va_A [(q, .inr (ci, fs0))] H.size) arr) (va_A [(q, .inr (ci, fs0))] H.size))
    (kk : ∀ (qs : List Nat) (H1 : Heap) (locs1 : List Loc), qs.length = k → va_P (kD K) vwCl (wr ++ post qs) H1 → va_D (kA K) (wr ++ post qs) → va_S (kA K) (ks K).heap H1 locs1 → W (kp K) (kl K) (ke K) (kR K) (ks K) (km K) (ka K) (kb K) (kM K) (kc K) H1 locs1 (z + mc) (w + ms) (kQ K) (F0 (km K) (pc + 3) la rest)) : W (kp K) (kl K) (ke K) (kR K) (ks K) (km K) (ka K) (kb K) (kM K) (kc K) H locs z w (kQ K) (F0 (km K) pc la st0) := by
  have hCm : [wr.length].map (fun i => (wr ++ [(q, (.inr (ci, fs0) : va_E))])[i]?) = [(q, (.inr (ci, fs0) : va_E))].map some := by simp
  have hF := va_free (wc := [(q, .inr (ci, fs0))]) hD hS hC.2.2.2.2.2.2.2 [wr.length] hCm
  intro T hT X
  obtain ⟨v, st₀, t, T', L, h0, X', hL, e1, e2, ⟨hv, ⟨qs, hk, hp, hd⟩, hz, hkk⟩, st⟩ := hr T hT X
  cases hv
  rw [h0] at hz hkk
  obtain ⟨hP2, hD2⟩ := va_join (wr := wr) (w1 := post qs) (H1 := T'.heap) hP hD [wr.length] (List.range wr.length) hCm (range_map wr _) (nd_of _ List.nodup_range) (range_dis wr) (fun x h1 h2 => by rw [e1]; exact hkk x h1 h2) hF (by rw [e1]; exact hp) hd
  obtain ⟨t2, a1, b1⟩ := kk qs T'.heap (locs ++ L) hk hP2 hD2
    ⟨Nat.le_trans hS.1 (by rw [e1]; exact hz), fun x h1 h2 => by rw [e1, hkk x (Nat.lt_of_lt_of_le h1 hS.1) (fun zz => h2 (hF x zz))]; exact hS.2.1 x h1 h2, fun x hx => by
      rcases List.mem_append.mp hx with h | h
      · exact hS.2.2 x h
      · exact hF _ (hL x h)⟩ T' rfl X'
  exact ⟨t2, st t2 a1, b1⟩
theorem pcc_blind {D : va_G} {cI cJ : ClassId} {av : List Value} {ci : Nat} {fs0 : List Value} {h0 sz : Nat} : FrameBlind (PcC D cI cJ av ci fs0 h0 sz) := fun A U g mk q => by
  obtain ⟨q0, q1, qP, qK, qD, qN⟩ := q
  exact ⟨q0, q1, qP, va_K.moved (u := U) (U := U.calling g mk A) (Vm.Alike.refl U.vm) qK, qD, fun w hw => va_Nw.same (by have h2 : isNest w = true := (List.mem_filter.mp hw).2; cases w <;> first | rfl | (simp [isNest] at h2)) (rfl : U.vm = (U.calling g mk A).vm) (qN w hw)⟩
theorem va_P_last {D : va_G} {cl : List vw_C} {wr : va_W} {x : Nat × va_E} {H : Heap} (h : va_P D cl (wr ++ [x]) H) : va_P D cl [x] H := by
  intro k q hq
  have hk : k = 0 := by
    have := (List.getElem?_eq_some_iff.mp hq).1
    simp at this; omega
  subst hk
  exact h wr.length q (by simpa using hq)
theorem va_D_last {A : Nat → Prop} {wr : va_W} {x : Nat × va_E} : va_D (fun _ => True) [x] := by
  refine ⟨fun i j p q hi hj _ => ?_, fun _ _ _ => trivial⟩
  have h1 := (List.getElem?_eq_some_iff.mp hi).1
  have h2 := (List.getElem?_eq_some_iff.mp hj).1
  simp at h1 h2
  omega
def MFi (y : MethodName) (cc : ByteArray) (nL : Nat) (np : Nat) : Prop := Cond.instanceMethod y ∈ gdW ∧ Cond.initialized y.cls ∈ gdW ∧ Cond.code y cc nL none ∈ gdW ∧ y.name = "<init>" ∧ (y.cls ≠ "java/lang/invoke/MethodHandle" ∧ y.cls ≠ "java/lang/invoke/VarHandle" ∧ (parseMethodDescriptor y.desc).map (fun d => d.parameters.length) = some np)
def rmC (rm R : Room) (maxL z w : Nat) : Bool := Nat.ble (rm.frames + 1) R.frames && (Nat.ble (8 + (maxL + 11) + rm.locals) R.locals && (Nat.ble (z + rm.cells) R.cells && Nat.ble (w + rm.slots) R.slots))
theorem rmC_1 {rm R : Room} {maxL z w : Nat} (h : rmC rm R maxL z w = true) : (rm.frames + 1 ≤ R.frames ∧ 8 + (maxL + 11) + rm.locals ≤ R.locals) ∧ z + rm.cells ≤ R.cells ∧ w + rm.slots ≤ R.slots := by
  simp only [rmC, Bool.and_eq_true] at h
  exact ⟨⟨Nat.le_of_ble_eq_true h.1, Nat.le_of_ble_eq_true h.2.1⟩, Nat.le_of_ble_eq_true h.2.2.1, Nat.le_of_ble_eq_true h.2.2.2⟩
set_option maxHeartbeats 4000000 in
theorem RZ_ctorN {K : KX} {cc : ByteArray} {own : String} {pc z w : Nat} {ls : List (Nat × Value)} {st : List Value} (hC : CL K cc own) {y : MethodName} {bytes : ByteArray} {maxL : Nat} {rm R : Room} {av rest fs0 : List Value} {host : String} {ci index np k q : Nat} {post : ClassId → ClassId → Nat → List Nat → va_W} (hR : kR K = R) (wr : va_W) (hF : MFi y bytes maxL np) (hl1 : Cond.methodLinkNest own index y host ∈ nsW) (hM : MC y bytes maxL rm ci av fs0 post k) (hrm : rmC rm R maxL z w = true) (hlen : av.length = np) (hst : st = av.reverse ++ .ref q :: rest) (hcat : (rest.map fun v => v.category).sum ≤ 8) (hdg : decode cc pc = .ok (.invokespecial index, 3)) (kk : ∀ qs : List Nat, qs.length = k → RZ K (z + rm.cells) (w + rm.slots) (wr ++ post (kI K) (kJ K) q qs) (pc + 3) ls rest) : RZ K z w (wr ++ [(q, .inr (ci, fs0))]) pc ls st := by
  intro H locs la hP hD hS hl
  obtain ⟨h1, h2, h3⟩ := rmC_1 hrm
  obtain ⟨f1, f3, f4, f0, f5⟩ := hF
  have hts := hC.2.2.2.2.1
  have cw := va_cnB (R := kR K) (s := ks K) (args := ka K) (mc := rm.cells) (ms := rm.slots) (rm := rm) np hts (wsM_good f4) rfl rfl rfl (hC.2.2.2.2.2.1 _ hl1) (hts _ f3) f5 (by rw [hR]; exact h1)
  refine RZ_call hC (arr := (Value.ref q :: av).toArray) (rest := rest) (mc := rm.cells) (ms := rm.slots) (k := k) (post := post (kI K) (kJ K) q) hP hD hS ?_ (fun qs H1 locs1 hk hP1 hD1 hS1 => kk qs hk H1 locs1 la hP1 hD1 hS1 hl)
  refine va_runIN (nL := kL K) (cc := cc) (Ts := gdW) (own := own) (As := av) (b := q) ⟨hC.1, hC.2.1, hC.2.2.1, hC.2.2.2.1, hts⟩ (hM (kl K) (kD K) (kI K) (kJ K) q H.size) ⟨cw, f0, hts _ f1⟩ ⟨pcc_blind, fun U hU hW => ⟨rfl, by rw [hU], by rw [hU]; exact va_P_last hP, va_K.moved hW.alike hC.2.2.2.2.2.2.1, va_D_last (A := kA K) (wr := wr), nsW_warm hW hC.2.2.2.2.2.1⟩⟩ rfl hlen hl.1 hst (lv_room hcat) hdg (by rw [hR]; exact ⟨h2, h3⟩)
set_option maxHeartbeats 4000000 in
theorem RZ_ctorI {K : KX} {cc : ByteArray} {own : String} {pc z w : Nat} {ls : List (Nat × Value)} {st : List Value} (hC : CL K cc own) {y : MethodName} {bytes : ByteArray} {maxL : Nat} {rm R : Room} {av rest fs0 : List Value} {ci index np k q : Nat} {post : ClassId → ClassId → Nat → List Nat → va_W} (hR : kR K = R) (wr : va_W) (hF : MFi y bytes maxL np) (hl1 : Cond.methodLink own index y ∈ gdW) (hM : MC y bytes maxL rm ci av fs0 post k) (hrm : rmC rm R maxL z w = true) (hlen : av.length = np) (hst : st = av.reverse ++ .ref q :: rest) (hcat : (rest.map fun v => v.category).sum ≤ 8) (hdg : decode cc pc = .ok (.invokespecial index, 3)) (kk : ∀ qs : List Nat, qs.length = k → RZ K (z + rm.cells) (w + rm.slots) (wr ++ post (kI K) (kJ K) q qs) (pc + 3) ls rest) : RZ K z w (wr ++ [(q, .inr (ci, fs0))]) pc ls st := by
  intro H locs la hP hD hS hl
  obtain ⟨h1, h2, h3⟩ := rmC_1 hrm
  obtain ⟨f1, f3, f4, f0, f5⟩ := hF
  have hts := hC.2.2.2.2.1
  have cw := cwI (R := kR K) (s := ks K) (args := ka K) (mc := rm.cells) (ms := rm.slots) (rm := rm) np hts (wsM_good f4) rfl rfl rfl (hts _ f3) (hts _ hl1) (hts _ f1) f0 f5 (by rw [hR]; exact h1)
  refine RZ_call hC (arr := (Value.ref q :: av).toArray) (rest := rest) (mc := rm.cells) (ms := rm.slots) (k := k) (post := post (kI K) (kJ K) q) hP hD hS ?_ (fun qs H1 locs1 hk hP1 hD1 hS1 => kk qs hk H1 locs1 la hP1 hD1 hS1 hl)
  exact va_runI (nL := kL K) (cc := cc) (Ts := gdW) (own := own) (As := av) (b := q) ⟨hC.1, hC.2.1, hC.2.2.1, hC.2.2.2.1, hts⟩ (hM (kl K) (kD K) (kI K) (kJ K) q H.size) cw ⟨pcc_blind, fun U hU hW => ⟨rfl, by rw [hU], by rw [hU]; exact va_P_last hP, va_K.moved hW.alike hC.2.2.2.2.2.2.1, va_D_last (A := kA K) (wr := wr), nsW_warm hW hC.2.2.2.2.2.1⟩⟩ rfl hlen hl.1 hst (lv_room hcat) hdg (by rw [hR]; exact ⟨h2, h3⟩)
/-! ===== from a world as a list to the class's own picture ===== -/
def kset (K : KX) (a : Nat → Nat) (n z w : Nat) : KX := (kp K, kl K, ke K, kR K, ks K, km K, ka K, kb K, kM K, kc K, kL K, kD K, kI K, kJ K, a, n, kA K, kQ K, z, w)
theorem RZ_toRX {K : KX} {cc : ByteArray} {own : String} {pc z w : Nat} {ws : va_W} {ls ls' : List (Nat × Value)} {st st' : List Value} (hC : CL K cc own) (G : Option Value → Mem → Prop) (a : Nat → Nat) (n : Nat) (m : Mem) (hws : ws = cellsL (kI K) (kJ K) a n m) (hls : ls = gl a ls') (hst : st = st'.map (gv a)) (hz : z ≤ (kR K).cells ∧ w ≤ (kR K).slots)
    (hret : va_D (kA K) (cellsL (kI K) (kJ K) a n m) → ∀ (pc : Nat) (la : Array Slot) (H : Heap) (locs : List Loc) (m : Mem) (r : Option Value), va_P (kD K) vwCl (cellsL (kI K) (kJ K) a n m) H → va_S (kA K) (ks K).heap H locs → G r m → decode cc pc = .ok (retI r, 1) → RW (kset K a n z w) H locs (F0 (km K) pc la r.toList))
    (kk : Cx (kset K a n z w) cc own G → RX (kset K a n z w) pc ls' st' m) : RZ K z w ws pc ls st := by
  intro H locs la hP hD hS hl
  subst hws hls hst
  exact kk ⟨hC.1, hC.2.1, hC.2.2.1, hC.2.2.2.1, hC.2.2.2.2.1, hC.2.2.2.2.2.1, hC.2.2.2.2.2.2.1, fun m' => cellsL_apart hD, hC.2.2.2.2.2.2.2, hz, hret hD⟩ H locs la hP hS hl
