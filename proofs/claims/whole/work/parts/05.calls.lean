section
variable {K : KX} {cc : ByteArray} {own : String} {G : Option Value → Mem → Prop} {pc : Nat} {ls : List (Nat × Value)} {st : List Value} {m : Mem}
theorem R_tableIn (hC : Cx K cc own G) {dflt lo hi : Int} {offs : Array Int} {len : Nat} {x : Int32} {off : Int} {tgt : Nat} (hdg : decode cc pc = .ok (.tableswitch dflt lo hi offs, len)) (h1 : ¬ x.toInt < lo) (h2 : ¬ hi < x.toInt) (ho : offs[(x.toInt - lo).toNat]? = some off) (ht : (pc : Int) + off = (tgt : Int)) (kk : RX K tgt ls st m) : RX K pc ls (.int x :: st) m := fun H locs la hP hS hl => lv_tableIn hC.1 hC.2.1 hdg h1 h2 ho ht (kk H locs la hP hS hl)
theorem R_tableOut (hC : Cx K cc own G) {dflt lo hi : Int} {offs : Array Int} {len : Nat} {x : Int32} {tgt : Nat} (hdg : decode cc pc = .ok (.tableswitch dflt lo hi offs, len)) (h : x.toInt < lo ∨ hi < x.toInt) (ht : (pc : Int) + dflt = (tgt : Int)) (kk : RX K tgt ls st m) : RX K pc ls (.int x :: st) m := fun H locs la hP hS hl => lv_tableOut hC.1 hC.2.1 hdg h ht (kk H locs la hP hS hl)
theorem R_lookup (hC : Cx K cc own G) {dflt : Int} {ps : Array (Int × Int)} {len : Nat} {x : Int32} {off : Int} {tgt : Nat} (hdg : decode cc pc = .ok (.lookupswitch dflt ps, len)) (hp : (ps.toList.zip (ps.toList.drop 1)).all (fun (a, next) => a.1 < next.1) = true) (ho : Op.lookupswitch.offset ps.toList dflt x.toInt = off) (ht : (pc : Int) + off = (tgt : Int)) (kk : RX K tgt ls st m) : RX K pc ls (.int x :: st) m := fun H locs la hP hS hl => lv_lookup hC.1 hC.2.1 hdg hp ho ht (kk H locs la hP hS hl)
/-- what a switch leaves over -/
theorem tab_out {x : Int32} {lo hi : Int} (h : ∀ k : Nat, (k : Int) ≤ hi - lo → ¬ x.toInt = lo + k) : x.toInt < lo ∨ hi < x.toInt := by
  by_cases h1 : x.toInt < lo
  · exact Or.inl h1
  · by_cases h2 : hi < x.toInt
    · exact Or.inr h2
    · exfalso
      refine h (x.toInt - lo).toNat (by omega) (by omega)
theorem i32_ne {x y : Int32} (h : ¬ x = y) {n : Int} (hy : y.toInt = n) : ¬ x.toInt = n := fun e => h (Int32.toInt_inj.mp (e.trans hy.symm))
/-! ===== a method's contract: from the memory m with these arguments it returns r, and the memory is m1 ===== -/
def PcX (D : va_G) (cI cJ : ClassId) (a : Nat → Nat) (n : Nat) (av : List Value) (m : Mem) (sz : Nat) : Array Value → State → Prop := va_Pc (av.map (gv a)) (fun U => U.heap.size = sz ∧ va_P D vwCl (cellsL cI cJ a n m) U.heap ∧ va_K D vwCl [(cI, .int), (cJ, .long)] U ∧ va_D (fun _ => True) (cellsL cI cJ a n m) ∧ ∀ w ∈ nsW, va_Nw w U)
def QcX (D : va_G) (cI cJ : ClassId) (a : Nat → Nat) (n : Nat) (r : Option Value) (m1 : Mem) (A : Nat → Prop) : Array Value → State → Outcome → State → Prop := fun _ s0 oc t => oc = .returned r ∧ va_P D vwCl (cellsL cI cJ a n m1) t.heap ∧ va_F A s0 t
def MX (y : MethodName) (cc : ByteArray) (nL : Nat) (ret : Option FieldType) (rm : Room) (n : Nat) (av : List Value) (m : Mem) (r : Option Value) (m1 : Mem) : Prop :=
  ∀ (l : Launch) (D : va_G) (cI cJ : ClassId) (a : Nat → Nat) (sz : Nat), Met l y (wsM y cc nL ret) rm (PcX D cI cJ a n av m sz) (QcX D cI cJ a n r m1 (va_A (cellsL cI cJ a n m) sz)) 0 0 (va_A (cellsL cI cJ a n m) sz)
/-- the answer is of the method's type -/
def retOK (ret : Option FieldType) (r : Option Value) : Prop := (ret = none ∧ r = none) ∨ (ret = some .int ∧ ∃ v, r = some (.int v)) ∨ (ret = some .long ∧ ∃ v, r = some (.long v)) ∨ (ret = some .boolean ∧ ∃ b, r = some (.int (b2i b)))
theorem cellsL_apart {A : Nat → Prop} {cI cJ : ClassId} {a : Nat → Nat} {n : Nat} {m m' : Mem} (h : va_D A (cellsL cI cJ a n m)) : va_D A (cellsL cI cJ a n m') := by
  have key : ∀ (k : Nat) (q : Nat × va_E), (cellsL cI cJ a n m')[k]? = some q → k < n ∧ q.1 = a k := by
    intro k q hq
    have hk : k < n := by
      have := (List.getElem?_eq_some_iff.mp hq).1
      simpa [cellsL] using this
    rw [cellsL_get hk] at hq
    exact ⟨hk, by rw [← Option.some.inj hq]⟩
  refine ⟨fun i j p q hi hj e => ?_, fun k q hk => ?_⟩
  · obtain ⟨h1, h2⟩ := key i p hi
    obtain ⟨h3, h4⟩ := key j q hj
    exact h.1 i j _ _ (cellsL_get h1) (cellsL_get h3) (h2.symm.trans (e.trans h4))
  · obtain ⟨h1, h2⟩ := key k q hk
    rw [h2]
    exact h.2 k _ (cellsL_get h1)
theorem gl_args (a : Nat → Nat) : ∀ (i : Nat) (vs : List Value), lv_args i (vs.map (gv a)) = gl a (lv_args i vs)
  | _, [] => rfl
  | i, v :: vs => by
    simp only [List.map_cons, lv_args, gl_args a, gv_cat]
    rfl
theorem sl_len (a : Nat → Nat) : ∀ (vs : List Value), (lg_sl (vs.map (gv a))).length = (lg_sl vs).length
  | [] => rfl
  | v :: vs => by
    have := sl_len a vs
    unfold lg_sl at this ⊢
    simp only [List.map_cons, List.flatMap_cons, List.length_append, this, gv_cat]
    split <;> rfl
def GX (r0 : Option Value) (m0 : Mem) : Option Value → Mem → Prop := fun r m => r = r0 ∧ m = m0
set_option maxHeartbeats 4000000 in
theorem MX_of {y : MethodName} {cc : ByteArray} {nL : Nat} {ret : Option FieldType} {rm : Room} {n : Nat} {av : List Value} {m : Mem} {r : Option Value} {m1 : Mem} (hy : plainName y.cls = true) (hn : (lg_sl av).length ≤ nL) (hr : retOK ret r)
    (walk : ∀ K : KX, Cx K cc y.cls (GX r m1) → kn K = n → kL K = nL → kR K = rm → RX K 0 (lv_args 0 av) [] m) : MX y cc nL ret rm n av m r m1 := by
  intro l D cI cJ a sz
  refine Met.ofW (cc := cc) (maxL := nL) (ret := ret) hy rfl ?_
  intro p e s mid args below meth c s₁ B hml hv
  obtain ⟨rfl, hsz, hP, hK, hD0, hN⟩ := hv
  have hx := B.exec
  have hb := B.bytes
  have hrt := B.returns
  have hts := atoms_spec (ws := wsM y cc nL ret) B.pre
  have hown : s.vm.findClass y.cls = some mid.cls := findClass_of_methodNamed B.named
  have hlocks := B.notSynchronized
  subst hsz
  have hD := hD0.self (sz := s.heap.size)
  let K : KX := (p, l, e, rm, s, mid, (av.map (gv a)).toArray, below, meth, c, nL, D, cI, cJ, a, n, va_A (cellsL cI cJ a n m) s.heap.size, MQ below (QcX D cI cJ a n r m1 (va_A (cellsL cI cJ a n m) s.heap.size)) (av.map (gv a)).toArray s 0 0 (va_A (cellsL cI cJ a n m) s.heap.size), 0, 0)
  have hC : Cx K cc y.cls (GX r m1) := by
    refine ⟨hx, hb, hml, hown, fun w hw => hts w (List.mem_cons_of_mem _ hw), hN, hK, fun m' => cellsL_apart hD, fun q h => Or.inr h, ⟨Nat.zero_le _, Nat.zero_le _⟩, ?_⟩
    intro pc la H locs m2 r2 hP2 hS2 hG hdg
    obtain ⟨rfl, rfl⟩ := hG
    have hq : ∀ t : State, t.heap = H → s.WarmedH t.vm → QcX D cI cJ a n r2 m2 (va_A (cellsL cI cJ a n m) s.heap.size) (av.map (gv a)).toArray s (.returned r2) t := fun t ht _ => ⟨rfl, by rw [ht]; exact hP2, hS2.F ht⟩
    rcases hr with ⟨h1, rfl⟩ | ⟨h1, v, rfl⟩ | ⟨h1, v, rfl⟩ | ⟨h1, b, rfl⟩
    · exact W.vret hx hb (hrt.trans h1) hq hS2.2.2 hdg
    · exact W.iret hx hb (hrt.trans h1) hq hS2.2.2 hdg
    · exact W.lret hx hb (hrt.trans h1) hq hS2.2.2 hdg
    · exact W.zret hx hb (hrt.trans h1) (by cases b <;> rfl) hq hS2.2.2 hdg
  have hw := walk K hC rfl rfl rfl
  have hl := lv_entry (av.map (gv a)) (n := nL) (by rw [sl_len]; exact hn)
  rw [lg_entry_eq]
  rw [gl_args] at hl
  exact hw s.heap [] _ hP va_S.rf hl
set_option maxHeartbeats 4000000 in
theorem RW_call (hC : Cx K cc own G) {H : Heap} {locs : List Loc} {la : Array Slot} {st0 rest : List Value} {r : Option Value} {m1 : Mem} {arr : Array Value} (hS : va_S (kA K) (ks K).heap H locs)
    (hr : va_Run (kp K) (kl K) (ke K) (kR K) (ks K) (km K) (ka K) (kb K) (kM K) (kc K) H locs (kz K) (kw K) 0 0 (F0 (km K) pc la st0) rest (QcX (kD K) (kI K) (kJ K) (kad K) (kn K) r m1 (va_A (cels K m) H.size) arr) (va_A (cels K m) H.size))
    (kk : ∀ (H1 : Heap) (locs1 : List Loc), va_P (kD K) vwCl (cels K m1) H1 → va_S (kA K) (ks K).heap H1 locs1 → RW K H1 locs1 (F0 (km K) (pc + 3) la (r.toList ++ rest))) : RW K H locs (F0 (km K) pc la st0) := by
  have hf : ∀ q, va_A (cels K m) H.size q → kA K q := by
    intro q h
    rcases h with ⟨k, e, h⟩ | h
    · exact (hC.2.2.2.2.2.2.2.1 m).2 k _ h
    · exact hC.2.2.2.2.2.2.2.2.1 q (Nat.le_trans hS.1 h)
  intro T hT X
  obtain ⟨v, st₀, t, T', L, h0, X', hL, e1, e2, ⟨hv, hp, hz, hk⟩, st⟩ := hr T hT X
  cases hv
  rw [h0] at hz hk
  obtain ⟨t2, a1, b1⟩ := kk T'.heap (locs ++ L) (by rw [e1]; exact hp)
    ⟨Nat.le_trans hS.1 (by rw [e1]; exact hz), fun q h1 h2 => by rw [e1, hk q (Nat.lt_of_lt_of_le h1 hS.1) (fun z => h2 (hf q z))]; exact hS.2.1 q h1 h2, fun q hq => by
      rcases List.mem_append.mp hq with h | h
      · exact hS.2.2 q h
      · exact hf _ (hL q h)⟩ T' rfl X'
  exact ⟨t2, st t2 a1, b1⟩
/-- a method that may be called: by an object of class C, or statically -/
def MFv (y : MethodName) (cc : ByteArray) (nL : Nat) (ret : Option FieldType) (C : String) (np : Nat) : Prop := Cond.instanceMethod y ∈ gdW ∧ Cond.selects C y y ∈ gdW ∧ Cond.initialized C ∈ gdW ∧ Cond.code y cc nL ret ∈ gdW ∧ (y.cls = C ∧ y.cls ≠ "java/lang/invoke/MethodHandle" ∧ y.cls ≠ "java/lang/invoke/VarHandle" ∧ (parseMethodDescriptor y.desc).map (fun d => d.parameters.length) = some np)
def MFs (y : MethodName) (cc : ByteArray) (nL : Nat) (ret : Option FieldType) (np : Nat) : Prop := Cond.static y ∈ gdW ∧ Cond.initialized y.cls ∈ gdW ∧ Cond.code y cc nL ret ∈ gdW ∧ (y.cls ≠ "java/lang/invoke/MethodHandle" ∧ y.cls ≠ "java/lang/invoke/VarHandle" ∧ (parseMethodDescriptor y.desc).map (fun d => d.parameters.length) = some np)
def rmOK (rm R : Room) (maxL : Nat) : Bool := Nat.beq rm.cells 0 && (Nat.beq rm.slots 0 && (Nat.ble (rm.frames + 1) R.frames && Nat.ble (8 + (maxL + 11) + rm.locals) R.locals))
theorem rmOK_1 {rm R : Room} {maxL : Nat} (h : rmOK rm R maxL = true) : rm.cells = 0 ∧ rm.slots = 0 ∧ rm.frames + 1 ≤ R.frames ∧ 8 + (maxL + 11) + rm.locals ≤ R.locals := by
  simp only [rmOK, Bool.and_eq_true] at h
  exact ⟨Nat.eq_of_beq_eq_true h.1, Nat.eq_of_beq_eq_true h.2.1, Nat.le_of_ble_eq_true h.2.2.1, Nat.le_of_ble_eq_true h.2.2.2⟩
theorem pcx_blind {D : va_G} {cI cJ : ClassId} {a : Nat → Nat} {n : Nat} {av : List Value} {m : Mem} {sz : Nat} : FrameBlind (PcX D cI cJ a n av m sz) := fun A U g mk q => by
  obtain ⟨q0, q1, qP, qK, qD, qN⟩ := q
  exact ⟨q0, q1, qP, va_K.moved (u := U) (U := U.calling g mk A) (Vm.Alike.refl U.vm) qK, qD, fun w hw => va_Nw.same (by have h2 : isNest w = true := (List.mem_filter.mp hw).2; cases w <;> first | rfl | (simp [isNest] at h2)) (rfl : U.vm = (U.calling g mk A).vm) (qN w hw)⟩
theorem cat_sum (a : Nat → Nat) (st : List Value) : ((st.map (gv a)).map fun v => v.category).sum = (st.map fun v => v.category).sum := by
  rw [List.map_map]
  congr 1
  apply List.map_congr_left
  intro v _
  exact gv_cat a v
set_option maxHeartbeats 4000000 in
theorem pcx_pre (hC : Cx K cc own G) {H : Heap} {locs : List Loc} {av : List Value} (hP : va_P (kD K) vwCl (cels K m) H) : ∀ U : State, U.heap = H → (ks K).WarmedH U.vm → PcX (kD K) (kI K) (kJ K) (kad K) (kn K) av m H.size (av.map (gv (kad K))).toArray U := fun U hU hW => ⟨rfl, by rw [hU], by rw [hU]; exact hP, va_K.moved hW.alike hC.2.2.2.2.2.2.1, (hC.2.2.2.2.2.2.2.1 m).weaken (fun _ _ _ _ => trivial), nsW_warm hW hC.2.2.2.2.2.1⟩
set_option maxHeartbeats 4000000 in
theorem R_callV (hC : Cx K cc own G) {y : MethodName} {bytes : ByteArray} {maxL : Nat} {ret : Option FieldType} {rm R : Room} {av rest : List Value} {r : Option Value} {m1 : Mem} {C : String} {T : u_T} {N ci index np : Nat} {fs : List (Option Nat)} (hR : kR K = R) (j : Nat) (hj : j < kn K) (hy : lay j = .inr (ci, fs)) (hc : vwCl[ci]? = some (C, T, N)) (hF : MFv y bytes maxL ret C np) (hl1 : Cond.methodLink own index y ∈ gdW) (hM : MX y bytes maxL ret rm (kn K) (.ref j :: av) m r m1) (hrm : rmOK rm R maxL = true) (hlen : av.length = np) (hst : st = av.reverse ++ .ref j :: rest) (hcat : (rest.map fun v => v.category).sum ≤ 8) (hdg : decode cc pc = .ok (.invokevirtual index, 3)) (hrr : r.toList.map (gv (kad K)) = r.toList) (kk : RX K (pc + 3) ls (r.toList ++ rest) m1) : RX K pc ls st m := by
  intro H locs la hP hS hl
  obtain ⟨h1, h2, h3, h4⟩ := rmOK_1 hrm
  obtain ⟨f1, f2, f3, f4, f5⟩ := hF
  have hts := hC.2.2.2.2.1
  have hG : GoodIn gdW (wsV own index C y (wsM y bytes maxL ret)) := by
    intro w hw
    rcases List.mem_append.mp hw with h | h
    · have h9 : w ∈ gdW := by
        simp only [List.mem_cons, List.mem_nil_iff, or_false] at h
        rcases h with rfl | rfl | rfl | rfl
        · exact hl1
        · exact f1
        · exact f2
        · exact f3
      exact ⟨h9, good_of_word (List.mem_filter.mp h9).2⟩
    · exact wsM_good f4 w h
  have cw := cwV (R := kR K) (s := ks K) (args := ka K) (mc := 0) (ms := 0) (rm := rm) np hts hG rfl h1 h2 f5 (by rw [hR]; exact ⟨h3, h4⟩)
  refine RW_call hC (m := m) (m1 := m1) (r := r) (arr := (Value.ref (kad K j) :: av.map (gv (kad K))).toArray) (rest := rest.map (gv (kad K))) hS ?_ (fun H1 locs1 hP1 hS1 => ?_)
  · refine va_runV (nL := kL K) (cc := cc) (Ts := gdW) (own := own) (As := av.map (gv (kad K))) (b := kad K j) ⟨hC.1, hC.2.1, hC.2.2.1, hC.2.2.2.1, hts⟩ (hM (kl K) (kD K) (kI K) (kJ K) (kad K) H.size) cw ⟨pcx_blind, ?_, pcx_pre hC (locs := locs) (av := .ref j :: av) hP⟩ rfl (by rw [List.length_map]; exact hlen) hl.1 ?_ ?_ hdg hC.2.2.2.2.2.2.2.2.2.1
    · exact va_recv hC.2.2.2.2.2.2.1 hP hc (q0 := j) (fs := cfv (kad K) (m.1 j) 0 fs) (by unfold cels; rw [cellsL_get hj, hy]; rfl)
    · show st.map (gv (kad K)) = _
      rw [hst, List.map_append, List.map_reverse]
      rfl
    · exact lv_room (by rw [cat_sum]; exact hcat)
  · have := kk H1 locs1 la hP1 hS1 hl
    rw [List.map_append, hrr] at this
    exact this
set_option maxHeartbeats 4000000 in
theorem R_callVN (hC : Cx K cc own G) {y : MethodName} {bytes : ByteArray} {maxL : Nat} {ret : Option FieldType} {rm R : Room} {av rest : List Value} {r : Option Value} {m1 : Mem} {C host : String} {T : u_T} {N ci index np : Nat} {fs : List (Option Nat)} (hR : kR K = R) (j : Nat) (hj : j < kn K) (hy : lay j = .inr (ci, fs)) (hc : vwCl[ci]? = some (C, T, N)) (hF : MFv y bytes maxL ret C np) (hl1 : Cond.methodLinkNest own index y host ∈ nsW) (hM : MX y bytes maxL ret rm (kn K) (.ref j :: av) m r m1) (hrm : rmOK rm R maxL = true) (hlen : av.length = np) (hst : st = av.reverse ++ .ref j :: rest) (hcat : (rest.map fun v => v.category).sum ≤ 8) (hdg : decode cc pc = .ok (.invokevirtual index, 3)) (hrr : r.toList.map (gv (kad K)) = r.toList) (kk : RX K (pc + 3) ls (r.toList ++ rest) m1) : RX K pc ls st m := by
  intro H locs la hP hS hl
  obtain ⟨h1, h2, h3, h4⟩ := rmOK_1 hrm
  obtain ⟨f1, f2, f3, f4, f5⟩ := hF
  have hts := hC.2.2.2.2.1
  have cw := va_cnB (R := kR K) (s := ks K) (args := ka K) (mc := 0) (ms := 0) (rm := rm) np hts (wsM_good f4) rfl h1 h2 (hC.2.2.2.2.2.1 _ hl1) (hts _ (f5.1.symm ▸ f3)) f5.2 (by rw [hR]; exact ⟨h3, h4⟩)
  refine RW_call hC (m := m) (m1 := m1) (r := r) (arr := (Value.ref (kad K j) :: av.map (gv (kad K))).toArray) (rest := rest.map (gv (kad K))) hS ?_ (fun H1 locs1 hP1 hS1 => ?_)
  · refine va_runVN (C := C) (nL := kL K) (cc := cc) (Ts := gdW) (own := own) (As := av.map (gv (kad K))) (b := kad K j) ⟨hC.1, hC.2.1, hC.2.2.1, hC.2.2.2.1, hts⟩ (hM (kl K) (kD K) (kI K) (kJ K) (kad K) H.size) ⟨cw, hts _ f1, hts _ f2⟩ ⟨pcx_blind, ?_, pcx_pre hC (locs := locs) (av := .ref j :: av) hP⟩ rfl (by rw [List.length_map]; exact hlen) hl.1 ?_ ?_ hdg hC.2.2.2.2.2.2.2.2.2.1
    · exact va_recv hC.2.2.2.2.2.2.1 hP hc (q0 := j) (fs := cfv (kad K) (m.1 j) 0 fs) (by unfold cels; rw [cellsL_get hj, hy]; rfl)
    · show st.map (gv (kad K)) = _
      rw [hst, List.map_append, List.map_reverse]
      rfl
    · exact lv_room (by rw [cat_sum]; exact hcat)
  · have := kk H1 locs1 la hP1 hS1 hl
    rw [List.map_append, hrr] at this
    exact this
set_option maxHeartbeats 4000000 in
theorem R_callS (hC : Cx K cc own G) {y : MethodName} {bytes : ByteArray} {maxL : Nat} {ret : Option FieldType} {rm R : Room} {av rest : List Value} {r : Option Value} {m1 : Mem} {index np : Nat} (hR : kR K = R) (hF : MFs y bytes maxL ret np) (hl1 : Cond.methodLink own index y ∈ gdW) (hM : MX y bytes maxL ret rm (kn K) av m r m1) (hrm : rmOK rm R maxL = true) (hlen : av.length = np) (hst : st = av.reverse ++ rest) (hcat : (rest.map fun v => v.category).sum ≤ 8) (hdg : decode cc pc = .ok (.invokestatic index, 3)) (hrr : r.toList.map (gv (kad K)) = r.toList) (kk : RX K (pc + 3) ls (r.toList ++ rest) m1) : RX K pc ls st m := by
  intro H locs la hP hS hl
  obtain ⟨h1, h2, h3, h4⟩ := rmOK_1 hrm
  obtain ⟨f1, f3, f4, f5⟩ := hF
  have hts := hC.2.2.2.2.1
  have hG : GoodIn gdW (va_wsS own index y (wsM y bytes maxL ret)) := by
    intro w hw
    rcases List.mem_append.mp hw with h | h
    · have h9 : w ∈ gdW := by
        simp only [List.mem_cons, List.mem_nil_iff, or_false] at h
        rcases h with rfl | rfl | rfl
        · exact hl1
        · exact f1
        · exact f3
      exact ⟨h9, good_of_word (List.mem_filter.mp h9).2⟩
    · exact wsM_good f4 w h
  have cw := va_cwS (R := kR K) (s := ks K) (args := ka K) (mc := 0) (ms := 0) (rm := rm) np hts hG rfl h1 h2 f5 (by rw [hR]; exact ⟨h3, h4⟩)
  refine RW_call hC (m := m) (m1 := m1) (r := r) (arr := (av.map (gv (kad K))).toArray) (rest := rest.map (gv (kad K))) hS ?_ (fun H1 locs1 hP1 hS1 => ?_)
  · refine va_runS (nL := kL K) (cc := cc) (Ts := gdW) (own := own) (As := av.map (gv (kad K))) ⟨hC.1, hC.2.1, hC.2.2.1, hC.2.2.2.1, hts⟩ (hM (kl K) (kD K) (kI K) (kJ K) (kad K) H.size) cw ⟨pcx_blind, pcx_pre hC (locs := locs) (av := av) hP⟩ rfl (by rw [List.length_map]; exact hlen) hl.1 ?_ ?_ hdg hC.2.2.2.2.2.2.2.2.2.1
    · show st.map (gv (kad K)) = _
      rw [hst, List.map_append, List.map_reverse]
    · exact lv_room (by rw [cat_sum]; exact hcat)
  · have := kk H1 locs1 la hP1 hS1 hl
    rw [List.map_append, hrr] at this
    exact this
set_option maxHeartbeats 4000000 in
theorem R_callSN (hC : Cx K cc own G) {y : MethodName} {bytes : ByteArray} {maxL : Nat} {ret : Option FieldType} {rm R : Room} {av rest : List Value} {r : Option Value} {m1 : Mem} {host : String} {index np : Nat} (hR : kR K = R) (hF : MFs y bytes maxL ret np) (hl1 : Cond.methodLinkNest own index y host ∈ nsW) (hM : MX y bytes maxL ret rm (kn K) av m r m1) (hrm : rmOK rm R maxL = true) (hlen : av.length = np) (hst : st = av.reverse ++ rest) (hcat : (rest.map fun v => v.category).sum ≤ 8) (hdg : decode cc pc = .ok (.invokestatic index, 3)) (hrr : r.toList.map (gv (kad K)) = r.toList) (kk : RX K (pc + 3) ls (r.toList ++ rest) m1) : RX K pc ls st m := by
  intro H locs la hP hS hl
  obtain ⟨h1, h2, h3, h4⟩ := rmOK_1 hrm
  obtain ⟨f1, f3, f4, f5⟩ := hF
  have hts := hC.2.2.2.2.1
  have cw := va_cnB (R := kR K) (s := ks K) (args := ka K) (mc := 0) (ms := 0) (rm := rm) np hts (wsM_good f4) rfl h1 h2 (hC.2.2.2.2.2.1 _ hl1) (hts _ f3) f5 (by rw [hR]; exact ⟨h3, h4⟩)
  refine RW_call hC (m := m) (m1 := m1) (r := r) (arr := (av.map (gv (kad K))).toArray) (rest := rest.map (gv (kad K))) hS ?_ (fun H1 locs1 hP1 hS1 => ?_)
  · refine va_runSN (nL := kL K) (cc := cc) (Ts := gdW) (own := own) (As := av.map (gv (kad K))) ⟨hC.1, hC.2.1, hC.2.2.1, hC.2.2.2.1, hts⟩ (hM (kl K) (kD K) (kI K) (kJ K) (kad K) H.size) ⟨cw, hts _ f1, trivial⟩ ⟨pcx_blind, pcx_pre hC (locs := locs) (av := av) hP⟩ rfl (by rw [List.length_map]; exact hlen) hl.1 ?_ ?_ hdg hC.2.2.2.2.2.2.2.2.2.1
    · show st.map (gv (kad K)) = _
      rw [hst, List.map_append, List.map_reverse]
    · exact lv_room (by rw [cat_sum]; exact hcat)
  · have := kk H1 locs1 la hP1 hS1 hl
    rw [List.map_append, hrr] at this
    exact this
theorem lk_out {d v : Int} : ∀ (ps : List (Int × Int)), (∀ p ∈ ps, ¬ v = p.1) → Op.lookupswitch.offset ps d v = d
  | [], _ => rfl
  | (a, o) :: r, h => by
    have h1 := h (a, o) List.mem_cons_self
    simp only [Op.lookupswitch.offset]
    rw [if_neg (fun e => h1 e.symm)]
    exact lk_out r (fun p hp => h p (List.mem_cons_of_mem _ hp))
/-- cells that the class has, with its object made; that both have -/
theorem jx {n N j : Nat} (h : N ≤ n) (hb : Nat.blt j N = true) : j < n := Nat.lt_of_lt_of_le (Nat.le_of_ble_eq_true hb) h
/-- the three villages -/
def isV (v : Nat) : Prop := v = 1 ∨ v = 8 ∨ v = 15
theorem layV_of {v : Nat} (h : isV v) : lay v = layV v := by rcases h with rfl | rfl | rfl <;> rfl
theorem layVa {v k : Nat} (h : isV v) (h1 : 1 ≤ k) (hk : k ≤ 6) : lay (v + k) = .inl (false, 10) := by
  have : k = 1 ∨ k = 2 ∨ k = 3 ∨ k = 4 ∨ k = 5 ∨ k = 6 := by omega
  rcases h with rfl | rfl | rfl <;> rcases this with rfl | rfl | rfl | rfl | rfl | rfl <;> rfl
theorem jv {n v k : Nat} (h : 43 ≤ n) (hv : isV v) (hk : Nat.ble k 6 = true) : v + k < n := by
  have := Nat.le_of_ble_eq_true hk
  rcases hv with rfl | rfl | rfl <;> omega
/-- loops -/
def iter {σ ρ : Type} : Nat → (σ → Option (σ ⊕ ρ)) → σ → Option ρ
  | 0, _, _ => none
  | n + 1, f, s => match f s with
    | none => none
    | some (.inl s') => iter n f s'
    | some (.inr r) => some r
def chk {α : Type} (c : Prop) [Decidable c] (k : Option α) : Option α := if c then k else none
theorem chk_some {α : Type} {c : Prop} [Decidable c] {k : Option α} {r : α} (h : chk c k = some r) : c ∧ k = some r := by
  unfold chk at h
  split at h
  · exact ⟨by assumption, h⟩
  · cases h
theorem chk_pos {α : Type} {c : Prop} [Decidable c] {k : Option α} (h : c) : chk c k = k := if_pos h
abbrev inb (i : Int32) (n : Nat) : Prop := 0 ≤ i.toInt ∧ i.toInt < n
theorem inb_vp {i : Int32} {n : Nat} (h : inb i n) : vp_in i n := vp_in_iff.mpr h
theorem bind_some {α β : Type} {x : Option α} {f : α → Option β} {r : β} (h : x.bind f = some r) : ∃ y, x = some y ∧ f y = some r := by
  cases x with
  | none => cases h
  | some y => exact ⟨y, rfl, h⟩
theorem ite_some {α : Type} {c : Prop} [Decidable c] {x y : Option α} {r : α} (h : (if c then x else y) = some r) : (c ∧ x = some r) ∨ (¬ c ∧ y = some r) := by
  split at h
  · exact Or.inl ⟨by assumption, h⟩
  · exact Or.inr ⟨by assumption, h⟩
end
