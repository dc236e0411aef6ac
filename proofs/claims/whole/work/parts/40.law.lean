/-! THE CLAIM OUT OF ONE WALK OF THE LAW'S BODY. Your part is whole_start (and what it stands on); all else here is the same for every law, but numbers. -/
def R_law : String := "HangsTogetherLaw"
def lw_P (b : Addr) (xs : List Int32) (args : Array Value) (s : State) : Prop := args = #[.ref b] ∧ s.IntsAt b xs ∧ xs.length ≤ 320 ∧ (Jvm.Cond.and given_1 narrow_1).before args s = true
def lw_Q (_ : Array Value) (s : State) (o : Outcome) (t : State) : Prop := o = .returned (some (.int 1)) ∧ Framed s o t [] 64 6578
def lw_Z (below : List Frame) (a : Array Value) (s : State) : State → Prop := fun t => ∃ o, t.status = .running ∧ Ended t below o ∧ lw_Q a s o t
/-- the law's own end, with 1 on the stack, nothing written that was there before, its room as the claim has it -/
theorem lw_ret {p : Program} {l : Launch} {e : Env} {s : State} {m : MethodId} {below : List Frame} {meth : Method} {c : Code} {b : Nat} (hx : p.tables.exec = Jvm.exec) (hb : c.code = code) (hr : meth.sig.returnType = ret) (hlocks : meth.locks = false) {pc : Nat} {H : Heap} {ls : Array Slot} (hdg : decode code pc = .ok (.ireturn, 1)) : W p l e room_1 s m #[Value.ref b] below meth c H [] 64 6578 (lw_Z below #[Value.ref b] s) (F0 m pc ls [.int 1]) := by
  intro T hT X
  obtain ⟨fs, hret, hrun, hended, hW, hframe⟩ := X.leave (v := some (.int 1)) (hlocks := hlocks) (fun h => by rw [hr] at h; cases h)
  have hmeth' : T.vm.method? m = some meth := X.method'
  refine ⟨T.setFrames fs, ?_, .returned (some (.int 1)), hrun, hended, rfl, ⟨_, rfl⟩, hW, hframe⟩
  jvm_step X.here [X.here.top, hx, hb, hdg, hmeth', hr, ret, narrow_b1]
  (try refine ⟨rfl, ?_⟩); (try refine ⟨rfl, ?_⟩)
  first | (intro acts; rw [hret _ acts rfl rfl rfl]) | rw [hret _ _ rfl rfl rfl]
  exact Steps.refl _
/-- what holds at the law's entry: the machine, the code, the tables' words (any of lw_tbl by 'hts w (by decide +kernel)'), the script of L ints xs at the cell b, what the Statement gives of the start (any of its parts by flat_of_before) -/
def lw_At (p : Program) (s : State) (m : MethodId) (meth : Method) (c : Code) (b L : Nat) (xs : Nat → Int32) : Prop :=
  p.tables.exec = Jvm.exec ∧ c.code = code ∧ meth.sig.returnType = ret ∧ c.maxLocals = 4 ∧ s.vm.findClass R_law = some m.cls ∧ (∀ w ∈ lw_tbl, w.before #[Value.ref b] s = true) ∧ va_X b L xs s s.heap ∧ b < s.heap.size ∧ meth.locks = false ∧ (Jvm.Cond.and given_1 narrow_1).before #[Value.ref b] s = true

section
variable {K : KX} {cc : ByteArray} {own : String} {G : Option Value → Mem → Prop} {pc : Nat} {ls : List (Nat × Value)} {st : List Value} {m : Mem}
/-- the script's own cell stands for the place 64 -/
def Scr (K : KX) (L : Nat) (xs : Nat → Int32) : Prop := va_X (kad K 64) L xs (ks K) (ks K).heap ∧ kad K 64 < (ks K).heap.size ∧ ¬ kA K (kad K 64)
theorem R_sld (hC : Cx K cc own G) {L : Nat} {xs : Nat → Int32} (hs : Scr K L xs) {i p : Int32} (hin : vp_in i L) (hp : xs i.toNatClampNeg = p) (hdg : decode cc pc = .ok (.iaload, 1)) (kk : RX K (pc + 1) ls (.int p :: st) m) : RX K pc ls (.int i :: .ref 64 :: st) m := fun H locs la hP hS hl => va_sld hC.1 hC.2.1 hs.1 hs.2.1 hs.2.2 hS hin hdg (by rw [hp]; exact kk H locs la hP hS hl)
theorem R_slen (hC : Cx K cc own G) {L : Nat} {xs : Nat → Int32} (hs : Scr K L xs) (hdg : decode cc pc = .ok (.arraylength, 1)) (kk : RX K (pc + 1) ls (.int (nI L) :: st) m) : RX K pc ls (.ref 64 :: st) m := fun H locs la hP hS hl => va_slen hC.1 hC.2.1 hs.1 hs.2.1 hs.2.2 hS hdg (kk H locs la hP hS hl)
end
theorem lw_more {L i : Nat} (hL : L ≤ 320) (hi : i ≤ 330) (h : ¬ (nI L - 5 < nI i)) : i + 5 ≤ L := by
  rw [Int32.lt_iff_toInt_lt, show (5 : Int32) = nI 5 from rfl, pk_sub_toInt (by omega) (by omega), nI_toInt (by omega)] at h
  omega
theorem lw_i {L i k : Nat} (hL : L ≤ 320) (h : i + k < L) : vp_in (nI i + nI k) L := by
  rw [nI_add]
  exact vp_in_nI h (by omega)
theorem lg_same (x : Int64) : lg_cmp x x = 0 := by
  unfold lg_cmp
  rw [if_neg (by exact fun h => absurd h (by rw [gt_iff_lt, Int64.lt_iff_toInt_lt]; omega)), if_pos rfl]
