/-! the law's own body: its script, its calls, its end -/
def R_law : String := "WatermarkJoinLaw"
def lw_P (b : Addr) (xs : List Int32) (args : Array Value) (s : State) : Prop := args = #[.ref b] ∧ s.IntsAt b xs ∧ xs.length ≤ 6 ∧ (Jvm.Cond.and given_1 narrow_1).before args s = true
def lw_Q (_ : Array Value) (s : State) (o : Outcome) (t : State) : Prop := o = .returned (some (.int 1)) ∧ Framed s o t [] 600002 7302232
def lw_Z (below : List Frame) (a : Array Value) (s : State) : State → Prop := fun t => ∃ o, t.status = .running ∧ Ended t below o ∧ lw_Q a s o t
/-- the law's own end, with 1 on the stack, nothing written that was there before, its room as the claim has it -/
theorem lw_ret {p : Program} {l : Launch} {e : Env} {s : State} {m : MethodId} {below : List Frame} {meth : Method} {c : Code} {b : Nat} (hx : p.tables.exec = Jvm.exec) (hb : c.code = code) (hr : meth.sig.returnType = ret) (hlocks : meth.locks = false) {pc : Nat} {H : Heap} {ls : Array Slot} (hdg : decode code pc = .ok (.ireturn, 1)) : W p l e room_1 s m #[Value.ref b] below meth c H [] 600002 7302232 (lw_Z below #[Value.ref b] s) (F0 m pc ls [.int 1]) := by
  intro T hT X
  obtain ⟨fs, hret, hrun, hended, hW, hframe⟩ := X.leave (v := some (.int 1)) (hlocks := hlocks) (fun h => by rw [hr] at h; cases h)
  have hmeth' : T.vm.method? m = some meth := X.method'
  refine ⟨T.setFrames fs, ?_, .returned (some (.int 1)), hrun, hended, rfl, ⟨_, rfl⟩, hW, hframe⟩
  jvm_step X.here [X.here.top, hx, hb, hdg, hmeth', hr, ret, narrow_b1]
  (try refine ⟨rfl, ?_⟩); (try refine ⟨rfl, ?_⟩)
  first | (intro acts; rw [hret _ acts rfl rfl rfl]) | rw [hret _ _ rfl rfl rfl]
  exact Steps.refl _
/-- what holds at the law's entry: the machine, the code, the tables' words (any of lw_tbl by 'hts w (by decide +kernel)'), the script of L ints xs at the cell b, what the Statement gives of the start (any of its parts by flat_of_before) -/
def lw_At (p : Program) (s : State) (m : MethodId) (meth : Method) (c : Code) (b L : Nat) (xs : Nat → Int32) : Prop :=
  p.tables.exec = Jvm.exec ∧ c.code = code ∧ meth.sig.returnType = ret ∧ c.maxLocals = 8 ∧ s.vm.findClass R_law = some m.cls ∧ (∀ w ∈ lw_tbl, w.before #[Value.ref b] s = true) ∧ va_X b L xs s s.heap ∧ b < s.heap.size ∧ meth.locks = false ∧ (Jvm.Cond.and given_1 narrow_1).before #[Value.ref b] s = true
def Scr (X : Cx) (b L : Nat) (xs : Nat → Int32) : Prop := match X with
  | (p, l, e, R, s, m, args, below, meth, c, Q, D, t, A, nL) => va_X b L xs s s.heap ∧ b < s.heap.size ∧ ¬ A b
def RqL (X : Cx) (b : Nat) (K : Int32 → Mm → Prop) : Prop := match X with
  | (p, l, e, R, s, m, args, below, meth, c, Q, D, t, A, nL) => meth.sig.returnType = ret ∧ Q = lw_Z below #[Value.ref b] s ∧ args = #[Value.ref b] ∧ (∀ q, A q → s.heap.size ≤ q) ∧ (∀ v M, K v M → v = 1) ∧ l.stackTraces = false ∧ Xst A s s.heap ∧ va_Nc "java/lang/IndexOutOfBoundsException" "java/lang/IllegalStateException" s
section ZL
variable {X : Cx} {cc : ByteArray} {own : String} {rm : Room} {M : Mm} {ce sl pc : Nat} {lv : List (Nat × Value)} {rest : List Value}
theorem z_sld (hX : Ok X cc own rm) {b L : Nat} {xs : Nat → Int32} (hSc : Scr X b L xs) {i : Int32} (hdg : decode cc pc = .ok (.iaload, 1)) (hin : vp_in i L) (k : Z X M ce sl (pc + 1) lv (.int (xs i.toNatClampNeg) :: rest)) : Z X M ce sl pc lv (.int i :: va_rf (some b) :: rest) := by
  obtain ⟨p, l, e, R, s, m, args, below, meth, c, Q, D, t, A, nL⟩ := X
  obtain ⟨hx, hb, hml, hown, hts, hA, hK, hlk, hRm, hNs⟩ := hX
  obtain ⟨h1, h2, h3⟩ := hSc
  intro L' H locs ls hl hW
  exact va_sld hx hb h1 h2 h3 hW.2.2.1 hin hdg (k L' H locs ls hl hW)
theorem z_slen (hX : Ok X cc own rm) {b L : Nat} {xs : Nat → Int32} (hSc : Scr X b L xs) (hdg : decode cc pc = .ok (.arraylength, 1)) (k : Z X M ce sl (pc + 1) lv (.int (nI L) :: rest)) : Z X M ce sl pc lv (va_rf (some b) :: rest) := by
  obtain ⟨p, l, e, R, s, m, args, below, meth, c, Q, D, t, A, nL⟩ := X
  obtain ⟨hx, hb, hml, hown, hts, hA, hK, hlk, hRm, hNs⟩ := hX
  obtain ⟨h1, h2, h3⟩ := hSc
  intro L' H locs ls hl hW
  exact va_slen hx hb h1 h2 h3 hW.2.2.1 hdg (k L' H locs ls hl hW)
theorem z_lwret (hX : Ok X code own room_1) {b : Nat} {K : Int32 → Mm → Prop} (hQ : RqL X b K) {v : Int32} (hdg : decode code pc = .ok (.ireturn, 1)) (h : K v M) : Z X M 600002 7302232 pc lv [.int v] := by
  obtain ⟨p, l, e, R, s, m, args, below, meth, c, Q, D, t, A, nL⟩ := X
  obtain ⟨hx, hb, hml, hown, hts, hA, hK, hlk, hRm, hNs⟩ := hX
  obtain ⟨hr, rfl, rfl, hAq, hv, -⟩ := hQ
  intro L' H locs ls hl hW
  have hv1 := hv v M h
  subst hv1
  subst hRm
  refine va_forget (fun q hq => hAq _ (hW.2.2.1.2.2 q hq)) ?_
  exact lw_ret hx hb hr hlk hdg
def SWH (own : String) (idx : Nat) (y : MethodName) (bc : ByteArray) (mxl : Nat) (hh : List (Nat × Nat × Nat × Nat)) (n : Nat) : Prop := (Cond.methodLink own idx y ∈ wjU ∧ Cond.static y ∈ wjU ∧ Cond.initialized y.cls ∈ wjU ∧ Cond.codeWith y bc mxl (some .int) hh ∈ wjU) ∧ y.cls ≠ "java/lang/invoke/MethodHandle" ∧ y.cls ≠ "java/lang/invoke/VarHandle" ∧ (parseMethodDescriptor y.desc).map (fun d => d.parameters.length) = some n
theorem zw_callSI (hX : Ok X cc own rm) {b : Nat} {K0 : Int32 → Mm → Prop} (hQ : RqL X b K0) {K : Int32 → Mm → Prop} {y : MethodName} {bc : ByteArray} {mxl idx n : Nat} {hh : List (Nat × Nat × Nat × Nat)} {rmc : Room} {As : List Value} {st : List Value} (hM : CwI y bc mxl hh rmc As M K) (hw : SWH own idx y bc mxl hh n) (hlen : As.length = n) (hst : st = As.reverse ++ rest) (hrm : RoomC rm rmc mxl ce sl) (hwd : (rest.map fun v => v.category).sum ≤ 8) (hdg : decode cc pc = .ok (.invokestatic idx, 3)) (k : ∀ r M1, K r M1 → Z X M1 (ce + rmc.cells) (sl + rmc.slots) (pc + 3) lv (.int r :: rest)) : Z X M ce sl pc lv st := by
  obtain ⟨p, l, e, R, s, m, args, below, meth, c, Q, D, t, A, nL⟩ := X
  obtain ⟨hx, hb, hml, hown, hts, hA, hK, hlk, hRm, hNs⟩ := hX
  obtain ⟨-, -, -, -, -, hlst, hXs, hNc⟩ := hQ
  intro L H locs ls hl hW
  subst hRm
  have hF := freeM hW hA
  refine va_calli (vx_runSW (As := As) (rest := rest) ⟨hx, hb, hml, hown, hts⟩ (hM l D t L H.size hlst) (vx_cwSW n hts (fun w h => by
    unfold va_wsS at h
    rcases List.mem_append.mp h with h | h
    · simp only [List.mem_cons, List.not_mem_nil, or_false] at h
      rcases h with rfl | rfl | rfl
      · exact goodU hw.1.1
      · exact goodU hw.1.2.1
      · exact goodU hw.1.2.2.1
    · rcases List.mem_cons.mp h with rfl | h
      · exact goodU hw.1.2.2.2
      · exact goodU h) rfl rfl rfl hw.2 hrm.1) ⟨fun a U g mk q => by
        obtain ⟨q0, q1, h1⟩ := q
        have e9 := (preX (av := As) hW hK hNs hA hXs).1 a U g mk ⟨q0, q1⟩
        exact ⟨e9.1, e9.2, va_Nc.moved (U := U.calling g mk a) (Vm.Alike.refl U.vm) h1⟩, fun U hU hW1 => ⟨((preX (av := As) hW hK hNs hA hXs).2 U hU hW1).1, ((preX (av := As) hW hK hNs hA hXs).2 U hU hW1).2, va_Nc.moved hW1.alike hNc⟩⟩ rfl hlen hl.1 hst (lv_room hwd) hdg hrm.2) hW.2.2.1 (fun q _ h => hF q h) hF (fun r u t9 H1 locs1 ht hvm hw9 hB hz1 hk1 hS1 => ?_)
  obtain ⟨hP1, hD1, hL1⟩ := hB
  rw [ht] at hP1
  exact k r u.1 hw9 u.2 H1 locs1 ls hl ⟨hP1, hD1.weaken (fun _ _ _ h => hF _ h), hS1, hL1⟩
end ZL
