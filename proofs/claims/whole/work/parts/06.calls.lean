/-! contracts by what is wanted of the answer and of the memory behind it; calls -/
def PreM (D : va_G) (t : Tys) (M : Mm) (L : List Nat) (sz : Nat) (U : State) : Prop := U.heap.size = sz ∧ va_P D vwCl (va_pl L (wF t M)) U.heap ∧ va_K D vwCl (tysL t) U ∧ va_D (fun _ => True) (va_pl L (wF t M)) ∧ (∀ a, mK M a ≠ 0 ↔ a ∈ L) ∧ Nst t (va_A (va_pl L (wF t M)) sz) U
def PosM (D : va_G) (t : Tys) (A : Nat → Prop) (u : Mm × List Nat) (U : State) : Prop := va_P D vwCl (va_pl u.2 (wF t u.1)) U.heap ∧ va_D A (va_pl u.2 (wF t u.1)) ∧ ∀ a, mK u.1 a ≠ 0 ↔ a ∈ u.2
def CtI (y : MethodName) (cc : ByteArray) (nl : Nat) (ret : Option FieldType) (rm : Room) (av : List Value) (M : Mm) (K : Int32 → Mm → Prop) : Prop := ∀ l D t L sz, Met l y (Cond.code y cc nl ret :: wjU) rm (va_Pc av (PreM D t M L sz)) (va_Qi (fun r (u : Mm × List Nat) => K r u.1) (PosM D t (va_A (va_pl L (wF t M)) sz)) (va_A (va_pl L (wF t M)) sz)) rm.cells rm.slots (va_A (va_pl L (wF t M)) sz)
def CtJ (y : MethodName) (cc : ByteArray) (nl : Nat) (ret : Option FieldType) (rm : Room) (av : List Value) (M : Mm) (K : Int64 → Mm → Prop) : Prop := ∀ l D t L sz, Met l y (Cond.code y cc nl ret :: wjU) rm (va_Pc av (PreM D t M L sz)) (va_Ql (fun r (u : Mm × List Nat) => K r u.1) (PosM D t (va_A (va_pl L (wF t M)) sz)) (va_A (va_pl L (wF t M)) sz)) rm.cells rm.slots (va_A (va_pl L (wF t M)) sz)
def CtV (y : MethodName) (cc : ByteArray) (nl : Nat) (ret : Option FieldType) (rm : Room) (av : List Value) (M : Mm) (K : Mm → Prop) : Prop := ∀ l D t L sz, Met l y (Cond.code y cc nl ret :: wjU) rm (va_Pc av (PreM D t M L sz)) (va_Qv (fun (u : Mm × List Nat) => K u.1) (PosM D t (va_A (va_pl L (wF t M)) sz)) (va_A (va_pl L (wF t M)) sz)) rm.cells rm.slots (va_A (va_pl L (wF t M)) sz)
def CtR (y : MethodName) (cc : ByteArray) (nl : Nat) (ret : Option FieldType) (rm : Room) (av : List Value) (M : Mm) (K : Option Nat → Mm → Prop) : Prop := ∀ l D t L sz, Met l y (Cond.code y cc nl ret :: wjU) rm (va_Pc av (PreM D t M L sz)) (va_Qq (fun r (u : Mm × List Nat) => K r u.1) (PosM D t (va_A (va_pl L (wF t M)) sz)) (va_A (va_pl L (wF t M)) sz)) rm.cells rm.slots (va_A (va_pl L (wF t M)) sz)
def Rq (X : Cx) (rm : Room) (ret : Option FieldType) (Qc : va_G → Tys → (Nat → Prop) → Array Value → State → Outcome → State → Prop) : Prop := match X with
  | (p, l, e, R, s, m, args, below, meth, c, Q, D, t, A, nL) => meth.sig.returnType = ret ∧ Q = MQ below (Qc D t A) args s rm.cells rm.slots A
def QI (K : Int32 → Mm → Prop) : va_G → Tys → (Nat → Prop) → Array Value → State → Outcome → State → Prop := fun D t A => va_Qi (fun r (u : Mm × List Nat) => K r u.1) (PosM D t A) A
def QJ (K : Int64 → Mm → Prop) : va_G → Tys → (Nat → Prop) → Array Value → State → Outcome → State → Prop := fun D t A => va_Ql (fun r (u : Mm × List Nat) => K r u.1) (PosM D t A) A
def QV (K : Mm → Prop) : va_G → Tys → (Nat → Prop) → Array Value → State → Outcome → State → Prop := fun D t A => va_Qv (fun (u : Mm × List Nat) => K u.1) (PosM D t A) A
def QR (K : Option Nat → Mm → Prop) : va_G → Tys → (Nat → Prop) → Array Value → State → Outcome → State → Prop := fun D t A => va_Qq (fun r (u : Mm × List Nat) => K r u.1) (PosM D t A) A
theorem ct_any {y : MethodName} {cc : ByteArray} {nl : Nat} {ret : Option FieldType} {rm : Room} {av : List Value} {M : Mm} (Qc : va_G → Tys → (Nat → Prop) → Array Value → State → Outcome → State → Prop) (hy : plainName y.cls = true) (hlen : (lg_sl av).length ≤ nl)
    (body : ∀ X : Cx, Ok X cc y.cls rm → Rq X rm ret Qc → X.2.2.2.2.2.2.2.2.2.2.2.2.2.2 = nl → X.2.2.2.2.2.2.2.2.1.name = y.name → Z X M 0 0 0 (lv_args 0 av) []) :
    ∀ l D t L sz, Met l y (Cond.code y cc nl ret :: wjU) rm (va_Pc av (PreM D t M L sz)) (Qc D t (va_A (va_pl L (wF t M)) sz)) rm.cells rm.slots (va_A (va_pl L (wF t M)) sz) := by
  intro l D t L sz
  refine Met.ofW (cc := cc) (maxL := nl) (ret := ret) hy rfl ?_
  intro p e s m args below meth c s₁ B hml hv
  obtain ⟨rfl, hsz, hP, hK, hD0, hL, hN⟩ := hv
  subst hsz
  have hts := atoms_spec (ws := Cond.code y cc nl ret :: wjU) B.pre
  have hW : Wd D t (va_A (va_pl L (wF t M)) s.heap.size) s.heap M L s.heap [] := ⟨hP, hD0.self, va_S.rf, hL⟩
  rw [lg_entry_eq]
  exact body (p, l, e, (headSpec (Cond.code y cc nl ret :: wjU) rm).room, s, m, av.toArray, below, meth, c, MQ below (Qc D t (va_A (va_pl L (wF t M)) s.heap.size)) av.toArray s rm.cells rm.slots (va_A (va_pl L (wF t M)) s.heap.size), D, t, va_A (va_pl L (wF t M)) s.heap.size, nl)
    ⟨B.exec, B.bytes, hml, findClass_of_methodNamed B.named, fun w h => hts w (List.mem_cons_of_mem _ h), fun q h => Or.inr h, hK, B.notSynchronized, rfl, hN⟩ ⟨B.returns, rfl⟩ rfl (name_of_methodNamed B.named B.method).1 L s.heap [] _ (lv_entry av hlen) hW
section ZC
variable {X : Cx} {cc : ByteArray} {own : String} {rm : Room} {M : Mm} {ce sl pc : Nat} {lv : List (Nat × Value)} {rest : List Value} {ret : Option FieldType}
theorem z_iret (hX : Ok X cc own rm) {K : Int32 → Mm → Prop} (hQ : Rq X rm (some .int) (QI K)) {v : Int32} (hdg : decode cc pc = .ok (.ireturn, 1)) (h : K v M) : Z X M rm.cells rm.slots pc lv [.int v] := by
  obtain ⟨p, l, e, R, s, m, args, below, meth, c, Q, D, t, A, nL⟩ := X
  obtain ⟨hx, hb, hml, hown, hts, hA, hK, hlk, hRm, hNs⟩ := hX
  obtain ⟨hr, rfl⟩ := hQ
  intro L H locs ls hl hW
  obtain ⟨hP, hD, hS, hL⟩ := hW
  exact W.iret hx hb hr (fun t ht hW => ⟨⟨v, (M, L), rfl, h, by rw [ht]; exact hP, hD, hL⟩, hS.F ht⟩) hS.2.2 hdg hlk
theorem z_zret (hX : Ok X cc own rm) {K : Int32 → Mm → Prop} (hQ : Rq X rm (some .boolean) (QI K)) {v : Int32} (hdg : decode cc pc = .ok (.ireturn, 1)) (hn : narrow .boolean (.int v) = .int v) (h : K v M) : Z X M rm.cells rm.slots pc lv [.int v] := by
  obtain ⟨p, l, e, R, s, m, args, below, meth, c, Q, D, t, A, nL⟩ := X
  obtain ⟨hx, hb, hml, hown, hts, hA, hK, hlk, hRm, hNs⟩ := hX
  obtain ⟨hr, rfl⟩ := hQ
  intro L H locs ls hl hW
  obtain ⟨hP, hD, hS, hL⟩ := hW
  exact W.zret hx hb hr hn (fun t ht hW => ⟨⟨v, (M, L), rfl, h, by rw [ht]; exact hP, hD, hL⟩, hS.F ht⟩) hS.2.2 hdg hlk
theorem z_lret (hX : Ok X cc own rm) {K : Int64 → Mm → Prop} (hQ : Rq X rm (some .long) (QJ K)) {v : Int64} (hdg : decode cc pc = .ok (.lreturn, 1)) (h : K v M) : Z X M rm.cells rm.slots pc lv [.long v] := by
  obtain ⟨p, l, e, R, s, m, args, below, meth, c, Q, D, t, A, nL⟩ := X
  obtain ⟨hx, hb, hml, hown, hts, hA, hK, hlk, hRm, hNs⟩ := hX
  obtain ⟨hr, rfl⟩ := hQ
  intro L H locs ls hl hW
  obtain ⟨hP, hD, hS, hL⟩ := hW
  exact W.lret hx hb hr (fun t ht hW => ⟨⟨v, (M, L), rfl, h, by rw [ht]; exact hP, hD, hL⟩, hS.F ht⟩) hS.2.2 hdg hlk
theorem z_vret (hX : Ok X cc own rm) {K : Mm → Prop} (hQ : Rq X rm none (QV K)) (hdg : decode cc pc = .ok (.return_, 1)) (h : K M) : Z X M rm.cells rm.slots pc lv [] := by
  obtain ⟨p, l, e, R, s, m, args, below, meth, c, Q, D, t, A, nL⟩ := X
  obtain ⟨hx, hb, hml, hown, hts, hA, hK, hlk, hRm, hNs⟩ := hX
  obtain ⟨hr, rfl⟩ := hQ
  intro L H locs ls hl hW
  obtain ⟨hP, hD, hS, hL⟩ := hW
  exact W.vret hx hb hr (fun t ht hW => ⟨⟨(M, L), rfl, h, by rw [ht]; exact hP, hD, hL⟩, hS.F ht⟩) hS.2.2 hdg hlk
theorem z_aret (hX : Ok X cc own rm) {K : Option Nat → Mm → Prop} {C : String} (hQ : Rq X rm (some (.object C)) (QR K)) {v : Option Nat} (hdg : decode cc pc = .ok (.areturn, 1)) (h : K v M) : Z X M rm.cells rm.slots pc lv [va_rf v] := by
  obtain ⟨p, l, e, R, s, m, args, below, meth, c, Q, D, t, A, nL⟩ := X
  obtain ⟨hx, hb, hml, hown, hts, hA, hK, hlk, hRm, hNs⟩ := hX
  obtain ⟨hr, rfl⟩ := hQ
  intro L H locs ls hl hW
  obtain ⟨hP, hD, hS, hL⟩ := hW
  exact W.aret hx hb hr (Or.inl ⟨_, rfl⟩) (va_rf_or v) (fun t ht hW => ⟨⟨v, (M, L), rfl, h, by rw [ht]; exact hP, hD, hL⟩, hS.F ht⟩) hS.2.2 hdg hlk
theorem goodU {w : Cond} (h : w ∈ wjU) : w ∈ wjU ∧ ((w.onTables && w.keeps) = true ∨ ∃ ty, w = .arrayClass ty) := ⟨h, good_of_word (List.mem_filter.mp h).2⟩
theorem goodU_ws {y : MethodName} {bc : ByteArray} {mxl : Nat} {ret : Option FieldType} (hc : Cond.code y bc mxl ret ∈ wjU) : GoodIn wjU (Cond.code y bc mxl ret :: wjU) := fun w hw => by
  rcases List.mem_cons.mp hw with rfl | h
  · exact goodU hc
  · exact goodU h
def VW (own : String) (idx : Nat) (C : String) (y : MethodName) (bc : ByteArray) (mxl : Nat) (ret : Option FieldType) (n : Nat) : Prop := (Cond.methodLink own idx y ∈ wjU ∧ Cond.instanceMethod y ∈ wjU ∧ Cond.selects C y y ∈ wjU ∧ Cond.initialized C ∈ wjU ∧ Cond.code y bc mxl ret ∈ wjU) ∧ y.cls = C ∧ y.cls ≠ "java/lang/invoke/MethodHandle" ∧ y.cls ≠ "java/lang/invoke/VarHandle" ∧ (parseMethodDescriptor y.desc).map (fun d => d.parameters.length) = some n
def SW (own : String) (idx : Nat) (y : MethodName) (bc : ByteArray) (mxl : Nat) (ret : Option FieldType) (n : Nat) : Prop := (Cond.methodLink own idx y ∈ wjU ∧ Cond.static y ∈ wjU ∧ Cond.initialized y.cls ∈ wjU ∧ Cond.code y bc mxl ret ∈ wjU) ∧ y.cls ≠ "java/lang/invoke/MethodHandle" ∧ y.cls ≠ "java/lang/invoke/VarHandle" ∧ (parseMethodDescriptor y.desc).map (fun d => d.parameters.length) = some n
def IW (own : String) (idx : Nat) (y : MethodName) (bc : ByteArray) (mxl : Nat) (n : Nat) : Prop := (Cond.methodLink own idx y ∈ wjU ∧ Cond.instanceMethod y ∈ wjU ∧ Cond.initialized y.cls ∈ wjU ∧ Cond.code y bc mxl none ∈ wjU) ∧ y.name = "<init>" ∧ y.cls ≠ "java/lang/invoke/MethodHandle" ∧ y.cls ≠ "java/lang/invoke/VarHandle" ∧ (parseMethodDescriptor y.desc).map (fun d => d.parameters.length) = some n
def RoomC (rm rmc : Room) (mxl ce sl : Nat) : Prop := (rmc.frames + 1 ≤ rm.frames ∧ 8 + (mxl + 11) + rmc.locals ≤ rm.locals) ∧ ce + rmc.cells ≤ rm.cells ∧ sl + rmc.slots ≤ rm.slots
theorem freeM {D : va_G} {t : Tys} {A : Nat → Prop} {H0 : Heap} {L : List Nat} {H : Heap} {locs : List Loc} (hW : Wd D t A H0 M L H locs) (hA : ∀ q, H0.size ≤ q → A q) : ∀ q, va_A (va_pl L (wF t M)) H.size q → A q := by
  intro q h
  rcases h with ⟨k, e, h⟩ | h
  · exact hW.2.1.2 k (q, e) h
  · exact hA q (Nat.le_trans hW.2.2.1.1 h)
theorem preS {D : va_G} {t : Tys} {A : Nat → Prop} {s : State} {L : List Nat} {H : Heap} {locs : List Loc} {av : List Value} (hW : Wd D t A s.heap M L H locs) (hK : va_K D vwCl (tysL t) s) (hN : Nst t A s) (hA : ∀ q, s.heap.size ≤ q → A q) : PreS s H (va_Pc av (PreM D t M L H.size)) av :=
  ⟨fun a U g mk q => by
    obtain ⟨q0, q1, qP, qK, qD, qL, qN⟩ := q
    exact ⟨q0, q1, qP, va_K.moved (u := U) (U := U.calling g mk a) (Vm.Alike.refl U.vm) qK, qD, qL, Nst.same (U := U.calling g mk a) rfl rfl qN⟩,
   fun U hU hW1 => ⟨rfl, by rw [hU], by rw [hU]; exact hW.1, va_K.moved hW1.alike hK, hW.2.1.weaken (fun _ _ _ _ => trivial), hW.2.2.2, Nst.to hW1 (fun a h1 h2 => by rw [hU]; exact hW.2.2.1.2.1 a h1 h2) (freeM hW hA) hN⟩⟩
theorem cat_rf (r : Option Nat) : (va_rf r).category = 1 := by cases r <;> rfl
theorem z_callVI (hX : Ok X cc own rm) {K : Int32 → Mm → Prop} {y : MethodName} {bc : ByteArray} {mxl ci idx n b N : Nat} {T : u_T} {rmc : Room} {As : List Value} {C : String} {st : List Value} (hM : CtI y bc mxl ret rmc (.ref b :: As) M K) (hw : VW own idx C y bc mxl ret n) (hc : vwCl[ci]? = some (C, T, N)) (hcl : ci < 15) (hlen : As.length = n) (hst : st = As.reverse ++ .ref b :: rest) (hrm : RoomC rm rmc mxl ce sl) (hwd : (rest.map fun v => v.category).sum ≤ 8) (hdg : decode cc pc = .ok (.invokevirtual idx, 3)) (hk : mK M b = ci + 1) (k : ∀ r M1, K r M1 → Z X M1 (ce + rmc.cells) (sl + rmc.slots) (pc + 3) lv (.int r :: rest)) : Z X M ce sl pc lv st := by
  obtain ⟨p, l, e, R, s, m, args, below, meth, c, Q, D, t, A, nL⟩ := X
  obtain ⟨hx, hb, hml, hown, hts, hA, hK, hlk, hRm, hNs⟩ := hX
  intro L H locs ls hl hW
  subst hRm
  have hF := freeM hW hA
  refine va_calli (va_runV (As := As) (rest := rest) ⟨hx, hb, hml, hown, hts⟩ (hM l D t L H.size) (cwV n hts (fun w h => by
    unfold wsV at h
    rcases List.mem_append.mp h with h | h
    · simp only [List.mem_cons, List.not_mem_nil, or_false] at h
      rcases h with rfl | rfl | rfl | rfl
      · exact goodU hw.1.1
      · exact goodU hw.1.2.1
      · exact goodU hw.1.2.2.1
      · exact goodU hw.1.2.2.2.1
    · exact goodU_ws hw.1.2.2.2.2 w h) rfl rfl rfl hw.2 hrm.1) (by
    obtain ⟨q1, hq1⟩ := va_pl_get (X := []) (f := wF t M) ((hW.2.2.2 b).mp (by omega))
    exact ⟨(preS (av := .ref b :: As) hW hK hNs hA).1, va_recv hK hW.1 (ci := ci) (q0 := q1) hc (hq1.trans (by rw [wF_o hk hcl])), (preS (av := .ref b :: As) hW hK hNs hA).2⟩) rfl hlen hl.1 hst (lv_room hwd) hdg hrm.2) hW.2.2.1 (fun q _ h => hF q h) hF (fun r u t9 H1 locs1 ht hvm hw hB hz1 hk1 hS1 => ?_)
  obtain ⟨hP1, hD1, hL1⟩ := hB
  rw [ht] at hP1
  exact k r u.1 hw u.2 H1 locs1 ls hl ⟨hP1, hD1.weaken (fun _ _ _ h => hF _ h), hS1, hL1⟩
theorem z_callSI (hX : Ok X cc own rm) {K : Int32 → Mm → Prop} {y : MethodName} {bc : ByteArray} {mxl idx n : Nat} {rmc : Room} {As : List Value} {st : List Value} (hM : CtI y bc mxl ret rmc As M K) (hw : SW own idx y bc mxl ret n) (hlen : As.length = n) (hst : st = As.reverse ++ rest) (hrm : RoomC rm rmc mxl ce sl) (hwd : (rest.map fun v => v.category).sum ≤ 8) (hdg : decode cc pc = .ok (.invokestatic idx, 3)) (k : ∀ r M1, K r M1 → Z X M1 (ce + rmc.cells) (sl + rmc.slots) (pc + 3) lv (.int r :: rest)) : Z X M ce sl pc lv st := by
  obtain ⟨p, l, e, R, s, m, args, below, meth, c, Q, D, t, A, nL⟩ := X
  obtain ⟨hx, hb, hml, hown, hts, hA, hK, hlk, hRm, hNs⟩ := hX
  intro L H locs ls hl hW
  subst hRm
  have hF := freeM hW hA
  refine va_calli (va_runS (As := As) (rest := rest) ⟨hx, hb, hml, hown, hts⟩ (hM l D t L H.size) (va_cwS n hts (fun w h => by
    unfold va_wsS at h
    rcases List.mem_append.mp h with h | h
    · simp only [List.mem_cons, List.not_mem_nil, or_false] at h
      rcases h with rfl | rfl | rfl
      · exact goodU hw.1.1
      · exact goodU hw.1.2.1
      · exact goodU hw.1.2.2.1
    · exact goodU_ws hw.1.2.2.2 w h) rfl rfl rfl hw.2 hrm.1) (preS (av := As) hW hK hNs hA) rfl hlen hl.1 hst (lv_room hwd) hdg hrm.2) hW.2.2.1 (fun q _ h => hF q h) hF (fun r u t9 H1 locs1 ht hvm hw hB hz1 hk1 hS1 => ?_)
  obtain ⟨hP1, hD1, hL1⟩ := hB
  rw [ht] at hP1
  exact k r u.1 hw u.2 H1 locs1 ls hl ⟨hP1, hD1.weaken (fun _ _ _ h => hF _ h), hS1, hL1⟩
theorem z_callVJ (hX : Ok X cc own rm) {K : Int64 → Mm → Prop} {y : MethodName} {bc : ByteArray} {mxl ci idx n b N : Nat} {T : u_T} {rmc : Room} {As : List Value} {C : String} {st : List Value} (hM : CtJ y bc mxl ret rmc (.ref b :: As) M K) (hw : VW own idx C y bc mxl ret n) (hc : vwCl[ci]? = some (C, T, N)) (hcl : ci < 15) (hlen : As.length = n) (hst : st = As.reverse ++ .ref b :: rest) (hrm : RoomC rm rmc mxl ce sl) (hwd : (rest.map fun v => v.category).sum ≤ 8) (hdg : decode cc pc = .ok (.invokevirtual idx, 3)) (hk : mK M b = ci + 1) (k : ∀ r M1, K r M1 → Z X M1 (ce + rmc.cells) (sl + rmc.slots) (pc + 3) lv (.long r :: rest)) : Z X M ce sl pc lv st := by
  obtain ⟨p, l, e, R, s, m, args, below, meth, c, Q, D, t, A, nL⟩ := X
  obtain ⟨hx, hb, hml, hown, hts, hA, hK, hlk, hRm, hNs⟩ := hX
  intro L H locs ls hl hW
  subst hRm
  have hF := freeM hW hA
  refine va_calll (va_runV (As := As) (rest := rest) ⟨hx, hb, hml, hown, hts⟩ (hM l D t L H.size) (cwV n hts (fun w h => by
    unfold wsV at h
    rcases List.mem_append.mp h with h | h
    · simp only [List.mem_cons, List.not_mem_nil, or_false] at h
      rcases h with rfl | rfl | rfl | rfl
      · exact goodU hw.1.1
      · exact goodU hw.1.2.1
      · exact goodU hw.1.2.2.1
      · exact goodU hw.1.2.2.2.1
    · exact goodU_ws hw.1.2.2.2.2 w h) rfl rfl rfl hw.2 hrm.1) (by
    obtain ⟨q1, hq1⟩ := va_pl_get (X := []) (f := wF t M) ((hW.2.2.2 b).mp (by omega))
    exact ⟨(preS (av := .ref b :: As) hW hK hNs hA).1, va_recv hK hW.1 (ci := ci) (q0 := q1) hc (hq1.trans (by rw [wF_o hk hcl])), (preS (av := .ref b :: As) hW hK hNs hA).2⟩) rfl hlen hl.1 hst (lv_room hwd) hdg hrm.2) hW.2.2.1 (fun q _ h => hF q h) hF (fun r u t9 H1 locs1 ht hvm hw hB hz1 hk1 hS1 => ?_)
  obtain ⟨hP1, hD1, hL1⟩ := hB
  rw [ht] at hP1
  exact k r u.1 hw u.2 H1 locs1 ls hl ⟨hP1, hD1.weaken (fun _ _ _ h => hF _ h), hS1, hL1⟩
theorem z_callSJ (hX : Ok X cc own rm) {K : Int64 → Mm → Prop} {y : MethodName} {bc : ByteArray} {mxl idx n : Nat} {rmc : Room} {As : List Value} {st : List Value} (hM : CtJ y bc mxl ret rmc As M K) (hw : SW own idx y bc mxl ret n) (hlen : As.length = n) (hst : st = As.reverse ++ rest) (hrm : RoomC rm rmc mxl ce sl) (hwd : (rest.map fun v => v.category).sum ≤ 8) (hdg : decode cc pc = .ok (.invokestatic idx, 3)) (k : ∀ r M1, K r M1 → Z X M1 (ce + rmc.cells) (sl + rmc.slots) (pc + 3) lv (.long r :: rest)) : Z X M ce sl pc lv st := by
  obtain ⟨p, l, e, R, s, m, args, below, meth, c, Q, D, t, A, nL⟩ := X
  obtain ⟨hx, hb, hml, hown, hts, hA, hK, hlk, hRm, hNs⟩ := hX
  intro L H locs ls hl hW
  subst hRm
  have hF := freeM hW hA
  refine va_calll (va_runS (As := As) (rest := rest) ⟨hx, hb, hml, hown, hts⟩ (hM l D t L H.size) (va_cwS n hts (fun w h => by
    unfold va_wsS at h
    rcases List.mem_append.mp h with h | h
    · simp only [List.mem_cons, List.not_mem_nil, or_false] at h
      rcases h with rfl | rfl | rfl
      · exact goodU hw.1.1
      · exact goodU hw.1.2.1
      · exact goodU hw.1.2.2.1
    · exact goodU_ws hw.1.2.2.2 w h) rfl rfl rfl hw.2 hrm.1) (preS (av := As) hW hK hNs hA) rfl hlen hl.1 hst (lv_room hwd) hdg hrm.2) hW.2.2.1 (fun q _ h => hF q h) hF (fun r u t9 H1 locs1 ht hvm hw hB hz1 hk1 hS1 => ?_)
  obtain ⟨hP1, hD1, hL1⟩ := hB
  rw [ht] at hP1
  exact k r u.1 hw u.2 H1 locs1 ls hl ⟨hP1, hD1.weaken (fun _ _ _ h => hF _ h), hS1, hL1⟩
theorem z_callVV (hX : Ok X cc own rm) {K : Mm → Prop} {y : MethodName} {bc : ByteArray} {mxl ci idx n b N : Nat} {T : u_T} {rmc : Room} {As : List Value} {C : String} {st : List Value} (hM : CtV y bc mxl ret rmc (.ref b :: As) M K) (hw : VW own idx C y bc mxl ret n) (hc : vwCl[ci]? = some (C, T, N)) (hcl : ci < 15) (hlen : As.length = n) (hst : st = As.reverse ++ .ref b :: rest) (hrm : RoomC rm rmc mxl ce sl) (hwd : (rest.map fun v => v.category).sum ≤ 8) (hdg : decode cc pc = .ok (.invokevirtual idx, 3)) (hk : mK M b = ci + 1) (k : ∀ M1, K M1 → Z X M1 (ce + rmc.cells) (sl + rmc.slots) (pc + 3) lv rest) : Z X M ce sl pc lv st := by
  obtain ⟨p, l, e, R, s, m, args, below, meth, c, Q, D, t, A, nL⟩ := X
  obtain ⟨hx, hb, hml, hown, hts, hA, hK, hlk, hRm, hNs⟩ := hX
  intro L H locs ls hl hW
  subst hRm
  have hF := freeM hW hA
  refine va_callv (va_runV (As := As) (rest := rest) ⟨hx, hb, hml, hown, hts⟩ (hM l D t L H.size) (cwV n hts (fun w h => by
    unfold wsV at h
    rcases List.mem_append.mp h with h | h
    · simp only [List.mem_cons, List.not_mem_nil, or_false] at h
      rcases h with rfl | rfl | rfl | rfl
      · exact goodU hw.1.1
      · exact goodU hw.1.2.1
      · exact goodU hw.1.2.2.1
      · exact goodU hw.1.2.2.2.1
    · exact goodU_ws hw.1.2.2.2.2 w h) rfl rfl rfl hw.2 hrm.1) (by
    obtain ⟨q1, hq1⟩ := va_pl_get (X := []) (f := wF t M) ((hW.2.2.2 b).mp (by omega))
    exact ⟨(preS (av := .ref b :: As) hW hK hNs hA).1, va_recv hK hW.1 (ci := ci) (q0 := q1) hc (hq1.trans (by rw [wF_o hk hcl])), (preS (av := .ref b :: As) hW hK hNs hA).2⟩) rfl hlen hl.1 hst (lv_room hwd) hdg hrm.2) hW.2.2.1 (fun q _ h => hF q h) hF (fun u t9 H1 locs1 ht hvm hw hB hz1 hk1 hS1 => ?_)
  obtain ⟨hP1, hD1, hL1⟩ := hB
  rw [ht] at hP1
  exact k u.1 hw u.2 H1 locs1 ls hl ⟨hP1, hD1.weaken (fun _ _ _ h => hF _ h), hS1, hL1⟩
theorem z_callSV (hX : Ok X cc own rm) {K : Mm → Prop} {y : MethodName} {bc : ByteArray} {mxl idx n : Nat} {rmc : Room} {As : List Value} {st : List Value} (hM : CtV y bc mxl ret rmc As M K) (hw : SW own idx y bc mxl ret n) (hlen : As.length = n) (hst : st = As.reverse ++ rest) (hrm : RoomC rm rmc mxl ce sl) (hwd : (rest.map fun v => v.category).sum ≤ 8) (hdg : decode cc pc = .ok (.invokestatic idx, 3)) (k : ∀ M1, K M1 → Z X M1 (ce + rmc.cells) (sl + rmc.slots) (pc + 3) lv rest) : Z X M ce sl pc lv st := by
  obtain ⟨p, l, e, R, s, m, args, below, meth, c, Q, D, t, A, nL⟩ := X
  obtain ⟨hx, hb, hml, hown, hts, hA, hK, hlk, hRm, hNs⟩ := hX
  intro L H locs ls hl hW
  subst hRm
  have hF := freeM hW hA
  refine va_callv (va_runS (As := As) (rest := rest) ⟨hx, hb, hml, hown, hts⟩ (hM l D t L H.size) (va_cwS n hts (fun w h => by
    unfold va_wsS at h
    rcases List.mem_append.mp h with h | h
    · simp only [List.mem_cons, List.not_mem_nil, or_false] at h
      rcases h with rfl | rfl | rfl
      · exact goodU hw.1.1
      · exact goodU hw.1.2.1
      · exact goodU hw.1.2.2.1
    · exact goodU_ws hw.1.2.2.2 w h) rfl rfl rfl hw.2 hrm.1) (preS (av := As) hW hK hNs hA) rfl hlen hl.1 hst (lv_room hwd) hdg hrm.2) hW.2.2.1 (fun q _ h => hF q h) hF (fun u t9 H1 locs1 ht hvm hw hB hz1 hk1 hS1 => ?_)
  obtain ⟨hP1, hD1, hL1⟩ := hB
  rw [ht] at hP1
  exact k u.1 hw u.2 H1 locs1 ls hl ⟨hP1, hD1.weaken (fun _ _ _ h => hF _ h), hS1, hL1⟩
theorem z_callVR (hX : Ok X cc own rm) {K : Option Nat → Mm → Prop} {y : MethodName} {bc : ByteArray} {mxl ci idx n b N : Nat} {T : u_T} {rmc : Room} {As : List Value} {C : String} {st : List Value} (hM : CtR y bc mxl ret rmc (.ref b :: As) M K) (hw : VW own idx C y bc mxl ret n) (hc : vwCl[ci]? = some (C, T, N)) (hcl : ci < 15) (hlen : As.length = n) (hst : st = As.reverse ++ .ref b :: rest) (hrm : RoomC rm rmc mxl ce sl) (hwd : (rest.map fun v => v.category).sum ≤ 8) (hdg : decode cc pc = .ok (.invokevirtual idx, 3)) (hk : mK M b = ci + 1) (k : ∀ r M1, K r M1 → Z X M1 (ce + rmc.cells) (sl + rmc.slots) (pc + 3) lv (va_rf r :: rest)) : Z X M ce sl pc lv st := by
  obtain ⟨p, l, e, R, s, m, args, below, meth, c, Q, D, t, A, nL⟩ := X
  obtain ⟨hx, hb, hml, hown, hts, hA, hK, hlk, hRm, hNs⟩ := hX
  intro L H locs ls hl hW
  subst hRm
  have hF := freeM hW hA
  refine va_callq (va_runV (As := As) (rest := rest) ⟨hx, hb, hml, hown, hts⟩ (hM l D t L H.size) (cwV n hts (fun w h => by
    unfold wsV at h
    rcases List.mem_append.mp h with h | h
    · simp only [List.mem_cons, List.not_mem_nil, or_false] at h
      rcases h with rfl | rfl | rfl | rfl
      · exact goodU hw.1.1
      · exact goodU hw.1.2.1
      · exact goodU hw.1.2.2.1
      · exact goodU hw.1.2.2.2.1
    · exact goodU_ws hw.1.2.2.2.2 w h) rfl rfl rfl hw.2 hrm.1) (by
    obtain ⟨q1, hq1⟩ := va_pl_get (X := []) (f := wF t M) ((hW.2.2.2 b).mp (by omega))
    exact ⟨(preS (av := .ref b :: As) hW hK hNs hA).1, va_recv hK hW.1 (ci := ci) (q0 := q1) hc (hq1.trans (by rw [wF_o hk hcl])), (preS (av := .ref b :: As) hW hK hNs hA).2⟩) rfl hlen hl.1 hst (lv_room hwd) hdg hrm.2) hW.2.2.1 (fun q _ h => hF q h) hF (fun r u t9 H1 locs1 ht hvm hw hB hz1 hk1 hS1 => ?_)
  obtain ⟨hP1, hD1, hL1⟩ := hB
  rw [ht] at hP1
  exact k r u.1 hw u.2 H1 locs1 ls hl ⟨hP1, hD1.weaken (fun _ _ _ h => hF _ h), hS1, hL1⟩
theorem z_callSR (hX : Ok X cc own rm) {K : Option Nat → Mm → Prop} {y : MethodName} {bc : ByteArray} {mxl idx n : Nat} {rmc : Room} {As : List Value} {st : List Value} (hM : CtR y bc mxl ret rmc As M K) (hw : SW own idx y bc mxl ret n) (hlen : As.length = n) (hst : st = As.reverse ++ rest) (hrm : RoomC rm rmc mxl ce sl) (hwd : (rest.map fun v => v.category).sum ≤ 8) (hdg : decode cc pc = .ok (.invokestatic idx, 3)) (k : ∀ r M1, K r M1 → Z X M1 (ce + rmc.cells) (sl + rmc.slots) (pc + 3) lv (va_rf r :: rest)) : Z X M ce sl pc lv st := by
  obtain ⟨p, l, e, R, s, m, args, below, meth, c, Q, D, t, A, nL⟩ := X
  obtain ⟨hx, hb, hml, hown, hts, hA, hK, hlk, hRm, hNs⟩ := hX
  intro L H locs ls hl hW
  subst hRm
  have hF := freeM hW hA
  refine va_callq (va_runS (As := As) (rest := rest) ⟨hx, hb, hml, hown, hts⟩ (hM l D t L H.size) (va_cwS n hts (fun w h => by
    unfold va_wsS at h
    rcases List.mem_append.mp h with h | h
    · simp only [List.mem_cons, List.not_mem_nil, or_false] at h
      rcases h with rfl | rfl | rfl
      · exact goodU hw.1.1
      · exact goodU hw.1.2.1
      · exact goodU hw.1.2.2.1
    · exact goodU_ws hw.1.2.2.2 w h) rfl rfl rfl hw.2 hrm.1) (preS (av := As) hW hK hNs hA) rfl hlen hl.1 hst (lv_room hwd) hdg hrm.2) hW.2.2.1 (fun q _ h => hF q h) hF (fun r u t9 H1 locs1 ht hvm hw hB hz1 hk1 hS1 => ?_)
  obtain ⟨hP1, hD1, hL1⟩ := hB
  rw [ht] at hP1
  exact k r u.1 hw u.2 H1 locs1 ls hl ⟨hP1, hD1.weaken (fun _ _ _ h => hF _ h), hS1, hL1⟩
theorem z_callIV (hX : Ok X cc own rm) {K : Mm → Prop} {y : MethodName} {bc : ByteArray} {mxl idx n b : Nat} {rmc : Room} {As : List Value} {st : List Value} (hM : CtV y bc mxl none rmc (.ref b :: As) M K) (hw : IW own idx y bc mxl n) (hlen : As.length = n) (hst : st = As.reverse ++ .ref b :: rest) (hrm : RoomC rm rmc mxl ce sl) (hwd : (rest.map fun v => v.category).sum ≤ 8) (hdg : decode cc pc = .ok (.invokespecial idx, 3)) (k : ∀ M1, K M1 → Z X M1 (ce + rmc.cells) (sl + rmc.slots) (pc + 3) lv rest) : Z X M ce sl pc lv st := by
  obtain ⟨p, l, e, R, s, m, args, below, meth, c, Q, D, t, A, nL⟩ := X
  obtain ⟨hx, hb, hml, hown, hts, hA, hK, hlk, hRm, hNs⟩ := hX
  intro L H locs ls hl hW
  subst hRm
  have hF := freeM hW hA
  refine va_callv (va_runI (As := As) (rest := rest) ⟨hx, hb, hml, hown, hts⟩ (hM l D t L H.size) (cwI n hts (goodU_ws hw.1.2.2.2) rfl rfl rfl (hts _ hw.1.2.2.1) (hts _ hw.1.1) (hts _ hw.1.2.1) hw.2.1 hw.2.2 hrm.1) (preS (av := .ref b :: As) hW hK hNs hA) rfl hlen hl.1 hst (lv_room hwd) hdg hrm.2) hW.2.2.1 (fun q _ h => hF q h) hF (fun u t9 H1 locs1 ht hvm hw hB hz1 hk1 hS1 => ?_)
  obtain ⟨hP1, hD1, hL1⟩ := hB
  rw [ht] at hP1
  exact k u.1 hw u.2 H1 locs1 ls hl ⟨hP1, hD1.weaken (fun _ _ _ h => hF _ h), hS1, hL1⟩
theorem z_objInit (hX : Ok X cc own rm) {idx a : Nat} (h1 : Cond.methodLink own idx objectInit ∈ wjU) (h2 : Cond.instanceMethod objectInit ∈ wjU) (h3 : Cond.code objectInit ⟨#[0xb1]⟩ 1 none ∈ wjU) (hdg : decode cc pc = .ok (.invokespecial idx, 3)) (hf : 1 ≤ rm.frames) (hlo : (rest.map fun v => v.category).sum + 12 ≤ rm.locals) (k : Z X M ce sl (pc + 3) lv rest) : Z X M ce sl pc lv (.ref a :: rest) := by
  obtain ⟨p, l, e, R, s, m, args, below, meth, c, Q, D, t, A, nL⟩ := X
  obtain ⟨hx, hb, hml, hown, hts, hA, hK, hlk, hRm, hNs⟩ := hX
  intro L H locs ls hl hW
  subst hRm
  refine W.objInit hx hb hown (hts _ h1) (hts _ h2) (hts _ h3) rfl (by rw [hml]; exact hl.1) rfl hdg hf (by show 2 * 0 + _ + 12 ≤ _; omega) ?_
  exact k L H locs ls hl hW
def NW (own : String) (idx : Nat) (y : MethodName) (host : String) (bc : ByteArray) (mxl : Nat) (ret : Option FieldType) (n : Nat) : Prop := (Cond.static y ∈ wjU ∧ Cond.initialized y.cls ∈ wjU ∧ Cond.code y bc mxl ret ∈ wjU) ∧ (y.cls ≠ "java/lang/invoke/MethodHandle" ∧ y.cls ≠ "java/lang/invoke/VarHandle" ∧ (parseMethodDescriptor y.desc).map (fun d => d.parameters.length) = some n) ∧ ∀ t A s, Nst t A s → va_Nw (.methodLinkNest own idx y host) s
theorem z_callNJ (hX : Ok X cc own rm) {K : Int64 → Mm → Prop} {y : MethodName} {host : String} {bc : ByteArray} {mxl idx n : Nat} {rmc : Room} {As : List Value} {st : List Value} (hM : CtJ y bc mxl ret rmc As M K) (hw : NW own idx y host bc mxl ret n) (hlen : As.length = n) (hst : st = As.reverse ++ rest) (hrm : RoomC rm rmc mxl ce sl) (hwd : (rest.map fun v => v.category).sum ≤ 8) (hdg : decode cc pc = .ok (.invokestatic idx, 3)) (k : ∀ r M1, K r M1 → Z X M1 (ce + rmc.cells) (sl + rmc.slots) (pc + 3) lv (.long r :: rest)) : Z X M ce sl pc lv st := by
  obtain ⟨p, l, e, R, s, m, args, below, meth, c, Q, D, t, A, nL⟩ := X
  obtain ⟨hx, hb, hml, hown, hts, hA, hK, hlk, hRm, hNs⟩ := hX
  intro L H locs ls hl hW
  subst hRm
  have hF := freeM hW hA
  refine va_calll (va_runSN (As := As) (rest := rest) ⟨hx, hb, hml, hown, hts⟩ (hM l D t L H.size) ⟨va_cnB n hts (goodU_ws hw.1.2.2) rfl rfl rfl (hw.2.2 t A s hNs) (hts _ hw.1.2.1) hw.2.1 hrm.1, hts _ hw.1.1, trivial⟩ (preS (av := As) hW hK hNs hA) rfl hlen hl.1 hst (lv_room hwd) hdg hrm.2) hW.2.2.1 (fun q _ h => hF q h) hF (fun r u t9 H1 locs1 ht hvm hw hB hz1 hk1 hS1 => ?_)
  obtain ⟨hP1, hD1, hL1⟩ := hB
  rw [ht] at hP1
  exact k r u.1 hw u.2 H1 locs1 ls hl ⟨hP1, hD1.weaken (fun _ _ _ h => hF _ h), hS1, hL1⟩
theorem z_mmaxl (hX : Ok X cc own rm) {idx : Nat} {x y : Int64} (h1 : Cond.methodLink own idx Lib.MathLoose.max_long.x ∈ wjU) (h2 : Cond.static Lib.MathLoose.max_long.x ∈ wjU) (h3 : Cond.initialized "java/lang/Math" ∈ wjU) (h4 : Cond.code Lib.MathLoose.max_long.x Lib.MathLoose.max_long.code 4 (some .long) ∈ wjU) (hf : 1 ≤ rm.frames) (hlo : (rest.map fun v => v.category).sum + 15 ≤ rm.locals) (hc : ce ≤ rm.cells) (hs : sl ≤ rm.slots) (hdg : decode cc pc = .ok (.invokestatic idx, 3)) (k : Z X M ce sl (pc + 3) lv (.long (if y < x then x else y) :: rest)) : Z X M ce sl pc lv (.long y :: .long x :: rest) := by
  obtain ⟨p, l, e, R, s, m, args, below, meth, c, Q, D, t, A, nL⟩ := X
  obtain ⟨hx, hb, hml, hown, hts, hA, hK, hlk, hRm, hNs⟩ := hX
  intro L H locs ls hl hW
  subst hRm
  exact va_mmax_long hx hb (by rw [hml]; exact hl.1.symm) hown (hts _ h1) (hts _ h2) (hts _ h3) (hts _ h4) hf hlo hc hs hdg (k L H locs ls hl hW)
theorem z_mminl (hX : Ok X cc own rm) {idx : Nat} {x y : Int64} (h1 : Cond.methodLink own idx Lib.MathLoose.min_long.x ∈ wjU) (h2 : Cond.static Lib.MathLoose.min_long.x ∈ wjU) (h3 : Cond.initialized "java/lang/Math" ∈ wjU) (h4 : Cond.code Lib.MathLoose.min_long.x Lib.MathLoose.min_long.code 4 (some .long) ∈ wjU) (hf : 1 ≤ rm.frames) (hlo : (rest.map fun v => v.category).sum + 15 ≤ rm.locals) (hc : ce ≤ rm.cells) (hs : sl ≤ rm.slots) (hdg : decode cc pc = .ok (.invokestatic idx, 3)) (k : Z X M ce sl (pc + 3) lv (.long (if y < x then y else x) :: rest)) : Z X M ce sl pc lv (.long y :: .long x :: rest) := by
  obtain ⟨p, l, e, R, s, m, args, below, meth, c, Q, D, t, A, nL⟩ := X
  obtain ⟨hx, hb, hml, hown, hts, hA, hK, hlk, hRm, hNs⟩ := hX
  intro L H locs ls hl hW
  subst hRm
  exact va_mmin_long hx hb (by rw [hml]; exact hl.1.symm) hown (hts _ h1) (hts _ h2) (hts _ h3) (hts _ h4) hf hlo hc hs hdg (k L H locs ls hl hW)
end ZC
