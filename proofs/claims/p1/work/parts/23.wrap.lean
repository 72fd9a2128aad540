/-! the law's own methods with a table: they catch what the class throws -/
def RqW (X : Cx) (hh : List (Nat × Nat × Nat × Nat)) : Prop := match X with
  | (p, l, e, R, s, m, args, below, meth, c, Q, D, t, A, nL) => c.exceptionTable.toList = tableOf hh ∧ l.stackTraces = false ∧ Xst A s s.heap ∧ va_Nc "java/lang/IndexOutOfBoundsException" "java/lang/IllegalStateException" s
def PreW (D : va_G) (t : Tys) (M : Mm) (L : List Nat) (sz : Nat) (U : State) : Prop := PreX D t M L sz U ∧ va_Nc "java/lang/IndexOutOfBoundsException" "java/lang/IllegalStateException" U
def CwI (y : MethodName) (cc : ByteArray) (nl : Nat) (hh : List (Nat × Nat × Nat × Nat)) (rm : Room) (av : List Value) (M : Mm) (K : Int32 → Mm → Prop) : Prop := ∀ l D t L sz, l.stackTraces = false → Met l y (Cond.codeWith y cc nl (some .int) hh :: wjU) rm (va_Pc av (PreW D t M L sz)) (QI K D t (va_A (va_pl L (wF t M)) sz)) rm.cells rm.slots (va_A (va_pl L (wF t M)) sz)
theorem ctw_any {y : MethodName} {cc : ByteArray} {nl : Nat} {hh : List (Nat × Nat × Nat × Nat)} {rm : Room} {av : List Value} {M : Mm} {K : Int32 → Mm → Prop} (hy : plainName y.cls = true) (hlen : (lg_sl av).length ≤ nl)
    (body : ∀ X : Cx, Ok X cc y.cls rm → Rq X rm (some .int) (QI K) → RqW X hh → X.2.2.2.2.2.2.2.2.2.2.2.2.2.2 = nl → X.2.2.2.2.2.2.2.2.1.name = y.name → Z X M 0 0 0 (lv_args 0 av) []) : CwI y cc nl hh rm av M K := by
  intro l D t L sz hlst
  refine va_MetW (cc := cc) (maxL := nl) (ret := some .int) (hh := hh) hy rfl ?_
  intro p e s m args below meth c s₁ B hml hv
  obtain ⟨rfl, ⟨⟨hsz, hP, hK, hD0, hL, hN⟩, hXs⟩, hNc⟩ := hv
  subst hsz
  have hts := atoms_spec (ws := Cond.codeWith y cc nl (some .int) hh :: wjU) B.pre
  have htab := vx_table (x := y) B (hts _ List.mem_cons_self)
  have hW : Wd D t (va_A (va_pl L (wF t M)) s.heap.size) s.heap M L s.heap [] := ⟨hP, hD0.self, va_S.rf, hL⟩
  rw [lg_entry_eq]
  exact body (p, l, e, (headSpec (Cond.codeWith y cc nl (some .int) hh :: wjU) rm).room, s, m, av.toArray, below, meth, c, MQ below (QI K D t (va_A (va_pl L (wF t M)) s.heap.size)) av.toArray s rm.cells rm.slots (va_A (va_pl L (wF t M)) s.heap.size), D, t, va_A (va_pl L (wF t M)) s.heap.size, nl)
    ⟨B.exec, B.bytes, hml, findClass_of_methodNamed B.named, fun w h => hts w (List.mem_cons_of_mem _ h), fun q h => Or.inr h, hK, B.notSynchronized, rfl, hN⟩ ⟨B.returns, rfl⟩ ⟨htab, hlst, hXs, hNc⟩ rfl (name_of_methodNamed B.named B.method).1 L s.heap [] _ (lv_entry av hlen) hW
section ZW
variable {X : Cx} {cc : ByteArray} {own : String} {rm : Room} {M : Mm} {ce sl pc : Nat} {lv : List (Nat × Value)} {rest : List Value} {ret : Option FieldType} {KX : String → Mm → Prop}
set_option maxRecDepth 100000 in
theorem cs_ISE : Cond.castable "java/lang/IllegalStateException" "java/lang/IllegalStateException" ∈ lw_tbl := by decide +kernel
set_option maxRecDepth 100000 in
theorem cs_IOB : Cond.castable "java/lang/IndexOutOfBoundsException" "java/lang/IndexOutOfBoundsException" ∈ lw_tbl := by decide +kernel
theorem zw_callVJ (hX : Ok X cc own rm) {hh : List (Nat × Nat × Nat × Nat)} (hQ : RqW X hh) {K : Int64 → Mm → Prop} {y : MethodName} {bc : ByteArray} {mxl ci idx n b N : Nat} {T : u_T} {rmc : Room} {As : List Value} {C : String} {st : List Value} (hM : CxG (QJ K) y bc mxl ret rmc (.ref b :: As) M KX) (hw : VW own idx C y bc mxl ret n) (hc : vwCl[ci]? = some (C, T, N)) (hcl : ci < 15) (hlen : As.length = n) (hst : st = As.reverse ++ .ref b :: rest) (hrm : RoomC rm rmc mxl ce sl) (hwd : (rest.map fun v => v.category).sum ≤ 8) (hdg : decode cc pc = .ok (.invokevirtual idx, 3)) (hk : mK M b = ci + 1)
    (kx : ∀ E M1, KX E M1 → ∃ (pre suf : List ExceptionTableEntry) (x : ExceptionTableEntry), tableOf hh = pre ++ x :: suf ∧ (∀ z ∈ pre, z.catchType ≠ 0 ∧ Cond.classLink own z.catchType "java/lang/IllegalStateException" ∈ wjU ∧ E = "java/lang/IndexOutOfBoundsException") ∧ covers x pc = true ∧ x.catchType ≠ 0 ∧ Cond.classLink own x.catchType E ∈ wjU ∧ (E = "java/lang/IllegalStateException" ∨ E = "java/lang/IndexOutOfBoundsException") ∧ ∀ q, Z X M1 (ce + rmc.cells) (sl + rmc.slots) x.handlerPc lv [va_rf (some q)])
    (k : ∀ r M1, K r M1 → Z X M1 (ce + rmc.cells) (sl + rmc.slots) (pc + 3) lv (.long r :: rest)) : Z X M ce sl pc lv st := by
  obtain ⟨p, l, e, R, s, m, args, below, meth, c, Q, D, t, A, nL⟩ := X
  obtain ⟨hx, hb, hml, hown, hts, hA, hK, hlk, hRm, hNs⟩ := hX
  obtain ⟨htab, hlst, hXs, hNc⟩ := hQ
  intro L H locs ls hl hW
  subst hRm
  have hF := freeM hW hA
  refine vx_calll (vx_runV (As := As) (rest := rest) ⟨hx, hb, hml, hown, hts⟩ (hM l D t L H.size hlst) (cwV n hts (fun w h => by
    unfold wsV at h
    rcases List.mem_append.mp h with h | h
    · simp only [List.mem_cons, List.not_mem_nil, or_false] at h
      rcases h with rfl | rfl | rfl | rfl
      · exact goodU hw.1.1
      · exact goodU hw.1.2.1
      · exact goodU hw.1.2.2.1
      · exact goodU hw.1.2.2.2.1
    · exact goodU_ws hw.1.2.2.2.2 w h) rfl rfl rfl hw.2 hrm.1) (by
    obtain ⟨q1, hq1⟩ := va_pl_get (X := []) (f := wF t M) ((hW.2.2.2 b).mp (by omega))
    exact ⟨(preX (av := .ref b :: As) hW hK hNs hA hXs).1, va_recv hK hW.1 (ci := ci) (q0 := q1) hc (hq1.trans (by rw [wF_o hk hcl])), (preX (av := .ref b :: As) hW hK hNs hA hXs).2⟩) rfl hlen hl.1 hst (lv_room hwd) hdg hrm.2) hW.2.2.1 (fun q _ h => hF q h) hF (fun q _ h => hF q h) (fun E ce9 q9 u t9 H1 locs1 ht hvm _ hB hz1 hk1 hS1 hce9 hcv9 hcl9 => ?_) (fun r u t9 H1 locs1 ht hvm hw9 hB hz1 hk1 hS1 => ?_)
  · obtain ⟨hKX, hP1, hD1, hL1⟩ := hB
    rw [ht] at hP1
    obtain ⟨pre, suf, x, h1, h2, h3, h4, h5, h6, h7⟩ := kx E u.1 hKX
    refine vx_catch hown pre x suf (htab.trans h1) (fun z hz => Or.inr ⟨(h2 z hz).1, _, hts _ (h2 z hz).2.1, by rw [(h2 z hz).2.2]; exact hNc⟩) h3 h4 (hts _ h5) ?_ hce9 hcv9 hcl9 ?_
    · rcases h6 with rfl | rfl
      · exact va_tabs rfl rfl (hXs.2.2.1 _ cs_ISE rfl)
      · exact va_tabs rfl rfl (hXs.2.2.1 _ cs_IOB rfl)
    · exact h7 q9 u.2 H1 locs1 ls hl ⟨hP1, hD1.weaken (fun _ _ _ h => hF _ h), hS1, hL1⟩
  · obtain ⟨hP1, hD1, hL1⟩ := hB
    rw [ht] at hP1
    exact k r u.1 hw9 u.2 H1 locs1 ls hl ⟨hP1, hD1.weaken (fun _ _ _ h => hF _ h), hS1, hL1⟩
theorem zw_callVI (hX : Ok X cc own rm) {hh : List (Nat × Nat × Nat × Nat)} (hQ : RqW X hh) {K : Int32 → Mm → Prop} {y : MethodName} {bc : ByteArray} {mxl ci idx n b N : Nat} {T : u_T} {rmc : Room} {As : List Value} {C : String} {st : List Value} (hM : CxG (QI K) y bc mxl ret rmc (.ref b :: As) M KX) (hw : VW own idx C y bc mxl ret n) (hc : vwCl[ci]? = some (C, T, N)) (hcl : ci < 15) (hlen : As.length = n) (hst : st = As.reverse ++ .ref b :: rest) (hrm : RoomC rm rmc mxl ce sl) (hwd : (rest.map fun v => v.category).sum ≤ 8) (hdg : decode cc pc = .ok (.invokevirtual idx, 3)) (hk : mK M b = ci + 1)
    (kx : ∀ E M1, KX E M1 → ∃ (pre suf : List ExceptionTableEntry) (x : ExceptionTableEntry), tableOf hh = pre ++ x :: suf ∧ (∀ z ∈ pre, z.catchType ≠ 0 ∧ Cond.classLink own z.catchType "java/lang/IllegalStateException" ∈ wjU ∧ E = "java/lang/IndexOutOfBoundsException") ∧ covers x pc = true ∧ x.catchType ≠ 0 ∧ Cond.classLink own x.catchType E ∈ wjU ∧ (E = "java/lang/IllegalStateException" ∨ E = "java/lang/IndexOutOfBoundsException") ∧ ∀ q, Z X M1 (ce + rmc.cells) (sl + rmc.slots) x.handlerPc lv [va_rf (some q)])
    (k : ∀ r M1, K r M1 → Z X M1 (ce + rmc.cells) (sl + rmc.slots) (pc + 3) lv (.int r :: rest)) : Z X M ce sl pc lv st := by
  obtain ⟨p, l, e, R, s, m, args, below, meth, c, Q, D, t, A, nL⟩ := X
  obtain ⟨hx, hb, hml, hown, hts, hA, hK, hlk, hRm, hNs⟩ := hX
  obtain ⟨htab, hlst, hXs, hNc⟩ := hQ
  intro L H locs ls hl hW
  subst hRm
  have hF := freeM hW hA
  refine vx_calli (vx_runV (As := As) (rest := rest) ⟨hx, hb, hml, hown, hts⟩ (hM l D t L H.size hlst) (cwV n hts (fun w h => by
    unfold wsV at h
    rcases List.mem_append.mp h with h | h
    · simp only [List.mem_cons, List.not_mem_nil, or_false] at h
      rcases h with rfl | rfl | rfl | rfl
      · exact goodU hw.1.1
      · exact goodU hw.1.2.1
      · exact goodU hw.1.2.2.1
      · exact goodU hw.1.2.2.2.1
    · exact goodU_ws hw.1.2.2.2.2 w h) rfl rfl rfl hw.2 hrm.1) (by
    obtain ⟨q1, hq1⟩ := va_pl_get (X := []) (f := wF t M) ((hW.2.2.2 b).mp (by omega))
    exact ⟨(preX (av := .ref b :: As) hW hK hNs hA hXs).1, va_recv hK hW.1 (ci := ci) (q0 := q1) hc (hq1.trans (by rw [wF_o hk hcl])), (preX (av := .ref b :: As) hW hK hNs hA hXs).2⟩) rfl hlen hl.1 hst (lv_room hwd) hdg hrm.2) hW.2.2.1 (fun q _ h => hF q h) hF (fun q _ h => hF q h) (fun E ce9 q9 u t9 H1 locs1 ht hvm _ hB hz1 hk1 hS1 hce9 hcv9 hcl9 => ?_) (fun r u t9 H1 locs1 ht hvm hw9 hB hz1 hk1 hS1 => ?_)
  · obtain ⟨hKX, hP1, hD1, hL1⟩ := hB
    rw [ht] at hP1
    obtain ⟨pre, suf, x, h1, h2, h3, h4, h5, h6, h7⟩ := kx E u.1 hKX
    refine vx_catch hown pre x suf (htab.trans h1) (fun z hz => Or.inr ⟨(h2 z hz).1, _, hts _ (h2 z hz).2.1, by rw [(h2 z hz).2.2]; exact hNc⟩) h3 h4 (hts _ h5) ?_ hce9 hcv9 hcl9 ?_
    · rcases h6 with rfl | rfl
      · exact va_tabs rfl rfl (hXs.2.2.1 _ cs_ISE rfl)
      · exact va_tabs rfl rfl (hXs.2.2.1 _ cs_IOB rfl)
    · exact h7 q9 u.2 H1 locs1 ls hl ⟨hP1, hD1.weaken (fun _ _ _ h => hF _ h), hS1, hL1⟩
  · obtain ⟨hP1, hD1, hL1⟩ := hB
    rw [ht] at hP1
    exact k r u.1 hw9 u.2 H1 locs1 ls hl ⟨hP1, hD1.weaken (fun _ _ _ h => hF _ h), hS1, hL1⟩
end ZW
