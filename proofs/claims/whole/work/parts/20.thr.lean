/-! methods that throw: contracts with a second end -/
def Fst (U : State) : Prop := ∀ w ∈ lw_tbl, (w.faceAtom && w.onTables) = true → w.before #[] U = true
theorem Fst.warm {s U : State} (hW : s.WarmedH U.vm) (h : Fst s) : Fst U := fun w hw hf => by
  have hf' := hf
  simp only [Bool.and_eq_true] at hf'
  exact va_tabs hf'.2 (rfl : (s.setVm U.vm).vm = U.vm) (Cond.faceAtom_setVm hW.alike w hf'.1 (h w hw hf))
theorem Fst.same {s U : State} (hv : s.vm = U.vm) (h : Fst s) : Fst U := fun w hw hf => by
  have hf' := hf
  simp only [Bool.and_eq_true] at hf'
  exact va_tabs hf'.2 hv (h w hw hf)
def Sst (U : State) : Prop := (∃ a, vk_R RX10 174 "nothing was built" a U) ∧ (∃ a, vk_R RX10 249 "no such stream" a U) ∧ (∃ a, vk_R RX10 181 "no such part of a source" a U) ∧ (∃ a, vk_R RX10 192 "no such side" a U) ∧ (∃ a, vk_R RX10 217 "no such row that is out" a U) ∧ ∃ a, vk_R RX10 223 "no such row that is late" a U
theorem Sst.warm {s U : State} (hW : s.WarmedH U.vm) (h : Sst s) : Sst U := by
  obtain ⟨⟨a, ha⟩, ⟨b, hb⟩, ⟨c, hc⟩, ⟨d, hd⟩, ⟨e, he⟩, ⟨f, hf⟩⟩ := h
  exact ⟨⟨a, ha.warm hW⟩, ⟨b, hb.warm hW⟩, ⟨c, hc.warm hW⟩, ⟨d, hd.warm hW⟩, ⟨e, he.warm hW⟩, ⟨f, hf.warm hW⟩⟩
theorem Sst.same {s U : State} (hv : s.vm = U.vm) (h : Sst s) : Sst U := by
  obtain ⟨⟨a, ha⟩, ⟨b, hb⟩, ⟨c, hc⟩, ⟨d, hd⟩, ⟨e, he⟩, ⟨f, hf⟩⟩ := h
  exact ⟨⟨a, ha.same hv.symm⟩, ⟨b, hb.same hv.symm⟩, ⟨c, hc.same hv.symm⟩, ⟨d, hd.same hv.symm⟩, ⟨e, he.same hv.symm⟩, ⟨f, hf.same hv.symm⟩⟩
def Xst (A : Nat → Prop) (U : State) (H : Heap) : Prop := vx_Zq Bundle.tN "UNASSIGNED_STACK" Bundle.steD A U H ∧ vx_Zq Bundle.tN "SUPPRESSED_SENTINEL" Bundle.listD A U H ∧ Fst U ∧ Sst U
def PreX (D : va_G) (t : Tys) (M : Mm) (L : List Nat) (sz : Nat) (U : State) : Prop := PreM D t M L sz U ∧ Xst (va_A (va_pl L (wF t M)) sz) U U.heap
def XM (KX : String → Mm → Prop) (D : va_G) (t : Tys) (A : Nat → Prop) : String → State → State → Prop := vx_X (fun _ : Mm × List Nat => True) (fun E u U => KX E u.1 ∧ PosM D t A u U) A
def CxG (Qc : va_G → Tys → (Nat → Prop) → Array Value → State → Outcome → State → Prop) (y : MethodName) (cc : ByteArray) (nl : Nat) (ret : Option FieldType) (rm : Room) (av : List Value) (M : Mm) (KX : String → Mm → Prop) : Prop := ∀ l D t L sz, l.stackTraces = false → vx_Met l y (Cond.code y cc nl ret :: wjU) rm (va_Pc av (PreX D t M L sz)) (Qc D t (va_A (va_pl L (wF t M)) sz)) (XM KX D t (va_A (va_pl L (wF t M)) sz)) rm.cells rm.slots (va_A (va_pl L (wF t M)) sz)
def RqX (X : Cx) (rm : Room) (ret : Option FieldType) (Qc : va_G → Tys → (Nat → Prop) → Array Value → State → Outcome → State → Prop) (KX : String → Mm → Prop) : Prop := match X with
  | (p, l, e, R, s, m, args, below, meth, c, Q, D, t, A, nL) => meth.sig.returnType = ret ∧ Q = vx_MQ below (Qc D t A) (XM KX D t A) args s rm.cells rm.slots A ∧ (∀ x ∈ c.exceptionTable.toList, False) ∧ l.stackTraces = false ∧ Xst A s s.heap
theorem ctx_any {y : MethodName} {cc : ByteArray} {nl : Nat} {ret : Option FieldType} {rm : Room} {av : List Value} {M : Mm} {KX : String → Mm → Prop} (Qc : va_G → Tys → (Nat → Prop) → Array Value → State → Outcome → State → Prop) (hy : plainName y.cls = true) (hlen : (lg_sl av).length ≤ nl)
    (body : ∀ X : Cx, Ok X cc y.cls rm → RqX X rm ret Qc KX → X.2.2.2.2.2.2.2.2.2.2.2.2.2.2 = nl → X.2.2.2.2.2.2.2.2.1.name = y.name → Z X M 0 0 0 (lv_args 0 av) []) : CxG Qc y cc nl ret rm av M KX := by
  intro l D t L sz hlst
  refine vx_ofW (cc := cc) (maxL := nl) (ret := ret) hy rfl ?_
  intro p e s m args below meth c s₁ B hml htab hv
  obtain ⟨rfl, ⟨hsz, hP, hK, hD0, hL, hN⟩, hXs⟩ := hv
  subst hsz
  have hts := atoms_spec (ws := Cond.code y cc nl ret :: wjU) B.pre
  have hW : Wd D t (va_A (va_pl L (wF t M)) s.heap.size) s.heap M L s.heap [] := ⟨hP, hD0.self, va_S.rf, hL⟩
  rw [lg_entry_eq]
  exact body (p, l, e, (headSpec (Cond.code y cc nl ret :: wjU) rm).room, s, m, av.toArray, below, meth, c, vx_MQ below (Qc D t (va_A (va_pl L (wF t M)) s.heap.size)) (XM KX D t (va_A (va_pl L (wF t M)) s.heap.size)) av.toArray s rm.cells rm.slots (va_A (va_pl L (wF t M)) s.heap.size), D, t, va_A (va_pl L (wF t M)) s.heap.size, nl)
    ⟨B.exec, B.bytes, hml, findClass_of_methodNamed B.named, fun w h => hts w (List.mem_cons_of_mem _ h), fun q h => Or.inr h, hK, B.notSynchronized, rfl, hN⟩ ⟨B.returns, rfl, htab, hlst, hXs⟩ rfl (name_of_methodNamed B.named B.method).1 L s.heap [] _ (lv_entry av hlen) hW
section ZX
variable {X : Cx} {cc : ByteArray} {own : String} {rm : Room} {M : Mm} {ce sl pc : Nat} {lv : List (Nat × Value)} {rest : List Value} {ret : Option FieldType} {KX : String → Mm → Prop}
theorem x_iret (hX : Ok X cc own rm) {K : Int32 → Mm → Prop} (hQ : RqX X rm (some .int) (QI K) KX) {v : Int32} (hdg : decode cc pc = .ok (.ireturn, 1)) (h : K v M) : Z X M rm.cells rm.slots pc lv [.int v] := by
  obtain ⟨p, l, e, R, s, m, args, below, meth, c, Q, D, t, A, nL⟩ := X
  obtain ⟨hx, hb, hml, hown, hts, hA, hK, hlk, hRm, hNs⟩ := hX
  obtain ⟨hr, rfl, -, -, -⟩ := hQ
  intro L H locs ls hl hW
  obtain ⟨hP, hD, hS, hL⟩ := hW
  exact vx_ret (W.iret hx hb hr (fun t ht hW => ⟨⟨v, (M, L), rfl, h, by rw [ht]; exact hP, hD, hL⟩, hS.F ht⟩) hS.2.2 hdg hlk)
theorem x_zret (hX : Ok X cc own rm) {K : Int32 → Mm → Prop} (hQ : RqX X rm (some .boolean) (QI K) KX) {v : Int32} (hdg : decode cc pc = .ok (.ireturn, 1)) (hn : bz v) (h : K v M) : Z X M rm.cells rm.slots pc lv [.int v] := by
  obtain ⟨p, l, e, R, s, m, args, below, meth, c, Q, D, t, A, nL⟩ := X
  obtain ⟨hx, hb, hml, hown, hts, hA, hK, hlk, hRm, hNs⟩ := hX
  obtain ⟨hr, rfl, -, -, -⟩ := hQ
  intro L H locs ls hl hW
  obtain ⟨hP, hD, hS, hL⟩ := hW
  exact vx_ret (W.zret hx hb hr (bz_n hn) (fun t ht hW => ⟨⟨v, (M, L), rfl, h, by rw [ht]; exact hP, hD, hL⟩, hS.F ht⟩) hS.2.2 hdg hlk)
theorem x_lret (hX : Ok X cc own rm) {K : Int64 → Mm → Prop} (hQ : RqX X rm (some .long) (QJ K) KX) {v : Int64} (hdg : decode cc pc = .ok (.lreturn, 1)) (h : K v M) : Z X M rm.cells rm.slots pc lv [.long v] := by
  obtain ⟨p, l, e, R, s, m, args, below, meth, c, Q, D, t, A, nL⟩ := X
  obtain ⟨hx, hb, hml, hown, hts, hA, hK, hlk, hRm, hNs⟩ := hX
  obtain ⟨hr, rfl, -, -, -⟩ := hQ
  intro L H locs ls hl hW
  obtain ⟨hP, hD, hS, hL⟩ := hW
  exact vx_ret (W.lret hx hb hr (fun t ht hW => ⟨⟨v, (M, L), rfl, h, by rw [ht]; exact hP, hD, hL⟩, hS.F ht⟩) hS.2.2 hdg hlk)
theorem x_aret (hX : Ok X cc own rm) {K : Option Nat → Mm → Prop} {C : String} (hQ : RqX X rm (some (.object C)) (QR K) KX) {v : Option Nat} (hdg : decode cc pc = .ok (.areturn, 1)) (h : K v M) : Z X M rm.cells rm.slots pc lv [va_rf v] := by
  obtain ⟨p, l, e, R, s, m, args, below, meth, c, Q, D, t, A, nL⟩ := X
  obtain ⟨hx, hb, hml, hown, hts, hA, hK, hlk, hRm, hNs⟩ := hX
  obtain ⟨hr, rfl, -, -, -⟩ := hQ
  intro L H locs ls hl hW
  obtain ⟨hP, hD, hS, hL⟩ := hW
  exact vx_ret (W.aret hx hb hr (Or.inl ⟨_, rfl⟩) (va_rf_or v) (fun t ht hW => ⟨⟨v, (M, L), rfl, h, by rw [ht]; exact hP, hD, hL⟩, hS.F ht⟩) hS.2.2 hdg hlk)
/-- throw new E("text") -/
theorem z_throwS (hX : Ok X cc RX10 rm) {Qc : va_G → Tys → (Nat → Prop) → Array Value → State → Outcome → State → Prop} (hQ : RqX X rm ret Qc KX) {cls text : String} {names : List String} {ik is ic : Nat} (hcls : Bundle.fit cls = true) (hnames : ∀ n ∈ names, Bundle.fit n = true) (w1 : Cond.classLink RX10 ik cls ∈ wjU) (w2 : Cond.initialized cls ∈ wjU) (hstr : ∀ U, Sst U → ∃ a, vk_R RX10 is text a U)
    (hg : ∀ w ∈ (vx_atS RX10 ic cls names).filter goodWord, w ∈ lw_tbl) (hb2 : ∀ w ∈ (vx_atS RX10 ic cls names).filter (fun w => !goodWord w), w ∈ lw_tbl ∧ (w.faceAtom && w.onTables) = true) (hot : ∀ w ∈ Cond.classLink RX10 ik cls :: Cond.initialized cls :: vx_atS RX10 ic cls names, vx_ot w = true)
    (d0 : decode cc pc = .ok (.new ik, 3)) (d3 : decode cc (pc + 3) = .ok (.dup, 1)) (d4 : decode cc (pc + 4) = .ok (.ldc is, 2)) (d6 : decode cc (pc + 6) = .ok (.invokespecial ic, 3)) (d9 : decode cc (pc + 9) = .ok (.athrow, 1))
    (hf : names.length + 3 < rm.frames) (hlo : (rest.map fun v => v.category).sum + (13 * (names.length + 1) + 43) ≤ rm.locals) (hce : ce + 1 ≤ rm.cells) (hsl : sl + 6 ≤ rm.slots) (h : KX cls M) : Z X M ce sl pc lv rest := by
  obtain ⟨p, l, e, R, s, m, args, below, meth, c, Q, D, t, A, nL⟩ := X
  obtain ⟨hx, hb, hml, hown, hts, hA, hK, hlk, hRm, hNs⟩ := hX
  obtain ⟨hr, rfl, htab, hlst, hU, hN, hFs, hSs⟩ := hQ
  intro L H locs ls hl hW
  subst hRm
  obtain ⟨hP, hD, hS, hL⟩ := hW
  obtain ⟨sa, hsa⟩ := hstr s hSs
  refine vx_throwS hx hb hlst hown hcls hnames (hts _ w1) (hts _ w2) hsa ?_ hot hU hN hS (hl.1.trans hml.symm) d0 d3 d4 d6 d9 (fun x hx => (htab x hx).elim) hf hlo hce hsl hlk (fun t9 hal hz hk => ?_) hS.2.2 hce hsl
  · refine vx_hat (B := (vx_atS RX10 ic cls names).filter (fun w => !goodWord w)) (fun w hw => hts w (wjU_mem (hg w hw) (List.mem_filter.mp hw).2)) (fun w hw => hw) (fun w hw => ?_)
    obtain ⟨h1, h2⟩ := hb2 w hw
    have h3 := h2
    simp only [Bool.and_eq_true] at h3
    exact va_tabs h3.2 rfl (hFs w h1 h2)
  · refine ⟨(M, L), trivial, ⟨h, ?_, hD, hL⟩, Nat.le_trans hS.1 hz, fun q h1 h2 => (hk q (Nat.lt_of_lt_of_le h1 hS.1)).trans (hS.2.1 q h1 h2)⟩
    exact hP.kept (fun k q hq => hk q.1 ((hP k q hq).lt))
theorem vx_callq {p : Program} {l : Launch} {e : Env} {R : Room} {s : State} {m : MethodId} {args : Array Value} {below : List Frame} {meth : Method} {c : Code} {H : Heap} {locs : List Loc} {cells slots : Nat} {Q : State → Prop} {mc ms : Nat} {free : Addr → Prop} {A0 A1 : Nat → Prop} {H0 : Heap} {a : Array Value} {ls : Array Slot} {st0 rest : List Value} {pc : Nat} {S SX : Type} {post : Option Nat → S → Prop} {px : SX → Prop} {B : S → State → Prop} {BX : String → SX → State → Prop} {AX : Nat → Prop} (hr : vx_Run p l e R s m args below meth c H locs cells slots mc ms (F0 m pc ls st0) rest (va_Qq post B A1 a) (vx_X px BX AX) free) (hS : va_S A0 H0 H locs) (hA : ∀ q, q < H.size → A1 q → A0 q) (hf : ∀ q, free q → A0 q) (hAX : ∀ q, q < H.size → AX q → A0 q)
    (kx : ∀ (E : String) (ce : Cell) (q9 : Addr) (u : SX) (t : State) (H1 : Heap) (locs1 : List Loc), t.heap = H1 → s.vm.Alike t.vm → px u → BX E u t → H.size ≤ H1.size → (∀ q : Nat, q < H.size → ¬ AX q → H1[q]? = H[q]?) → va_S A0 H0 H1 locs1 → H1[q9]? = some ce → ce.vm = .none → s.vm.findClass E = some ce.cls → vx_W p l e R s m args below meth c H1 locs1 (cells + mc) (slots + ms) Q (F0 m pc ls rest) q9)
    (kk : ∀ (r : Option Nat) (u : S) (t : State) (H1 : Heap) (locs1 : List Loc), t.heap = H1 → s.vm.Alike t.vm → post r u → B u t → H.size ≤ H1.size → (∀ q : Nat, q < H.size → ¬ A1 q → H1[q]? = H[q]?) → va_S A0 H0 H1 locs1 → W p l e R s m args below meth c H1 locs1 (cells + mc) (slots + ms) Q (F0 m (pc + 3) ls (va_rf r :: rest))) : W p l e R s m args below meth c H locs cells slots Q (F0 m pc ls st0) := by
  intro T hT X
  rcases hr T hT X with ⟨v, st₀, t, T', L, h0, X', hL, e1, e2, ⟨⟨r, u, hv, hp, hb⟩, hF⟩, st⟩ | ⟨q, st₀, t, T', L, E, ce, h0, X', hL, e1, e2, ⟨u, hp, hb, hF⟩, hce, hcv, hcl, st⟩
  · cases hv
    obtain ⟨k1, k2, k3⟩ := vx_keep h0 e1 hS hA hf hL hF
    obtain ⟨t2, a1, b1⟩ := kk r u t T'.heap (locs ++ L) e1.symm (by rw [← e2]; exact X'.warmed.alike) hp hb k1 k2 k3 T' rfl X'
    exact ⟨t2, st t2 a1, b1⟩
  · obtain ⟨k1, k2, k3⟩ := vx_keep h0 e1 hS hAX hf hL hF
    obtain ⟨t2, a1, b1⟩ := kx E ce q u t T'.heap (locs ++ L) e1.symm (by rw [← e2]; exact X'.warmed.alike) hp hb k1 k2 k3 (by rw [e1]; exact hce) hcv hcl T' rfl X'
    exact ⟨t2, st.trans a1, b1⟩
theorem Xst.to {D : va_G} {t : Tys} {A : Nat → Prop} {s : State} {L : List Nat} {H : Heap} {locs : List Loc} (hW : Wd D t A s.heap M L H locs) (hA : ∀ q, s.heap.size ≤ q → A q) (h : Xst A s s.heap) {U : State} (hU : U.heap = H) (hWm : s.WarmedH U.vm) : Xst (va_A (va_pl L (wF t M)) H.size) U U.heap := by
  obtain ⟨h1, h2, h3, h4⟩ := h
  have hF := freeM hW hA
  have hk : ∀ a : Nat, a < s.heap.size → ¬ A a → U.heap[a]? = s.heap[a]? := fun a h1 h2 => by rw [hU]; exact hW.2.2.1.2.1 a h1 h2
  exact ⟨((h1.kept hk).narrow hF).moved hWm.alike, ((h2.kept hk).narrow hF).moved hWm.alike, h3.warm hWm, h4.warm hWm⟩
theorem preX {D : va_G} {t : Tys} {A : Nat → Prop} {s : State} {L : List Nat} {H : Heap} {locs : List Loc} {av : List Value} (hW : Wd D t A s.heap M L H locs) (hK : va_K D vwCl (tysL t) s) (hN : Nst t A s) (hA : ∀ q, s.heap.size ≤ q → A q) (hXs : Xst A s s.heap) : PreS s H (va_Pc av (PreX D t M L H.size)) av :=
  ⟨fun a U g mk q => by
    obtain ⟨q0, q1, h1, h2, h3, h4⟩ := q
    have e := (preS (av := av) (s := s) (A := A) hW hK hN hA).1 a U g mk ⟨q0, q1⟩
    exact ⟨e.1, e.2, vx_Zq.moved (U := U.calling g mk a) (Vm.Alike.refl U.vm) h1, vx_Zq.moved (U := U.calling g mk a) (Vm.Alike.refl U.vm) h2, Fst.same (s := U) (U := U.calling g mk a) rfl h3, Sst.same (s := U) (U := U.calling g mk a) rfl h4⟩,
   fun U hU hW1 => ⟨((preS (av := av) hW hK hN hA).2 U hU hW1).1, ((preS (av := av) hW hK hN hA).2 U hU hW1).2, Xst.to hW hA hXs hU hW1⟩⟩
theorem zx_callVR (hX : Ok X cc own rm) {Qc : va_G → Tys → (Nat → Prop) → Array Value → State → Outcome → State → Prop} {ret0 : Option FieldType} (hQ : RqX X rm ret0 Qc KX) {K : Option Nat → Mm → Prop} {y : MethodName} {bc : ByteArray} {mxl ci idx n b N : Nat} {T : u_T} {rmc : Room} {As : List Value} {C : String} {st : List Value} (hM : CxG (QR K) y bc mxl ret rmc (.ref b :: As) M KX) (hw : VW own idx C y bc mxl ret n) (hc : vwCl[ci]? = some (C, T, N)) (hcl : ci < 15) (hlen : As.length = n) (hst : st = As.reverse ++ .ref b :: rest) (hrm : RoomC rm rmc mxl ce sl) (hwd : (rest.map fun v => v.category).sum ≤ 8) (hdg : decode cc pc = .ok (.invokevirtual idx, 3)) (hk : mK M b = ci + 1) (k : ∀ r M1, K r M1 → Z X M1 (ce + rmc.cells) (sl + rmc.slots) (pc + 3) lv (va_rf r :: rest)) : Z X M ce sl pc lv st := by
  obtain ⟨p, l, e, R, s, m, args, below, meth, c, Q, D, t, A, nL⟩ := X
  obtain ⟨hx, hb, hml, hown, hts, hA, hK, hlk, hRm, hNs⟩ := hX
  obtain ⟨hr, rfl, htab, hlst, hXs⟩ := hQ
  intro L H locs ls hl hW
  subst hRm
  have hF := freeM hW hA
  refine vx_callq (vx_runV (As := As) (rest := rest) ⟨hx, hb, hml, hown, hts⟩ (hM l D t L H.size hlst) (cwV n hts (fun w h => by
    unfold wsV at h
    rcases List.mem_append.mp h with h | h
    · simp only [List.mem_cons, List.not_mem_nil, or_false] at h
      rcases h with rfl | rfl | rfl | rfl
      · exact goodU hw.1.1
      · exact goodU hw.1.2.1
      · exact goodU hw.1.2.2.1
      · exact goodU hw.1.2.2.2.1
    · exact goodU_ws hw.1.2.2.2.2 w h) rfl rfl rfl hw.2 hrm.1) (by
    obtain ⟨q1, hq1⟩ := va_pl_get (X := []) (f := wF t M) ((hW.2.2.2 b).mp (by omega))
    exact ⟨(preX (av := .ref b :: As) hW hK hNs hA hXs).1, va_recv hK hW.1 (ci := ci) (q0 := q1) hc (hq1.trans (by rw [wF_o hk hcl])), (preX (av := .ref b :: As) hW hK hNs hA hXs).2⟩) rfl hlen hl.1 hst (lv_room hwd) hdg hrm.2) hW.2.2.1 (fun q _ h => hF q h) hF (fun q _ h => hF q h) (fun E ce9 q9 u t9 H1 locs1 ht hvm _ hB hz1 hk1 hS1 hce9 hcv9 hcl9 => ?_) (fun r u t9 H1 locs1 ht hvm hw9 hB hz1 hk1 hS1 => ?_)
  · obtain ⟨hKX, hP1, hD1, hL1⟩ := hB
    refine vx_out (fun x hx => (htab x hx).elim) hlk hce9 hcv9 hcl9 (fun t8 ht8 _ => ⟨u, trivial, ⟨hKX, by rw [ht8, ← ht]; exact hP1, hD1.weaken (fun _ _ _ h => hF _ h), hL1⟩, hS1.F ht8⟩) hS1.2.2 hrm.2.1 hrm.2.2
  · obtain ⟨hP1, hD1, hL1⟩ := hB
    rw [ht] at hP1
    exact k r u.1 hw9 u.2 H1 locs1 ls hl ⟨hP1, hD1.weaken (fun _ _ _ h => hF _ h), hS1, hL1⟩
end ZX
