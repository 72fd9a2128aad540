/-! the literals of the reference: the methods of strings on them -/
set_option maxRecDepth 100000 in
theorem me_J0_coder_7d493 : Cond.instanceMethod yJ0_coder_7d493 ∈ wjU ∧ Cond.initialized RJ0 ∈ wjU ∧ Cond.code yJ0_coder_7d493 cJ0_coder_7d493 1 (some .byte) ∈ wjU := ⟨(wjU_i 1273 rfl rfl), (wjU_i 93 rfl rfl), (wjU_i 1275 rfl rfl)⟩
theorem mf_J0_coder_7d493 : yJ0_coder_7d493.cls ≠ "java/lang/invoke/MethodHandle" ∧ yJ0_coder_7d493.cls ≠ "java/lang/invoke/VarHandle" ∧ (parseMethodDescriptor yJ0_coder_7d493.desc).map (fun d => d.parameters.length) = some 0 := ⟨by decide +kernel, by decide +kernel, by decide +kernel⟩
set_option maxRecDepth 100000 in
theorem mw_RJ0_335 : VW RJ0 335 RJ0 yJ0_coder_7d493 cJ0_coder_7d493 1 (some .byte) 0 := ⟨⟨(wjU_i 1272 rfl rfl), me_J0_coder_7d493.1, (wjU_i 1274 rfl rfl), me_J0_coder_7d493.2⟩, rfl, mf_J0_coder_7d493⟩
set_option maxRecDepth 100000 in
theorem me_J0_isLatin1_aae02 : Cond.instanceMethod yJ0_isLatin1_aae02 ∈ wjU ∧ Cond.initialized RJ0 ∈ wjU ∧ Cond.code yJ0_isLatin1_aae02 cJ0_isLatin1_aae02 1 (some .boolean) ∈ wjU := ⟨(wjU_i 1283 rfl rfl), (wjU_i 93 rfl rfl), (wjU_i 1285 rfl rfl)⟩
theorem mf_J0_isLatin1_aae02 : yJ0_isLatin1_aae02.cls ≠ "java/lang/invoke/MethodHandle" ∧ yJ0_isLatin1_aae02.cls ≠ "java/lang/invoke/VarHandle" ∧ (parseMethodDescriptor yJ0_isLatin1_aae02.desc).map (fun d => d.parameters.length) = some 0 := ⟨by decide +kernel, by decide +kernel, by decide +kernel⟩
set_option maxRecDepth 100000 in
theorem mw_RJ0_492 : VW RJ0 492 RJ0 yJ0_isLatin1_aae02 cJ0_isLatin1_aae02 1 (some .boolean) 0 := ⟨⟨(wjU_i 1282 rfl rfl), me_J0_isLatin1_aae02.1, (wjU_i 1284 rfl rfl), me_J0_isLatin1_aae02.2⟩, rfl, mf_J0_isLatin1_aae02⟩
set_option maxRecDepth 100000 in
theorem me_J0_length_8abf5 : Cond.instanceMethod yJ0_length_8abf5 ∈ wjU ∧ Cond.initialized RJ0 ∈ wjU ∧ Cond.code yJ0_length_8abf5 cJ0_length_8abf5 1 (some .int) ∈ wjU := ⟨(wjU_i 1269 rfl rfl), (wjU_i 93 rfl rfl), (wjU_i 1271 rfl rfl)⟩
theorem mf_J0_length_8abf5 : yJ0_length_8abf5.cls ≠ "java/lang/invoke/MethodHandle" ∧ yJ0_length_8abf5.cls ≠ "java/lang/invoke/VarHandle" ∧ (parseMethodDescriptor yJ0_length_8abf5.desc).map (fun d => d.parameters.length) = some 0 := ⟨by decide +kernel, by decide +kernel, by decide +kernel⟩
set_option maxRecDepth 100000 in
theorem mw_RJ0_505 : VW RJ0 505 RJ0 yJ0_length_8abf5 cJ0_length_8abf5 1 (some .int) 0 := ⟨⟨(wjU_i 1286 rfl rfl), me_J0_length_8abf5.1, (wjU_i 1270 rfl rfl), me_J0_length_8abf5.2⟩, rfl, mf_J0_length_8abf5⟩
set_option maxRecDepth 100000 in
theorem me_J1_indexOf_4cfef : Cond.static yJ1_indexOf_4cfef ∈ wjU ∧ Cond.initialized RJ1 ∈ wjU ∧ Cond.code yJ1_indexOf_4cfef cJ1_indexOf_4cfef 4 (some .int) ∈ wjU := ⟨(wjU_i 1288 rfl rfl), (wjU_i 94 rfl rfl), (wjU_i 1289 rfl rfl)⟩
theorem mf_J1_indexOf_4cfef : yJ1_indexOf_4cfef.cls ≠ "java/lang/invoke/MethodHandle" ∧ yJ1_indexOf_4cfef.cls ≠ "java/lang/invoke/VarHandle" ∧ (parseMethodDescriptor yJ1_indexOf_4cfef.desc).map (fun d => d.parameters.length) = some 4 := ⟨by decide +kernel, by decide +kernel, by decide +kernel⟩
set_option maxRecDepth 100000 in
theorem mw_RJ0_637 : SW RJ0 637 yJ1_indexOf_4cfef cJ1_indexOf_4cfef 4 (some .int) 4 := ⟨⟨(wjU_i 1287 rfl rfl), me_J1_indexOf_4cfef.1, me_J1_indexOf_4cfef.2⟩, mf_J1_indexOf_4cfef⟩
set_option maxRecDepth 100000 in
theorem me_J1_charAt_3b067 : Cond.static yJ1_charAt_3b067 ∈ wjU ∧ Cond.initialized RJ1 ∈ wjU ∧ Cond.code yJ1_charAt_3b067 cJ1_charAt_3b067 2 (some .char) ∈ wjU := ⟨(wjU_i 1356 rfl rfl), (wjU_i 94 rfl rfl), (wjU_i 1357 rfl rfl)⟩
theorem mf_J1_charAt_3b067 : yJ1_charAt_3b067.cls ≠ "java/lang/invoke/MethodHandle" ∧ yJ1_charAt_3b067.cls ≠ "java/lang/invoke/VarHandle" ∧ (parseMethodDescriptor yJ1_charAt_3b067.desc).map (fun d => d.parameters.length) = some 2 := ⟨by decide +kernel, by decide +kernel, by decide +kernel⟩
set_option maxRecDepth 100000 in
theorem mw_RJ0_495 : SW RJ0 495 yJ1_charAt_3b067 cJ1_charAt_3b067 2 (some .char) 2 := ⟨⟨(wjU_i 1355 rfl rfl), me_J1_charAt_3b067.1, me_J1_charAt_3b067.2⟩, mf_J1_charAt_3b067⟩
set_option maxRecDepth 100000 in
theorem me_J3_checkIndex_8e157 : Cond.static yJ3_checkIndex_8e157 ∈ wjU ∧ Cond.initialized RJ3 ∈ wjU ∧ Cond.code yJ3_checkIndex_8e157 cJ3_checkIndex_8e157 3 (some .int) ∈ wjU := ⟨(wjU_i 1362 rfl rfl), (wjU_i 97 rfl rfl), (wjU_i 1363 rfl rfl)⟩
theorem mf_J3_checkIndex_8e157 : yJ3_checkIndex_8e157.cls ≠ "java/lang/invoke/MethodHandle" ∧ yJ3_checkIndex_8e157.cls ≠ "java/lang/invoke/VarHandle" ∧ (parseMethodDescriptor yJ3_checkIndex_8e157.desc).map (fun d => d.parameters.length) = some 3 := ⟨by decide +kernel, by decide +kernel, by decide +kernel⟩
set_option maxRecDepth 100000 in
theorem mw_RJ0_1059 : SW RJ0 1059 yJ3_checkIndex_8e157 cJ3_checkIndex_8e157 3 (some .int) 3 := ⟨⟨(wjU_i 1361 rfl rfl), me_J3_checkIndex_8e157.1, me_J3_checkIndex_8e157.2⟩, mf_J3_checkIndex_8e157⟩
set_option maxRecDepth 100000 in
theorem me_J0_checkIndex_df160 : Cond.static yJ0_checkIndex_df160 ∈ wjU ∧ Cond.initialized RJ0 ∈ wjU ∧ Cond.code yJ0_checkIndex_df160 cJ0_checkIndex_df160 2 none ∈ wjU := ⟨(wjU_i 1359 rfl rfl), (wjU_i 93 rfl rfl), (wjU_i 1360 rfl rfl)⟩
theorem mf_J0_checkIndex_df160 : yJ0_checkIndex_df160.cls ≠ "java/lang/invoke/MethodHandle" ∧ yJ0_checkIndex_df160.cls ≠ "java/lang/invoke/VarHandle" ∧ (parseMethodDescriptor yJ0_checkIndex_df160.desc).map (fun d => d.parameters.length) = some 2 := ⟨by decide +kernel, by decide +kernel, by decide +kernel⟩
set_option maxRecDepth 100000 in
theorem mw_RJ1_9 : SW RJ1 9 yJ0_checkIndex_df160 cJ0_checkIndex_df160 2 none 2 := ⟨⟨(wjU_i 1358 rfl rfl), me_J0_checkIndex_df160.1, me_J0_checkIndex_df160.2⟩, mf_J0_checkIndex_df160⟩
set_option maxRecDepth 100000 in
theorem me_J1_canEncode_9a6ad : Cond.static yJ1_canEncode_9a6ad ∈ wjU ∧ Cond.initialized RJ1 ∈ wjU ∧ Cond.code yJ1_canEncode_9a6ad cJ1_canEncode_9a6ad 1 (some .boolean) ∈ wjU := ⟨(wjU_i 1291 rfl rfl), (wjU_i 94 rfl rfl), (wjU_i 1292 rfl rfl)⟩
theorem mf_J1_canEncode_9a6ad : yJ1_canEncode_9a6ad.cls ≠ "java/lang/invoke/MethodHandle" ∧ yJ1_canEncode_9a6ad.cls ≠ "java/lang/invoke/VarHandle" ∧ (parseMethodDescriptor yJ1_canEncode_9a6ad.desc).map (fun d => d.parameters.length) = some 1 := ⟨by decide +kernel, by decide +kernel, by decide +kernel⟩
set_option maxRecDepth 100000 in
theorem mw_RJ1_88 : SW RJ1 88 yJ1_canEncode_9a6ad cJ1_canEncode_9a6ad 1 (some .boolean) 1 := ⟨⟨(wjU_i 1290 rfl rfl), me_J1_canEncode_9a6ad.1, me_J1_canEncode_9a6ad.2⟩, mf_J1_canEncode_9a6ad⟩
set_option maxRecDepth 100000 in
theorem me_J1_indexOfChar_4cfef : Cond.static yJ1_indexOfChar_4cfef ∈ wjU ∧ Cond.initialized RJ1 ∈ wjU ∧ Cond.code yJ1_indexOfChar_4cfef cJ1_indexOfChar_4cfef 6 (some .int) ∈ wjU := ⟨(wjU_i 1300 rfl rfl), (wjU_i 94 rfl rfl), (wjU_i 1301 rfl rfl)⟩
theorem mf_J1_indexOfChar_4cfef : yJ1_indexOfChar_4cfef.cls ≠ "java/lang/invoke/MethodHandle" ∧ yJ1_indexOfChar_4cfef.cls ≠ "java/lang/invoke/VarHandle" ∧ (parseMethodDescriptor yJ1_indexOfChar_4cfef.desc).map (fun d => d.parameters.length) = some 4 := ⟨by decide +kernel, by decide +kernel, by decide +kernel⟩
set_option maxRecDepth 100000 in
theorem mw_RJ1_95 : SW RJ1 95 yJ1_indexOfChar_4cfef cJ1_indexOfChar_4cfef 6 (some .int) 4 := ⟨⟨(wjU_i 1299 rfl rfl), me_J1_indexOfChar_4cfef.1, me_J1_indexOfChar_4cfef.2⟩, mf_J1_indexOfChar_4cfef⟩
set_option maxRecDepth 100000 in
theorem mw_RX11_167 : VW RX11 167 RJ0 yJ0_length_8abf5 cJ0_length_8abf5 1 (some .int) 0 := ⟨⟨(wjU_i 1268 rfl rfl), me_J0_length_8abf5.1, (wjU_i 1270 rfl rfl), me_J0_length_8abf5.2⟩, rfl, mf_J0_length_8abf5⟩
set_option maxRecDepth 100000 in
theorem me_J0_indexOf_7cf53 : Cond.instanceMethod yJ0_indexOf_7cf53 ∈ wjU ∧ Cond.initialized RJ0 ∈ wjU ∧ Cond.code yJ0_indexOf_7cf53 cJ0_indexOf_7cf53 3 (some .int) ∈ wjU := ⟨(wjU_i 1279 rfl rfl), (wjU_i 93 rfl rfl), (wjU_i 1281 rfl rfl)⟩
theorem mf_J0_indexOf_7cf53 : yJ0_indexOf_7cf53.cls ≠ "java/lang/invoke/MethodHandle" ∧ yJ0_indexOf_7cf53.cls ≠ "java/lang/invoke/VarHandle" ∧ (parseMethodDescriptor yJ0_indexOf_7cf53.desc).map (fun d => d.parameters.length) = some 2 := ⟨by decide +kernel, by decide +kernel, by decide +kernel⟩
set_option maxRecDepth 100000 in
theorem mw_RX11_173 : VW RX11 173 RJ0 yJ0_indexOf_7cf53 cJ0_indexOf_7cf53 3 (some .int) 2 := ⟨⟨(wjU_i 1278 rfl rfl), me_J0_indexOf_7cf53.1, (wjU_i 1280 rfl rfl), me_J0_indexOf_7cf53.2⟩, rfl, mf_J0_indexOf_7cf53⟩
set_option maxRecDepth 100000 in
theorem me_J0_charAt_5068e : Cond.instanceMethod yJ0_charAt_5068e ∈ wjU ∧ Cond.initialized RJ0 ∈ wjU ∧ Cond.code yJ0_charAt_5068e cJ0_charAt_5068e 2 (some .char) ∈ wjU := ⟨(wjU_i 1352 rfl rfl), (wjU_i 93 rfl rfl), (wjU_i 1354 rfl rfl)⟩
theorem mf_J0_charAt_5068e : yJ0_charAt_5068e.cls ≠ "java/lang/invoke/MethodHandle" ∧ yJ0_charAt_5068e.cls ≠ "java/lang/invoke/VarHandle" ∧ (parseMethodDescriptor yJ0_charAt_5068e.desc).map (fun d => d.parameters.length) = some 1 := ⟨by decide +kernel, by decide +kernel, by decide +kernel⟩
set_option maxRecDepth 100000 in
theorem mw_RX11_177 : VW RX11 177 RJ0 yJ0_charAt_5068e cJ0_charAt_5068e 2 (some .char) 1 := ⟨⟨(wjU_i 1351 rfl rfl), me_J0_charAt_5068e.1, (wjU_i 1353 rfl rfl), me_J0_charAt_5068e.2⟩, rfl, mf_J0_charAt_5068e⟩
set_option maxRecDepth 100000 in
theorem fl_RJ0_38 : Cond.fieldLink RJ0 38 "java/lang/String" "COMPACT_STRINGS" "Z" ∈ wjU := (wjU_i 1276 rfl rfl)
set_option maxRecDepth 100000 in
theorem fl_RJ0_1053 : Cond.fieldLink RJ0 1053 "jdk/internal/util/Preconditions" "SIOOBE_FORMATTER" "Ljava/util/function/BiFunction;" ∈ wjU := (wjU_i 1320 rfl rfl)
set_option maxRecDepth 100000 in
theorem fl_RJ0_9 : Cond.fieldLink RJ0 9 "java/lang/String" "value" "[B" ∈ wjU := (wjU_i 1667 rfl rfl)
set_option maxRecDepth 100000 in
theorem fl_RJ0_15 : Cond.fieldLink RJ0 15 "java/lang/String" "coder" "B" ∈ wjU := (wjU_i 1668 rfl rfl)
set_option maxRecDepth 100000 in
theorem mm_max : Cond.methodLink RJ1 92 Lib.Math.max.name ∈ wjU ∧ Cond.static Lib.Math.max.name ∈ wjU ∧ Cond.initialized "java/lang/Math" ∈ wjU ∧ Cond.code Lib.Math.max.name Lib.Math.max.code 2 (some .int) ∈ wjU := ⟨(wjU_i 1293 rfl rfl), (wjU_i 1294 rfl rfl), (wjU_i 95 rfl rfl), (wjU_i 1295 rfl rfl)⟩
set_option maxRecDepth 100000 in
theorem mm_min : Cond.methodLink RJ1 38 Lib.Math.min.name ∈ wjU ∧ Cond.static Lib.Math.min.name ∈ wjU ∧ Cond.initialized "java/lang/Math" ∈ wjU ∧ Cond.code Lib.Math.min.name Lib.Math.min.code 2 (some .int) ∈ wjU := ⟨(wjU_i 1296 rfl rfl), (wjU_i 1297 rfl rfl), (wjU_i 95 rfl rfl), (wjU_i 1298 rfl rfl)⟩
def tX (X : Cx) : Tys := X.2.2.2.2.2.2.2.2.2.2.2.2.1
def CtIt (y : MethodName) (cc : ByteArray) (nl : Nat) (ret : Option FieldType) (rm : Room) (av : Tys → List Value) (M : Mm) (K : Int32 → Mm → Prop) : Prop := ∀ l D t L sz, Met l y (Cond.code y cc nl ret :: wjU) rm (va_Pc (av t) (PreM D t M L sz)) (va_Qi (fun r (u : Mm × List Nat) => K r u.1) (PosM D t (va_A (va_pl L (wF t M)) sz)) (va_A (va_pl L (wF t M)) sz)) rm.cells rm.slots (va_A (va_pl L (wF t M)) sz)
def CtVt (y : MethodName) (cc : ByteArray) (nl : Nat) (ret : Option FieldType) (rm : Room) (av : Tys → List Value) (M : Mm) (K : Mm → Prop) : Prop := ∀ l D t L sz, Met l y (Cond.code y cc nl ret :: wjU) rm (va_Pc (av t) (PreM D t M L sz)) (va_Qv (fun (u : Mm × List Nat) => K u.1) (PosM D t (va_A (va_pl L (wF t M)) sz)) (va_A (va_pl L (wF t M)) sz)) rm.cells rm.slots (va_A (va_pl L (wF t M)) sz)
/-- a literal is given back -/
def QS (K : Nat → Mm → Prop) : va_G → Tys → (Nat → Prop) → Array Value → State → Outcome → State → Prop := fun D t A => va_Qq (fun r (u : Mm × List Nat) => ∃ i, i < 11 ∧ r = some (sK t i) ∧ K i u.1) (PosM D t A) A
def CtS (y : MethodName) (cc : ByteArray) (nl : Nat) (ret : Option FieldType) (rm : Room) (av : List Value) (M : Mm) (K : Nat → Mm → Prop) : Prop := ∀ l D t L sz, Met l y (Cond.code y cc nl ret :: wjU) rm (va_Pc av (PreM D t M L sz)) (QS K D t (va_A (va_pl L (wF t M)) sz)) rm.cells rm.slots (va_A (va_pl L (wF t M)) sz)
theorem ct_anyT {y : MethodName} {cc : ByteArray} {nl : Nat} {ret : Option FieldType} {rm : Room} {av : Tys → List Value} {M : Mm} (Qc : va_G → Tys → (Nat → Prop) → Array Value → State → Outcome → State → Prop) (hy : plainName y.cls = true) (hlen : ∀ t, (lg_sl (av t)).length ≤ nl)
    (body : ∀ X : Cx, Ok X cc y.cls rm → Rq X rm ret Qc → X.2.2.2.2.2.2.2.2.2.2.2.2.2.2 = nl → X.2.2.2.2.2.2.2.2.1.name = y.name → Z X M 0 0 0 (lv_args 0 (av (tX X))) []) :
    ∀ l D t L sz, Met l y (Cond.code y cc nl ret :: wjU) rm (va_Pc (av t) (PreM D t M L sz)) (Qc D t (va_A (va_pl L (wF t M)) sz)) rm.cells rm.slots (va_A (va_pl L (wF t M)) sz) := by
  intro l D t L sz
  refine Met.ofW (cc := cc) (maxL := nl) (ret := ret) hy rfl ?_
  intro p e s m args below meth c s₁ B hml hv
  obtain ⟨rfl, hsz, hP, hK, hD0, hL, hN⟩ := hv
  subst hsz
  have hts := atoms_spec (ws := Cond.code y cc nl ret :: wjU) B.pre
  have hW : Wd D t (va_A (va_pl L (wF t M)) s.heap.size) s.heap M L s.heap [] := ⟨hP, hD0.self, va_S.rf, hL⟩
  rw [lg_entry_eq]
  exact body (p, l, e, (headSpec (Cond.code y cc nl ret :: wjU) rm).room, s, m, (av t).toArray, below, meth, c, MQ below (Qc D t (va_A (va_pl L (wF t M)) s.heap.size)) (av t).toArray s rm.cells rm.slots (va_A (va_pl L (wF t M)) s.heap.size), D, t, va_A (va_pl L (wF t M)) s.heap.size, nl)
    ⟨B.exec, B.bytes, hml, findClass_of_methodNamed B.named, fun w h => hts w (List.mem_cons_of_mem _ h), fun q h => Or.inr h, hK, B.notSynchronized, rfl, hN⟩ ⟨B.returns, rfl⟩ rfl (name_of_methodNamed B.named B.method).1 L s.heap [] _ (lv_entry (av t) (hlen t)) hW
section ZS
variable {X : Cx} {cc : ByteArray} {own : String} {rm : Room} {M : Mm} {ce sl pc : Nat} {lv : List (Nat × Value)} {rest : List Value} {ret : Option FieldType}
theorem z_ishr (hX : Ok X cc own rm) {x y : Int32} (hdg : decode cc pc = .ok (.ishr, 1)) (k : Z X M ce sl (pc + 1) lv (.int (x >>> (y &&& 31)) :: rest)) : Z X M ce sl pc lv (.int y :: .int x :: rest) := by
  obtain ⟨p, l, e, R, s, m, args, below, meth, c, Q, D, t, A, nL⟩ := X
  obtain ⟨hx, hb, hml, hown, hts, hA, hK, hlk, hRm, hNs⟩ := hX
  intro L H locs ls hl hW
  exact lv_ishr hx hb hdg (k L H locs ls hl hW)
theorem z_i2c (hX : Ok X cc own rm) {x : Int32} (hdg : decode cc pc = .ok (.i2c, 1)) (k : Z X M ce sl (pc + 1) lv (.int ((x.toUInt32 % 65536).toInt32) :: rest)) : Z X M ce sl pc lv (.int x :: rest) := by
  obtain ⟨p, l, e, R, s, m, args, below, meth, c, Q, D, t, A, nL⟩ := X
  obtain ⟨hx, hb, hml, hown, hts, hA, hK, hlk, hRm, hNs⟩ := hX
  intro L H locs ls hl hW
  exact t_i2c hx hb hdg rfl (k L H locs ls hl hW)
theorem z_nret (hX : Ok X cc own rm) {ty : FieldType} {K : Int32 → Mm → Prop} (hQ : Rq X rm (some ty) (QI K)) {v : Int32} (hdg : decode cc pc = .ok (.ireturn, 1)) (hn : narrow ty (.int v) = .int v) (h : K v M) : Z X M rm.cells rm.slots pc lv [.int v] := by
  obtain ⟨p, l, e, R, s, m, args, below, meth, c, Q, D, t, A, nL⟩ := X
  obtain ⟨hx, hb, hml, hown, hts, hA, hK, hlk, hRm, hNs⟩ := hX
  obtain ⟨hr, rfl⟩ := hQ
  intro L H locs ls hl hW
  obtain ⟨hP, hD, hS, hL⟩ := hW
  exact W.zret hx hb hr hn (fun t ht hW => ⟨⟨v, (M, L), rfl, h, by rw [ht]; exact hP, hD, hL⟩, hS.F ht⟩) hS.2.2 hdg hlk
theorem z_sret (hX : Ok X cc own rm) {K : Nat → Mm → Prop} {C : String} (hQ : Rq X rm (some (.object C)) (QS K)) {i : Nat} (hi : i < 11) (hdg : decode cc pc = .ok (.areturn, 1)) (h : K i M) : Z X M rm.cells rm.slots pc lv [va_rf (some (sK (tX X) i))] := by
  obtain ⟨p, l, e, R, s, m, args, below, meth, c, Q, D, t, A, nL⟩ := X
  obtain ⟨hx, hb, hml, hown, hts, hA, hK, hlk, hRm, hNs⟩ := hX
  obtain ⟨hr, rfl⟩ := hQ
  intro L H locs ls hl hW
  obtain ⟨hP, hD, hS, hL⟩ := hW
  exact W.aret hx hb hr (Or.inl ⟨_, rfl⟩) (va_rf_or (some (sK t i))) (fun t9 ht hW => ⟨⟨some (sK t i), (M, L), rfl, ⟨i, hi, rfl, h⟩, by rw [ht]; exact hP, hD, hL⟩, hS.F ht⟩) hS.2.2 hdg hlk
theorem z_ldcS (hX : Ok X cc RX11 rm) {i idx : Nat} (hi : i < 11) (hix : sIx i = idx) (hdg : decode cc pc = .ok (.ldc idx, 2)) (k : Z X M ce sl (pc + 2) lv (va_rf (some (sK (tX X) i)) :: rest)) : Z X M ce sl pc lv rest := by
  obtain ⟨p, l, e, R, s, m, args, below, meth, c, Q, D, t, A, nL⟩ := X
  obtain ⟨hx, hb, hml, hown, hts, hA, hK, hlk, hRm, hNs⟩ := hX
  intro L H locs ls hl hW
  subst hix
  exact va_ldcS hx hb hown (hNs.2.2.2.2 i hi) hdg (k L H locs ls hl hW)
theorem z_ldcSW (hX : Ok X cc RX11 rm) {i idx : Nat} (hi : i < 11) (hix : sIx i = idx) (hdg : decode cc pc = .ok (.ldc_w idx, 3)) (k : Z X M ce sl (pc + 3) lv (va_rf (some (sK (tX X) i)) :: rest)) : Z X M ce sl pc lv rest := by
  obtain ⟨p, l, e, R, s, m, args, below, meth, c, Q, D, t, A, nL⟩ := X
  obtain ⟨hx, hb, hml, hown, hts, hA, hK, hlk, hRm, hNs⟩ := hX
  intro L H locs ls hl hW
  subst hix
  have hZ := hNs.2.2.2.2 i hi
  intro T hT X
  obtain ⟨t9, a1, b1⟩ := k L H locs ls hl hW T hT X
  exact ⟨t9, X.ldcStringW hx hown (text := sTx i) (a := sK t i) hZ.1 hZ.2 (g := F0 m pc ls rest) rfl (by rw [hb]; exact hdg) t9 a1, b1⟩
theorem z_sval (hX : Ok X cc RJ0 rm) {i : Nat} (hi : i < 11) (hdg : decode cc pc = .ok (.getfield 9, 3)) (k : Z X M ce sl (pc + 3) lv (va_rf (some (sV (tX X) i)) :: rest)) : Z X M ce sl pc lv (va_rf (some (sK (tX X) i)) :: rest) := by
  obtain ⟨p, l, e, R, s, m, args, below, meth, c, Q, D, t, A, nL⟩ := X
  obtain ⟨hx, hb, hml, hown, hts, hA, hK, hlk, hRm, hNs⟩ := hX
  intro L H locs ls hl hW
  exact vk_getf hx hb (hNs.2.1 i hi).2.2.1 hW.2.2.1 hown (hts _ fl_RJ0_9) (fun _ h => h) hdg (k L H locs ls hl hW)
theorem z_scod (hX : Ok X cc RJ0 rm) {i : Nat} (hi : i < 11) (hdg : decode cc pc = .ok (.getfield 15, 3)) (k : Z X M ce sl (pc + 3) lv (.int 0 :: rest)) : Z X M ce sl pc lv (va_rf (some (sK (tX X) i)) :: rest) := by
  obtain ⟨p, l, e, R, s, m, args, below, meth, c, Q, D, t, A, nL⟩ := X
  obtain ⟨hx, hb, hml, hown, hts, hA, hK, hlk, hRm, hNs⟩ := hX
  intro L H locs ls hl hW
  exact vk_getf hx hb (hNs.2.1 i hi).2.1 hW.2.2.1 hown (hts _ fl_RJ0_15) (fun _ h => h) hdg (k L H locs ls hl hW)
theorem z_sarl (hX : Ok X cc own rm) {i : Nat} (hi : i < 11) (hdg : decode cc pc = .ok (.arraylength, 1)) (k : Z X M ce sl (pc + 1) lv (.int (nI (slen i)) :: rest)) : Z X M ce sl pc lv (va_rf (some (sV (tX X) i)) :: rest) := by
  obtain ⟨p, l, e, R, s, m, args, below, meth, c, Q, D, t, A, nL⟩ := X
  obtain ⟨hx, hb, hml, hown, hts, hA, hK, hlk, hRm, hNs⟩ := hX
  intro L H locs ls hl hW
  exact va_tlen hx hb (hNs.2.1 i hi).2.2.2 hW.2.2.1 rfl hdg (k L H locs ls hl hW)
theorem z_sbal (hX : Ok X cc own rm) {i : Nat} {j : Int32} (hi : i < 11) (hj : vp_in j (slen i)) (hdg : decode cc pc = .ok (.baload, 1)) (k : Z X M ce sl (pc + 1) lv (.int (sby i j.toNatClampNeg) :: rest)) : Z X M ce sl pc lv (.int j :: va_rf (some (sV (tX X) i)) :: rest) := by
  obtain ⟨p, l, e, R, s, m, args, below, meth, c, Q, D, t, A, nL⟩ := X
  obtain ⟨hx, hb, hml, hown, hts, hA, hK, hlk, hRm, hNs⟩ := hX
  intro L H locs ls hl hW
  exact va_tb hx hb (hNs.2.1 i hi).2.2.2 hW.2.2.1 hj rfl hdg (k L H locs ls hl hW)
theorem z_gsC (hX : Ok X cc RJ0 rm) (hdg : decode cc pc = .ok (.getstatic 38, 3)) (k : Z X M ce sl (pc + 3) lv (.int 1 :: rest)) : Z X M ce sl pc lv rest := by
  obtain ⟨p, l, e, R, s, m, args, below, meth, c, Q, D, t, A, nL⟩ := X
  obtain ⟨hx, hb, hml, hown, hts, hA, hK, hlk, hRm, hNs⟩ := hX
  intro L H locs ls hl hW
  exact va_gets hx hb hNs.2.2.1 hW.2.2.1 hown (hts _ fl_RJ0_38) (fun _ h => h) hdg (k L H locs ls hl hW)
theorem z_gsF (hX : Ok X cc RJ0 rm) (hdg : decode cc pc = .ok (.getstatic 1053, 3)) (k : ∀ r : Option Nat, Z X M ce sl (pc + 3) lv (va_rf r :: rest)) : Z X M ce sl pc lv rest := by
  obtain ⟨p, l, e, R, s, m, args, below, meth, c, Q, D, t, A, nL⟩ := X
  obtain ⟨hx, hb, hml, hown, hts, hA, hK, hlk, hRm, hNs⟩ := hX
  intro L H locs ls hl hW
  rcases hNs.2.2.2.1 with h | ⟨q, h⟩
  · exact va_gets hx hb h hW.2.2.1 hown (hts _ fl_RJ0_1053) (fun _ h => h) hdg (k none L H locs ls hl hW)
  · exact va_gets hx hb h hW.2.2.1 hown (hts _ fl_RJ0_1053) (fun _ h => h) hdg (k (some q) L H locs ls hl hW)
theorem z_mmaxi (hX : Ok X cc RJ1 rm) {x y : Int32} (hf : 1 ≤ rm.frames) (hlo : (rest.map fun v => v.category).sum + 13 ≤ rm.locals) (hc : ce ≤ rm.cells) (hs : sl ≤ rm.slots) (hdg : decode cc pc = .ok (.invokestatic 92, 3)) (k : Z X M ce sl (pc + 3) lv (.int (if x < y then y else x) :: rest)) : Z X M ce sl pc lv (.int y :: .int x :: rest) := by
  obtain ⟨p, l, e, R, s, m, args, below, meth, c, Q, D, t, A, nL⟩ := X
  obtain ⟨hx, hb, hml, hown, hts, hA, hK, hlk, hRm, hNs⟩ := hX
  intro L H locs ls hl hW
  subst hRm
  exact va_mmax hx hb (by rw [hml]; exact hl.1.symm) hown (hts _ mm_max.1) (hts _ mm_max.2.1) (hts _ mm_max.2.2.1) (hts _ mm_max.2.2.2) hf hlo hc hs hdg (k L H locs ls hl hW)
theorem z_mmini (hX : Ok X cc RJ1 rm) {x y : Int32} (hf : 1 ≤ rm.frames) (hlo : (rest.map fun v => v.category).sum + 13 ≤ rm.locals) (hc : ce ≤ rm.cells) (hs : sl ≤ rm.slots) (hdg : decode cc pc = .ok (.invokestatic 38, 3)) (k : Z X M ce sl (pc + 3) lv (.int (if y < x then y else x) :: rest)) : Z X M ce sl pc lv (.int y :: .int x :: rest) := by
  obtain ⟨p, l, e, R, s, m, args, below, meth, c, Q, D, t, A, nL⟩ := X
  obtain ⟨hx, hb, hml, hown, hts, hA, hK, hlk, hRm, hNs⟩ := hX
  intro L H locs ls hl hW
  subst hRm
  exact va_mmin hx hb (by rw [hml]; exact hl.1.symm) hown (hts _ mm_min.1) (hts _ mm_min.2.1) (hts _ mm_min.2.2.1) (hts _ mm_min.2.2.2) hf hlo hc hs hdg (k L H locs ls hl hW)
/-- a method of a literal -/
theorem z_callVIs (hX : Ok X cc own rm) {K : Int32 → Mm → Prop} {y : MethodName} {bc : ByteArray} {mxl idx n i : Nat} {rmc : Room} {As : List Value} {st : List Value} (hi : i < 11) (hM : CtIt y bc mxl ret rmc (fun t => .ref (sK t i) :: As) M K) (hw : VW own idx RJ0 y bc mxl ret n) (hlen : As.length = n) (hst : st = As.reverse ++ .ref (sK (tX X) i) :: rest) (hrm : RoomC rm rmc mxl ce sl) (hwd : (rest.map fun v => v.category).sum ≤ 8) (hdg : decode cc pc = .ok (.invokevirtual idx, 3)) (k : ∀ r M1, K r M1 → Z X M1 (ce + rmc.cells) (sl + rmc.slots) (pc + 3) lv (.int r :: rest)) : Z X M ce sl pc lv st := by
  obtain ⟨p, l, e, R, s, m, args, below, meth, c, Q, D, t, A, nL⟩ := X
  obtain ⟨hx, hb, hml, hown, hts, hA, hK, hlk, hRm, hNs⟩ := hX
  intro L H locs ls hl hW
  subst hRm
  have hF := freeM hW hA
  refine va_calli (va_runV (As := As) (rest := rest) ⟨hx, hb, hml, hown, hts⟩ (hM l D t L H.size) (cwV n hts (fun w h => by
    unfold wsV at h
    rcases List.mem_append.mp h with h | h
    · simp only [List.mem_cons, List.not_mem_nil, or_false] at h
      rcases h with rfl | rfl | rfl | rfl
      · exact goodU hw.1.1
      · exact goodU hw.1.2.1
      · exact goodU hw.1.2.2.1
      · exact goodU hw.1.2.2.2.1
    · exact goodU_ws hw.1.2.2.2.2 w h) rfl rfl rfl hw.2 hrm.1) (by
    obtain ⟨cell, h1, h2, h3, -⟩ := (hNs.2.1 i hi).1.kept hW.2.2.1.2.1
    exact ⟨(preS (av := .ref (sK t i) :: As) hW hK hNs hA).1, ⟨cell, h1, h2, h3⟩, (preS (av := .ref (sK t i) :: As) hW hK hNs hA).2⟩) rfl hlen hl.1 hst (lv_room hwd) hdg hrm.2) hW.2.2.1 (fun q _ h => hF q h) hF (fun r u t9 H1 locs1 ht hvm hw hB hz1 hk1 hS1 => ?_)
  obtain ⟨hP1, hD1, hL1⟩ := hB
  rw [ht] at hP1
  exact k r u.1 hw u.2 H1 locs1 ls hl ⟨hP1, hD1.weaken (fun _ _ _ h => hF _ h), hS1, hL1⟩
theorem z_callSIt (hX : Ok X cc own rm) {K : Int32 → Mm → Prop} {y : MethodName} {bc : ByteArray} {mxl idx n : Nat} {rmc : Room} {As : Tys → List Value} {st : List Value} (hM : CtIt y bc mxl ret rmc As M K) (hw : SW own idx y bc mxl ret n) (hlen : (As (tX X)).length = n) (hst : st = (As (tX X)).reverse ++ rest) (hrm : RoomC rm rmc mxl ce sl) (hwd : (rest.map fun v => v.category).sum ≤ 8) (hdg : decode cc pc = .ok (.invokestatic idx, 3)) (k : ∀ r M1, K r M1 → Z X M1 (ce + rmc.cells) (sl + rmc.slots) (pc + 3) lv (.int r :: rest)) : Z X M ce sl pc lv st := by
  obtain ⟨p, l, e, R, s, m, args, below, meth, c, Q, D, t, A, nL⟩ := X
  obtain ⟨hx, hb, hml, hown, hts, hA, hK, hlk, hRm, hNs⟩ := hX
  intro L H locs ls hl hW
  subst hRm
  have hF := freeM hW hA
  refine va_calli (va_runS (As := As t) (rest := rest) ⟨hx, hb, hml, hown, hts⟩ (hM l D t L H.size) (va_cwS n hts (fun w h => by
    unfold va_wsS at h
    rcases List.mem_append.mp h with h | h
    · simp only [List.mem_cons, List.not_mem_nil, or_false] at h
      rcases h with rfl | rfl | rfl
      · exact goodU hw.1.1
      · exact goodU hw.1.2.1
      · exact goodU hw.1.2.2.1
    · exact goodU_ws hw.1.2.2.2 w h) rfl rfl rfl hw.2 hrm.1) (preS (av := As t) hW hK hNs hA) rfl hlen hl.1 hst (lv_room hwd) hdg hrm.2) hW.2.2.1 (fun q _ h => hF q h) hF (fun r u t9 H1 locs1 ht hvm hw hB hz1 hk1 hS1 => ?_)
  obtain ⟨hP1, hD1, hL1⟩ := hB
  rw [ht] at hP1
  exact k r u.1 hw u.2 H1 locs1 ls hl ⟨hP1, hD1.weaken (fun _ _ _ h => hF _ h), hS1, hL1⟩
/-- a method of the reference that gets a literal -/
theorem z_callVVt (hX : Ok X cc own rm) {K : Mm → Prop} {y : MethodName} {bc : ByteArray} {mxl ci idx n b N i : Nat} {T : u_T} {rmc : Room} {C : String} {st : List Value} (hM : CtVt y bc mxl ret rmc (fun t => [.ref b, .ref (sK t i)]) M K) (hw : VW own idx C y bc mxl ret n) (hc : vwCl[ci]? = some (C, T, N)) (hcl : ci < 15) (hlen : 1 = n) (hst : st = va_rf (some (sK (tX X) i)) :: .ref b :: rest) (hrm : RoomC rm rmc mxl ce sl) (hwd : (rest.map fun v => v.category).sum ≤ 8) (hdg : decode cc pc = .ok (.invokevirtual idx, 3)) (hk : mK M b = ci + 1) (k : ∀ M1, K M1 → Z X M1 (ce + rmc.cells) (sl + rmc.slots) (pc + 3) lv rest) : Z X M ce sl pc lv st := by
  obtain ⟨p, l, e, R, s, m, args, below, meth, c, Q, D, t, A, nL⟩ := X
  obtain ⟨hx, hb, hml, hown, hts, hA, hK, hlk, hRm, hNs⟩ := hX
  intro L H locs ls hl hW
  subst hRm
  have hF := freeM hW hA
  refine va_callv (va_runV (As := [.ref (sK t i)]) (rest := rest) ⟨hx, hb, hml, hown, hts⟩ (hM l D t L H.size) (cwV n hts (fun w h => by
    unfold wsV at h
    rcases List.mem_append.mp h with h | h
    · simp only [List.mem_cons, List.not_mem_nil, or_false] at h
      rcases h with rfl | rfl | rfl | rfl
      · exact goodU hw.1.1
      · exact goodU hw.1.2.1
      · exact goodU hw.1.2.2.1
      · exact goodU hw.1.2.2.2.1
    · exact goodU_ws hw.1.2.2.2.2 w h) rfl rfl rfl hw.2 hrm.1) (by
    obtain ⟨q1, hq1⟩ := va_pl_get (X := []) (f := wF t M) ((hW.2.2.2 b).mp (by omega))
    exact ⟨(preS (av := [.ref b, .ref (sK t i)]) hW hK hNs hA).1, va_recv hK hW.1 (ci := ci) (q0 := q1) hc (hq1.trans (by rw [wF_o hk hcl])), (preS (av := [.ref b, .ref (sK t i)]) hW hK hNs hA).2⟩) rfl hlen hl.1 hst (lv_room hwd) hdg hrm.2) hW.2.2.1 (fun q _ h => hF q h) hF (fun u t9 H1 locs1 ht hvm hw hB hz1 hk1 hS1 => ?_)
  obtain ⟨hP1, hD1, hL1⟩ := hB
  rw [ht] at hP1
  exact k u.1 hw u.2 H1 locs1 ls hl ⟨hP1, hD1.weaken (fun _ _ _ h => hF _ h), hS1, hL1⟩
/-- a static method that gives a literal -/
theorem z_callSS (hX : Ok X cc own rm) {K : Nat → Mm → Prop} {y : MethodName} {bc : ByteArray} {mxl idx n : Nat} {rmc : Room} {As : List Value} {st : List Value} (hM : CtS y bc mxl ret rmc As M K) (hw : SW own idx y bc mxl ret n) (hlen : As.length = n) (hst : st = As.reverse ++ rest) (hrm : RoomC rm rmc mxl ce sl) (hwd : (rest.map fun v => v.category).sum ≤ 8) (hdg : decode cc pc = .ok (.invokestatic idx, 3)) (k : ∀ i M1, i < 11 → K i M1 → Z X M1 (ce + rmc.cells) (sl + rmc.slots) (pc + 3) lv (va_rf (some (sK (tX X) i)) :: rest)) : Z X M ce sl pc lv st := by
  obtain ⟨p, l, e, R, s, m, args, below, meth, c, Q, D, t, A, nL⟩ := X
  obtain ⟨hx, hb, hml, hown, hts, hA, hK, hlk, hRm, hNs⟩ := hX
  intro L H locs ls hl hW
  subst hRm
  have hF := freeM hW hA
  refine va_callq (va_runS (As := As) (rest := rest) ⟨hx, hb, hml, hown, hts⟩ (hM l D t L H.size) (va_cwS n hts (fun w h => by
    unfold va_wsS at h
    rcases List.mem_append.mp h with h | h
    · simp only [List.mem_cons, List.not_mem_nil, or_false] at h
      rcases h with rfl | rfl | rfl
      · exact goodU hw.1.1
      · exact goodU hw.1.2.1
      · exact goodU hw.1.2.2.1
    · exact goodU_ws hw.1.2.2.2 w h) rfl rfl rfl hw.2 hrm.1) (preS (av := As) hW hK hNs hA) rfl hlen hl.1 hst (lv_room hwd) hdg hrm.2) hW.2.2.1 (fun q _ h => hF q h) hF (fun r u t9 H1 locs1 ht hvm hw hB hz1 hk1 hS1 => ?_)
  obtain ⟨hP1, hD1, hL1⟩ := hB
  rw [ht] at hP1
  obtain ⟨i, hi, rfl, hk⟩ := hw
  exact k i u.1 hi hk u.2 H1 locs1 ls hl ⟨hP1, hD1.weaken (fun _ _ _ h => hF _ h), hS1, hL1⟩
end ZS
def rm_s0 : Room := { frames := 0, cells := 0, slots := 0, locals := 0 }
def rm_s1 : Room := { frames := 1, cells := 0, slots := 0, locals := 30 }
def rm_s2 : Room := { frames := 2, cells := 0, slots := 0, locals := 60 }
def rm_s3 : Room := { frames := 3, cells := 0, slots := 0, locals := 90 }
def rm_s4 : Room := { frames := 4, cells := 0, slots := 0, locals := 120 }
theorem cs_coder {i : Nat} (hi : i < 11) {M : Mm} {K : Int32 → Mm → Prop} (h : K 0 M) : CtIt yJ0_coder_7d493 cJ0_coder_7d493 1 (some .byte) rm_s0 (fun t => [.ref (sK t i)]) M K := by
  refine ct_anyT (QI K) (by decide) (fun t => by exact Nat.le_of_ble_eq_true rfl) (fun X hX hQ hnL hnm => ?_)
  have hX : Ok X cJ0_coder_7d493 RJ0 rm_s0 := hX
  rw [show lv_args 0 [Value.ref (sK (tX X) i)] = [(0, va_rf (some (sK (tX X) i)))] by rfl]
  refine z_gsC hX dJ0_coder_7d493_0 ?_
  refine z_if_eq (tgt := 13) hX dJ0_coder_7d493_3 (by decide) (fun hc => absurd hc (by decide)) (fun hc => ?_)
  refine z_aload_n (r := some (sK (tX X) i)) hX dJ0_coder_7d493_6 rfl 0 rfl ?_
  refine z_scod hX hi dJ0_coder_7d493_7 ?_
  refine z_goto (tgt := 14) hX dJ0_coder_7d493_10 (by decide) ?_
  exact z_nret hX hQ dJ0_coder_7d493_14 rfl h
theorem cs_isL {i : Nat} (hi : i < 11) {M : Mm} {K : Int32 → Mm → Prop} (h : K 1 M) : CtIt yJ0_isLatin1_aae02 cJ0_isLatin1_aae02 1 (some .boolean) rm_s0 (fun t => [.ref (sK t i)]) M K := by
  refine ct_anyT (QI K) (by decide) (fun t => by exact Nat.le_of_ble_eq_true rfl) (fun X hX hQ hnL hnm => ?_)
  have hX : Ok X cJ0_isLatin1_aae02 RJ0 rm_s0 := hX
  rw [show lv_args 0 [Value.ref (sK (tX X) i)] = [(0, va_rf (some (sK (tX X) i)))] by rfl]
  refine z_gsC hX dJ0_isLatin1_aae02_0 ?_
  refine z_if_eq (tgt := 17) hX dJ0_isLatin1_aae02_3 (by decide) (fun hc => absurd hc (by decide)) (fun hc => ?_)
  refine z_aload_n (r := some (sK (tX X) i)) hX dJ0_isLatin1_aae02_6 rfl 0 rfl ?_
  refine z_scod hX hi dJ0_isLatin1_aae02_7 ?_
  refine z_if_ne (tgt := 17) hX dJ0_isLatin1_aae02_10 (by decide) (fun hc => absurd rfl hc) (fun hc => ?_)
  refine z_iconst (v := 1) hX dJ0_isLatin1_aae02_13 (by decide) ?_
  refine z_goto (tgt := 18) hX dJ0_isLatin1_aae02_14 (by decide) ?_
  exact z_nret hX hQ dJ0_isLatin1_aae02_18 rfl h
theorem slen_shr : ∀ i, i < 11 → nI (slen i) >>> ((0 : Int32) &&& 31) = nI (slen i) := by decide +kernel
theorem slen_31 : ∀ i, i < 11 → slen i < 100 := by decide +kernel
theorem cs_length {i : Nat} (hi : i < 11) {M : Mm} {K : Int32 → Mm → Prop} (h : K (nI (slen i)) M) : CtIt yJ0_length_8abf5 cJ0_length_8abf5 1 (some .int) rm_s1 (fun t => [.ref (sK t i)]) M K := by
  refine ct_anyT (QI K) (by decide) (fun t => by exact Nat.le_of_ble_eq_true rfl) (fun X hX hQ hnL hnm => ?_)
  have hX : Ok X cJ0_length_8abf5 RJ0 rm_s1 := hX
  rw [show lv_args 0 [Value.ref (sK (tX X) i)] = [(0, va_rf (some (sK (tX X) i)))] by rfl]
  refine z_aload_n (r := some (sK (tX X) i)) hX dJ0_length_8abf5_0 rfl 0 rfl ?_
  refine z_sval hX hi dJ0_length_8abf5_1 ?_
  refine z_sarl hX hi dJ0_length_8abf5_4 ?_
  refine z_aload_n (r := some (sK (tX X) i)) hX dJ0_length_8abf5_5 rfl 0 rfl ?_
  refine z_callVIs (K := fun r M1 => r = 0 ∧ M = M1) (As := []) (rest := [.int (nI (slen i))]) hX hi (cs_coder hi ⟨rfl, rfl⟩) mw_RJ0_335 rfl rfl (by unfold RoomC; decide) (by simp only [List.map_cons, List.map_nil, List.sum_cons, List.sum_nil, cat_rf, cat_i, cat_j]; decide) dJ0_length_8abf5_6 (fun r M1 hr => ?_)
  obtain ⟨rfl, rfl⟩ := hr
  refine z_ishr hX dJ0_length_8abf5_9 ?_
  rw [slen_shr i hi]
  exact z_iret hX hQ dJ0_length_8abf5_10 h
theorem cs_pre {x n : Int32} {r : Option Nat} (h0 : ¬ x < 0) (hn : x < n) {M : Mm} {K : Int32 → Mm → Prop} (h : K x M) : CtI yJ3_checkIndex_8e157 cJ3_checkIndex_8e157 3 (some .int) rm_s0 [.int x, .int n, va_rf r] M K := by
  refine ct_any (QI K) (by decide) (by cases r <;> exact Nat.le_of_ble_eq_true rfl) (fun X hX hQ hnL hnm => ?_)
  have hX : Ok X cJ3_checkIndex_8e157 RJ3 rm_s0 := hX
  rw [show lv_args 0 [.int x, .int n, va_rf r] = [(0, .int x), (1, .int n), (2, va_rf r)] by cases r <;> rfl]
  refine z_iload_n hX dJ3_checkIndex_8e157_0 rfl 0 rfl ?_
  refine z_if_lt (tgt := 9) hX dJ3_checkIndex_8e157_1 (by decide) (fun hc => absurd hc h0) (fun hc => ?_)
  refine z_iload_n hX dJ3_checkIndex_8e157_4 rfl 0 rfl ?_
  refine z_iload_n hX dJ3_checkIndex_8e157_5 rfl 1 rfl ?_
  refine z_icmp_lt (tgt := 16) hX dJ3_checkIndex_8e157_6 (by decide) (fun hc => ?_) (fun hc => absurd hn hc)
  refine z_iload_n hX dJ3_checkIndex_8e157_16 rfl 0 rfl ?_
  exact z_iret hX hQ dJ3_checkIndex_8e157_17 h
theorem cs_check {x n : Int32} (h0 : ¬ x < 0) (hn : x < n) {M : Mm} {K : Mm → Prop} (h : K M) : CtV yJ0_checkIndex_df160 cJ0_checkIndex_df160 2 none rm_s1 [.int x, .int n] M K := by
  refine ct_any (QV K) (by decide) (by exact Nat.le_of_ble_eq_true rfl) (fun X hX hQ hnL hnm => ?_)
  have hX : Ok X cJ0_checkIndex_df160 RJ0 rm_s1 := hX
  rw [show lv_args 0 [.int x, .int n] = [(0, .int x), (1, .int n)] by rfl]
  refine z_iload_n hX dJ0_checkIndex_df160_0 rfl 0 rfl ?_
  refine z_iload_n hX dJ0_checkIndex_df160_1 rfl 1 rfl ?_
  refine z_gsF hX dJ0_checkIndex_df160_2 (fun r => ?_)
  refine z_callSI (K := fun v M1 => M = M1) (As := [.int x, .int n, va_rf r]) (rest := []) hX (cs_pre h0 hn rfl) mw_RJ0_1059 rfl rfl (by unfold RoomC; decide) (by decide) dJ0_checkIndex_df160_5 (fun v M1 hr => ?_)
  subst hr
  refine z_pop hX dJ0_checkIndex_df160_8 rfl ?_
  exact z_vret hX hQ dJ0_checkIndex_df160_9 h
theorem sby_c : ∀ i, i < 11 → ∀ j, j < slen i → ((sby i j &&& 255).toUInt32 % 65536).toInt32 = sby i j ∧ narrow .char (.int (sby i j)) = .int (sby i j) := by decide +kernel
theorem vp_parts {x : Int32} {N : Nat} (hN : N < 2147483648) (h : vp_in x N) : ¬ x < 0 ∧ x < nI N ∧ x.toNatClampNeg < N := by
  have h0 : ¬ x < 0 := fun z => h (Or.inl z)
  have h1 : ¬ N ≤ x.toNatClampNeg := fun z => h (Or.inr z)
  refine ⟨h0, ?_, by omega⟩
  have e : x.toInt = (x.toNatClampNeg : Int) := by
    have h3 : (0 : Int) ≤ x.toInt := by
      have := Int32.not_lt.mp h0
      simpa using Int32.le_iff_toInt_le.mp this
    show x.toInt = ((x.toInt.toNat : Nat) : Int)
    omega
  rw [Int32.lt_iff_toInt_lt, nI_toInt hN, e]
  omega
theorem cs_lchar {i : Nat} {x : Int32} (hi : i < 11) (hx : vp_in x (slen i)) {M : Mm} {K : Int32 → Mm → Prop} (h : K (sby i x.toNatClampNeg) M) : CtIt yJ1_charAt_3b067 cJ1_charAt_3b067 2 (some .char) rm_s2 (fun t => [.ref (sV t i), .int x]) M K := by
  refine ct_anyT (QI K) (by decide) (fun t => by exact Nat.le_of_ble_eq_true rfl) (fun X hX hQ hnL hnm => ?_)
  have hX : Ok X cJ1_charAt_3b067 RJ1 rm_s2 := hX
  obtain ⟨q1, q2, q3⟩ := vp_parts (by have := slen_31 i hi; omega) hx
  obtain ⟨e1, e2⟩ := sby_c i hi _ q3
  rw [show lv_args 0 [Value.ref (sV (tX X) i), .int x] = [(0, va_rf (some (sV (tX X) i))), (1, .int x)] by rfl]
  refine z_iload_n hX dJ1_charAt_3b067_0 rfl 1 rfl ?_
  refine z_aload_n (r := some (sV (tX X) i)) hX dJ1_charAt_3b067_1 rfl 0 rfl ?_
  refine z_sarl hX hi dJ1_charAt_3b067_2 ?_
  refine z_callSV (K := fun M1 => M = M1) (As := [.int x, .int (nI (slen i))]) (rest := []) hX (cs_check q1 q2 rfl) mw_RJ1_9 rfl rfl (by unfold RoomC; decide) (by decide) dJ1_charAt_3b067_3 (fun M1 hr => ?_)
  subst hr
  refine z_aload_n (r := some (sV (tX X) i)) hX dJ1_charAt_3b067_6 rfl 0 rfl ?_
  refine z_iload_n hX dJ1_charAt_3b067_7 rfl 1 rfl ?_
  refine z_sbal hX hi hx dJ1_charAt_3b067_8 ?_
  refine z_sipush (v := 255) hX dJ1_charAt_3b067_9 (by decide) ?_
  refine z_iand hX dJ1_charAt_3b067_12 ?_
  refine z_i2c hX dJ1_charAt_3b067_13 ?_
  rw [e1]
  exact z_nret hX hQ dJ1_charAt_3b067_14 e2 h
theorem cs_charAt {i : Nat} {x : Int32} (hi : i < 11) (hx : vp_in x (slen i)) {M : Mm} {K : Int32 → Mm → Prop} (h : K (sby i x.toNatClampNeg) M) : CtIt yJ0_charAt_5068e cJ0_charAt_5068e 2 (some .char) rm_s3 (fun t => [.ref (sK t i), .int x]) M K := by
  refine ct_anyT (QI K) (by decide) (fun t => by exact Nat.le_of_ble_eq_true rfl) (fun X hX hQ hnL hnm => ?_)
  have hX : Ok X cJ0_charAt_5068e RJ0 rm_s3 := hX
  obtain ⟨q1, q2, q3⟩ := vp_parts (by have := slen_31 i hi; omega) hx
  obtain ⟨e1, e2⟩ := sby_c i hi _ q3
  rw [show lv_args 0 [Value.ref (sK (tX X) i), .int x] = [(0, va_rf (some (sK (tX X) i))), (1, .int x)] by rfl]
  refine z_aload_n (r := some (sK (tX X) i)) hX dJ0_charAt_5068e_0 rfl 0 rfl ?_
  refine z_callVIs (K := fun r M1 => r = 1 ∧ M = M1) (As := []) (rest := []) hX hi (cs_isL hi ⟨rfl, rfl⟩) mw_RJ0_492 rfl rfl (by unfold RoomC; decide) (by decide) dJ0_charAt_5068e_1 (fun r M1 hr => ?_)
  obtain ⟨rfl, rfl⟩ := hr
  refine z_if_eq (tgt := 16) hX dJ0_charAt_5068e_4 (by decide) (fun hc => absurd hc (by decide)) (fun hc => ?_)
  refine z_aload_n (r := some (sK (tX X) i)) hX dJ0_charAt_5068e_7 rfl 0 rfl ?_
  refine z_sval hX hi dJ0_charAt_5068e_8 ?_
  refine z_iload_n hX dJ0_charAt_5068e_11 rfl 1 rfl ?_
  refine z_callSIt (K := fun r M1 => r = sby i x.toNatClampNeg ∧ M = M1) (As := fun t => [.ref (sV t i), .int x]) (rest := []) hX (cs_lchar hi hx ⟨rfl, rfl⟩) mw_RJ0_495 rfl rfl (by unfold RoomC; decide) (by decide) dJ0_charAt_5068e_12 (fun r M1 hr => ?_)
  obtain ⟨rfl, rfl⟩ := hr
  exact z_nret hX hQ dJ0_charAt_5068e_15 e2 h
theorem cs_enc {c : Int32} (h0 : ¬ c < 0) (h1 : ¬ (255 : Int32) < c) {M : Mm} {K : Int32 → Mm → Prop} (h : K 1 M) : CtI yJ1_canEncode_9a6ad cJ1_canEncode_9a6ad 1 (some .boolean) rm_s0 [.int c] M K := by
  refine ct_any (QI K) (by decide) (by exact Nat.le_of_ble_eq_true rfl) (fun X hX hQ hnL hnm => ?_)
  have hX : Ok X cJ1_canEncode_9a6ad RJ1 rm_s0 := hX
  rw [show lv_args 0 [.int c] = [(0, .int c)] by rfl]
  refine z_iload_n hX dJ1_canEncode_9a6ad_0 rfl 0 rfl ?_
  refine z_if_lt (tgt := 15) hX dJ1_canEncode_9a6ad_1 (by decide) (fun hc => absurd hc h0) (fun hc => ?_)
  refine z_iload_n hX dJ1_canEncode_9a6ad_4 rfl 0 rfl ?_
  refine z_sipush (v := 255) hX dJ1_canEncode_9a6ad_5 (by decide) ?_
  refine z_icmp_gt (tgt := 15) hX dJ1_canEncode_9a6ad_8 (by decide) (fun hc => absurd hc h1) (fun hc => ?_)
  refine z_iconst (v := 1) hX dJ1_canEncode_9a6ad_11 (by decide) ?_
  refine z_goto (tgt := 16) hX dJ1_canEncode_9a6ad_12 (by decide) ?_
  exact z_nret hX hQ dJ1_canEncode_9a6ad_16 rfl h
/-- the place of c in literal i, from place j on; n places are left -/
def sixF (i : Nat) (c : Int32) : Nat → Nat → Int32
  | 0, _ => -1
  | n + 1, j => if sby i j = c then nI j else sixF i c n (j + 1)
def six (i : Nat) (c f : Int32) : Int32 := if nI (slen i) ≤ f then -1 else sixF i c (slen i - f.toNatClampNeg) f.toNatClampNeg
theorem nf_clamp {f : Int32} (h0 : ¬ f < 0) : f = nI f.toNatClampNeg := by
  have h1 : 0 ≤ f.toInt := by
    have := Int32.not_lt.mp h0
    rw [Int32.le_iff_toInt_le] at this
    exact this
  apply Int32.toInt_inj.mp
  rw [nI_toInt (by have := f.toInt_lt; show f.toInt.toNat < _; omega)]
  show f.toInt = ((f.toInt.toNat : Nat) : Int)
  omega
theorem zl_ixc {X : Cx} {K : Int32 → Mm → Prop} {i : Nat} {c : Int32} (hi : i < 11) (hX : Ok X cJ1_indexOfChar_4cfef RJ1 rm_s0) (hQ : Rq X rm_s0 (some .int) (QI K)) (hnL : X.2.2.2.2.2.2.2.2.2.2.2.2.2.2 = 6) {M : Mm} : ∀ (n j : Nat), j + n = slen i → K (sixF i c n j) M → Z X M 0 0 7 [(0, va_rf (some (sV (tX X) i))), (3, .int (nI (slen i))), (4, .int c), (5, .int (nI j))] [] := by
  intro n
  have h100 := slen_31 i hi
  induction n with
  | zero =>
    intro j hj h
    have e : j = slen i := by omega
    subst e
    refine z_iload hX dJ1_indexOfChar_4cfef_7 3 rfl ?_
    refine z_iload_n hX dJ1_indexOfChar_4cfef_9 rfl 1 rfl ?_
    refine z_icmp_ge (tgt := 31) hX dJ1_indexOfChar_4cfef_10 (by decide) (fun hc => ?_) (fun hc => absurd (nI_le (Nat.le_refl _) (by omega)) hc)
    refine z_iconst (v := -1) hX dJ1_indexOfChar_4cfef_31 (by decide) ?_
    exact z_iret hX hQ dJ1_indexOfChar_4cfef_32 h
  | succ n ih =>
    intro j hj h
    have hin : vp_in (nI j) (slen i) := vp_in_nI (by omega) (by omega)
    refine z_iload hX dJ1_indexOfChar_4cfef_7 3 rfl ?_
    refine z_iload_n hX dJ1_indexOfChar_4cfef_9 rfl 1 rfl ?_
    refine z_icmp_ge (tgt := 31) hX dJ1_indexOfChar_4cfef_10 (by decide) (fun hc => absurd hc (nI_ge (by omega) (by omega))) (fun hc => ?_)
    refine z_aload_n (r := some (sV (tX X) i)) hX dJ1_indexOfChar_4cfef_13 rfl 0 rfl ?_
    refine z_iload hX dJ1_indexOfChar_4cfef_14 3 rfl ?_
    refine z_sbal hX hi hin dJ1_indexOfChar_4cfef_16 ?_
    rw [nI_clamp (by omega)]
    refine z_iload hX dJ1_indexOfChar_4cfef_17 2 rfl ?_
    rw [sixF] at h
    refine z_icmp_ne (tgt := 25) hX dJ1_indexOfChar_4cfef_19 (by decide) (fun hc => ?_) (fun hc => ?_)
    · rw [if_neg hc] at h
      refine z_iinc (v := nI (j + 1)) hX [(5, .int (nI (j + 1))), (0, va_rf (some (sV (tX X) i))), (3, .int (nI (slen i))), (4, .int c)] dJ1_indexOfChar_4cfef_25 3 rfl (by rw [show Int32.ofInt 1 = nI 1 by decide, nI_add]) (by rw [hnL]; decide) rfl ?_
      refine z_goto (tgt := 7) hX dJ1_indexOfChar_4cfef_28 (by decide) ?_
      refine z_loc [1, 2, 3, 0] rfl ?_
      exact ih (j + 1) (by omega) h
    · rw [if_pos hc] at h
      refine z_iload hX dJ1_indexOfChar_4cfef_22 3 rfl ?_
      exact z_iret hX hQ dJ1_indexOfChar_4cfef_24 h
theorem cs_ixc {i : Nat} {c f : Int32} (hi : i < 11) (hc : c.toInt8.toInt32 = c) (h0 : ¬ f < 0) (hf : f < nI (slen i)) {M : Mm} {K : Int32 → Mm → Prop} (h : K (sixF i c (slen i - f.toNatClampNeg) f.toNatClampNeg) M) : CtIt yJ1_indexOfChar_4cfef cJ1_indexOfChar_4cfef 6 (some .int) rm_s0 (fun t => [.ref (sV t i), .int c, .int f, .int (nI (slen i))]) M K := by
  refine ct_anyT (QI K) (by decide) (fun t => by exact Nat.le_of_ble_eq_true rfl) (fun X hX hQ hnL hnm => ?_)
  have hX : Ok X cJ1_indexOfChar_4cfef RJ1 rm_s0 := hX
  have h100 := slen_31 i hi
  have e : f = nI f.toNatClampNeg := nf_clamp h0
  have hl : f.toNatClampNeg < slen i := by
    rw [e] at hf
    have h1 : ¬ nI (slen i) ≤ nI f.toNatClampNeg := Int32.not_le.mpr hf
    exact Nat.lt_of_not_le (fun z => h1 (nI_le z (by have := f.toInt_lt; show f.toInt.toNat < _; omega)))
  rw [show lv_args 0 [Value.ref (sV (tX X) i), .int c, .int f, .int (nI (slen i))] = [(0, va_rf (some (sV (tX X) i))), (1, .int c), (2, .int f), (3, .int (nI (slen i)))] by rfl]
  refine z_iload_n hX dJ1_indexOfChar_4cfef_0 rfl 1 rfl ?_
  refine z_i2b hX dJ1_indexOfChar_4cfef_1 ?_
  rw [hc]
  refine z_istore hX [(4, .int c), (0, va_rf (some (sV (tX X) i))), (1, .int c), (2, .int f), (3, .int (nI (slen i)))] dJ1_indexOfChar_4cfef_2 (by rw [hnL]; decide) rfl ?_
  refine z_iload_n hX dJ1_indexOfChar_4cfef_4 rfl 3 rfl ?_
  refine z_istore hX [(5, .int f), (4, .int c), (0, va_rf (some (sV (tX X) i))), (1, .int c), (2, .int f), (3, .int (nI (slen i)))] dJ1_indexOfChar_4cfef_5 (by rw [hnL]; decide) rfl ?_
  refine z_loc [2, 5, 1, 0] rfl ?_
  rw [show (Value.int f) = .int (nI f.toNatClampNeg) by rw [← e]]
  exact zl_ixc hi hX hQ hnL _ _ (by omega) h
theorem cs_lix {i : Nat} {c f : Int32} (hi : i < 11) (hc : c.toInt8.toInt32 = c) (hc0 : ¬ c < 0) (hc1 : ¬ (255 : Int32) < c) (h0 : ¬ f < 0) {M : Mm} {K : Int32 → Mm → Prop} (h : K (six i c f) M) : CtIt yJ1_indexOf_4cfef cJ1_indexOf_4cfef 4 (some .int) rm_s1 (fun t => [.ref (sV t i), .int c, .int f, .int (nI (slen i))]) M K := by
  refine ct_anyT (QI K) (by decide) (fun t => by exact Nat.le_of_ble_eq_true rfl) (fun X hX hQ hnL hnm => ?_)
  have hX : Ok X cJ1_indexOf_4cfef RJ1 rm_s1 := hX
  have h100 := slen_31 i hi
  rw [show lv_args 0 [Value.ref (sV (tX X) i), .int c, .int f, .int (nI (slen i))] = [(0, va_rf (some (sV (tX X) i))), (1, .int c), (2, .int f), (3, .int (nI (slen i)))] by rfl]
  refine z_iload_n hX dJ1_indexOf_4cfef_0 rfl 1 rfl ?_
  refine z_callSI (K := fun v M1 => v = 1 ∧ M = M1) (As := [.int c]) (rest := []) hX (cs_enc hc0 hc1 ⟨rfl, rfl⟩) mw_RJ1_88 rfl rfl (by unfold RoomC; decide) (by decide) dJ1_indexOf_4cfef_1 (fun v M1 hr => ?_)
  obtain ⟨rfl, rfl⟩ := hr
  refine z_if_ne (tgt := 9) hX dJ1_indexOf_4cfef_4 (by decide) (fun _ => ?_) (fun z => absurd z (by decide))
  refine z_iload_n hX dJ1_indexOf_4cfef_9 rfl 2 rfl ?_
  refine z_iconst (v := 0) hX dJ1_indexOf_4cfef_10 (by decide) ?_
  refine z_mmaxi hX (by decide) (by decide) (by decide) (by decide) dJ1_indexOf_4cfef_11 ?_
  rw [if_neg h0]
  refine z_istore_n hX [(2, .int f), (0, va_rf (some (sV (tX X) i))), (1, .int c), (3, .int (nI (slen i)))] dJ1_indexOf_4cfef_14 rfl (by rw [hnL]; decide) rfl ?_
  refine z_iload_n hX dJ1_indexOf_4cfef_15 rfl 3 rfl ?_
  refine z_aload_n (r := some (sV (tX X) i)) hX dJ1_indexOf_4cfef_16 rfl 1 rfl ?_
  refine z_sarl hX hi dJ1_indexOf_4cfef_17 ?_
  refine z_mmini hX (by decide) (by decide) (by decide) (by decide) dJ1_indexOf_4cfef_18 ?_
  rw [ite_self]
  refine z_istore_n hX [(3, .int (nI (slen i))), (2, .int f), (0, va_rf (some (sV (tX X) i))), (1, .int c)] dJ1_indexOf_4cfef_21 rfl (by rw [hnL]; decide) rfl ?_
  refine z_iload_n hX dJ1_indexOf_4cfef_22 rfl 1 rfl ?_
  refine z_iload_n hX dJ1_indexOf_4cfef_23 rfl 0 rfl ?_
  unfold six at h
  refine z_icmp_lt (tgt := 29) hX dJ1_indexOf_4cfef_24 (by decide) (fun z => ?_) (fun z => ?_)
  · rw [if_neg (Int32.not_le.mpr z)] at h
    refine z_aload_n (r := some (sV (tX X) i)) hX dJ1_indexOf_4cfef_29 rfl 2 rfl ?_
    refine z_iload_n hX dJ1_indexOf_4cfef_30 rfl 3 rfl ?_
    refine z_iload_n hX dJ1_indexOf_4cfef_31 rfl 1 rfl ?_
    refine z_iload_n hX dJ1_indexOf_4cfef_32 rfl 0 rfl ?_
    refine z_callSIt (K := fun r M1 => r = sixF i c (slen i - f.toNatClampNeg) f.toNatClampNeg ∧ M = M1) (As := fun t => [.ref (sV t i), .int c, .int f, .int (nI (slen i))]) (rest := []) hX (cs_ixc hi hc h0 z ⟨rfl, rfl⟩) mw_RJ1_95 rfl rfl (by unfold RoomC; decide) (by decide) dJ1_indexOf_4cfef_33 (fun r M1 hr => ?_)
    obtain ⟨rfl, rfl⟩ := hr
    exact z_iret hX hQ dJ1_indexOf_4cfef_36 h
  · rw [if_pos (Int32.not_lt.mp z)] at h
    refine z_iconst (v := -1) hX dJ1_indexOf_4cfef_27 (by decide) ?_
    exact z_iret hX hQ dJ1_indexOf_4cfef_28 h
theorem cs_indexOf {i : Nat} {c f : Int32} (hi : i < 11) (hc : c.toInt8.toInt32 = c) (hc0 : ¬ c < 0) (hc1 : ¬ (255 : Int32) < c) (h0 : ¬ f < 0) {M : Mm} {K : Int32 → Mm → Prop} (h : K (six i c f) M) : CtIt yJ0_indexOf_7cf53 cJ0_indexOf_7cf53 3 (some .int) rm_s2 (fun t => [.ref (sK t i), .int c, .int f]) M K := by
  refine ct_anyT (QI K) (by decide) (fun t => by exact Nat.le_of_ble_eq_true rfl) (fun X hX hQ hnL hnm => ?_)
  have hX : Ok X cJ0_indexOf_7cf53 RJ0 rm_s2 := hX
  rw [show lv_args 0 [Value.ref (sK (tX X) i), .int c, .int f] = [(0, va_rf (some (sK (tX X) i))), (1, .int c), (2, .int f)] by rfl]
  refine z_aload_n (r := some (sK (tX X) i)) hX dJ0_indexOf_7cf53_0 rfl 0 rfl ?_
  refine z_callVIs (K := fun r M1 => r = 1 ∧ M = M1) (As := []) (rest := []) hX hi (cs_isL hi ⟨rfl, rfl⟩) mw_RJ0_492 rfl rfl (by unfold RoomC; decide) (by decide) dJ0_indexOf_7cf53_1 (fun r M1 hr => ?_)
  obtain ⟨rfl, rfl⟩ := hr
  refine z_if_eq (tgt := 23) hX dJ0_indexOf_7cf53_4 (by decide) (fun z => absurd z (by decide)) (fun _ => ?_)
  refine z_aload_n (r := some (sK (tX X) i)) hX dJ0_indexOf_7cf53_7 rfl 0 rfl ?_
  refine z_sval hX hi dJ0_indexOf_7cf53_8 ?_
  refine z_iload_n hX dJ0_indexOf_7cf53_11 rfl 1 rfl ?_
  refine z_iload_n hX dJ0_indexOf_7cf53_12 rfl 2 rfl ?_
  refine z_aload_n (r := some (sK (tX X) i)) hX dJ0_indexOf_7cf53_13 rfl 0 rfl ?_
  refine z_callVIs (K := fun r M1 => r = nI (slen i) ∧ M = M1) (As := []) (rest := [.int f, .int c, .ref (sV (tX X) i)]) hX hi (cs_length hi ⟨rfl, rfl⟩) mw_RJ0_505 rfl rfl (by unfold RoomC; decide) (show 1 + (1 + (1 + 0)) ≤ 8 by decide) dJ0_indexOf_7cf53_14 (fun r M1 hr => ?_)
  obtain ⟨rfl, rfl⟩ := hr
  refine z_callSIt (K := fun r M1 => r = six i c f ∧ M = M1) (As := fun t => [.ref (sV t i), .int c, .int f, .int (nI (slen i))]) (rest := []) hX (cs_lix hi hc hc0 hc1 h0 ⟨rfl, rfl⟩) mw_RJ0_637 rfl rfl (by unfold RoomC; decide) (by decide) dJ0_indexOf_7cf53_17 (fun r M1 hr => ?_)
  obtain ⟨rfl, rfl⟩ := hr
  refine z_goto (tgt := 36) hX dJ0_indexOf_7cf53_20 (by decide) ?_
  exact z_iret hX hQ dJ0_indexOf_7cf53_36 h
section ZT
variable {X : Cx} {cc : ByteArray} {rm : Room} {M : Mm} {ce sl pc : Nat} {lv : List (Nat × Value)} {rest : List Value}
theorem z_strlen (hX : Ok X cc RX11 rm) {i : Nat} (hi : i < 11) (hrm : RoomC rm rm_s1 1 ce sl) (hwd : (rest.map fun v => v.category).sum ≤ 8) (hdg : decode cc pc = .ok (.invokevirtual 167, 3)) (k : Z X M ce sl (pc + 3) lv (.int (nI (slen i)) :: rest)) : Z X M ce sl pc lv (va_rf (some (sK (tX X) i)) :: rest) :=
  z_callVIs (K := fun r M1 => r = nI (slen i) ∧ M = M1) (As := []) (rest := rest) hX hi (cs_length hi ⟨rfl, rfl⟩) mw_RX11_167 rfl rfl hrm hwd hdg (fun r M1 hr => by
    obtain ⟨rfl, rfl⟩ := hr
    exact k)
theorem z_schar (hX : Ok X cc RX11 rm) {i : Nat} {x : Int32} (hi : i < 11) (hx : vp_in x (slen i)) (hrm : RoomC rm rm_s3 2 ce sl) (hwd : (rest.map fun v => v.category).sum ≤ 8) (hdg : decode cc pc = .ok (.invokevirtual 177, 3)) (k : Z X M ce sl (pc + 3) lv (.int (sby i x.toNatClampNeg) :: rest)) : Z X M ce sl pc lv (.int x :: va_rf (some (sK (tX X) i)) :: rest) :=
  z_callVIs (K := fun r M1 => r = sby i x.toNatClampNeg ∧ M = M1) (As := [.int x]) (rest := rest) hX hi (cs_charAt hi hx ⟨rfl, rfl⟩) mw_RX11_177 rfl rfl hrm hwd hdg (fun r M1 hr => by
    obtain ⟨rfl, rfl⟩ := hr
    exact k)
theorem z_sind (hX : Ok X cc RX11 rm) {i : Nat} {c f : Int32} (hi : i < 11) (hc : c.toInt8.toInt32 = c) (hc0 : ¬ c < 0) (hc1 : ¬ (255 : Int32) < c) (h0 : ¬ f < 0) (hrm : RoomC rm rm_s2 3 ce sl) (hwd : (rest.map fun v => v.category).sum ≤ 8) (hdg : decode cc pc = .ok (.invokevirtual 173, 3)) (k : Z X M ce sl (pc + 3) lv (.int (six i c f) :: rest)) : Z X M ce sl pc lv (.int f :: .int c :: va_rf (some (sK (tX X) i)) :: rest) :=
  z_callVIs (K := fun r M1 => r = six i c f ∧ M = M1) (As := [.int c, .int f]) (rest := rest) hX hi (cs_indexOf hi hc hc0 hc1 h0 ⟨rfl, rfl⟩) mw_RX11_173 rfl rfl hrm hwd hdg (fun r M1 hr => by
    obtain ⟨rfl, rfl⟩ := hr
    exact k)
end ZT

