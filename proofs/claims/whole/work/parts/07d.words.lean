set_option maxRecDepth 100000 in
theorem me_X10_init : Cond.instanceMethod yX10_init ∈ wjU ∧ Cond.initialized RX10 ∈ wjU ∧ Cond.code yX10_init cX10_init 1 none ∈ wjU := ⟨(wjU_i 108 rfl rfl), (wjU_i 81 rfl rfl), (wjU_i 109 rfl rfl)⟩
theorem mf_X10_init : yX10_init.cls ≠ "java/lang/invoke/MethodHandle" ∧ yX10_init.cls ≠ "java/lang/invoke/VarHandle" ∧ (parseMethodDescriptor yX10_init.desc).map (fun d => d.parameters.length) = some 0 := ⟨by decide +kernel, by decide +kernel, by decide +kernel⟩
set_option maxRecDepth 100000 in
theorem mw_RL_35 : IW RL 35 yX10_init cX10_init 1 0 := ⟨⟨(wjU_i 107 rfl rfl), me_X10_init.1, me_X10_init.2⟩, rfl, mf_X10_init⟩
set_option maxRecDepth 100000 in
theorem me_X11_init : Cond.instanceMethod yX11_init ∈ wjU ∧ Cond.initialized RX11 ∈ wjU ∧ Cond.code yX11_init cX11_init 1 none ∈ wjU := ⟨(wjU_i 1065 rfl rfl), (wjU_i 84 rfl rfl), (wjU_i 1066 rfl rfl)⟩
theorem mf_X11_init : yX11_init.cls ≠ "java/lang/invoke/MethodHandle" ∧ yX11_init.cls ≠ "java/lang/invoke/VarHandle" ∧ (parseMethodDescriptor yX11_init.desc).map (fun d => d.parameters.length) = some 0 := ⟨by decide +kernel, by decide +kernel, by decide +kernel⟩
set_option maxRecDepth 100000 in
theorem mw_RL_38 : IW RL 38 yX11_init cX11_init 1 0 := ⟨⟨(wjU_i 1064 rfl rfl), me_X11_init.1, me_X11_init.2⟩, rfl, mf_X11_init⟩
set_option maxRecDepth 100000 in
theorem mw_RX0_3 {X : Cx} {cc : ByteArray} {rm : Room} {M : Mm} {ce sl pc : Nat} {lv : List (Nat × Value)} {rest : List Value} {a : Nat} (hX : Ok X cc RX0 rm) (hdg : decode cc pc = .ok (.invokespecial 3, 3)) (hf : 1 ≤ rm.frames) (hlo : (rest.map fun v => v.category).sum + 12 ≤ rm.locals) (k : Z X M ce sl (pc + 3) lv rest) : Z X M ce sl pc lv (va_rf (some a) :: rest) := z_objInit hX (wjU_i 118 rfl rfl) (wjU_i 111 rfl rfl) (wjU_i 112 rfl rfl) hdg hf hlo k
set_option maxRecDepth 100000 in
theorem mw_RX1_3 {X : Cx} {cc : ByteArray} {rm : Room} {M : Mm} {ce sl pc : Nat} {lv : List (Nat × Value)} {rest : List Value} {a : Nat} (hX : Ok X cc RX1 rm) (hdg : decode cc pc = .ok (.invokespecial 3, 3)) (hf : 1 ≤ rm.frames) (hlo : (rest.map fun v => v.category).sum + 12 ≤ rm.locals) (k : Z X M ce sl (pc + 3) lv rest) : Z X M ce sl pc lv (va_rf (some a) :: rest) := z_objInit hX (wjU_i 210 rfl rfl) (wjU_i 111 rfl rfl) (wjU_i 112 rfl rfl) hdg hf hlo k
set_option maxRecDepth 100000 in
theorem me_X8_init : Cond.instanceMethod yX8_init ∈ wjU ∧ Cond.initialized RX8 ∈ wjU ∧ Cond.code yX8_init cX8_init 1 none ∈ wjU := ⟨(wjU_i 217 rfl rfl), (wjU_i 88 rfl rfl), (wjU_i 218 rfl rfl)⟩
theorem mf_X8_init : yX8_init.cls ≠ "java/lang/invoke/MethodHandle" ∧ yX8_init.cls ≠ "java/lang/invoke/VarHandle" ∧ (parseMethodDescriptor yX8_init.desc).map (fun d => d.parameters.length) = some 0 := ⟨by decide +kernel, by decide +kernel, by decide +kernel⟩
set_option maxRecDepth 100000 in
theorem mw_RX1_32 : IW RX1 32 yX8_init cX8_init 1 0 := ⟨⟨(wjU_i 216 rfl rfl), me_X8_init.1, me_X8_init.2⟩, rfl, mf_X8_init⟩
set_option maxRecDepth 100000 in
theorem mw_RX10_3 {X : Cx} {cc : ByteArray} {rm : Room} {M : Mm} {ce sl pc : Nat} {lv : List (Nat × Value)} {rest : List Value} {a : Nat} (hX : Ok X cc RX10 rm) (hdg : decode cc pc = .ok (.invokespecial 3, 3)) (hf : 1 ≤ rm.frames) (hlo : (rest.map fun v => v.category).sum + 12 ≤ rm.locals) (k : Z X M ce sl (pc + 3) lv rest) : Z X M ce sl pc lv (va_rf (some a) :: rest) := z_objInit hX (wjU_i 110 rfl rfl) (wjU_i 111 rfl rfl) (wjU_i 112 rfl rfl) hdg hf hlo k
set_option maxRecDepth 100000 in
theorem me_X0_init : Cond.instanceMethod yX0_init ∈ wjU ∧ Cond.initialized RX0 ∈ wjU ∧ Cond.code yX0_init cX0_init 2 none ∈ wjU := ⟨(wjU_i 116 rfl rfl), (wjU_i 82 rfl rfl), (wjU_i 117 rfl rfl)⟩
theorem mf_X0_init : yX0_init.cls ≠ "java/lang/invoke/MethodHandle" ∧ yX0_init.cls ≠ "java/lang/invoke/VarHandle" ∧ (parseMethodDescriptor yX0_init.desc).map (fun d => d.parameters.length) = some 1 := ⟨by decide +kernel, by decide +kernel, by decide +kernel⟩
set_option maxRecDepth 100000 in
theorem mw_RX10_11 : IW RX10 11 yX0_init cX0_init 2 1 := ⟨⟨(wjU_i 115 rfl rfl), me_X0_init.1, me_X0_init.2⟩, rfl, mf_X0_init⟩
set_option maxRecDepth 100000 in
theorem me_X3_init : Cond.instanceMethod yX3_init ∈ wjU ∧ Cond.initialized RX3 ∈ wjU ∧ Cond.code yX3_init cX3_init 2 none ∈ wjU := ⟨(wjU_i 132 rfl rfl), (wjU_i 83 rfl rfl), (wjU_i 133 rfl rfl)⟩
theorem mf_X3_init : yX3_init.cls ≠ "java/lang/invoke/MethodHandle" ∧ yX3_init.cls ≠ "java/lang/invoke/VarHandle" ∧ (parseMethodDescriptor yX3_init.desc).map (fun d => d.parameters.length) = some 1 := ⟨by decide +kernel, by decide +kernel, by decide +kernel⟩
set_option maxRecDepth 100000 in
theorem mw_RX10_23 : IW RX10 23 yX3_init cX3_init 2 1 := ⟨⟨(wjU_i 131 rfl rfl), me_X3_init.1, me_X3_init.2⟩, rfl, mf_X3_init⟩
set_option maxRecDepth 100000 in
theorem me_X4_init : Cond.instanceMethod yX4_init ∈ wjU ∧ Cond.initialized RX4 ∈ wjU ∧ Cond.code yX4_init cX4_init 2 none ∈ wjU := ⟨(wjU_i 183 rfl rfl), (wjU_i 86 rfl rfl), (wjU_i 184 rfl rfl)⟩
theorem mf_X4_init : yX4_init.cls ≠ "java/lang/invoke/MethodHandle" ∧ yX4_init.cls ≠ "java/lang/invoke/VarHandle" ∧ (parseMethodDescriptor yX4_init.desc).map (fun d => d.parameters.length) = some 1 := ⟨by decide +kernel, by decide +kernel, by decide +kernel⟩
set_option maxRecDepth 100000 in
theorem mw_RX10_49 : IW RX10 49 yX4_init cX4_init 2 1 := ⟨⟨(wjU_i 182 rfl rfl), me_X4_init.1, me_X4_init.2⟩, rfl, mf_X4_init⟩
set_option maxRecDepth 100000 in
theorem me_X1_init : Cond.instanceMethod yX1_init ∈ wjU ∧ Cond.initialized RX1 ∈ wjU ∧ Cond.code yX1_init cX1_init 4 none ∈ wjU := ⟨(wjU_i 208 rfl rfl), (wjU_i 87 rfl rfl), (wjU_i 209 rfl rfl)⟩
theorem mf_X1_init : yX1_init.cls ≠ "java/lang/invoke/MethodHandle" ∧ yX1_init.cls ≠ "java/lang/invoke/VarHandle" ∧ (parseMethodDescriptor yX1_init.desc).map (fun d => d.parameters.length) = some 2 := ⟨by decide +kernel, by decide +kernel, by decide +kernel⟩
set_option maxRecDepth 100000 in
theorem mw_RX10_54 : IW RX10 54 yX1_init cX1_init 4 2 := ⟨⟨(wjU_i 207 rfl rfl), me_X1_init.1, me_X1_init.2⟩, rfl, mf_X1_init⟩
set_option maxRecDepth 100000 in
theorem me_X7_init : Cond.instanceMethod yX7_init ∈ wjU ∧ Cond.initialized RX7 ∈ wjU ∧ Cond.code yX7_init cX7_init 3 none ∈ wjU := ⟨(wjU_i 272 rfl rfl), (wjU_i 85 rfl rfl), (wjU_i 273 rfl rfl)⟩
theorem mf_X7_init : yX7_init.cls ≠ "java/lang/invoke/MethodHandle" ∧ yX7_init.cls ≠ "java/lang/invoke/VarHandle" ∧ (parseMethodDescriptor yX7_init.desc).map (fun d => d.parameters.length) = some 2 := ⟨by decide +kernel, by decide +kernel, by decide +kernel⟩
set_option maxRecDepth 100000 in
theorem mw_RX10_57 : IW RX10 57 yX7_init cX7_init 3 2 := ⟨⟨(wjU_i 271 rfl rfl), me_X7_init.1, me_X7_init.2⟩, rfl, mf_X7_init⟩
set_option maxRecDepth 100000 in
theorem mw_RX11_5 {X : Cx} {cc : ByteArray} {rm : Room} {M : Mm} {ce sl pc : Nat} {lv : List (Nat × Value)} {rest : List Value} {a : Nat} (hX : Ok X cc RX11 rm) (hdg : decode cc pc = .ok (.invokespecial 5, 3)) (hf : 1 ≤ rm.frames) (hlo : (rest.map fun v => v.category).sum + 12 ≤ rm.locals) (k : Z X M ce sl (pc + 3) lv rest) : Z X M ce sl pc lv (va_rf (some a) :: rest) := z_objInit hX (wjU_i 1067 rfl rfl) (wjU_i 111 rfl rfl) (wjU_i 112 rfl rfl) hdg hf hlo k
set_option maxRecDepth 100000 in
theorem mw_RX2_3 {X : Cx} {cc : ByteArray} {rm : Room} {M : Mm} {ce sl pc : Nat} {lv : List (Nat × Value)} {rest : List Value} {a : Nat} (hX : Ok X cc RX2 rm) (hdg : decode cc pc = .ok (.invokespecial 3, 3)) (hf : 1 ≤ rm.frames) (hlo : (rest.map fun v => v.category).sum + 12 ≤ rm.locals) (k : Z X M ce sl (pc + 3) lv rest) : Z X M ce sl pc lv (va_rf (some a) :: rest) := z_objInit hX (wjU_i 547 rfl rfl) (wjU_i 111 rfl rfl) (wjU_i 112 rfl rfl) hdg hf hlo k
set_option maxRecDepth 100000 in
theorem mw_RX3_1 {X : Cx} {cc : ByteArray} {rm : Room} {M : Mm} {ce sl pc : Nat} {lv : List (Nat × Value)} {rest : List Value} {a : Nat} (hX : Ok X cc RX3 rm) (hdg : decode cc pc = .ok (.invokespecial 1, 3)) (hf : 1 ≤ rm.frames) (hlo : (rest.map fun v => v.category).sum + 12 ≤ rm.locals) (k : Z X M ce sl (pc + 3) lv rest) : Z X M ce sl pc lv (va_rf (some a) :: rest) := z_objInit hX (wjU_i 134 rfl rfl) (wjU_i 111 rfl rfl) (wjU_i 112 rfl rfl) hdg hf hlo k
set_option maxRecDepth 100000 in
theorem mw_RX4_3 {X : Cx} {cc : ByteArray} {rm : Room} {M : Mm} {ce sl pc : Nat} {lv : List (Nat × Value)} {rest : List Value} {a : Nat} (hX : Ok X cc RX4 rm) (hdg : decode cc pc = .ok (.invokespecial 3, 3)) (hf : 1 ≤ rm.frames) (hlo : (rest.map fun v => v.category).sum + 12 ≤ rm.locals) (k : Z X M ce sl (pc + 3) lv rest) : Z X M ce sl pc lv (va_rf (some a) :: rest) := z_objInit hX (wjU_i 185 rfl rfl) (wjU_i 111 rfl rfl) (wjU_i 112 rfl rfl) hdg hf hlo k
set_option maxRecDepth 100000 in
theorem mw_RX5_3 {X : Cx} {cc : ByteArray} {rm : Room} {M : Mm} {ce sl pc : Nat} {lv : List (Nat × Value)} {rest : List Value} {a : Nat} (hX : Ok X cc RX5 rm) (hdg : decode cc pc = .ok (.invokespecial 3, 3)) (hf : 1 ≤ rm.frames) (hlo : (rest.map fun v => v.category).sum + 12 ≤ rm.locals) (k : Z X M ce sl (pc + 3) lv rest) : Z X M ce sl pc lv (va_rf (some a) :: rest) := z_objInit hX (wjU_i 475 rfl rfl) (wjU_i 111 rfl rfl) (wjU_i 112 rfl rfl) hdg hf hlo k
set_option maxRecDepth 100000 in
theorem mw_RX6_3 {X : Cx} {cc : ByteArray} {rm : Room} {M : Mm} {ce sl pc : Nat} {lv : List (Nat × Value)} {rest : List Value} {a : Nat} (hX : Ok X cc RX6 rm) (hdg : decode cc pc = .ok (.invokespecial 3, 3)) (hf : 1 ≤ rm.frames) (hlo : (rest.map fun v => v.category).sum + 12 ≤ rm.locals) (k : Z X M ce sl (pc + 3) lv rest) : Z X M ce sl pc lv (va_rf (some a) :: rest) := z_objInit hX (wjU_i 391 rfl rfl) (wjU_i 111 rfl rfl) (wjU_i 112 rfl rfl) hdg hf hlo k
set_option maxRecDepth 100000 in
theorem mw_RX7_3 {X : Cx} {cc : ByteArray} {rm : Room} {M : Mm} {ce sl pc : Nat} {lv : List (Nat × Value)} {rest : List Value} {a : Nat} (hX : Ok X cc RX7 rm) (hdg : decode cc pc = .ok (.invokespecial 3, 3)) (hf : 1 ≤ rm.frames) (hlo : (rest.map fun v => v.category).sum + 12 ≤ rm.locals) (k : Z X M ce sl (pc + 3) lv rest) : Z X M ce sl pc lv (va_rf (some a) :: rest) := z_objInit hX (wjU_i 274 rfl rfl) (wjU_i 111 rfl rfl) (wjU_i 112 rfl rfl) hdg hf hlo k
set_option maxRecDepth 100000 in
theorem me_X6_init : Cond.instanceMethod yX6_init ∈ wjU ∧ Cond.initialized RX6 ∈ wjU ∧ Cond.code yX6_init cX6_init 6 none ∈ wjU := ⟨(wjU_i 389 rfl rfl), (wjU_i 89 rfl rfl), (wjU_i 390 rfl rfl)⟩
theorem mf_X6_init : yX6_init.cls ≠ "java/lang/invoke/MethodHandle" ∧ yX6_init.cls ≠ "java/lang/invoke/VarHandle" ∧ (parseMethodDescriptor yX6_init.desc).map (fun d => d.parameters.length) = some 3 := ⟨by decide +kernel, by decide +kernel, by decide +kernel⟩
set_option maxRecDepth 100000 in
theorem mw_RX7_96 : IW RX7 96 yX6_init cX6_init 6 3 := ⟨⟨(wjU_i 388 rfl rfl), me_X6_init.1, me_X6_init.2⟩, rfl, mf_X6_init⟩
set_option maxRecDepth 100000 in
theorem me_X5_init : Cond.instanceMethod yX5_init ∈ wjU ∧ Cond.initialized RX5 ∈ wjU ∧ Cond.code yX5_init cX5_init 7 none ∈ wjU := ⟨(wjU_i 473 rfl rfl), (wjU_i 90 rfl rfl), (wjU_i 474 rfl rfl)⟩
theorem mf_X5_init : yX5_init.cls ≠ "java/lang/invoke/MethodHandle" ∧ yX5_init.cls ≠ "java/lang/invoke/VarHandle" ∧ (parseMethodDescriptor yX5_init.desc).map (fun d => d.parameters.length) = some 4 := ⟨by decide +kernel, by decide +kernel, by decide +kernel⟩
set_option maxRecDepth 100000 in
theorem mw_RX7_154 : IW RX7 154 yX5_init cX5_init 7 4 := ⟨⟨(wjU_i 472 rfl rfl), me_X5_init.1, me_X5_init.2⟩, rfl, mf_X5_init⟩
set_option maxRecDepth 100000 in
theorem me_X2_init : Cond.instanceMethod yX2_init ∈ wjU ∧ Cond.initialized RX2 ∈ wjU ∧ Cond.code yX2_init cX2_init 7 none ∈ wjU := ⟨(wjU_i 545 rfl rfl), (wjU_i 91 rfl rfl), (wjU_i 546 rfl rfl)⟩
theorem mf_X2_init : yX2_init.cls ≠ "java/lang/invoke/MethodHandle" ∧ yX2_init.cls ≠ "java/lang/invoke/VarHandle" ∧ (parseMethodDescriptor yX2_init.desc).map (fun d => d.parameters.length) = some 4 := ⟨by decide +kernel, by decide +kernel, by decide +kernel⟩
set_option maxRecDepth 100000 in
theorem mw_RX7_179 : IW RX7 179 yX2_init cX2_init 7 4 := ⟨⟨(wjU_i 544 rfl rfl), me_X2_init.1, me_X2_init.2⟩, rfl, mf_X2_init⟩
set_option maxRecDepth 100000 in
theorem me_X9_init : Cond.instanceMethod yX9_init ∈ wjU ∧ Cond.initialized RX9 ∈ wjU ∧ Cond.code yX9_init cX9_init 5 none ∈ wjU := ⟨(wjU_i 592 rfl rfl), (wjU_i 92 rfl rfl), (wjU_i 593 rfl rfl)⟩
theorem mf_X9_init : yX9_init.cls ≠ "java/lang/invoke/MethodHandle" ∧ yX9_init.cls ≠ "java/lang/invoke/VarHandle" ∧ (parseMethodDescriptor yX9_init.desc).map (fun d => d.parameters.length) = some 2 := ⟨by decide +kernel, by decide +kernel, by decide +kernel⟩
set_option maxRecDepth 100000 in
theorem mw_RX7_194 : IW RX7 194 yX9_init cX9_init 5 2 := ⟨⟨(wjU_i 591 rfl rfl), me_X9_init.1, me_X9_init.2⟩, rfl, mf_X9_init⟩
set_option maxRecDepth 100000 in
theorem mw_RX8_3 {X : Cx} {cc : ByteArray} {rm : Room} {M : Mm} {ce sl pc : Nat} {lv : List (Nat × Value)} {rest : List Value} {a : Nat} (hX : Ok X cc RX8 rm) (hdg : decode cc pc = .ok (.invokespecial 3, 3)) (hf : 1 ≤ rm.frames) (hlo : (rest.map fun v => v.category).sum + 12 ≤ rm.locals) (k : Z X M ce sl (pc + 3) lv rest) : Z X M ce sl pc lv (va_rf (some a) :: rest) := z_objInit hX (wjU_i 219 rfl rfl) (wjU_i 111 rfl rfl) (wjU_i 112 rfl rfl) hdg hf hlo k
set_option maxRecDepth 100000 in
theorem mw_RX9_3 {X : Cx} {cc : ByteArray} {rm : Room} {M : Mm} {ce sl pc : Nat} {lv : List (Nat × Value)} {rest : List Value} {a : Nat} (hX : Ok X cc RX9 rm) (hdg : decode cc pc = .ok (.invokespecial 3, 3)) (hf : 1 ≤ rm.frames) (hlo : (rest.map fun v => v.category).sum + 12 ≤ rm.locals) (k : Z X M ce sl (pc + 3) lv rest) : Z X M ce sl pc lv (va_rf (some a) :: rest) := z_objInit hX (wjU_i 594 rfl rfl) (wjU_i 111 rfl rfl) (wjU_i 112 rfl rfl) hdg hf hlo k
set_option maxRecDepth 100000 in
theorem mw_RX1_68 {X : Cx} {cc : ByteArray} {rm : Room} {M : Mm} {ce sl pc : Nat} {lv : List (Nat × Value)} {rest : List Value} {x y : Int64} (hX : Ok X cc RX1 rm) (hdg : decode cc pc = .ok (.invokestatic 68, 3)) (hf : 1 ≤ rm.frames) (hlo : (rest.map fun v => v.category).sum + 15 ≤ rm.locals) (hc : ce ≤ rm.cells) (hs : sl ≤ rm.slots) (k : Z X M ce sl (pc + 3) lv (.long (if y < x then y else x) :: rest)) : Z X M ce sl pc lv (.long y :: .long x :: rest) := z_mminl hX (wjU_i 672 rfl rfl) (wjU_i 670 rfl rfl) (wjU_i 95 rfl rfl) (wjU_i 671 rfl rfl) hf hlo hc hs hdg k
set_option maxRecDepth 100000 in
theorem me_X10_together : Cond.static yX10_together ∈ wjU ∧ Cond.initialized RX10 ∈ wjU ∧ Cond.code yX10_together cX10_together 4 (some .long) ∈ wjU := ⟨(wjU_i 674 rfl rfl), (wjU_i 81 rfl rfl), (wjU_i 675 rfl rfl)⟩
theorem mf_X10_together : yX10_together.cls ≠ "java/lang/invoke/MethodHandle" ∧ yX10_together.cls ≠ "java/lang/invoke/VarHandle" ∧ (parseMethodDescriptor yX10_together.desc).map (fun d => d.parameters.length) = some 2 := ⟨by decide +kernel, by decide +kernel, by decide +kernel⟩
theorem mw_RX1_77 : NW RX1 77 yX10_together RX10 cX10_together 4 (some .long) 2 := ⟨me_X10_together, mf_X10_together, fun _ _ s h => h.1.1⟩
set_option maxRecDepth 100000 in
theorem mw_RX1_178 {X : Cx} {cc : ByteArray} {rm : Room} {M : Mm} {ce sl pc : Nat} {lv : List (Nat × Value)} {rest : List Value} {x y : Int64} (hX : Ok X cc RX1 rm) (hdg : decode cc pc = .ok (.invokestatic 178, 3)) (hf : 1 ≤ rm.frames) (hlo : (rest.map fun v => v.category).sum + 15 ≤ rm.locals) (hc : ce ≤ rm.cells) (hs : sl ≤ rm.slots) (k : Z X M ce sl (pc + 3) lv (.long (if y < x then x else y) :: rest)) : Z X M ce sl pc lv (.long y :: .long x :: rest) := z_mmaxl hX (wjU_i 728 rfl rfl) (wjU_i 682 rfl rfl) (wjU_i 95 rfl rfl) (wjU_i 683 rfl rfl) hf hlo hc hs hdg k
set_option maxRecDepth 100000 in
theorem me_X10_isTime : Cond.static yX10_isTime ∈ wjU ∧ Cond.initialized RX10 ∈ wjU ∧ Cond.code yX10_isTime cX10_isTime 2 (some .boolean) ∈ wjU := ⟨(wjU_i 647 rfl rfl), (wjU_i 81 rfl rfl), (wjU_i 648 rfl rfl)⟩
theorem mf_X10_isTime : yX10_isTime.cls ≠ "java/lang/invoke/MethodHandle" ∧ yX10_isTime.cls ≠ "java/lang/invoke/VarHandle" ∧ (parseMethodDescriptor yX10_isTime.desc).map (fun d => d.parameters.length) = some 1 := ⟨by decide +kernel, by decide +kernel, by decide +kernel⟩
set_option maxRecDepth 100000 in
theorem mw_RX10_80 : SW RX10 80 yX10_isTime cX10_isTime 2 (some .boolean) 1 := ⟨⟨(wjU_i 646 rfl rfl), me_X10_isTime.1, me_X10_isTime.2⟩, mf_X10_isTime⟩
set_option maxRecDepth 100000 in
theorem me_X10_isKey : Cond.static yX10_isKey ∈ wjU ∧ Cond.initialized RX10 ∈ wjU ∧ Cond.code yX10_isKey cX10_isKey 1 (some .boolean) ∈ wjU := ⟨(wjU_i 652 rfl rfl), (wjU_i 81 rfl rfl), (wjU_i 653 rfl rfl)⟩
theorem mf_X10_isKey : yX10_isKey.cls ≠ "java/lang/invoke/MethodHandle" ∧ yX10_isKey.cls ≠ "java/lang/invoke/VarHandle" ∧ (parseMethodDescriptor yX10_isKey.desc).map (fun d => d.parameters.length) = some 1 := ⟨by decide +kernel, by decide +kernel, by decide +kernel⟩
set_option maxRecDepth 100000 in
theorem mw_RX10_84 : SW RX10 84 yX10_isKey cX10_isKey 1 (some .boolean) 1 := ⟨⟨(wjU_i 651 rfl rfl), me_X10_isKey.1, me_X10_isKey.2⟩, mf_X10_isKey⟩
set_option maxRecDepth 100000 in
theorem mw_RX10_266 {X : Cx} {cc : ByteArray} {rm : Room} {M : Mm} {ce sl pc : Nat} {lv : List (Nat × Value)} {rest : List Value} {x y : Int64} (hX : Ok X cc RX10 rm) (hdg : decode cc pc = .ok (.invokestatic 266, 3)) (hf : 1 ≤ rm.frames) (hlo : (rest.map fun v => v.category).sum + 15 ≤ rm.locals) (hc : ce ≤ rm.cells) (hs : sl ≤ rm.slots) (k : Z X M ce sl (pc + 3) lv (.long (if y < x then y else x) :: rest)) : Z X M ce sl pc lv (.long y :: .long x :: rest) := z_mminl hX (wjU_i 680 rfl rfl) (wjU_i 670 rfl rfl) (wjU_i 95 rfl rfl) (wjU_i 671 rfl rfl) hf hlo hc hs hdg k
set_option maxRecDepth 100000 in
theorem mw_RX10_272 {X : Cx} {cc : ByteArray} {rm : Room} {M : Mm} {ce sl pc : Nat} {lv : List (Nat × Value)} {rest : List Value} {x y : Int64} (hX : Ok X cc RX10 rm) (hdg : decode cc pc = .ok (.invokestatic 272, 3)) (hf : 1 ≤ rm.frames) (hlo : (rest.map fun v => v.category).sum + 15 ≤ rm.locals) (hc : ce ≤ rm.cells) (hs : sl ≤ rm.slots) (k : Z X M ce sl (pc + 3) lv (.long (if y < x then x else y) :: rest)) : Z X M ce sl pc lv (.long y :: .long x :: rest) := z_mmaxl hX (wjU_i 681 rfl rfl) (wjU_i 682 rfl rfl) (wjU_i 95 rfl rfl) (wjU_i 683 rfl rfl) hf hlo hc hs hdg k
set_option maxRecDepth 100000 in
theorem me_X11_isLetter : Cond.static yX11_isLetter ∈ wjU ∧ Cond.initialized RX11 ∈ wjU ∧ Cond.code yX11_isLetter cX11_isLetter 1 (some .boolean) ∈ wjU := ⟨(wjU_i 1261 rfl rfl), (wjU_i 84 rfl rfl), (wjU_i 1262 rfl rfl)⟩
theorem mf_X11_isLetter : yX11_isLetter.cls ≠ "java/lang/invoke/MethodHandle" ∧ yX11_isLetter.cls ≠ "java/lang/invoke/VarHandle" ∧ (parseMethodDescriptor yX11_isLetter.desc).map (fun d => d.parameters.length) = some 1 := ⟨by decide +kernel, by decide +kernel, by decide +kernel⟩
set_option maxRecDepth 100000 in
theorem mw_RX11_150 : SW RX11 150 yX11_isLetter cX11_isLetter 1 (some .boolean) 1 := ⟨⟨(wjU_i 1260 rfl rfl), me_X11_isLetter.1, me_X11_isLetter.2⟩, mf_X11_isLetter⟩
set_option maxRecDepth 100000 in
theorem me_X11_isDigit : Cond.static yX11_isDigit ∈ wjU ∧ Cond.initialized RX11 ∈ wjU ∧ Cond.code yX11_isDigit cX11_isDigit 1 (some .boolean) ∈ wjU := ⟨(wjU_i 1372 rfl rfl), (wjU_i 84 rfl rfl), (wjU_i 1373 rfl rfl)⟩
theorem mf_X11_isDigit : yX11_isDigit.cls ≠ "java/lang/invoke/MethodHandle" ∧ yX11_isDigit.cls ≠ "java/lang/invoke/VarHandle" ∧ (parseMethodDescriptor yX11_isDigit.desc).map (fun d => d.parameters.length) = some 1 := ⟨by decide +kernel, by decide +kernel, by decide +kernel⟩
set_option maxRecDepth 100000 in
theorem mw_RX11_158 : SW RX11 158 yX11_isDigit cX11_isDigit 1 (some .boolean) 1 := ⟨⟨(wjU_i 1371 rfl rfl), me_X11_isDigit.1, me_X11_isDigit.2⟩, mf_X11_isDigit⟩
set_option maxRecDepth 100000 in
theorem me_X11_plus : Cond.static yX11_plus ∈ wjU ∧ Cond.initialized RX11 ∈ wjU ∧ Cond.code yX11_plus cX11_plus 6 (some .long) ∈ wjU := ⟨(wjU_i 1491 rfl rfl), (wjU_i 84 rfl rfl), (wjU_i 1492 rfl rfl)⟩
theorem mf_X11_plus : yX11_plus.cls ≠ "java/lang/invoke/MethodHandle" ∧ yX11_plus.cls ≠ "java/lang/invoke/VarHandle" ∧ (parseMethodDescriptor yX11_plus.desc).map (fun d => d.parameters.length) = some 2 := ⟨by decide +kernel, by decide +kernel, by decide +kernel⟩
set_option maxRecDepth 100000 in
theorem mw_RX11_311 : SW RX11 311 yX11_plus cX11_plus 6 (some .long) 2 := ⟨⟨(wjU_i 1490 rfl rfl), me_X11_plus.1, me_X11_plus.2⟩, mf_X11_plus⟩
set_option maxRecDepth 100000 in
theorem me_J9_floorDiv_f86c9 : Cond.static yJ9_floorDiv_f86c9 ∈ wjU ∧ Cond.initialized RJ9 ∈ wjU ∧ Cond.code yJ9_floorDiv_f86c9 cJ9_floorDiv_f86c9 6 (some .long) ∈ wjU := ⟨(wjU_i 705 rfl rfl), (wjU_i 95 rfl rfl), (wjU_i 706 rfl rfl)⟩
theorem mf_J9_floorDiv_f86c9 : yJ9_floorDiv_f86c9.cls ≠ "java/lang/invoke/MethodHandle" ∧ yJ9_floorDiv_f86c9.cls ≠ "java/lang/invoke/VarHandle" ∧ (parseMethodDescriptor yJ9_floorDiv_f86c9.desc).map (fun d => d.parameters.length) = some 2 := ⟨by decide +kernel, by decide +kernel, by decide +kernel⟩
set_option maxRecDepth 100000 in
theorem mw_RX11_331 : SW RX11 331 yJ9_floorDiv_f86c9 cJ9_floorDiv_f86c9 6 (some .long) 2 := ⟨⟨(wjU_i 1532 rfl rfl), me_J9_floorDiv_f86c9.1, me_J9_floorDiv_f86c9.2⟩, mf_J9_floorDiv_f86c9⟩
set_option maxRecDepth 100000 in
theorem mw_RX11_336 {X : Cx} {cc : ByteArray} {rm : Room} {M : Mm} {ce sl pc : Nat} {lv : List (Nat × Value)} {rest : List Value} {x y : Int64} (hX : Ok X cc RX11 rm) (hdg : decode cc pc = .ok (.invokestatic 336, 3)) (hf : 1 ≤ rm.frames) (hlo : (rest.map fun v => v.category).sum + 15 ≤ rm.locals) (hc : ce ≤ rm.cells) (hs : sl ≤ rm.slots) (k : Z X M ce sl (pc + 3) lv (.long (if y < x then x else y) :: rest)) : Z X M ce sl pc lv (.long y :: .long x :: rest) := z_mmaxl hX (wjU_i 1519 rfl rfl) (wjU_i 682 rfl rfl) (wjU_i 95 rfl rfl) (wjU_i 683 rfl rfl) hf hlo hc hs hdg k
set_option maxRecDepth 100000 in
theorem mw_RX11_378 {X : Cx} {cc : ByteArray} {rm : Room} {M : Mm} {ce sl pc : Nat} {lv : List (Nat × Value)} {rest : List Value} {x y : Int64} (hX : Ok X cc RX11 rm) (hdg : decode cc pc = .ok (.invokestatic 378, 3)) (hf : 1 ≤ rm.frames) (hlo : (rest.map fun v => v.category).sum + 15 ≤ rm.locals) (hc : ce ≤ rm.cells) (hs : sl ≤ rm.slots) (k : Z X M ce sl (pc + 3) lv (.long (if y < x then y else x) :: rest)) : Z X M ce sl pc lv (.long y :: .long x :: rest) := z_mminl hX (wjU_i 1489 rfl rfl) (wjU_i 670 rfl rfl) (wjU_i 95 rfl rfl) (wjU_i 671 rfl rfl) hf hlo hc hs hdg k
set_option maxRecDepth 100000 in
theorem me_X11_isTime : Cond.static yX11_isTime ∈ wjU ∧ Cond.initialized RX11 ∈ wjU ∧ Cond.code yX11_isTime cX11_isTime 2 (some .boolean) ∈ wjU := ⟨(wjU_i 1480 rfl rfl), (wjU_i 84 rfl rfl), (wjU_i 1481 rfl rfl)⟩
theorem mf_X11_isTime : yX11_isTime.cls ≠ "java/lang/invoke/MethodHandle" ∧ yX11_isTime.cls ≠ "java/lang/invoke/VarHandle" ∧ (parseMethodDescriptor yX11_isTime.desc).map (fun d => d.parameters.length) = some 1 := ⟨by decide +kernel, by decide +kernel, by decide +kernel⟩
set_option maxRecDepth 100000 in
theorem mw_RX11_385 : SW RX11 385 yX11_isTime cX11_isTime 2 (some .boolean) 1 := ⟨⟨(wjU_i 1479 rfl rfl), me_X11_isTime.1, me_X11_isTime.2⟩, mf_X11_isTime⟩
set_option maxRecDepth 100000 in
theorem me_X11_wordOf : Cond.static yX11_wordOf ∈ wjU ∧ Cond.initialized RX11 ∈ wjU ∧ Cond.code yX11_wordOf cX11_wordOf 1 (some (.object "java/lang/String")) ∈ wjU := ⟨(wjU_i 1645 rfl rfl), (wjU_i 84 rfl rfl), (wjU_i 1646 rfl rfl)⟩
theorem mf_X11_wordOf : yX11_wordOf.cls ≠ "java/lang/invoke/MethodHandle" ∧ yX11_wordOf.cls ≠ "java/lang/invoke/VarHandle" ∧ (parseMethodDescriptor yX11_wordOf.desc).map (fun d => d.parameters.length) = some 1 := ⟨by decide +kernel, by decide +kernel, by decide +kernel⟩
set_option maxRecDepth 100000 in
theorem mw_RX11_434 : SW RX11 434 yX11_wordOf cX11_wordOf 1 (some (.object "java/lang/String")) 1 := ⟨⟨(wjU_i 1644 rfl rfl), me_X11_wordOf.1, me_X11_wordOf.2⟩, mf_X11_wordOf⟩
theorem mw_RX2_42 : NW RX2 42 yX10_together RX10 cX10_together 4 (some .long) 2 := ⟨me_X10_together, mf_X10_together, fun _ _ s h => h.1.2.1⟩
set_option maxRecDepth 100000 in
theorem me_X4_isBlank : Cond.static yX4_isBlank ∈ wjU ∧ Cond.initialized RX4 ∈ wjU ∧ Cond.code yX4_isBlank cX4_isBlank 1 (some .boolean) ∈ wjU := ⟨(wjU_i 313 rfl rfl), (wjU_i 86 rfl rfl), (wjU_i 314 rfl rfl)⟩
theorem mf_X4_isBlank : yX4_isBlank.cls ≠ "java/lang/invoke/MethodHandle" ∧ yX4_isBlank.cls ≠ "java/lang/invoke/VarHandle" ∧ (parseMethodDescriptor yX4_isBlank.desc).map (fun d => d.parameters.length) = some 1 := ⟨by decide +kernel, by decide +kernel, by decide +kernel⟩
set_option maxRecDepth 100000 in
theorem mw_RX4_28 : SW RX4 28 yX4_isBlank cX4_isBlank 1 (some .boolean) 1 := ⟨⟨(wjU_i 312 rfl rfl), me_X4_isBlank.1, me_X4_isBlank.2⟩, mf_X4_isBlank⟩
set_option maxRecDepth 100000 in
theorem mw_RX5_44 {X : Cx} {cc : ByteArray} {rm : Room} {M : Mm} {ce sl pc : Nat} {lv : List (Nat × Value)} {rest : List Value} {x y : Int64} (hX : Ok X cc RX5 rm) (hdg : decode cc pc = .ok (.invokestatic 44, 3)) (hf : 1 ≤ rm.frames) (hlo : (rest.map fun v => v.category).sum + 15 ≤ rm.locals) (hc : ce ≤ rm.cells) (hs : sl ≤ rm.slots) (k : Z X M ce sl (pc + 3) lv (.long (if y < x then y else x) :: rest)) : Z X M ce sl pc lv (.long y :: .long x :: rest) := z_mminl hX (wjU_i 669 rfl rfl) (wjU_i 670 rfl rfl) (wjU_i 95 rfl rfl) (wjU_i 671 rfl rfl) hf hlo hc hs hdg k
set_option maxRecDepth 100000 in
theorem mw_RX6_40 {X : Cx} {cc : ByteArray} {rm : Room} {M : Mm} {ce sl pc : Nat} {lv : List (Nat × Value)} {rest : List Value} {x y : Int64} (hX : Ok X cc RX6 rm) (hdg : decode cc pc = .ok (.invokestatic 40, 3)) (hf : 1 ≤ rm.frames) (hlo : (rest.map fun v => v.category).sum + 15 ≤ rm.locals) (hc : ce ≤ rm.cells) (hs : sl ≤ rm.slots) (k : Z X M ce sl (pc + 3) lv (.long (if y < x then y else x) :: rest)) : Z X M ce sl pc lv (.long y :: .long x :: rest) := z_mminl hX (wjU_i 774 rfl rfl) (wjU_i 670 rfl rfl) (wjU_i 95 rfl rfl) (wjU_i 671 rfl rfl) hf hlo hc hs hdg k
set_option maxRecDepth 100000 in
theorem mw_RX8_29 {X : Cx} {cc : ByteArray} {rm : Room} {M : Mm} {ce sl pc : Nat} {lv : List (Nat × Value)} {rest : List Value} {x y : Int64} (hX : Ok X cc RX8 rm) (hdg : decode cc pc = .ok (.invokestatic 29, 3)) (hf : 1 ≤ rm.frames) (hlo : (rest.map fun v => v.category).sum + 15 ≤ rm.locals) (hc : ce ≤ rm.cells) (hs : sl ≤ rm.slots) (k : Z X M ce sl (pc + 3) lv (.long (if y < x then y else x) :: rest)) : Z X M ce sl pc lv (.long y :: .long x :: rest) := z_mminl hX (wjU_i 786 rfl rfl) (wjU_i 670 rfl rfl) (wjU_i 95 rfl rfl) (wjU_i 671 rfl rfl) hf hlo hc hs hdg k
set_option maxRecDepth 100000 in
theorem mw_RX9_29 : SW RX9 29 yJ9_floorDiv_f86c9 cJ9_floorDiv_f86c9 6 (some .long) 2 := ⟨⟨(wjU_i 704 rfl rfl), me_J9_floorDiv_f86c9.1, me_J9_floorDiv_f86c9.2⟩, mf_J9_floorDiv_f86c9⟩
theorem mw_RX9_51 : NW RX9 51 yX10_together RX10 cX10_together 4 (some .long) 2 := ⟨me_X10_together, mf_X10_together, fun _ _ s h => h.1.2.2.1⟩
set_option maxRecDepth 100000 in
theorem me_X10_feed : Cond.instanceMethod yX10_feed ∈ wjU ∧ Cond.initialized RX10 ∈ wjU ∧ Cond.code yX10_feed cX10_feed 5 (some .int) ∈ wjU := ⟨(wjU_i 167 rfl rfl), (wjU_i 81 rfl rfl), (wjU_i 169 rfl rfl)⟩
theorem mf_X10_feed : yX10_feed.cls ≠ "java/lang/invoke/MethodHandle" ∧ yX10_feed.cls ≠ "java/lang/invoke/VarHandle" ∧ (parseMethodDescriptor yX10_feed.desc).map (fun d => d.parameters.length) = some 2 := ⟨by decide +kernel, by decide +kernel, by decide +kernel⟩
set_option maxRecDepth 100000 in
theorem mw_RL_41 : VW RL 41 RX10 yX10_feed cX10_feed 5 (some .int) 2 := ⟨⟨(wjU_i 166 rfl rfl), me_X10_feed.1, (wjU_i 168 rfl rfl), me_X10_feed.2⟩, rfl, mf_X10_feed⟩
set_option maxRecDepth 100000 in
theorem me_X11_feed : Cond.instanceMethod yX11_feed ∈ wjU ∧ Cond.initialized RX11 ∈ wjU ∧ Cond.code yX11_feed cX11_feed 5 (some .int) ∈ wjU := ⟨(wjU_i 1245 rfl rfl), (wjU_i 84 rfl rfl), (wjU_i 1247 rfl rfl)⟩
theorem mf_X11_feed : yX11_feed.cls ≠ "java/lang/invoke/MethodHandle" ∧ yX11_feed.cls ≠ "java/lang/invoke/VarHandle" ∧ (parseMethodDescriptor yX11_feed.desc).map (fun d => d.parameters.length) = some 2 := ⟨by decide +kernel, by decide +kernel, by decide +kernel⟩
set_option maxRecDepth 100000 in
theorem mw_RL_45 : VW RL 45 RX11 yX11_feed cX11_feed 5 (some .int) 2 := ⟨⟨(wjU_i 1244 rfl rfl), me_X11_feed.1, (wjU_i 1246 rfl rfl), me_X11_feed.2⟩, rfl, mf_X11_feed⟩
set_option maxRecDepth 100000 in
theorem me_X10_build : Cond.instanceMethod yX10_build ∈ wjU ∧ Cond.initialized RX10 ∈ wjU ∧ Cond.code yX10_build cX10_build 3 (some .int) ∈ wjU := ⟨(wjU_i 175 rfl rfl), (wjU_i 81 rfl rfl), (wjU_i 177 rfl rfl)⟩
theorem mf_X10_build : yX10_build.cls ≠ "java/lang/invoke/MethodHandle" ∧ yX10_build.cls ≠ "java/lang/invoke/VarHandle" ∧ (parseMethodDescriptor yX10_build.desc).map (fun d => d.parameters.length) = some 0 := ⟨by decide +kernel, by decide +kernel, by decide +kernel⟩
set_option maxRecDepth 100000 in
theorem mw_RL_46 : VW RL 46 RX10 yX10_build cX10_build 3 (some .int) 0 := ⟨⟨(wjU_i 174 rfl rfl), me_X10_build.1, (wjU_i 176 rfl rfl), me_X10_build.2⟩, rfl, mf_X10_build⟩
set_option maxRecDepth 100000 in
theorem me_X11_build : Cond.instanceMethod yX11_build ∈ wjU ∧ Cond.initialized RX11 ∈ wjU ∧ Cond.code yX11_build cX11_build 3 (some .int) ∈ wjU := ⟨(wjU_i 1249 rfl rfl), (wjU_i 84 rfl rfl), (wjU_i 1251 rfl rfl)⟩
theorem mf_X11_build : yX11_build.cls ≠ "java/lang/invoke/MethodHandle" ∧ yX11_build.cls ≠ "java/lang/invoke/VarHandle" ∧ (parseMethodDescriptor yX11_build.desc).map (fun d => d.parameters.length) = some 0 := ⟨by decide +kernel, by decide +kernel, by decide +kernel⟩
set_option maxRecDepth 100000 in
theorem mw_RL_50 : VW RL 50 RX11 yX11_build cX11_build 3 (some .int) 0 := ⟨⟨(wjU_i 1248 rfl rfl), me_X11_build.1, (wjU_i 1250 rfl rfl), me_X11_build.2⟩, rfl, mf_X11_build⟩
set_option maxRecDepth 100000 in
theorem me_X10_fault : Cond.instanceMethod yX10_fault ∈ wjU ∧ Cond.initialized RX10 ∈ wjU ∧ Cond.code yX10_fault cX10_fault 1 (some .int) ∈ wjU := ⟨(wjU_i 631 rfl rfl), (wjU_i 81 rfl rfl), (wjU_i 633 rfl rfl)⟩
theorem mf_X10_fault : yX10_fault.cls ≠ "java/lang/invoke/MethodHandle" ∧ yX10_fault.cls ≠ "java/lang/invoke/VarHandle" ∧ (parseMethodDescriptor yX10_fault.desc).map (fun d => d.parameters.length) = some 0 := ⟨by decide +kernel, by decide +kernel, by decide +kernel⟩
set_option maxRecDepth 100000 in
theorem mw_RL_51 : VW RL 51 RX10 yX10_fault cX10_fault 1 (some .int) 0 := ⟨⟨(wjU_i 630 rfl rfl), me_X10_fault.1, (wjU_i 632 rfl rfl), me_X10_fault.2⟩, rfl, mf_X10_fault⟩
set_option maxRecDepth 100000 in
theorem me_X11_fault_ : Cond.instanceMethod yX11_fault_ ∈ wjU ∧ Cond.initialized RX11 ∈ wjU ∧ Cond.code yX11_fault_ cX11_fault_ 1 (some .int) ∈ wjU := ⟨(wjU_i 1460 rfl rfl), (wjU_i 84 rfl rfl), (wjU_i 1462 rfl rfl)⟩
theorem mf_X11_fault_ : yX11_fault_.cls ≠ "java/lang/invoke/MethodHandle" ∧ yX11_fault_.cls ≠ "java/lang/invoke/VarHandle" ∧ (parseMethodDescriptor yX11_fault_.desc).map (fun d => d.parameters.length) = some 0 := ⟨by decide +kernel, by decide +kernel, by decide +kernel⟩
set_option maxRecDepth 100000 in
theorem mw_RL_54 : VW RL 54 RX11 yX11_fault_ cX11_fault_ 1 (some .int) 0 := ⟨⟨(wjU_i 1459 rfl rfl), me_X11_fault_.1, (wjU_i 1461 rfl rfl), me_X11_fault_.2⟩, rfl, mf_X11_fault_⟩
set_option maxRecDepth 100000 in
theorem me_X10_row : Cond.instanceMethod yX10_row ∈ wjU ∧ Cond.initialized RX10 ∈ wjU ∧ Cond.code yX10_row cX10_row 9 (some .int) ∈ wjU := ⟨(wjU_i 635 rfl rfl), (wjU_i 81 rfl rfl), (wjU_i 637 rfl rfl)⟩
theorem mf_X10_row : yX10_row.cls ≠ "java/lang/invoke/MethodHandle" ∧ yX10_row.cls ≠ "java/lang/invoke/VarHandle" ∧ (parseMethodDescriptor yX10_row.desc).map (fun d => d.parameters.length) = some 4 := ⟨by decide +kernel, by decide +kernel, by decide +kernel⟩
set_option maxRecDepth 100000 in
theorem mw_RL_55 : VW RL 55 RX10 yX10_row cX10_row 9 (some .int) 4 := ⟨⟨(wjU_i 634 rfl rfl), me_X10_row.1, (wjU_i 636 rfl rfl), me_X10_row.2⟩, rfl, mf_X10_row⟩
set_option maxRecDepth 100000 in
theorem me_X11_row : Cond.instanceMethod yX11_row ∈ wjU ∧ Cond.initialized RX11 ∈ wjU ∧ Cond.code yX11_row cX11_row 8 (some .int) ∈ wjU := ⟨(wjU_i 1464 rfl rfl), (wjU_i 84 rfl rfl), (wjU_i 1466 rfl rfl)⟩
theorem mf_X11_row : yX11_row.cls ≠ "java/lang/invoke/MethodHandle" ∧ yX11_row.cls ≠ "java/lang/invoke/VarHandle" ∧ (parseMethodDescriptor yX11_row.desc).map (fun d => d.parameters.length) = some 4 := ⟨by decide +kernel, by decide +kernel, by decide +kernel⟩
set_option maxRecDepth 100000 in
theorem mw_RL_59 : VW RL 59 RX11 yX11_row cX11_row 8 (some .int) 4 := ⟨⟨(wjU_i 1463 rfl rfl), me_X11_row.1, (wjU_i 1465 rfl rfl), me_X11_row.2⟩, rfl, mf_X11_row⟩
set_option maxRecDepth 100000 in
theorem me_X10_mark : Cond.instanceMethod yX10_mark ∈ wjU ∧ Cond.initialized RX10 ∈ wjU ∧ Cond.code yX10_mark cX10_mark 8 (some .int) ∈ wjU := ⟨(wjU_i 807 rfl rfl), (wjU_i 81 rfl rfl), (wjU_i 809 rfl rfl)⟩
theorem mf_X10_mark : yX10_mark.cls ≠ "java/lang/invoke/MethodHandle" ∧ yX10_mark.cls ≠ "java/lang/invoke/VarHandle" ∧ (parseMethodDescriptor yX10_mark.desc).map (fun d => d.parameters.length) = some 3 := ⟨by decide +kernel, by decide +kernel, by decide +kernel⟩
set_option maxRecDepth 100000 in
theorem mw_RL_60 : VW RL 60 RX10 yX10_mark cX10_mark 8 (some .int) 3 := ⟨⟨(wjU_i 806 rfl rfl), me_X10_mark.1, (wjU_i 808 rfl rfl), me_X10_mark.2⟩, rfl, mf_X10_mark⟩
set_option maxRecDepth 100000 in
theorem me_X11_mark : Cond.instanceMethod yX11_mark ∈ wjU ∧ Cond.initialized RX11 ∈ wjU ∧ Cond.code yX11_mark cX11_mark 7 (some .int) ∈ wjU := ⟨(wjU_i 1559 rfl rfl), (wjU_i 84 rfl rfl), (wjU_i 1561 rfl rfl)⟩
theorem mf_X11_mark : yX11_mark.cls ≠ "java/lang/invoke/MethodHandle" ∧ yX11_mark.cls ≠ "java/lang/invoke/VarHandle" ∧ (parseMethodDescriptor yX11_mark.desc).map (fun d => d.parameters.length) = some 3 := ⟨by decide +kernel, by decide +kernel, by decide +kernel⟩
set_option maxRecDepth 100000 in
theorem mw_RL_64 : VW RL 64 RX11 yX11_mark cX11_mark 7 (some .int) 3 := ⟨⟨(wjU_i 1558 rfl rfl), me_X11_mark.1, (wjU_i 1560 rfl rfl), me_X11_mark.2⟩, rfl, mf_X11_mark⟩
set_option maxRecDepth 100000 in
theorem me_X10_end : Cond.instanceMethod yX10_end ∈ wjU ∧ Cond.initialized RX10 ∈ wjU ∧ Cond.code yX10_end cX10_end 4 (some .int) ∈ wjU := ⟨(wjU_i 813 rfl rfl), (wjU_i 81 rfl rfl), (wjU_i 815 rfl rfl)⟩
theorem mf_X10_end : yX10_end.cls ≠ "java/lang/invoke/MethodHandle" ∧ yX10_end.cls ≠ "java/lang/invoke/VarHandle" ∧ (parseMethodDescriptor yX10_end.desc).map (fun d => d.parameters.length) = some 2 := ⟨by decide +kernel, by decide +kernel, by decide +kernel⟩
set_option maxRecDepth 100000 in
theorem mw_RL_65 : VW RL 65 RX10 yX10_end cX10_end 4 (some .int) 2 := ⟨⟨(wjU_i 812 rfl rfl), me_X10_end.1, (wjU_i 814 rfl rfl), me_X10_end.2⟩, rfl, mf_X10_end⟩
set_option maxRecDepth 100000 in
theorem me_X11_end : Cond.instanceMethod yX11_end ∈ wjU ∧ Cond.initialized RX11 ∈ wjU ∧ Cond.code yX11_end cX11_end 4 (some .int) ∈ wjU := ⟨(wjU_i 1563 rfl rfl), (wjU_i 84 rfl rfl), (wjU_i 1565 rfl rfl)⟩
theorem mf_X11_end : yX11_end.cls ≠ "java/lang/invoke/MethodHandle" ∧ yX11_end.cls ≠ "java/lang/invoke/VarHandle" ∧ (parseMethodDescriptor yX11_end.desc).map (fun d => d.parameters.length) = some 2 := ⟨by decide +kernel, by decide +kernel, by decide +kernel⟩
set_option maxRecDepth 100000 in
theorem mw_RL_68 : VW RL 68 RX11 yX11_end cX11_end 4 (some .int) 2 := ⟨⟨(wjU_i 1562 rfl rfl), me_X11_end.1, (wjU_i 1564 rfl rfl), me_X11_end.2⟩, rfl, mf_X11_end⟩
set_option maxRecDepth 100000 in
theorem me_X10_idle : Cond.instanceMethod yX10_idle ∈ wjU ∧ Cond.initialized RX10 ∈ wjU ∧ Cond.code yX10_idle cX10_idle 6 (some .int) ∈ wjU := ⟨(wjU_i 821 rfl rfl), (wjU_i 81 rfl rfl), (wjU_i 823 rfl rfl)⟩
theorem mf_X10_idle : yX10_idle.cls ≠ "java/lang/invoke/MethodHandle" ∧ yX10_idle.cls ≠ "java/lang/invoke/VarHandle" ∧ (parseMethodDescriptor yX10_idle.desc).map (fun d => d.parameters.length) = some 3 := ⟨by decide +kernel, by decide +kernel, by decide +kernel⟩
set_option maxRecDepth 100000 in
theorem mw_RL_69 : VW RL 69 RX10 yX10_idle cX10_idle 6 (some .int) 3 := ⟨⟨(wjU_i 820 rfl rfl), me_X10_idle.1, (wjU_i 822 rfl rfl), me_X10_idle.2⟩, rfl, mf_X10_idle⟩
set_option maxRecDepth 100000 in
theorem me_X11_idle : Cond.instanceMethod yX11_idle ∈ wjU ∧ Cond.initialized RX11 ∈ wjU ∧ Cond.code yX11_idle cX11_idle 6 (some .int) ∈ wjU := ⟨(wjU_i 1567 rfl rfl), (wjU_i 84 rfl rfl), (wjU_i 1569 rfl rfl)⟩
theorem mf_X11_idle : yX11_idle.cls ≠ "java/lang/invoke/MethodHandle" ∧ yX11_idle.cls ≠ "java/lang/invoke/VarHandle" ∧ (parseMethodDescriptor yX11_idle.desc).map (fun d => d.parameters.length) = some 3 := ⟨by decide +kernel, by decide +kernel, by decide +kernel⟩
set_option maxRecDepth 100000 in
theorem mw_RL_73 : VW RL 73 RX11 yX11_idle cX11_idle 6 (some .int) 3 := ⟨⟨(wjU_i 1566 rfl rfl), me_X11_idle.1, (wjU_i 1568 rfl rfl), me_X11_idle.2⟩, rfl, mf_X11_idle⟩
set_option maxRecDepth 100000 in
theorem me_X10_turn : Cond.instanceMethod yX10_turn ∈ wjU ∧ Cond.initialized RX10 ∈ wjU ∧ Cond.code yX10_turn cX10_turn 3 (some .int) ∈ wjU := ⟨(wjU_i 825 rfl rfl), (wjU_i 81 rfl rfl), (wjU_i 827 rfl rfl)⟩
theorem mf_X10_turn : yX10_turn.cls ≠ "java/lang/invoke/MethodHandle" ∧ yX10_turn.cls ≠ "java/lang/invoke/VarHandle" ∧ (parseMethodDescriptor yX10_turn.desc).map (fun d => d.parameters.length) = some 1 := ⟨by decide +kernel, by decide +kernel, by decide +kernel⟩
set_option maxRecDepth 100000 in
theorem mw_RL_74 : VW RL 74 RX10 yX10_turn cX10_turn 3 (some .int) 1 := ⟨⟨(wjU_i 824 rfl rfl), me_X10_turn.1, (wjU_i 826 rfl rfl), me_X10_turn.2⟩, rfl, mf_X10_turn⟩
set_option maxRecDepth 100000 in
theorem me_X11_turn : Cond.instanceMethod yX11_turn ∈ wjU ∧ Cond.initialized RX11 ∈ wjU ∧ Cond.code yX11_turn cX11_turn 6 (some .int) ∈ wjU := ⟨(wjU_i 1571 rfl rfl), (wjU_i 84 rfl rfl), (wjU_i 1573 rfl rfl)⟩
theorem mf_X11_turn : yX11_turn.cls ≠ "java/lang/invoke/MethodHandle" ∧ yX11_turn.cls ≠ "java/lang/invoke/VarHandle" ∧ (parseMethodDescriptor yX11_turn.desc).map (fun d => d.parameters.length) = some 1 := ⟨by decide +kernel, by decide +kernel, by decide +kernel⟩
set_option maxRecDepth 100000 in
theorem mw_RL_78 : VW RL 78 RX11 yX11_turn cX11_turn 6 (some .int) 1 := ⟨⟨(wjU_i 1570 rfl rfl), me_X11_turn.1, (wjU_i 1572 rfl rfl), me_X11_turn.2⟩, rfl, mf_X11_turn⟩
set_option maxRecDepth 100000 in
theorem me_X10_hold : Cond.instanceMethod yX10_hold ∈ wjU ∧ Cond.initialized RX10 ∈ wjU ∧ Cond.code yX10_hold cX10_hold 6 (some .int) ∈ wjU := ⟨(wjU_i 837 rfl rfl), (wjU_i 81 rfl rfl), (wjU_i 839 rfl rfl)⟩
theorem mf_X10_hold : yX10_hold.cls ≠ "java/lang/invoke/MethodHandle" ∧ yX10_hold.cls ≠ "java/lang/invoke/VarHandle" ∧ (parseMethodDescriptor yX10_hold.desc).map (fun d => d.parameters.length) = some 2 := ⟨by decide +kernel, by decide +kernel, by decide +kernel⟩
set_option maxRecDepth 100000 in
theorem mw_RL_79 : VW RL 79 RX10 yX10_hold cX10_hold 6 (some .int) 2 := ⟨⟨(wjU_i 836 rfl rfl), me_X10_hold.1, (wjU_i 838 rfl rfl), me_X10_hold.2⟩, rfl, mf_X10_hold⟩
set_option maxRecDepth 100000 in
theorem me_X11_hold : Cond.instanceMethod yX11_hold ∈ wjU ∧ Cond.initialized RX11 ∈ wjU ∧ Cond.code yX11_hold cX11_hold 5 (some .int) ∈ wjU := ⟨(wjU_i 1575 rfl rfl), (wjU_i 84 rfl rfl), (wjU_i 1577 rfl rfl)⟩
theorem mf_X11_hold : yX11_hold.cls ≠ "java/lang/invoke/MethodHandle" ∧ yX11_hold.cls ≠ "java/lang/invoke/VarHandle" ∧ (parseMethodDescriptor yX11_hold.desc).map (fun d => d.parameters.length) = some 2 := ⟨by decide +kernel, by decide +kernel, by decide +kernel⟩
set_option maxRecDepth 100000 in
theorem mw_RL_83 : VW RL 83 RX11 yX11_hold cX11_hold 5 (some .int) 2 := ⟨⟨(wjU_i 1574 rfl rfl), me_X11_hold.1, (wjU_i 1576 rfl rfl), me_X11_hold.2⟩, rfl, mf_X11_hold⟩
set_option maxRecDepth 100000 in
theorem me_X10_release : Cond.instanceMethod yX10_release ∈ wjU ∧ Cond.initialized RX10 ∈ wjU ∧ Cond.code yX10_release cX10_release 4 (some .int) ∈ wjU := ⟨(wjU_i 846 rfl rfl), (wjU_i 81 rfl rfl), (wjU_i 848 rfl rfl)⟩
theorem mf_X10_release : yX10_release.cls ≠ "java/lang/invoke/MethodHandle" ∧ yX10_release.cls ≠ "java/lang/invoke/VarHandle" ∧ (parseMethodDescriptor yX10_release.desc).map (fun d => d.parameters.length) = some 3 := ⟨by decide +kernel, by decide +kernel, by decide +kernel⟩
set_option maxRecDepth 100000 in
theorem mw_RL_84 : VW RL 84 RX10 yX10_release cX10_release 4 (some .int) 3 := ⟨⟨(wjU_i 845 rfl rfl), me_X10_release.1, (wjU_i 847 rfl rfl), me_X10_release.2⟩, rfl, mf_X10_release⟩
set_option maxRecDepth 100000 in
theorem me_X11_release : Cond.instanceMethod yX11_release ∈ wjU ∧ Cond.initialized RX11 ∈ wjU ∧ Cond.code yX11_release cX11_release 4 (some .int) ∈ wjU := ⟨(wjU_i 1579 rfl rfl), (wjU_i 84 rfl rfl), (wjU_i 1581 rfl rfl)⟩
theorem mf_X11_release : yX11_release.cls ≠ "java/lang/invoke/MethodHandle" ∧ yX11_release.cls ≠ "java/lang/invoke/VarHandle" ∧ (parseMethodDescriptor yX11_release.desc).map (fun d => d.parameters.length) = some 3 := ⟨by decide +kernel, by decide +kernel, by decide +kernel⟩
set_option maxRecDepth 100000 in
theorem mw_RL_88 : VW RL 88 RX11 yX11_release cX11_release 4 (some .int) 3 := ⟨⟨(wjU_i 1578 rfl rfl), me_X11_release.1, (wjU_i 1580 rfl rfl), me_X11_release.2⟩, rfl, mf_X11_release⟩
set_option maxRecDepth 100000 in
theorem me_X11_watermark : Cond.instanceMethod yX11_watermark ∈ wjU ∧ Cond.initialized RX11 ∈ wjU ∧ Cond.code yX11_watermark cX11_watermark 2 (some .long) ∈ wjU := ⟨(wjU_i 1583 rfl rfl), (wjU_i 84 rfl rfl), (wjU_i 1585 rfl rfl)⟩
theorem mf_X11_watermark : yX11_watermark.cls ≠ "java/lang/invoke/MethodHandle" ∧ yX11_watermark.cls ≠ "java/lang/invoke/VarHandle" ∧ (parseMethodDescriptor yX11_watermark.desc).map (fun d => d.parameters.length) = some 1 := ⟨by decide +kernel, by decide +kernel, by decide +kernel⟩
set_option maxRecDepth 100000 in
theorem mw_RL_94 : VW RL 94 RX11 yX11_watermark cX11_watermark 2 (some .long) 1 := ⟨⟨(wjU_i 1582 rfl rfl), me_X11_watermark.1, (wjU_i 1584 rfl rfl), me_X11_watermark.2⟩, rfl, mf_X11_watermark⟩
set_option maxRecDepth 100000 in
theorem me_X11_thrown : Cond.instanceMethod yX11_thrown ∈ wjU ∧ Cond.initialized RX11 ∈ wjU ∧ Cond.code yX11_thrown cX11_thrown 1 (some .int) ∈ wjU := ⟨(wjU_i 1241 rfl rfl), (wjU_i 84 rfl rfl), (wjU_i 1243 rfl rfl)⟩
theorem mf_X11_thrown : yX11_thrown.cls ≠ "java/lang/invoke/MethodHandle" ∧ yX11_thrown.cls ≠ "java/lang/invoke/VarHandle" ∧ (parseMethodDescriptor yX11_thrown.desc).map (fun d => d.parameters.length) = some 0 := ⟨by decide +kernel, by decide +kernel, by decide +kernel⟩
set_option maxRecDepth 100000 in
theorem mw_RL_95 : VW RL 95 RX11 yX11_thrown cX11_thrown 1 (some .int) 0 := ⟨⟨(wjU_i 1240 rfl rfl), me_X11_thrown.1, (wjU_i 1242 rfl rfl), me_X11_thrown.2⟩, rfl, mf_X11_thrown⟩
set_option maxRecDepth 100000 in
theorem me_X11_isIdle : Cond.instanceMethod yX11_isIdle ∈ wjU ∧ Cond.initialized RX11 ∈ wjU ∧ Cond.code yX11_isIdle cX11_isIdle 2 (some .boolean) ∈ wjU := ⟨(wjU_i 1591 rfl rfl), (wjU_i 84 rfl rfl), (wjU_i 1593 rfl rfl)⟩
theorem mf_X11_isIdle : yX11_isIdle.cls ≠ "java/lang/invoke/MethodHandle" ∧ yX11_isIdle.cls ≠ "java/lang/invoke/VarHandle" ∧ (parseMethodDescriptor yX11_isIdle.desc).map (fun d => d.parameters.length) = some 1 := ⟨by decide +kernel, by decide +kernel, by decide +kernel⟩
set_option maxRecDepth 100000 in
theorem mw_RL_100 : VW RL 100 RX11 yX11_isIdle cX11_isIdle 2 (some .boolean) 1 := ⟨⟨(wjU_i 1590 rfl rfl), me_X11_isIdle.1, (wjU_i 1592 rfl rfl), me_X11_isIdle.2⟩, rfl, mf_X11_isIdle⟩
set_option maxRecDepth 100000 in
theorem me_X11_promise : Cond.instanceMethod yX11_promise ∈ wjU ∧ Cond.initialized RX11 ∈ wjU ∧ Cond.code yX11_promise cX11_promise 3 (some .long) ∈ wjU := ⟨(wjU_i 1595 rfl rfl), (wjU_i 84 rfl rfl), (wjU_i 1597 rfl rfl)⟩
theorem mf_X11_promise : yX11_promise.cls ≠ "java/lang/invoke/MethodHandle" ∧ yX11_promise.cls ≠ "java/lang/invoke/VarHandle" ∧ (parseMethodDescriptor yX11_promise.desc).map (fun d => d.parameters.length) = some 2 := ⟨by decide +kernel, by decide +kernel, by decide +kernel⟩
set_option maxRecDepth 100000 in
theorem mw_RL_104 : VW RL 104 RX11 yX11_promise cX11_promise 3 (some .long) 2 := ⟨⟨(wjU_i 1594 rfl rfl), me_X11_promise.1, (wjU_i 1596 rfl rfl), me_X11_promise.2⟩, rfl, mf_X11_promise⟩
set_option maxRecDepth 100000 in
theorem me_X10_part : Cond.instanceMethod yX10_part ∈ wjU ∧ Cond.initialized RX10 ∈ wjU ∧ Cond.code yX10_part cX10_part 4 (some .int) ∈ wjU := ⟨(wjU_i 858 rfl rfl), (wjU_i 81 rfl rfl), (wjU_i 860 rfl rfl)⟩
theorem mf_X10_part : yX10_part.cls ≠ "java/lang/invoke/MethodHandle" ∧ yX10_part.cls ≠ "java/lang/invoke/VarHandle" ∧ (parseMethodDescriptor yX10_part.desc).map (fun d => d.parameters.length) = some 2 := ⟨by decide +kernel, by decide +kernel, by decide +kernel⟩
set_option maxRecDepth 100000 in
theorem mw_RL_105 : VW RL 105 RX10 yX10_part cX10_part 4 (some .int) 2 := ⟨⟨(wjU_i 857 rfl rfl), me_X10_part.1, (wjU_i 859 rfl rfl), me_X10_part.2⟩, rfl, mf_X10_part⟩
set_option maxRecDepth 100000 in
theorem me_X11_part : Cond.instanceMethod yX11_part ∈ wjU ∧ Cond.initialized RX11 ∈ wjU ∧ Cond.code yX11_part cX11_part 3 (some .int) ∈ wjU := ⟨(wjU_i 1599 rfl rfl), (wjU_i 84 rfl rfl), (wjU_i 1601 rfl rfl)⟩
theorem mf_X11_part : yX11_part.cls ≠ "java/lang/invoke/MethodHandle" ∧ yX11_part.cls ≠ "java/lang/invoke/VarHandle" ∧ (parseMethodDescriptor yX11_part.desc).map (fun d => d.parameters.length) = some 2 := ⟨by decide +kernel, by decide +kernel, by decide +kernel⟩
set_option maxRecDepth 100000 in
theorem mw_RL_108 : VW RL 108 RX11 yX11_part cX11_part 3 (some .int) 2 := ⟨⟨(wjU_i 1598 rfl rfl), me_X11_part.1, (wjU_i 1600 rfl rfl), me_X11_part.2⟩, rfl, mf_X11_part⟩
set_option maxRecDepth 100000 in
theorem me_X11_kept : Cond.instanceMethod yX11_kept ∈ wjU ∧ Cond.initialized RX11 ∈ wjU ∧ Cond.code yX11_kept cX11_kept 3 (some .int) ∈ wjU := ⟨(wjU_i 1603 rfl rfl), (wjU_i 84 rfl rfl), (wjU_i 1605 rfl rfl)⟩
theorem mf_X11_kept : yX11_kept.cls ≠ "java/lang/invoke/MethodHandle" ∧ yX11_kept.cls ≠ "java/lang/invoke/VarHandle" ∧ (parseMethodDescriptor yX11_kept.desc).map (fun d => d.parameters.length) = some 2 := ⟨by decide +kernel, by decide +kernel, by decide +kernel⟩
set_option maxRecDepth 100000 in
theorem mw_RL_111 : VW RL 111 RX11 yX11_kept cX11_kept 3 (some .int) 2 := ⟨⟨(wjU_i 1602 rfl rfl), me_X11_kept.1, (wjU_i 1604 rfl rfl), me_X11_kept.2⟩, rfl, mf_X11_kept⟩
set_option maxRecDepth 100000 in
theorem me_X11_out : Cond.instanceMethod yX11_out ∈ wjU ∧ Cond.initialized RX11 ∈ wjU ∧ Cond.code yX11_out cX11_out 3 (some .long) ∈ wjU := ⟨(wjU_i 1611 rfl rfl), (wjU_i 84 rfl rfl), (wjU_i 1613 rfl rfl)⟩
theorem mf_X11_out : yX11_out.cls ≠ "java/lang/invoke/MethodHandle" ∧ yX11_out.cls ≠ "java/lang/invoke/VarHandle" ∧ (parseMethodDescriptor yX11_out.desc).map (fun d => d.parameters.length) = some 2 := ⟨by decide +kernel, by decide +kernel, by decide +kernel⟩
set_option maxRecDepth 100000 in
theorem mw_RL_114 : VW RL 114 RX11 yX11_out cX11_out 3 (some .long) 2 := ⟨⟨(wjU_i 1610 rfl rfl), me_X11_out.1, (wjU_i 1612 rfl rfl), me_X11_out.2⟩, rfl, mf_X11_out⟩
set_option maxRecDepth 100000 in
theorem me_X11_late_ : Cond.instanceMethod yX11_late_ ∈ wjU ∧ Cond.initialized RX11 ∈ wjU ∧ Cond.code yX11_late_ cX11_late_ 3 (some .long) ∈ wjU := ⟨(wjU_i 1619 rfl rfl), (wjU_i 84 rfl rfl), (wjU_i 1621 rfl rfl)⟩
theorem mf_X11_late_ : yX11_late_.cls ≠ "java/lang/invoke/MethodHandle" ∧ yX11_late_.cls ≠ "java/lang/invoke/VarHandle" ∧ (parseMethodDescriptor yX11_late_.desc).map (fun d => d.parameters.length) = some 2 := ⟨by decide +kernel, by decide +kernel, by decide +kernel⟩
set_option maxRecDepth 100000 in
theorem mw_RL_117 : VW RL 117 RX11 yX11_late_ cX11_late_ 3 (some .long) 2 := ⟨⟨(wjU_i 1618 rfl rfl), me_X11_late_.1, (wjU_i 1620 rfl rfl), me_X11_late_.2⟩, rfl, mf_X11_late_⟩
set_option maxRecDepth 100000 in
theorem me_X10_told : Cond.instanceMethod yX10_told ∈ wjU ∧ Cond.initialized RX10 ∈ wjU ∧ Cond.code yX10_told cX10_told 2 (some .int) ∈ wjU := ⟨(wjU_i 863 rfl rfl), (wjU_i 81 rfl rfl), (wjU_i 865 rfl rfl)⟩
theorem mf_X10_told : yX10_told.cls ≠ "java/lang/invoke/MethodHandle" ∧ yX10_told.cls ≠ "java/lang/invoke/VarHandle" ∧ (parseMethodDescriptor yX10_told.desc).map (fun d => d.parameters.length) = some 1 := ⟨by decide +kernel, by decide +kernel, by decide +kernel⟩
set_option maxRecDepth 100000 in
theorem mw_RL_118 : VW RL 118 RX10 yX10_told cX10_told 2 (some .int) 1 := ⟨⟨(wjU_i 862 rfl rfl), me_X10_told.1, (wjU_i 864 rfl rfl), me_X10_told.2⟩, rfl, mf_X10_told⟩
set_option maxRecDepth 100000 in
theorem me_X11_told : Cond.instanceMethod yX11_told ∈ wjU ∧ Cond.initialized RX11 ∈ wjU ∧ Cond.code yX11_told cX11_told 2 (some .int) ∈ wjU := ⟨(wjU_i 1623 rfl rfl), (wjU_i 84 rfl rfl), (wjU_i 1625 rfl rfl)⟩
theorem mf_X11_told : yX11_told.cls ≠ "java/lang/invoke/MethodHandle" ∧ yX11_told.cls ≠ "java/lang/invoke/VarHandle" ∧ (parseMethodDescriptor yX11_told.desc).map (fun d => d.parameters.length) = some 1 := ⟨by decide +kernel, by decide +kernel, by decide +kernel⟩
set_option maxRecDepth 100000 in
theorem mw_RL_121 : VW RL 121 RX11 yX11_told cX11_told 2 (some .int) 1 := ⟨⟨(wjU_i 1622 rfl rfl), me_X11_told.1, (wjU_i 1624 rfl rfl), me_X11_told.2⟩, rfl, mf_X11_told⟩
set_option maxRecDepth 100000 in
theorem me_X10_print : Cond.instanceMethod yX10_print ∈ wjU ∧ Cond.initialized RX10 ∈ wjU ∧ Cond.code yX10_print cX10_print 1 (some .int) ∈ wjU := ⟨(wjU_i 880 rfl rfl), (wjU_i 81 rfl rfl), (wjU_i 882 rfl rfl)⟩
theorem mf_X10_print : yX10_print.cls ≠ "java/lang/invoke/MethodHandle" ∧ yX10_print.cls ≠ "java/lang/invoke/VarHandle" ∧ (parseMethodDescriptor yX10_print.desc).map (fun d => d.parameters.length) = some 0 := ⟨by decide +kernel, by decide +kernel, by decide +kernel⟩
set_option maxRecDepth 100000 in
theorem mw_RL_122 : VW RL 122 RX10 yX10_print cX10_print 1 (some .int) 0 := ⟨⟨(wjU_i 879 rfl rfl), me_X10_print.1, (wjU_i 881 rfl rfl), me_X10_print.2⟩, rfl, mf_X10_print⟩
set_option maxRecDepth 100000 in
theorem me_X11_print : Cond.instanceMethod yX11_print ∈ wjU ∧ Cond.initialized RX11 ∈ wjU ∧ Cond.code yX11_print cX11_print 3 (some .int) ∈ wjU := ⟨(wjU_i 1631 rfl rfl), (wjU_i 84 rfl rfl), (wjU_i 1633 rfl rfl)⟩
theorem mf_X11_print : yX11_print.cls ≠ "java/lang/invoke/MethodHandle" ∧ yX11_print.cls ≠ "java/lang/invoke/VarHandle" ∧ (parseMethodDescriptor yX11_print.desc).map (fun d => d.parameters.length) = some 0 := ⟨by decide +kernel, by decide +kernel, by decide +kernel⟩
set_option maxRecDepth 100000 in
theorem mw_RL_125 : VW RL 125 RX11 yX11_print cX11_print 3 (some .int) 0 := ⟨⟨(wjU_i 1630 rfl rfl), me_X11_print.1, (wjU_i 1632 rfl rfl), me_X11_print.2⟩, rfl, mf_X11_print⟩
set_option maxRecDepth 100000 in
theorem me_X10_letter : Cond.instanceMethod yX10_letter ∈ wjU ∧ Cond.initialized RX10 ∈ wjU ∧ Cond.code yX10_letter cX10_letter 3 (some .int) ∈ wjU := ⟨(wjU_i 915 rfl rfl), (wjU_i 81 rfl rfl), (wjU_i 917 rfl rfl)⟩
theorem mf_X10_letter : yX10_letter.cls ≠ "java/lang/invoke/MethodHandle" ∧ yX10_letter.cls ≠ "java/lang/invoke/VarHandle" ∧ (parseMethodDescriptor yX10_letter.desc).map (fun d => d.parameters.length) = some 1 := ⟨by decide +kernel, by decide +kernel, by decide +kernel⟩
set_option maxRecDepth 100000 in
theorem mw_RL_126 : VW RL 126 RX10 yX10_letter cX10_letter 3 (some .int) 1 := ⟨⟨(wjU_i 914 rfl rfl), me_X10_letter.1, (wjU_i 916 rfl rfl), me_X10_letter.2⟩, rfl, mf_X10_letter⟩
set_option maxRecDepth 100000 in
theorem me_X11_letter : Cond.instanceMethod yX11_letter ∈ wjU ∧ Cond.initialized RX11 ∈ wjU ∧ Cond.code yX11_letter cX11_letter 2 (some .int) ∈ wjU := ⟨(wjU_i 1662 rfl rfl), (wjU_i 84 rfl rfl), (wjU_i 1664 rfl rfl)⟩
theorem mf_X11_letter : yX11_letter.cls ≠ "java/lang/invoke/MethodHandle" ∧ yX11_letter.cls ≠ "java/lang/invoke/VarHandle" ∧ (parseMethodDescriptor yX11_letter.desc).map (fun d => d.parameters.length) = some 1 := ⟨by decide +kernel, by decide +kernel, by decide +kernel⟩
set_option maxRecDepth 100000 in
theorem mw_RL_129 : VW RL 129 RX11 yX11_letter cX11_letter 2 (some .int) 1 := ⟨⟨(wjU_i 1661 rfl rfl), me_X11_letter.1, (wjU_i 1663 rfl rfl), me_X11_letter.2⟩, rfl, mf_X11_letter⟩
set_option maxRecDepth 100000 in
theorem me_X0_add : Cond.instanceMethod yX0_add ∈ wjU ∧ Cond.initialized RX0 ∈ wjU ∧ Cond.code yX0_add cX0_add 2 none ∈ wjU := ⟨(wjU_i 171 rfl rfl), (wjU_i 82 rfl rfl), (wjU_i 173 rfl rfl)⟩
theorem mf_X0_add : yX0_add.cls ≠ "java/lang/invoke/MethodHandle" ∧ yX0_add.cls ≠ "java/lang/invoke/VarHandle" ∧ (parseMethodDescriptor yX0_add.desc).map (fun d => d.parameters.length) = some 1 := ⟨by decide +kernel, by decide +kernel, by decide +kernel⟩
set_option maxRecDepth 100000 in
theorem mw_RX0_19 : VW RX0 19 RX0 yX0_add cX0_add 2 none 1 := ⟨⟨(wjU_i 895 rfl rfl), me_X0_add.1, (wjU_i 172 rfl rfl), me_X0_add.2⟩, rfl, mf_X0_add⟩
set_option maxRecDepth 100000 in
theorem me_X0_addWord : Cond.instanceMethod yX0_addWord ∈ wjU ∧ Cond.initialized RX0 ∈ wjU ∧ Cond.code yX0_addWord cX0_addWord 5 none ∈ wjU := ⟨(wjU_i 900 rfl rfl), (wjU_i 82 rfl rfl), (wjU_i 902 rfl rfl)⟩
theorem mf_X0_addWord : yX0_addWord.cls ≠ "java/lang/invoke/MethodHandle" ∧ yX0_addWord.cls ≠ "java/lang/invoke/VarHandle" ∧ (parseMethodDescriptor yX0_addWord.desc).map (fun d => d.parameters.length) = some 1 := ⟨by decide +kernel, by decide +kernel, by decide +kernel⟩
set_option maxRecDepth 100000 in
theorem mw_RX0_31 : VW RX0 31 RX0 yX0_addWord cX0_addWord 5 none 1 := ⟨⟨(wjU_i 909 rfl rfl), me_X0_addWord.1, (wjU_i 901 rfl rfl), me_X0_addWord.2⟩, rfl, mf_X0_addWord⟩
set_option maxRecDepth 100000 in
theorem me_X0_addNumber : Cond.instanceMethod yX0_addNumber ∈ wjU ∧ Cond.initialized RX0 ∈ wjU ∧ Cond.code yX0_addNumber cX0_addNumber 8 none ∈ wjU := ⟨(wjU_i 892 rfl rfl), (wjU_i 82 rfl rfl), (wjU_i 894 rfl rfl)⟩
theorem mf_X0_addNumber : yX0_addNumber.cls ≠ "java/lang/invoke/MethodHandle" ∧ yX0_addNumber.cls ≠ "java/lang/invoke/VarHandle" ∧ (parseMethodDescriptor yX0_addNumber.desc).map (fun d => d.parameters.length) = some 1 := ⟨by decide +kernel, by decide +kernel, by decide +kernel⟩
set_option maxRecDepth 100000 in
theorem mw_RX0_39 : VW RX0 39 RX0 yX0_addNumber cX0_addNumber 8 none 1 := ⟨⟨(wjU_i 912 rfl rfl), me_X0_addNumber.1, (wjU_i 893 rfl rfl), me_X0_addNumber.2⟩, rfl, mf_X0_addNumber⟩
set_option maxRecDepth 100000 in
theorem me_X1_isAligned : Cond.instanceMethod yX1_isAligned ∈ wjU ∧ Cond.initialized RX1 ∈ wjU ∧ Cond.code yX1_isAligned cX1_isAligned 2 (some .boolean) ∈ wjU := ⟨(wjU_i 362 rfl rfl), (wjU_i 87 rfl rfl), (wjU_i 364 rfl rfl)⟩
theorem mf_X1_isAligned : yX1_isAligned.cls ≠ "java/lang/invoke/MethodHandle" ∧ yX1_isAligned.cls ≠ "java/lang/invoke/VarHandle" ∧ (parseMethodDescriptor yX1_isAligned.desc).map (fun d => d.parameters.length) = some 1 := ⟨by decide +kernel, by decide +kernel, by decide +kernel⟩
set_option maxRecDepth 100000 in
theorem mw_RX1_54 : VW RX1 54 RX1 yX1_isAligned cX1_isAligned 2 (some .boolean) 1 := ⟨⟨(wjU_i 662 rfl rfl), me_X1_isAligned.1, (wjU_i 363 rfl rfl), me_X1_isAligned.2⟩, rfl, mf_X1_isAligned⟩
set_option maxRecDepth 100000 in
theorem me_X5_leastActive : Cond.instanceMethod yX5_leastActive ∈ wjU ∧ Cond.initialized RX5 ∈ wjU ∧ Cond.code yX5_leastActive cX5_leastActive 4 (some .long) ∈ wjU := ⟨(wjU_i 665 rfl rfl), (wjU_i 90 rfl rfl), (wjU_i 667 rfl rfl)⟩
theorem mf_X5_leastActive : yX5_leastActive.cls ≠ "java/lang/invoke/MethodHandle" ∧ yX5_leastActive.cls ≠ "java/lang/invoke/VarHandle" ∧ (parseMethodDescriptor yX5_leastActive.desc).map (fun d => d.parameters.length) = some 0 := ⟨by decide +kernel, by decide +kernel, by decide +kernel⟩
set_option maxRecDepth 100000 in
theorem mw_RX1_64 : VW RX1 64 RX5 yX5_leastActive cX5_leastActive 4 (some .long) 0 := ⟨⟨(wjU_i 664 rfl rfl), me_X5_leastActive.1, (wjU_i 666 rfl rfl), me_X5_leastActive.2⟩, rfl, mf_X5_leastActive⟩
set_option maxRecDepth 100000 in
theorem me_X1_isStopped : Cond.instanceMethod yX1_isStopped ∈ wjU ∧ Cond.initialized RX1 ∈ wjU ∧ Cond.code yX1_isStopped cX1_isStopped 7 (some .boolean) ∈ wjU := ⟨(wjU_i 659 rfl rfl), (wjU_i 87 rfl rfl), (wjU_i 661 rfl rfl)⟩
theorem mf_X1_isStopped : yX1_isStopped.cls ≠ "java/lang/invoke/MethodHandle" ∧ yX1_isStopped.cls ≠ "java/lang/invoke/VarHandle" ∧ (parseMethodDescriptor yX1_isStopped.desc).map (fun d => d.parameters.length) = some 2 := ⟨by decide +kernel, by decide +kernel, by decide +kernel⟩
set_option maxRecDepth 100000 in
theorem mw_RX1_80 : VW RX1 80 RX1 yX1_isStopped cX1_isStopped 7 (some .boolean) 2 := ⟨⟨(wjU_i 658 rfl rfl), me_X1_isStopped.1, (wjU_i 660 rfl rfl), me_X1_isStopped.2⟩, rfl, mf_X1_isStopped⟩
set_option maxRecDepth 100000 in
theorem me_X5_countIn : Cond.instanceMethod yX5_countIn ∈ wjU ∧ Cond.initialized RX5 ∈ wjU ∧ Cond.code yX5_countIn cX5_countIn 4 (some .int) ∈ wjU := ⟨(wjU_i 762 rfl rfl), (wjU_i 90 rfl rfl), (wjU_i 764 rfl rfl)⟩
theorem mf_X5_countIn : yX5_countIn.cls ≠ "java/lang/invoke/MethodHandle" ∧ yX5_countIn.cls ≠ "java/lang/invoke/VarHandle" ∧ (parseMethodDescriptor yX5_countIn.desc).map (fun d => d.parameters.length) = some 1 := ⟨by decide +kernel, by decide +kernel, by decide +kernel⟩
set_option maxRecDepth 100000 in
theorem mw_RX1_84 : VW RX1 84 RX5 yX5_countIn cX5_countIn 4 (some .int) 1 := ⟨⟨(wjU_i 874 rfl rfl), me_X5_countIn.1, (wjU_i 763 rfl rfl), me_X5_countIn.2⟩, rfl, mf_X5_countIn⟩
set_option maxRecDepth 100000 in
theorem me_X5_hear : Cond.instanceMethod yX5_hear ∈ wjU ∧ Cond.initialized RX5 ∈ wjU ∧ Cond.code yX5_hear cX5_hear 3 none ∈ wjU := ⟨(wjU_i 689 rfl rfl), (wjU_i 90 rfl rfl), (wjU_i 691 rfl rfl)⟩
theorem mf_X5_hear : yX5_hear.cls ≠ "java/lang/invoke/MethodHandle" ∧ yX5_hear.cls ≠ "java/lang/invoke/VarHandle" ∧ (parseMethodDescriptor yX5_hear.desc).map (fun d => d.parameters.length) = some 2 := ⟨by decide +kernel, by decide +kernel, by decide +kernel⟩
set_option maxRecDepth 100000 in
theorem mw_RX1_94 : VW RX1 94 RX5 yX5_hear cX5_hear 3 none 2 := ⟨⟨(wjU_i 688 rfl rfl), me_X5_hear.1, (wjU_i 690 rfl rfl), me_X5_hear.2⟩, rfl, mf_X5_hear⟩
set_option maxRecDepth 100000 in
theorem me_X3_note : Cond.instanceMethod yX3_note ∈ wjU ∧ Cond.initialized RX3 ∈ wjU ∧ Cond.code yX3_note cX3_note 6 none ∈ wjU := ⟨(wjU_i 693 rfl rfl), (wjU_i 83 rfl rfl), (wjU_i 695 rfl rfl)⟩
theorem mf_X3_note : yX3_note.cls ≠ "java/lang/invoke/MethodHandle" ∧ yX3_note.cls ≠ "java/lang/invoke/VarHandle" ∧ (parseMethodDescriptor yX3_note.desc).map (fun d => d.parameters.length) = some 4 := ⟨by decide +kernel, by decide +kernel, by decide +kernel⟩
set_option maxRecDepth 100000 in
theorem mw_RX1_104 : VW RX1 104 RX3 yX3_note cX3_note 6 none 4 := ⟨⟨(wjU_i 692 rfl rfl), me_X3_note.1, (wjU_i 694 rfl rfl), me_X3_note.2⟩, rfl, mf_X3_note⟩
set_option maxRecDepth 100000 in
theorem me_X1_passOn : Cond.instanceMethod yX1_passOn ∈ wjU ∧ Cond.initialized RX1 ∈ wjU ∧ Cond.code yX1_passOn cX1_passOn 10 none ∈ wjU := ⟨(wjU_i 698 rfl rfl), (wjU_i 87 rfl rfl), (wjU_i 699 rfl rfl)⟩
theorem mf_X1_passOn : yX1_passOn.cls ≠ "java/lang/invoke/MethodHandle" ∧ yX1_passOn.cls ≠ "java/lang/invoke/VarHandle" ∧ (parseMethodDescriptor yX1_passOn.desc).map (fun d => d.parameters.length) = some 5 := ⟨by decide +kernel, by decide +kernel, by decide +kernel⟩
set_option maxRecDepth 100000 in
theorem mw_RX1_110 : VW RX1 110 RX1 yX1_passOn cX1_passOn 10 none 5 := ⟨⟨(wjU_i 696 rfl rfl), me_X1_passOn.1, (wjU_i 22 rfl rfl), me_X1_passOn.2⟩, rfl, mf_X1_passOn⟩
set_option maxRecDepth 100000 in
theorem me_X5_raise : Cond.instanceMethod yX5_raise ∈ wjU ∧ Cond.initialized RX5 ∈ wjU ∧ Cond.code yX5_raise cX5_raise 4 (some .boolean) ∈ wjU := ⟨(wjU_i 746 rfl rfl), (wjU_i 90 rfl rfl), (wjU_i 748 rfl rfl)⟩
theorem mf_X5_raise : yX5_raise.cls ≠ "java/lang/invoke/MethodHandle" ∧ yX5_raise.cls ≠ "java/lang/invoke/VarHandle" ∧ (parseMethodDescriptor yX5_raise.desc).map (fun d => d.parameters.length) = some 2 := ⟨by decide +kernel, by decide +kernel, by decide +kernel⟩
set_option maxRecDepth 100000 in
theorem mw_RX1_117 : VW RX1 117 RX5 yX5_raise cX5_raise 4 (some .boolean) 2 := ⟨⟨(wjU_i 745 rfl rfl), me_X5_raise.1, (wjU_i 747 rfl rfl), me_X5_raise.2⟩, rfl, mf_X5_raise⟩
set_option maxRecDepth 100000 in
theorem me_X5_isSilent : Cond.instanceMethod yX5_isSilent ∈ wjU ∧ Cond.initialized RX5 ∈ wjU ∧ Cond.code yX5_isSilent cX5_isSilent 3 (some .boolean) ∈ wjU := ⟨(wjU_i 833 rfl rfl), (wjU_i 90 rfl rfl), (wjU_i 835 rfl rfl)⟩
theorem mf_X5_isSilent : yX5_isSilent.cls ≠ "java/lang/invoke/MethodHandle" ∧ yX5_isSilent.cls ≠ "java/lang/invoke/VarHandle" ∧ (parseMethodDescriptor yX5_isSilent.desc).map (fun d => d.parameters.length) = some 2 := ⟨by decide +kernel, by decide +kernel, by decide +kernel⟩
set_option maxRecDepth 100000 in
theorem mw_RX1_125 : VW RX1 125 RX5 yX5_isSilent cX5_isSilent 3 (some .boolean) 2 := ⟨⟨(wjU_i 832 rfl rfl), me_X5_isSilent.1, (wjU_i 834 rfl rfl), me_X5_isSilent.2⟩, rfl, mf_X5_isSilent⟩
set_option maxRecDepth 100000 in
theorem me_X9_add : Cond.instanceMethod yX9_add ∈ wjU ∧ Cond.initialized RX9 ∈ wjU ∧ Cond.code yX9_add cX9_add 11 (some .int) ∈ wjU := ⟨(wjU_i 701 rfl rfl), (wjU_i 92 rfl rfl), (wjU_i 703 rfl rfl)⟩
theorem mf_X9_add : yX9_add.cls ≠ "java/lang/invoke/MethodHandle" ∧ yX9_add.cls ≠ "java/lang/invoke/VarHandle" ∧ (parseMethodDescriptor yX9_add.desc).map (fun d => d.parameters.length) = some 3 := ⟨by decide +kernel, by decide +kernel, by decide +kernel⟩
set_option maxRecDepth 100000 in
theorem mw_RX1_149 : VW RX1 149 RX9 yX9_add cX9_add 11 (some .int) 3 := ⟨⟨(wjU_i 700 rfl rfl), me_X9_add.1, (wjU_i 702 rfl rfl), me_X9_add.2⟩, rfl, mf_X9_add⟩
set_option maxRecDepth 100000 in
theorem me_X1_comeToJoin : Cond.instanceMethod yX1_comeToJoin ∈ wjU ∧ Cond.initialized RX1 ∈ wjU ∧ Cond.code yX1_comeToJoin cX1_comeToJoin 13 none ∈ wjU := ⟨(wjU_i 721 rfl rfl), (wjU_i 87 rfl rfl), (wjU_i 722 rfl rfl)⟩
theorem mf_X1_comeToJoin : yX1_comeToJoin.cls ≠ "java/lang/invoke/MethodHandle" ∧ yX1_comeToJoin.cls ≠ "java/lang/invoke/VarHandle" ∧ (parseMethodDescriptor yX1_comeToJoin.desc).map (fun d => d.parameters.length) = some 6 := ⟨by decide +kernel, by decide +kernel, by decide +kernel⟩
set_option maxRecDepth 100000 in
theorem mw_RX1_162 : VW RX1 162 RX1 yX1_comeToJoin cX1_comeToJoin 13 none 6 := ⟨⟨(wjU_i 719 rfl rfl), me_X1_comeToJoin.1, (wjU_i 26 rfl rfl), me_X1_comeToJoin.2⟩, rfl, mf_X1_comeToJoin⟩
set_option maxRecDepth 100000 in
theorem me_X2_meets : Cond.instanceMethod yX2_meets ∈ wjU ∧ Cond.initialized RX2 ∈ wjU ∧ Cond.code yX2_meets cX2_meets 11 (some .boolean) ∈ wjU := ⟨(wjU_i 724 rfl rfl), (wjU_i 91 rfl rfl), (wjU_i 726 rfl rfl)⟩
theorem mf_X2_meets : yX2_meets.cls ≠ "java/lang/invoke/MethodHandle" ∧ yX2_meets.cls ≠ "java/lang/invoke/VarHandle" ∧ (parseMethodDescriptor yX2_meets.desc).map (fun d => d.parameters.length) = some 4 := ⟨by decide +kernel, by decide +kernel, by decide +kernel⟩
set_option maxRecDepth 100000 in
theorem mw_RX1_171 : VW RX1 171 RX2 yX2_meets cX2_meets 11 (some .boolean) 4 := ⟨⟨(wjU_i 723 rfl rfl), me_X2_meets.1, (wjU_i 725 rfl rfl), me_X2_meets.2⟩, rfl, mf_X2_meets⟩
set_option maxRecDepth 100000 in
theorem me_X2_isFar : Cond.instanceMethod yX2_isFar ∈ wjU ∧ Cond.initialized RX2 ∈ wjU ∧ Cond.code yX2_isFar cX2_isFar 4 (some .boolean) ∈ wjU := ⟨(wjU_i 730 rfl rfl), (wjU_i 91 rfl rfl), (wjU_i 732 rfl rfl)⟩
theorem mf_X2_isFar : yX2_isFar.cls ≠ "java/lang/invoke/MethodHandle" ∧ yX2_isFar.cls ≠ "java/lang/invoke/VarHandle" ∧ (parseMethodDescriptor yX2_isFar.desc).map (fun d => d.parameters.length) = some 2 := ⟨by decide +kernel, by decide +kernel, by decide +kernel⟩
set_option maxRecDepth 100000 in
theorem mw_RX1_185 : VW RX1 185 RX2 yX2_isFar cX2_isFar 4 (some .boolean) 2 := ⟨⟨(wjU_i 729 rfl rfl), me_X2_isFar.1, (wjU_i 731 rfl rfl), me_X2_isFar.2⟩, rfl, mf_X2_isFar⟩
set_option maxRecDepth 100000 in
theorem me_X2_keep : Cond.instanceMethod yX2_keep ∈ wjU ∧ Cond.initialized RX2 ∈ wjU ∧ Cond.code yX2_keep cX2_keep 7 (some .int) ∈ wjU := ⟨(wjU_i 734 rfl rfl), (wjU_i 91 rfl rfl), (wjU_i 736 rfl rfl)⟩
theorem mf_X2_keep : yX2_keep.cls ≠ "java/lang/invoke/MethodHandle" ∧ yX2_keep.cls ≠ "java/lang/invoke/VarHandle" ∧ (parseMethodDescriptor yX2_keep.desc).map (fun d => d.parameters.length) = some 4 := ⟨by decide +kernel, by decide +kernel, by decide +kernel⟩
set_option maxRecDepth 100000 in
theorem mw_RX1_188 : VW RX1 188 RX2 yX2_keep cX2_keep 7 (some .int) 4 := ⟨⟨(wjU_i 733 rfl rfl), me_X2_keep.1, (wjU_i 735 rfl rfl), me_X2_keep.2⟩, rfl, mf_X2_keep⟩
set_option maxRecDepth 100000 in
theorem me_X1_goalOf : Cond.instanceMethod yX1_goalOf ∈ wjU ∧ Cond.initialized RX1 ∈ wjU ∧ Cond.code yX1_goalOf cX1_goalOf 5 (some .long) ∈ wjU := ⟨(wjU_i 755 rfl rfl), (wjU_i 87 rfl rfl), (wjU_i 756 rfl rfl)⟩
theorem mf_X1_goalOf : yX1_goalOf.cls ≠ "java/lang/invoke/MethodHandle" ∧ yX1_goalOf.cls ≠ "java/lang/invoke/VarHandle" ∧ (parseMethodDescriptor yX1_goalOf.desc).map (fun d => d.parameters.length) = some 1 := ⟨by decide +kernel, by decide +kernel, by decide +kernel⟩
set_option maxRecDepth 100000 in
theorem mw_RX1_192 : VW RX1 192 RX1 yX1_goalOf cX1_goalOf 5 (some .long) 1 := ⟨⟨(wjU_i 753 rfl rfl), me_X1_goalOf.1, (wjU_i 29 rfl rfl), me_X1_goalOf.2⟩, rfl, mf_X1_goalOf⟩
set_option maxRecDepth 100000 in
theorem me_X1_closeSums : Cond.instanceMethod yX1_closeSums ∈ wjU ∧ Cond.initialized RX1 ∈ wjU ∧ Cond.code yX1_closeSums cX1_closeSums 8 none ∈ wjU := ⟨(wjU_i 790 rfl rfl), (wjU_i 87 rfl rfl), (wjU_i 791 rfl rfl)⟩
theorem mf_X1_closeSums : yX1_closeSums.cls ≠ "java/lang/invoke/MethodHandle" ∧ yX1_closeSums.cls ≠ "java/lang/invoke/VarHandle" ∧ (parseMethodDescriptor yX1_closeSums.desc).map (fun d => d.parameters.length) = some 1 := ⟨by decide +kernel, by decide +kernel, by decide +kernel⟩
set_option maxRecDepth 100000 in
theorem mw_RX1_202 : VW RX1 202 RX1 yX1_closeSums cX1_closeSums 8 none 1 := ⟨⟨(wjU_i 788 rfl rfl), me_X1_closeSums.1, (wjU_i 30 rfl rfl), me_X1_closeSums.2⟩, rfl, mf_X1_closeSums⟩
set_option maxRecDepth 100000 in
theorem me_X2_dropFar : Cond.instanceMethod yX2_dropFar ∈ wjU ∧ Cond.initialized RX2 ∈ wjU ∧ Cond.code yX2_dropFar cX2_dropFar 4 none ∈ wjU := ⟨(wjU_i 802 rfl rfl), (wjU_i 91 rfl rfl), (wjU_i 804 rfl rfl)⟩
theorem mf_X2_dropFar : yX2_dropFar.cls ≠ "java/lang/invoke/MethodHandle" ∧ yX2_dropFar.cls ≠ "java/lang/invoke/VarHandle" ∧ (parseMethodDescriptor yX2_dropFar.desc).map (fun d => d.parameters.length) = some 0 := ⟨by decide +kernel, by decide +kernel, by decide +kernel⟩
set_option maxRecDepth 100000 in
theorem mw_RX1_206 : VW RX1 206 RX2 yX2_dropFar cX2_dropFar 4 none 0 := ⟨⟨(wjU_i 801 rfl rfl), me_X2_dropFar.1, (wjU_i 803 rfl rfl), me_X2_dropFar.2⟩, rfl, mf_X2_dropFar⟩
set_option maxRecDepth 100000 in
theorem me_X5_goal : Cond.instanceMethod yX5_goal ∈ wjU ∧ Cond.initialized RX5 ∈ wjU ∧ Cond.code yX5_goal cX5_goal 1 (some .long) ∈ wjU := ⟨(wjU_i 758 rfl rfl), (wjU_i 90 rfl rfl), (wjU_i 760 rfl rfl)⟩
theorem mf_X5_goal : yX5_goal.cls ≠ "java/lang/invoke/MethodHandle" ∧ yX5_goal.cls ≠ "java/lang/invoke/VarHandle" ∧ (parseMethodDescriptor yX5_goal.desc).map (fun d => d.parameters.length) = some 0 := ⟨by decide +kernel, by decide +kernel, by decide +kernel⟩
set_option maxRecDepth 100000 in
theorem mw_RX1_209 : VW RX1 209 RX5 yX5_goal cX5_goal 1 (some .long) 0 := ⟨⟨(wjU_i 757 rfl rfl), me_X5_goal.1, (wjU_i 759 rfl rfl), me_X5_goal.2⟩, rfl, mf_X5_goal⟩
set_option maxRecDepth 100000 in
theorem me_X6_leastOfInputs : Cond.instanceMethod yX6_leastOfInputs ∈ wjU ∧ Cond.initialized RX6 ∈ wjU ∧ Cond.code yX6_leastOfInputs cX6_leastOfInputs 6 (some .long) ∈ wjU := ⟨(wjU_i 770 rfl rfl), (wjU_i 89 rfl rfl), (wjU_i 772 rfl rfl)⟩
theorem mf_X6_leastOfInputs : yX6_leastOfInputs.cls ≠ "java/lang/invoke/MethodHandle" ∧ yX6_leastOfInputs.cls ≠ "java/lang/invoke/VarHandle" ∧ (parseMethodDescriptor yX6_leastOfInputs.desc).map (fun d => d.parameters.length) = some 0 := ⟨by decide +kernel, by decide +kernel, by decide +kernel⟩
set_option maxRecDepth 100000 in
theorem mw_RX1_219 : VW RX1 219 RX6 yX6_leastOfInputs cX6_leastOfInputs 6 (some .long) 0 := ⟨⟨(wjU_i 769 rfl rfl), me_X6_leastOfInputs.1, (wjU_i 771 rfl rfl), me_X6_leastOfInputs.2⟩, rfl, mf_X6_leastOfInputs⟩
set_option maxRecDepth 100000 in
theorem me_X8_countIn : Cond.instanceMethod yX8_countIn ∈ wjU ∧ Cond.initialized RX8 ∈ wjU ∧ Cond.code yX8_countIn cX8_countIn 4 (some .int) ∈ wjU := ⟨(wjU_i 778 rfl rfl), (wjU_i 88 rfl rfl), (wjU_i 780 rfl rfl)⟩
theorem mf_X8_countIn : yX8_countIn.cls ≠ "java/lang/invoke/MethodHandle" ∧ yX8_countIn.cls ≠ "java/lang/invoke/VarHandle" ∧ (parseMethodDescriptor yX8_countIn.desc).map (fun d => d.parameters.length) = some 1 := ⟨by decide +kernel, by decide +kernel, by decide +kernel⟩
set_option maxRecDepth 100000 in
theorem mw_RX1_224 : VW RX1 224 RX8 yX8_countIn cX8_countIn 4 (some .int) 1 := ⟨⟨(wjU_i 777 rfl rfl), me_X8_countIn.1, (wjU_i 779 rfl rfl), me_X8_countIn.2⟩, rfl, mf_X8_countIn⟩
set_option maxRecDepth 100000 in
theorem me_X8_leastIn : Cond.instanceMethod yX8_leastIn ∈ wjU ∧ Cond.initialized RX8 ∈ wjU ∧ Cond.code yX8_leastIn cX8_leastIn 5 (some .long) ∈ wjU := ⟨(wjU_i 782 rfl rfl), (wjU_i 88 rfl rfl), (wjU_i 784 rfl rfl)⟩
theorem mf_X8_leastIn : yX8_leastIn.cls ≠ "java/lang/invoke/MethodHandle" ∧ yX8_leastIn.cls ≠ "java/lang/invoke/VarHandle" ∧ (parseMethodDescriptor yX8_leastIn.desc).map (fun d => d.parameters.length) = some 1 := ⟨by decide +kernel, by decide +kernel, by decide +kernel⟩
set_option maxRecDepth 100000 in
theorem mw_RX1_225 : VW RX1 225 RX8 yX8_leastIn cX8_leastIn 5 (some .long) 1 := ⟨⟨(wjU_i 781 rfl rfl), me_X8_leastIn.1, (wjU_i 783 rfl rfl), me_X8_leastIn.2⟩, rfl, mf_X8_leastIn⟩
set_option maxRecDepth 100000 in
theorem me_X9_lastTime : Cond.instanceMethod yX9_lastTime ∈ wjU ∧ Cond.initialized RX9 ∈ wjU ∧ Cond.code yX9_lastTime cX9_lastTime 2 (some .long) ∈ wjU := ⟨(wjU_i 793 rfl rfl), (wjU_i 92 rfl rfl), (wjU_i 795 rfl rfl)⟩
theorem mf_X9_lastTime : yX9_lastTime.cls ≠ "java/lang/invoke/MethodHandle" ∧ yX9_lastTime.cls ≠ "java/lang/invoke/VarHandle" ∧ (parseMethodDescriptor yX9_lastTime.desc).map (fun d => d.parameters.length) = some 1 := ⟨by decide +kernel, by decide +kernel, by decide +kernel⟩
set_option maxRecDepth 100000 in
theorem mw_RX1_230 : VW RX1 230 RX9 yX9_lastTime cX9_lastTime 2 (some .long) 1 := ⟨⟨(wjU_i 792 rfl rfl), me_X9_lastTime.1, (wjU_i 794 rfl rfl), me_X9_lastTime.2⟩, rfl, mf_X9_lastTime⟩
set_option maxRecDepth 100000 in
theorem me_X9_dropFirst : Cond.instanceMethod yX9_dropFirst ∈ wjU ∧ Cond.initialized RX9 ∈ wjU ∧ Cond.code yX9_dropFirst cX9_dropFirst 2 none ∈ wjU := ⟨(wjU_i 798 rfl rfl), (wjU_i 92 rfl rfl), (wjU_i 800 rfl rfl)⟩
theorem mf_X9_dropFirst : yX9_dropFirst.cls ≠ "java/lang/invoke/MethodHandle" ∧ yX9_dropFirst.cls ≠ "java/lang/invoke/VarHandle" ∧ (parseMethodDescriptor yX9_dropFirst.desc).map (fun d => d.parameters.length) = some 0 := ⟨by decide +kernel, by decide +kernel, by decide +kernel⟩
set_option maxRecDepth 100000 in
theorem mw_RX1_239 : VW RX1 239 RX9 yX9_dropFirst cX9_dropFirst 2 none 0 := ⟨⟨(wjU_i 797 rfl rfl), me_X9_dropFirst.1, (wjU_i 799 rfl rfl), me_X9_dropFirst.2⟩, rfl, mf_X9_dropFirst⟩
set_option maxRecDepth 100000 in
theorem me_X6_write : Cond.instanceMethod yX6_write ∈ wjU ∧ Cond.initialized RX6 ∈ wjU ∧ Cond.code yX6_write cX6_write 3 none ∈ wjU := ⟨(wjU_i 888 rfl rfl), (wjU_i 89 rfl rfl), (wjU_i 890 rfl rfl)⟩
theorem mf_X6_write : yX6_write.cls ≠ "java/lang/invoke/MethodHandle" ∧ yX6_write.cls ≠ "java/lang/invoke/VarHandle" ∧ (parseMethodDescriptor yX6_write.desc).map (fun d => d.parameters.length) = some 1 := ⟨by decide +kernel, by decide +kernel, by decide +kernel⟩
set_option maxRecDepth 100000 in
theorem mw_RX1_242 : VW RX1 242 RX6 yX6_write cX6_write 3 none 1 := ⟨⟨(wjU_i 887 rfl rfl), me_X6_write.1, (wjU_i 889 rfl rfl), me_X6_write.2⟩, rfl, mf_X6_write⟩
set_option maxRecDepth 100000 in
theorem mw_RX10_42 : VW RX10 42 RX0 yX0_add cX0_add 2 none 1 := ⟨⟨(wjU_i 170 rfl rfl), me_X0_add.1, (wjU_i 172 rfl rfl), me_X0_add.2⟩, rfl, mf_X0_add⟩
set_option maxRecDepth 100000 in
theorem me_X7_readText : Cond.instanceMethod yX7_readText ∈ wjU ∧ Cond.initialized RX7 ∈ wjU ∧ Cond.code yX7_readText cX7_readText 4 (some .boolean) ∈ wjU := ⟨(wjU_i 301 rfl rfl), (wjU_i 85 rfl rfl), (wjU_i 303 rfl rfl)⟩
theorem mf_X7_readText : yX7_readText.cls ≠ "java/lang/invoke/MethodHandle" ∧ yX7_readText.cls ≠ "java/lang/invoke/VarHandle" ∧ (parseMethodDescriptor yX7_readText.desc).map (fun d => d.parameters.length) = some 0 := ⟨by decide +kernel, by decide +kernel, by decide +kernel⟩
set_option maxRecDepth 100000 in
theorem mw_RX10_60 : VW RX10 60 RX7 yX7_readText cX7_readText 4 (some .boolean) 0 := ⟨⟨(wjU_i 300 rfl rfl), me_X7_readText.1, (wjU_i 302 rfl rfl), me_X7_readText.2⟩, rfl, mf_X7_readText⟩
set_option maxRecDepth 100000 in
theorem me_X0_clear : Cond.instanceMethod yX0_clear ∈ wjU ∧ Cond.initialized RX0 ∈ wjU ∧ Cond.code yX0_clear cX0_clear 1 none ∈ wjU := ⟨(wjU_i 623 rfl rfl), (wjU_i 82 rfl rfl), (wjU_i 625 rfl rfl)⟩
theorem mf_X0_clear : yX0_clear.cls ≠ "java/lang/invoke/MethodHandle" ∧ yX0_clear.cls ≠ "java/lang/invoke/VarHandle" ∧ (parseMethodDescriptor yX0_clear.desc).map (fun d => d.parameters.length) = some 0 := ⟨by decide +kernel, by decide +kernel, by decide +kernel⟩
set_option maxRecDepth 100000 in
theorem mw_RX10_64 : VW RX10 64 RX0 yX0_clear cX0_clear 1 none 0 := ⟨⟨(wjU_i 622 rfl rfl), me_X0_clear.1, (wjU_i 624 rfl rfl), me_X0_clear.2⟩, rfl, mf_X0_clear⟩
set_option maxRecDepth 100000 in
theorem me_X3_clear : Cond.instanceMethod yX3_clear ∈ wjU ∧ Cond.initialized RX3 ∈ wjU ∧ Cond.code yX3_clear cX3_clear 1 none ∈ wjU := ⟨(wjU_i 627 rfl rfl), (wjU_i 83 rfl rfl), (wjU_i 629 rfl rfl)⟩
theorem mf_X3_clear : yX3_clear.cls ≠ "java/lang/invoke/MethodHandle" ∧ yX3_clear.cls ≠ "java/lang/invoke/VarHandle" ∧ (parseMethodDescriptor yX3_clear.desc).map (fun d => d.parameters.length) = some 0 := ⟨by decide +kernel, by decide +kernel, by decide +kernel⟩
set_option maxRecDepth 100000 in
theorem mw_RX10_72 : VW RX10 72 RX3 yX3_clear cX3_clear 1 none 0 := ⟨⟨(wjU_i 626 rfl rfl), me_X3_clear.1, (wjU_i 628 rfl rfl), me_X3_clear.2⟩, rfl, mf_X3_clear⟩
set_option maxRecDepth 100000 in
theorem me_X10_sourceWith : Cond.instanceMethod yX10_sourceWith ∈ wjU ∧ Cond.initialized RX10 ∈ wjU ∧ Cond.code yX10_sourceWith cX10_sourceWith 4 (some (.object "WatermarkJoin$Stream")) ∈ wjU := ⟨(wjU_i 640 rfl rfl), (wjU_i 81 rfl rfl), (wjU_i 641 rfl rfl)⟩
theorem mf_X10_sourceWith : yX10_sourceWith.cls ≠ "java/lang/invoke/MethodHandle" ∧ yX10_sourceWith.cls ≠ "java/lang/invoke/VarHandle" ∧ (parseMethodDescriptor yX10_sourceWith.desc).map (fun d => d.parameters.length) = some 2 := ⟨by decide +kernel, by decide +kernel, by decide +kernel⟩
set_option maxRecDepth 100000 in
theorem mw_RX10_76 : VW RX10 76 RX10 yX10_sourceWith cX10_sourceWith 4 (some (.object "WatermarkJoin$Stream")) 2 := ⟨⟨(wjU_i 638 rfl rfl), me_X10_sourceWith.1, (wjU_i 20 rfl rfl), me_X10_sourceWith.2⟩, rfl, mf_X10_sourceWith⟩
set_option maxRecDepth 100000 in
theorem me_X1_refusalOf : Cond.instanceMethod yX1_refusalOf ∈ wjU ∧ Cond.initialized RX1 ∈ wjU ∧ Cond.code yX1_refusalOf cX1_refusalOf 3 (some .int) ∈ wjU := ⟨(wjU_i 655 rfl rfl), (wjU_i 87 rfl rfl), (wjU_i 657 rfl rfl)⟩
theorem mf_X1_refusalOf : yX1_refusalOf.cls ≠ "java/lang/invoke/MethodHandle" ∧ yX1_refusalOf.cls ≠ "java/lang/invoke/VarHandle" ∧ (parseMethodDescriptor yX1_refusalOf.desc).map (fun d => d.parameters.length) = some 2 := ⟨by decide +kernel, by decide +kernel, by decide +kernel⟩
set_option maxRecDepth 100000 in
theorem mw_RX10_94 : VW RX10 94 RX1 yX1_refusalOf cX1_refusalOf 3 (some .int) 2 := ⟨⟨(wjU_i 654 rfl rfl), me_X1_refusalOf.1, (wjU_i 656 rfl rfl), me_X1_refusalOf.2⟩, rfl, mf_X1_refusalOf⟩
set_option maxRecDepth 100000 in
theorem me_X1_takeRow : Cond.instanceMethod yX1_takeRow ∈ wjU ∧ Cond.initialized RX1 ∈ wjU ∧ Cond.code yX1_takeRow cX1_takeRow 7 (some .int) ∈ wjU := ⟨(wjU_i 685 rfl rfl), (wjU_i 87 rfl rfl), (wjU_i 687 rfl rfl)⟩
theorem mf_X1_takeRow : yX1_takeRow.cls ≠ "java/lang/invoke/MethodHandle" ∧ yX1_takeRow.cls ≠ "java/lang/invoke/VarHandle" ∧ (parseMethodDescriptor yX1_takeRow.desc).map (fun d => d.parameters.length) = some 4 := ⟨by decide +kernel, by decide +kernel, by decide +kernel⟩
set_option maxRecDepth 100000 in
theorem mw_RX10_98 : VW RX10 98 RX1 yX1_takeRow cX1_takeRow 7 (some .int) 4 := ⟨⟨(wjU_i 684 rfl rfl), me_X1_takeRow.1, (wjU_i 686 rfl rfl), me_X1_takeRow.2⟩, rfl, mf_X1_takeRow⟩
set_option maxRecDepth 100000 in
theorem me_X1_reckon : Cond.instanceMethod yX1_reckon ∈ wjU ∧ Cond.initialized RX1 ∈ wjU ∧ Cond.code yX1_reckon cX1_reckon 5 none ∈ wjU := ⟨(wjU_i 750 rfl rfl), (wjU_i 87 rfl rfl), (wjU_i 752 rfl rfl)⟩
theorem mf_X1_reckon : yX1_reckon.cls ≠ "java/lang/invoke/MethodHandle" ∧ yX1_reckon.cls ≠ "java/lang/invoke/VarHandle" ∧ (parseMethodDescriptor yX1_reckon.desc).map (fun d => d.parameters.length) = some 0 := ⟨by decide +kernel, by decide +kernel, by decide +kernel⟩
set_option maxRecDepth 100000 in
theorem mw_RX10_102 : VW RX10 102 RX1 yX1_reckon cX1_reckon 5 none 0 := ⟨⟨(wjU_i 749 rfl rfl), me_X1_reckon.1, (wjU_i 751 rfl rfl), me_X1_reckon.2⟩, rfl, mf_X1_reckon⟩
set_option maxRecDepth 100000 in
theorem mw_RX10_108 : VW RX10 108 RX5 yX5_hear cX5_hear 3 none 2 := ⟨⟨(wjU_i 810 rfl rfl), me_X5_hear.1, (wjU_i 690 rfl rfl), me_X5_hear.2⟩, rfl, mf_X5_hear⟩
set_option maxRecDepth 100000 in
theorem mw_RX10_114 : VW RX10 114 RX5 yX5_raise cX5_raise 4 (some .boolean) 2 := ⟨⟨(wjU_i 811 rfl rfl), me_X5_raise.1, (wjU_i 747 rfl rfl), me_X5_raise.2⟩, rfl, mf_X5_raise⟩
set_option maxRecDepth 100000 in
theorem me_X5_finish : Cond.instanceMethod yX5_finish ∈ wjU ∧ Cond.initialized RX5 ∈ wjU ∧ Cond.code yX5_finish cX5_finish 2 none ∈ wjU := ⟨(wjU_i 817 rfl rfl), (wjU_i 90 rfl rfl), (wjU_i 819 rfl rfl)⟩
theorem mf_X5_finish : yX5_finish.cls ≠ "java/lang/invoke/MethodHandle" ∧ yX5_finish.cls ≠ "java/lang/invoke/VarHandle" ∧ (parseMethodDescriptor yX5_finish.desc).map (fun d => d.parameters.length) = some 1 := ⟨by decide +kernel, by decide +kernel, by decide +kernel⟩
set_option maxRecDepth 100000 in
theorem mw_RX10_122 : VW RX10 122 RX5 yX5_finish cX5_finish 2 none 1 := ⟨⟨(wjU_i 816 rfl rfl), me_X5_finish.1, (wjU_i 818 rfl rfl), me_X5_finish.2⟩, rfl, mf_X5_finish⟩
set_option maxRecDepth 100000 in
theorem me_X1_goOn : Cond.instanceMethod yX1_goOn ∈ wjU ∧ Cond.initialized RX1 ∈ wjU ∧ Cond.code yX1_goOn cX1_goOn 6 (some .int) ∈ wjU := ⟨(wjU_i 829 rfl rfl), (wjU_i 87 rfl rfl), (wjU_i 831 rfl rfl)⟩
theorem mf_X1_goOn : yX1_goOn.cls ≠ "java/lang/invoke/MethodHandle" ∧ yX1_goOn.cls ≠ "java/lang/invoke/VarHandle" ∧ (parseMethodDescriptor yX1_goOn.desc).map (fun d => d.parameters.length) = some 1 := ⟨by decide +kernel, by decide +kernel, by decide +kernel⟩
set_option maxRecDepth 100000 in
theorem mw_RX10_125 : VW RX10 125 RX1 yX1_goOn cX1_goOn 6 (some .int) 1 := ⟨⟨(wjU_i 828 rfl rfl), me_X1_goOn.1, (wjU_i 830 rfl rfl), me_X1_goOn.2⟩, rfl, mf_X1_goOn⟩
set_option maxRecDepth 100000 in
theorem me_X10_streamOrNull : Cond.instanceMethod yX10_streamOrNull ∈ wjU ∧ Cond.initialized RX10 ∈ wjU ∧ Cond.code yX10_streamOrNull cX10_streamOrNull 2 (some (.object "WatermarkJoin$Stream")) ∈ wjU := ⟨(wjU_i 644 rfl rfl), (wjU_i 81 rfl rfl), (wjU_i 645 rfl rfl)⟩
theorem mf_X10_streamOrNull : yX10_streamOrNull.cls ≠ "java/lang/invoke/MethodHandle" ∧ yX10_streamOrNull.cls ≠ "java/lang/invoke/VarHandle" ∧ (parseMethodDescriptor yX10_streamOrNull.desc).map (fun d => d.parameters.length) = some 1 := ⟨by decide +kernel, by decide +kernel, by decide +kernel⟩
set_option maxRecDepth 100000 in
theorem mw_RX10_129 : VW RX10 129 RX10 yX10_streamOrNull cX10_streamOrNull 2 (some (.object "WatermarkJoin$Stream")) 1 := ⟨⟨(wjU_i 642 rfl rfl), me_X10_streamOrNull.1, (wjU_i 21 rfl rfl), me_X10_streamOrNull.2⟩, rfl, mf_X10_streamOrNull⟩
set_option maxRecDepth 100000 in
theorem me_X8_give : Cond.instanceMethod yX8_give ∈ wjU ∧ Cond.initialized RX8 ∈ wjU ∧ Cond.code yX8_give cX8_give 4 (some .int) ∈ wjU := ⟨(wjU_i 842 rfl rfl), (wjU_i 88 rfl rfl), (wjU_i 844 rfl rfl)⟩
theorem mf_X8_give : yX8_give.cls ≠ "java/lang/invoke/MethodHandle" ∧ yX8_give.cls ≠ "java/lang/invoke/VarHandle" ∧ (parseMethodDescriptor yX8_give.desc).map (fun d => d.parameters.length) = some 2 := ⟨by decide +kernel, by decide +kernel, by decide +kernel⟩
set_option maxRecDepth 100000 in
theorem mw_RX10_151 : VW RX10 151 RX8 yX8_give cX8_give 4 (some .int) 2 := ⟨⟨(wjU_i 841 rfl rfl), me_X8_give.1, (wjU_i 843 rfl rfl), me_X8_give.2⟩, rfl, mf_X8_give⟩
set_option maxRecDepth 100000 in
theorem me_X8_isHeld : Cond.instanceMethod yX8_isHeld ∈ wjU ∧ Cond.initialized RX8 ∈ wjU ∧ Cond.code yX8_isHeld cX8_isHeld 2 (some .boolean) ∈ wjU := ⟨(wjU_i 850 rfl rfl), (wjU_i 88 rfl rfl), (wjU_i 852 rfl rfl)⟩
theorem mf_X8_isHeld : yX8_isHeld.cls ≠ "java/lang/invoke/MethodHandle" ∧ yX8_isHeld.cls ≠ "java/lang/invoke/VarHandle" ∧ (parseMethodDescriptor yX8_isHeld.desc).map (fun d => d.parameters.length) = some 1 := ⟨by decide +kernel, by decide +kernel, by decide +kernel⟩
set_option maxRecDepth 100000 in
theorem mw_RX10_155 : VW RX10 155 RX8 yX8_isHeld cX8_isHeld 2 (some .boolean) 1 := ⟨⟨(wjU_i 849 rfl rfl), me_X8_isHeld.1, (wjU_i 851 rfl rfl), me_X8_isHeld.2⟩, rfl, mf_X8_isHeld⟩
set_option maxRecDepth 100000 in
theorem me_X1_emit : Cond.instanceMethod yX1_emit ∈ wjU ∧ Cond.initialized RX1 ∈ wjU ∧ Cond.code yX1_emit cX1_emit 3 none ∈ wjU := ⟨(wjU_i 854 rfl rfl), (wjU_i 87 rfl rfl), (wjU_i 856 rfl rfl)⟩
theorem mf_X1_emit : yX1_emit.cls ≠ "java/lang/invoke/MethodHandle" ∧ yX1_emit.cls ≠ "java/lang/invoke/VarHandle" ∧ (parseMethodDescriptor yX1_emit.desc).map (fun d => d.parameters.length) = some 2 := ⟨by decide +kernel, by decide +kernel, by decide +kernel⟩
set_option maxRecDepth 100000 in
theorem mw_RX10_158 : VW RX10 158 RX1 yX1_emit cX1_emit 3 none 2 := ⟨⟨(wjU_i 853 rfl rfl), me_X1_emit.1, (wjU_i 855 rfl rfl), me_X1_emit.2⟩, rfl, mf_X1_emit⟩
set_option maxRecDepth 100000 in
theorem mw_RX10_188 : VW RX10 188 RX1 yX1_isStopped cX1_isStopped 7 (some .boolean) 2 := ⟨⟨(wjU_i 861 rfl rfl), me_X1_isStopped.1, (wjU_i 660 rfl rfl), me_X1_isStopped.2⟩, rfl, mf_X1_isStopped⟩
set_option maxRecDepth 100000 in
theorem mw_RX10_210 : VW RX10 210 RX8 yX8_countIn cX8_countIn 4 (some .int) 1 := ⟨⟨(wjU_i 1037 rfl rfl), me_X8_countIn.1, (wjU_i 779 rfl rfl), me_X8_countIn.2⟩, rfl, mf_X8_countIn⟩
set_option maxRecDepth 100000 in
theorem me_X3_has : Cond.instanceMethod yX3_has ∈ wjU ∧ Cond.initialized RX3 ∈ wjU ∧ Cond.code yX3_has cX3_has 3 (some .boolean) ∈ wjU := ⟨(wjU_i 1046 rfl rfl), (wjU_i 83 rfl rfl), (wjU_i 1048 rfl rfl)⟩
theorem mf_X3_has : yX3_has.cls ≠ "java/lang/invoke/MethodHandle" ∧ yX3_has.cls ≠ "java/lang/invoke/VarHandle" ∧ (parseMethodDescriptor yX3_has.desc).map (fun d => d.parameters.length) = some 2 := ⟨by decide +kernel, by decide +kernel, by decide +kernel⟩
set_option maxRecDepth 100000 in
theorem mw_RX10_213 : VW RX10 213 RX3 yX3_has cX3_has 3 (some .boolean) 2 := ⟨⟨(wjU_i 1045 rfl rfl), me_X3_has.1, (wjU_i 1047 rfl rfl), me_X3_has.2⟩, rfl, mf_X3_has⟩
set_option maxRecDepth 100000 in
theorem me_X3_get : Cond.instanceMethod yX3_get ∈ wjU ∧ Cond.initialized RX3 ∈ wjU ∧ Cond.code yX3_get cX3_get 3 (some .long) ∈ wjU := ⟨(wjU_i 1051 rfl rfl), (wjU_i 83 rfl rfl), (wjU_i 1053 rfl rfl)⟩
theorem mf_X3_get : yX3_get.cls ≠ "java/lang/invoke/MethodHandle" ∧ yX3_get.cls ≠ "java/lang/invoke/VarHandle" ∧ (parseMethodDescriptor yX3_get.desc).map (fun d => d.parameters.length) = some 2 := ⟨by decide +kernel, by decide +kernel, by decide +kernel⟩
set_option maxRecDepth 100000 in
theorem mw_RX10_219 : VW RX10 219 RX3 yX3_get cX3_get 3 (some .long) 2 := ⟨⟨(wjU_i 1050 rfl rfl), me_X3_get.1, (wjU_i 1052 rfl rfl), me_X3_get.2⟩, rfl, mf_X3_get⟩
set_option maxRecDepth 100000 in
theorem me_X8_countAll : Cond.instanceMethod yX8_countAll ∈ wjU ∧ Cond.initialized RX8 ∈ wjU ∧ Cond.code yX8_countAll cX8_countAll 3 (some .int) ∈ wjU := ⟨(wjU_i 867 rfl rfl), (wjU_i 88 rfl rfl), (wjU_i 869 rfl rfl)⟩
theorem mf_X8_countAll : yX8_countAll.cls ≠ "java/lang/invoke/MethodHandle" ∧ yX8_countAll.cls ≠ "java/lang/invoke/VarHandle" ∧ (parseMethodDescriptor yX8_countAll.desc).map (fun d => d.parameters.length) = some 0 := ⟨by decide +kernel, by decide +kernel, by decide +kernel⟩
set_option maxRecDepth 100000 in
theorem mw_RX10_229 : VW RX10 229 RX8 yX8_countAll cX8_countAll 3 (some .int) 0 := ⟨⟨(wjU_i 866 rfl rfl), me_X8_countAll.1, (wjU_i 868 rfl rfl), me_X8_countAll.2⟩, rfl, mf_X8_countAll⟩
set_option maxRecDepth 100000 in
theorem me_X1_countIdleParts : Cond.instanceMethod yX1_countIdleParts ∈ wjU ∧ Cond.initialized RX1 ∈ wjU ∧ Cond.code yX1_countIdleParts cX1_countIdleParts 3 (some .int) ∈ wjU := ⟨(wjU_i 871 rfl rfl), (wjU_i 87 rfl rfl), (wjU_i 873 rfl rfl)⟩
theorem mf_X1_countIdleParts : yX1_countIdleParts.cls ≠ "java/lang/invoke/MethodHandle" ∧ yX1_countIdleParts.cls ≠ "java/lang/invoke/VarHandle" ∧ (parseMethodDescriptor yX1_countIdleParts.desc).map (fun d => d.parameters.length) = some 0 := ⟨by decide +kernel, by decide +kernel, by decide +kernel⟩
set_option maxRecDepth 100000 in
theorem mw_RX10_233 : VW RX10 233 RX1 yX1_countIdleParts cX1_countIdleParts 3 (some .int) 0 := ⟨⟨(wjU_i 870 rfl rfl), me_X1_countIdleParts.1, (wjU_i 872 rfl rfl), me_X1_countIdleParts.2⟩, rfl, mf_X1_countIdleParts⟩
set_option maxRecDepth 100000 in
theorem me_X1_countStoppedParts : Cond.instanceMethod yX1_countStoppedParts ∈ wjU ∧ Cond.initialized RX1 ∈ wjU ∧ Cond.code yX1_countStoppedParts cX1_countStoppedParts 5 (some .int) ∈ wjU := ⟨(wjU_i 876 rfl rfl), (wjU_i 87 rfl rfl), (wjU_i 878 rfl rfl)⟩
theorem mf_X1_countStoppedParts : yX1_countStoppedParts.cls ≠ "java/lang/invoke/MethodHandle" ∧ yX1_countStoppedParts.cls ≠ "java/lang/invoke/VarHandle" ∧ (parseMethodDescriptor yX1_countStoppedParts.desc).map (fun d => d.parameters.length) = some 0 := ⟨by decide +kernel, by decide +kernel, by decide +kernel⟩
set_option maxRecDepth 100000 in
theorem mw_RX10_236 : VW RX10 236 RX1 yX1_countStoppedParts cX1_countStoppedParts 5 (some .int) 0 := ⟨⟨(wjU_i 875 rfl rfl), me_X1_countStoppedParts.1, (wjU_i 877 rfl rfl), me_X1_countStoppedParts.2⟩, rfl, mf_X1_countStoppedParts⟩
set_option maxRecDepth 100000 in
theorem me_X1_write : Cond.instanceMethod yX1_write ∈ wjU ∧ Cond.initialized RX1 ∈ wjU ∧ Cond.code yX1_write cX1_write 3 none ∈ wjU := ⟨(wjU_i 884 rfl rfl), (wjU_i 87 rfl rfl), (wjU_i 886 rfl rfl)⟩
theorem mf_X1_write : yX1_write.cls ≠ "java/lang/invoke/MethodHandle" ∧ yX1_write.cls ≠ "java/lang/invoke/VarHandle" ∧ (parseMethodDescriptor yX1_write.desc).map (fun d => d.parameters.length) = some 1 := ⟨by decide +kernel, by decide +kernel, by decide +kernel⟩
set_option maxRecDepth 100000 in
theorem mw_RX10_239 : VW RX10 239 RX1 yX1_write cX1_write 3 none 1 := ⟨⟨(wjU_i 883 rfl rfl), me_X1_write.1, (wjU_i 885 rfl rfl), me_X1_write.2⟩, rfl, mf_X1_write⟩
set_option maxRecDepth 100000 in
theorem me_X0_at : Cond.instanceMethod yX0_at ∈ wjU ∧ Cond.initialized RX0 ∈ wjU ∧ Cond.code yX0_at cX0_at 2 (some .int) ∈ wjU := ⟨(wjU_i 309 rfl rfl), (wjU_i 82 rfl rfl), (wjU_i 311 rfl rfl)⟩
theorem mf_X0_at : yX0_at.cls ≠ "java/lang/invoke/MethodHandle" ∧ yX0_at.cls ≠ "java/lang/invoke/VarHandle" ∧ (parseMethodDescriptor yX0_at.desc).map (fun d => d.parameters.length) = some 1 := ⟨by decide +kernel, by decide +kernel, by decide +kernel⟩
set_option maxRecDepth 100000 in
theorem mw_RX10_242 : VW RX10 242 RX0 yX0_at cX0_at 2 (some .int) 1 := ⟨⟨(wjU_i 918 rfl rfl), me_X0_at.1, (wjU_i 310 rfl rfl), me_X0_at.2⟩, rfl, mf_X0_at⟩
set_option maxRecDepth 100000 in
theorem me_X11_byteAt : Cond.instanceMethod yX11_byteAt ∈ wjU ∧ Cond.initialized RX11 ∈ wjU ∧ Cond.code yX11_byteAt cX11_byteAt 2 (some .int) ∈ wjU := ⟨(wjU_i 1258 rfl rfl), (wjU_i 84 rfl rfl), (wjU_i 1259 rfl rfl)⟩
theorem mf_X11_byteAt : yX11_byteAt.cls ≠ "java/lang/invoke/MethodHandle" ∧ yX11_byteAt.cls ≠ "java/lang/invoke/VarHandle" ∧ (parseMethodDescriptor yX11_byteAt.desc).map (fun d => d.parameters.length) = some 1 := ⟨by decide +kernel, by decide +kernel, by decide +kernel⟩
set_option maxRecDepth 100000 in
theorem mw_RX11_133 : VW RX11 133 RX11 yX11_byteAt cX11_byteAt 2 (some .int) 1 := ⟨⟨(wjU_i 1256 rfl rfl), me_X11_byteAt.1, (wjU_i 34 rfl rfl), me_X11_byteAt.2⟩, rfl, mf_X11_byteAt⟩
set_option maxRecDepth 100000 in
theorem me_X11_findKeyword : Cond.instanceMethod yX11_findKeyword ∈ wjU ∧ Cond.initialized RX11 ∈ wjU ∧ Cond.code yX11_findKeyword cX11_findKeyword 7 none ∈ wjU := ⟨(wjU_i 1265 rfl rfl), (wjU_i 84 rfl rfl), (wjU_i 1266 rfl rfl)⟩
theorem mf_X11_findKeyword : yX11_findKeyword.cls ≠ "java/lang/invoke/MethodHandle" ∧ yX11_findKeyword.cls ≠ "java/lang/invoke/VarHandle" ∧ (parseMethodDescriptor yX11_findKeyword.desc).map (fun d => d.parameters.length) = some 1 := ⟨by decide +kernel, by decide +kernel, by decide +kernel⟩
set_option maxRecDepth 100000 in
theorem mw_RX11_154 : VW RX11 154 RX11 yX11_findKeyword cX11_findKeyword 7 none 1 := ⟨⟨(wjU_i 1263 rfl rfl), me_X11_findKeyword.1, (wjU_i 35 rfl rfl), me_X11_findKeyword.2⟩, rfl, mf_X11_findKeyword⟩
set_option maxRecDepth 100000 in
theorem me_X11_fault : Cond.instanceMethod yX11_fault ∈ wjU ∧ Cond.initialized RX11 ∈ wjU ∧ Cond.code yX11_fault cX11_fault 2 none ∈ wjU := ⟨(wjU_i 1394 rfl rfl), (wjU_i 84 rfl rfl), (wjU_i 1395 rfl rfl)⟩
theorem mf_X11_fault : yX11_fault.cls ≠ "java/lang/invoke/MethodHandle" ∧ yX11_fault.cls ≠ "java/lang/invoke/VarHandle" ∧ (parseMethodDescriptor yX11_fault.desc).map (fun d => d.parameters.length) = some 1 := ⟨by decide +kernel, by decide +kernel, by decide +kernel⟩
set_option maxRecDepth 100000 in
theorem mw_RX11_187 : VW RX11 187 RX11 yX11_fault cX11_fault 2 none 1 := ⟨⟨(wjU_i 1392 rfl rfl), me_X11_fault.1, (wjU_i 40 rfl rfl), me_X11_fault.2⟩, rfl, mf_X11_fault⟩
set_option maxRecDepth 100000 in
theorem me_X11_good : Cond.instanceMethod yX11_good ∈ wjU ∧ Cond.initialized RX11 ∈ wjU ∧ Cond.code yX11_good cX11_good 1 (some .boolean) ∈ wjU := ⟨(wjU_i 1378 rfl rfl), (wjU_i 84 rfl rfl), (wjU_i 1379 rfl rfl)⟩
theorem mf_X11_good : yX11_good.cls ≠ "java/lang/invoke/MethodHandle" ∧ yX11_good.cls ≠ "java/lang/invoke/VarHandle" ∧ (parseMethodDescriptor yX11_good.desc).map (fun d => d.parameters.length) = some 0 := ⟨by decide +kernel, by decide +kernel, by decide +kernel⟩
set_option maxRecDepth 100000 in
theorem mw_RX11_190 : VW RX11 190 RX11 yX11_good cX11_good 1 (some .boolean) 0 := ⟨⟨(wjU_i 1376 rfl rfl), me_X11_good.1, (wjU_i 36 rfl rfl), me_X11_good.2⟩, rfl, mf_X11_good⟩
set_option maxRecDepth 100000 in
theorem me_X11_isKeyword : Cond.instanceMethod yX11_isKeyword ∈ wjU ∧ Cond.initialized RX11 ∈ wjU ∧ Cond.code yX11_isKeyword cX11_isKeyword 2 (some .boolean) ∈ wjU := ⟨(wjU_i 1382 rfl rfl), (wjU_i 84 rfl rfl), (wjU_i 1383 rfl rfl)⟩
theorem mf_X11_isKeyword : yX11_isKeyword.cls ≠ "java/lang/invoke/MethodHandle" ∧ yX11_isKeyword.cls ≠ "java/lang/invoke/VarHandle" ∧ (parseMethodDescriptor yX11_isKeyword.desc).map (fun d => d.parameters.length) = some 1 := ⟨by decide +kernel, by decide +kernel, by decide +kernel⟩
set_option maxRecDepth 100000 in
theorem mw_RX11_194 : VW RX11 194 RX11 yX11_isKeyword cX11_isKeyword 2 (some .boolean) 1 := ⟨⟨(wjU_i 1380 rfl rfl), me_X11_isKeyword.1, (wjU_i 37 rfl rfl), me_X11_isKeyword.2⟩, rfl, mf_X11_isKeyword⟩
set_option maxRecDepth 100000 in
theorem me_X11_misplaced : Cond.instanceMethod yX11_misplaced ∈ wjU ∧ Cond.initialized RX11 ∈ wjU ∧ Cond.code yX11_misplaced cX11_misplaced 1 none ∈ wjU := ⟨(wjU_i 1412 rfl rfl), (wjU_i 84 rfl rfl), (wjU_i 1413 rfl rfl)⟩
theorem mf_X11_misplaced : yX11_misplaced.cls ≠ "java/lang/invoke/MethodHandle" ∧ yX11_misplaced.cls ≠ "java/lang/invoke/VarHandle" ∧ (parseMethodDescriptor yX11_misplaced.desc).map (fun d => d.parameters.length) = some 0 := ⟨by decide +kernel, by decide +kernel, by decide +kernel⟩
set_option maxRecDepth 100000 in
theorem mw_RX11_197 : VW RX11 197 RX11 yX11_misplaced cX11_misplaced 1 none 0 := ⟨⟨(wjU_i 1410 rfl rfl), me_X11_misplaced.1, (wjU_i 44 rfl rfl), me_X11_misplaced.2⟩, rfl, mf_X11_misplaced⟩
set_option maxRecDepth 100000 in
theorem me_X11_next : Cond.instanceMethod yX11_next ∈ wjU ∧ Cond.initialized RX11 ∈ wjU ∧ Cond.code yX11_next cX11_next 3 none ∈ wjU := ⟨(wjU_i 1254 rfl rfl), (wjU_i 84 rfl rfl), (wjU_i 1255 rfl rfl)⟩
theorem mf_X11_next : yX11_next.cls ≠ "java/lang/invoke/MethodHandle" ∧ yX11_next.cls ≠ "java/lang/invoke/VarHandle" ∧ (parseMethodDescriptor yX11_next.desc).map (fun d => d.parameters.length) = some 0 := ⟨by decide +kernel, by decide +kernel, by decide +kernel⟩
set_option maxRecDepth 100000 in
theorem mw_RX11_200 : VW RX11 200 RX11 yX11_next cX11_next 3 none 0 := ⟨⟨(wjU_i 1252 rfl rfl), me_X11_next.1, (wjU_i 33 rfl rfl), me_X11_next.2⟩, rfl, mf_X11_next⟩
set_option maxRecDepth 100000 in
theorem me_X11_align : Cond.instanceMethod yX11_align ∈ wjU ∧ Cond.initialized RX11 ∈ wjU ∧ Cond.code yX11_align cX11_align 4 none ∈ wjU := ⟨(wjU_i 1402 rfl rfl), (wjU_i 84 rfl rfl), (wjU_i 1403 rfl rfl)⟩
theorem mf_X11_align : yX11_align.cls ≠ "java/lang/invoke/MethodHandle" ∧ yX11_align.cls ≠ "java/lang/invoke/VarHandle" ∧ (parseMethodDescriptor yX11_align.desc).map (fun d => d.parameters.length) = some 0 := ⟨by decide +kernel, by decide +kernel, by decide +kernel⟩
set_option maxRecDepth 100000 in
theorem mw_RX11_203 : VW RX11 203 RX11 yX11_align cX11_align 4 none 0 := ⟨⟨(wjU_i 1400 rfl rfl), me_X11_align.1, (wjU_i 42 rfl rfl), me_X11_align.2⟩, rfl, mf_X11_align⟩
set_option maxRecDepth 100000 in
theorem me_X11_isName : Cond.instanceMethod yX11_isName ∈ wjU ∧ Cond.initialized RX11 ∈ wjU ∧ Cond.code yX11_isName cX11_isName 1 (some .boolean) ∈ wjU := ⟨(wjU_i 1386 rfl rfl), (wjU_i 84 rfl rfl), (wjU_i 1387 rfl rfl)⟩
theorem mf_X11_isName : yX11_isName.cls ≠ "java/lang/invoke/MethodHandle" ∧ yX11_isName.cls ≠ "java/lang/invoke/VarHandle" ∧ (parseMethodDescriptor yX11_isName.desc).map (fun d => d.parameters.length) = some 0 := ⟨by decide +kernel, by decide +kernel, by decide +kernel⟩
set_option maxRecDepth 100000 in
theorem mw_RX11_206 : VW RX11 206 RX11 yX11_isName cX11_isName 1 (some .boolean) 0 := ⟨⟨(wjU_i 1384 rfl rfl), me_X11_isName.1, (wjU_i 38 rfl rfl), me_X11_isName.2⟩, rfl, mf_X11_isName⟩
set_option maxRecDepth 100000 in
theorem me_X11_findName : Cond.instanceMethod yX11_findName ∈ wjU ∧ Cond.initialized RX11 ∈ wjU ∧ Cond.code yX11_findName cX11_findName 4 (some .int) ∈ wjU := ⟨(wjU_i 1390 rfl rfl), (wjU_i 84 rfl rfl), (wjU_i 1391 rfl rfl)⟩
theorem mf_X11_findName : yX11_findName.cls ≠ "java/lang/invoke/MethodHandle" ∧ yX11_findName.cls ≠ "java/lang/invoke/VarHandle" ∧ (parseMethodDescriptor yX11_findName.desc).map (fun d => d.parameters.length) = some 1 := ⟨by decide +kernel, by decide +kernel, by decide +kernel⟩
set_option maxRecDepth 100000 in
theorem mw_RX11_209 : VW RX11 209 RX11 yX11_findName cX11_findName 4 (some .int) 1 := ⟨⟨(wjU_i 1388 rfl rfl), me_X11_findName.1, (wjU_i 39 rfl rfl), me_X11_findName.2⟩, rfl, mf_X11_findName⟩
set_option maxRecDepth 100000 in
theorem me_X11_takeSign : Cond.instanceMethod yX11_takeSign ∈ wjU ∧ Cond.initialized RX11 ∈ wjU ∧ Cond.code yX11_takeSign cX11_takeSign 2 none ∈ wjU := ⟨(wjU_i 1417 rfl rfl), (wjU_i 84 rfl rfl), (wjU_i 1418 rfl rfl)⟩
theorem mf_X11_takeSign : yX11_takeSign.cls ≠ "java/lang/invoke/MethodHandle" ∧ yX11_takeSign.cls ≠ "java/lang/invoke/VarHandle" ∧ (parseMethodDescriptor yX11_takeSign.desc).map (fun d => d.parameters.length) = some 1 := ⟨by decide +kernel, by decide +kernel, by decide +kernel⟩
set_option maxRecDepth 100000 in
theorem mw_RX11_213 : VW RX11 213 RX11 yX11_takeSign cX11_takeSign 2 none 1 := ⟨⟨(wjU_i 1415 rfl rfl), me_X11_takeSign.1, (wjU_i 45 rfl rfl), me_X11_takeSign.2⟩, rfl, mf_X11_takeSign⟩
set_option maxRecDepth 100000 in
theorem me_X11_body : Cond.instanceMethod yX11_body ∈ wjU ∧ Cond.initialized RX11 ∈ wjU ∧ Cond.code yX11_body cX11_body 2 none ∈ wjU := ⟨(wjU_i 1421 rfl rfl), (wjU_i 84 rfl rfl), (wjU_i 1422 rfl rfl)⟩
theorem mf_X11_body : yX11_body.cls ≠ "java/lang/invoke/MethodHandle" ∧ yX11_body.cls ≠ "java/lang/invoke/VarHandle" ∧ (parseMethodDescriptor yX11_body.desc).map (fun d => d.parameters.length) = some 1 := ⟨by decide +kernel, by decide +kernel, by decide +kernel⟩
set_option maxRecDepth 100000 in
theorem mw_RX11_216 : VW RX11 216 RX11 yX11_body cX11_body 2 none 1 := ⟨⟨(wjU_i 1419 rfl rfl), me_X11_body.1, (wjU_i 46 rfl rfl), me_X11_body.2⟩, rfl, mf_X11_body⟩
set_option maxRecDepth 100000 in
theorem me_X11_source : Cond.instanceMethod yX11_source ∈ wjU ∧ Cond.initialized RX11 ∈ wjU ∧ Cond.code yX11_source cX11_source 2 none ∈ wjU := ⟨(wjU_i 1425 rfl rfl), (wjU_i 84 rfl rfl), (wjU_i 1426 rfl rfl)⟩
theorem mf_X11_source : yX11_source.cls ≠ "java/lang/invoke/MethodHandle" ∧ yX11_source.cls ≠ "java/lang/invoke/VarHandle" ∧ (parseMethodDescriptor yX11_source.desc).map (fun d => d.parameters.length) = some 1 := ⟨by decide +kernel, by decide +kernel, by decide +kernel⟩
set_option maxRecDepth 100000 in
theorem mw_RX11_219 : VW RX11 219 RX11 yX11_source cX11_source 2 none 1 := ⟨⟨(wjU_i 1423 rfl rfl), me_X11_source.1, (wjU_i 47 rfl rfl), me_X11_source.2⟩, rfl, mf_X11_source⟩
set_option maxRecDepth 100000 in
theorem me_X11_takeInput : Cond.instanceMethod yX11_takeInput ∈ wjU ∧ Cond.initialized RX11 ∈ wjU ∧ Cond.code yX11_takeInput cX11_takeInput 3 none ∈ wjU := ⟨(wjU_i 1434 rfl rfl), (wjU_i 84 rfl rfl), (wjU_i 1435 rfl rfl)⟩
theorem mf_X11_takeInput : yX11_takeInput.cls ≠ "java/lang/invoke/MethodHandle" ∧ yX11_takeInput.cls ≠ "java/lang/invoke/VarHandle" ∧ (parseMethodDescriptor yX11_takeInput.desc).map (fun d => d.parameters.length) = some 1 := ⟨by decide +kernel, by decide +kernel, by decide +kernel⟩
set_option maxRecDepth 100000 in
theorem mw_RX11_222 : VW RX11 222 RX11 yX11_takeInput cX11_takeInput 3 none 1 := ⟨⟨(wjU_i 1432 rfl rfl), me_X11_takeInput.1, (wjU_i 49 rfl rfl), me_X11_takeInput.2⟩, rfl, mf_X11_takeInput⟩
set_option maxRecDepth 100000 in
theorem me_X11_takeNumber : Cond.instanceMethod yX11_takeNumber ∈ wjU ∧ Cond.initialized RX11 ∈ wjU ∧ Cond.code yX11_takeNumber cX11_takeNumber 7 (some .long) ∈ wjU := ⟨(wjU_i 1408 rfl rfl), (wjU_i 84 rfl rfl), (wjU_i 1409 rfl rfl)⟩
theorem mf_X11_takeNumber : yX11_takeNumber.cls ≠ "java/lang/invoke/MethodHandle" ∧ yX11_takeNumber.cls ≠ "java/lang/invoke/VarHandle" ∧ (parseMethodDescriptor yX11_takeNumber.desc).map (fun d => d.parameters.length) = some 2 := ⟨by decide +kernel, by decide +kernel, by decide +kernel⟩
set_option maxRecDepth 100000 in
theorem mw_RX11_227 : VW RX11 227 RX11 yX11_takeNumber cX11_takeNumber 7 (some .long) 2 := ⟨⟨(wjU_i 1406 rfl rfl), me_X11_takeNumber.1, (wjU_i 43 rfl rfl), me_X11_takeNumber.2⟩, rfl, mf_X11_takeNumber⟩
set_option maxRecDepth 100000 in
theorem me_X11_join : Cond.instanceMethod yX11_join ∈ wjU ∧ Cond.initialized RX11 ∈ wjU ∧ Cond.code yX11_join cX11_join 2 none ∈ wjU := ⟨(wjU_i 1438 rfl rfl), (wjU_i 84 rfl rfl), (wjU_i 1439 rfl rfl)⟩
theorem mf_X11_join : yX11_join.cls ≠ "java/lang/invoke/MethodHandle" ∧ yX11_join.cls ≠ "java/lang/invoke/VarHandle" ∧ (parseMethodDescriptor yX11_join.desc).map (fun d => d.parameters.length) = some 1 := ⟨by decide +kernel, by decide +kernel, by decide +kernel⟩
set_option maxRecDepth 100000 in
theorem mw_RX11_231 : VW RX11 231 RX11 yX11_join cX11_join 2 none 1 := ⟨⟨(wjU_i 1436 rfl rfl), me_X11_join.1, (wjU_i 50 rfl rfl), me_X11_join.2⟩, rfl, mf_X11_join⟩
set_option maxRecDepth 100000 in
theorem me_X11_window : Cond.instanceMethod yX11_window ∈ wjU ∧ Cond.initialized RX11 ∈ wjU ∧ Cond.code yX11_window cX11_window 2 none ∈ wjU := ⟨(wjU_i 1448 rfl rfl), (wjU_i 84 rfl rfl), (wjU_i 1449 rfl rfl)⟩
theorem mf_X11_window : yX11_window.cls ≠ "java/lang/invoke/MethodHandle" ∧ yX11_window.cls ≠ "java/lang/invoke/VarHandle" ∧ (parseMethodDescriptor yX11_window.desc).map (fun d => d.parameters.length) = some 1 := ⟨by decide +kernel, by decide +kernel, by decide +kernel⟩
set_option maxRecDepth 100000 in
theorem mw_RX11_234 : VW RX11 234 RX11 yX11_window cX11_window 2 none 1 := ⟨⟨(wjU_i 1446 rfl rfl), me_X11_window.1, (wjU_i 52 rfl rfl), me_X11_window.2⟩, rfl, mf_X11_window⟩
set_option maxRecDepth 100000 in
theorem me_X11_takeKeyword : Cond.instanceMethod yX11_takeKeyword ∈ wjU ∧ Cond.initialized RX11 ∈ wjU ∧ Cond.code yX11_takeKeyword cX11_takeKeyword 2 none ∈ wjU := ⟨(wjU_i 1429 rfl rfl), (wjU_i 84 rfl rfl), (wjU_i 1430 rfl rfl)⟩
theorem mf_X11_takeKeyword : yX11_takeKeyword.cls ≠ "java/lang/invoke/MethodHandle" ∧ yX11_takeKeyword.cls ≠ "java/lang/invoke/VarHandle" ∧ (parseMethodDescriptor yX11_takeKeyword.desc).map (fun d => d.parameters.length) = some 1 := ⟨by decide +kernel, by decide +kernel, by decide +kernel⟩
set_option maxRecDepth 100000 in
theorem mw_RX11_239 : VW RX11 239 RX11 yX11_takeKeyword cX11_takeKeyword 2 none 1 := ⟨⟨(wjU_i 1427 rfl rfl), me_X11_takeKeyword.1, (wjU_i 48 rfl rfl), me_X11_takeKeyword.2⟩, rfl, mf_X11_takeKeyword⟩
set_option maxRecDepth 100000 in
theorem me_X11_takeSigned : Cond.instanceMethod yX11_takeSigned ∈ wjU ∧ Cond.initialized RX11 ∈ wjU ∧ Cond.code yX11_takeSigned cX11_takeSigned 6 (some .long) ∈ wjU := ⟨(wjU_i 1443 rfl rfl), (wjU_i 84 rfl rfl), (wjU_i 1444 rfl rfl)⟩
theorem mf_X11_takeSigned : yX11_takeSigned.cls ≠ "java/lang/invoke/MethodHandle" ∧ yX11_takeSigned.cls ≠ "java/lang/invoke/VarHandle" ∧ (parseMethodDescriptor yX11_takeSigned.desc).map (fun d => d.parameters.length) = some 1 := ⟨by decide +kernel, by decide +kernel, by decide +kernel⟩
set_option maxRecDepth 100000 in
theorem mw_RX11_251 : VW RX11 251 RX11 yX11_takeSigned cX11_takeSigned 6 (some .long) 1 := ⟨⟨(wjU_i 1441 rfl rfl), me_X11_takeSigned.1, (wjU_i 51 rfl rfl), me_X11_takeSigned.2⟩, rfl, mf_X11_takeSigned⟩
set_option maxRecDepth 100000 in
theorem me_X11_statement : Cond.instanceMethod yX11_statement ∈ wjU ∧ Cond.initialized RX11 ∈ wjU ∧ Cond.code yX11_statement cX11_statement 5 none ∈ wjU := ⟨(wjU_i 1398 rfl rfl), (wjU_i 84 rfl rfl), (wjU_i 1399 rfl rfl)⟩
theorem mf_X11_statement : yX11_statement.cls ≠ "java/lang/invoke/MethodHandle" ∧ yX11_statement.cls ≠ "java/lang/invoke/VarHandle" ∧ (parseMethodDescriptor yX11_statement.desc).map (fun d => d.parameters.length) = some 0 := ⟨by decide +kernel, by decide +kernel, by decide +kernel⟩
set_option maxRecDepth 100000 in
theorem mw_RX11_262 : VW RX11 262 RX11 yX11_statement cX11_statement 5 none 0 := ⟨⟨(wjU_i 1396 rfl rfl), me_X11_statement.1, (wjU_i 41 rfl rfl), me_X11_statement.2⟩, rfl, mf_X11_statement⟩
set_option maxRecDepth 100000 in
theorem me_X11_stand : Cond.instanceMethod yX11_stand ∈ wjU ∧ Cond.initialized RX11 ∈ wjU ∧ Cond.code yX11_stand cX11_stand 3 none ∈ wjU := ⟨(wjU_i 1453 rfl rfl), (wjU_i 84 rfl rfl), (wjU_i 1454 rfl rfl)⟩
theorem mf_X11_stand : yX11_stand.cls ≠ "java/lang/invoke/MethodHandle" ∧ yX11_stand.cls ≠ "java/lang/invoke/VarHandle" ∧ (parseMethodDescriptor yX11_stand.desc).map (fun d => d.parameters.length) = some 0 := ⟨by decide +kernel, by decide +kernel, by decide +kernel⟩
set_option maxRecDepth 100000 in
theorem mw_RX11_268 : VW RX11 268 RX11 yX11_stand cX11_stand 3 none 0 := ⟨⟨(wjU_i 1451 rfl rfl), me_X11_stand.1, (wjU_i 53 rfl rfl), me_X11_stand.2⟩, rfl, mf_X11_stand⟩
set_option maxRecDepth 100000 in
theorem me_X11_note : Cond.instanceMethod yX11_note ∈ wjU ∧ Cond.initialized RX11 ∈ wjU ∧ Cond.code yX11_note cX11_note 9 none ∈ wjU := ⟨(wjU_i 1505 rfl rfl), (wjU_i 84 rfl rfl), (wjU_i 1506 rfl rfl)⟩
theorem mf_X11_note : yX11_note.cls ≠ "java/lang/invoke/MethodHandle" ∧ yX11_note.cls ≠ "java/lang/invoke/VarHandle" ∧ (parseMethodDescriptor yX11_note.desc).map (fun d => d.parameters.length) = some 7 := ⟨by decide +kernel, by decide +kernel, by decide +kernel⟩
set_option maxRecDepth 100000 in
theorem mw_RX11_304 : VW RX11 304 RX11 yX11_note cX11_note 9 none 7 := ⟨⟨(wjU_i 1503 rfl rfl), me_X11_note.1, (wjU_i 60 rfl rfl), me_X11_note.2⟩, rfl, mf_X11_note⟩
set_option maxRecDepth 100000 in
theorem me_X11_kindOf : Cond.instanceMethod yX11_kindOf ∈ wjU ∧ Cond.initialized RX11 ∈ wjU ∧ Cond.code yX11_kindOf cX11_kindOf 2 (some .int) ∈ wjU := ⟨(wjU_i 1477 rfl rfl), (wjU_i 84 rfl rfl), (wjU_i 1478 rfl rfl)⟩
theorem mf_X11_kindOf : yX11_kindOf.cls ≠ "java/lang/invoke/MethodHandle" ∧ yX11_kindOf.cls ≠ "java/lang/invoke/VarHandle" ∧ (parseMethodDescriptor yX11_kindOf.desc).map (fun d => d.parameters.length) = some 1 := ⟨by decide +kernel, by decide +kernel, by decide +kernel⟩
set_option maxRecDepth 100000 in
theorem mw_RX11_308 : VW RX11 308 RX11 yX11_kindOf cX11_kindOf 2 (some .int) 1 := ⟨⟨(wjU_i 1475 rfl rfl), me_X11_kindOf.1, (wjU_i 56 rfl rfl), me_X11_kindOf.2⟩, rfl, mf_X11_kindOf⟩
set_option maxRecDepth 100000 in
theorem me_X11_late : Cond.instanceMethod yX11_late ∈ wjU ∧ Cond.initialized RX11 ∈ wjU ∧ Cond.code yX11_late cX11_late 6 none ∈ wjU := ⟨(wjU_i 1509 rfl rfl), (wjU_i 84 rfl rfl), (wjU_i 1510 rfl rfl)⟩
theorem mf_X11_late : yX11_late.cls ≠ "java/lang/invoke/MethodHandle" ∧ yX11_late.cls ≠ "java/lang/invoke/VarHandle" ∧ (parseMethodDescriptor yX11_late.desc).map (fun d => d.parameters.length) = some 4 := ⟨by decide +kernel, by decide +kernel, by decide +kernel⟩
set_option maxRecDepth 100000 in
theorem mw_RX11_314 : VW RX11 314 RX11 yX11_late cX11_late 6 none 4 := ⟨⟨(wjU_i 1507 rfl rfl), me_X11_late.1, (wjU_i 61 rfl rfl), me_X11_late.2⟩, rfl, mf_X11_late⟩
set_option maxRecDepth 100000 in
theorem me_X11_inputOf : Cond.instanceMethod yX11_inputOf ∈ wjU ∧ Cond.initialized RX11 ∈ wjU ∧ Cond.code yX11_inputOf cX11_inputOf 3 (some .int) ∈ wjU := ⟨(wjU_i 1513 rfl rfl), (wjU_i 84 rfl rfl), (wjU_i 1514 rfl rfl)⟩
theorem mf_X11_inputOf : yX11_inputOf.cls ≠ "java/lang/invoke/MethodHandle" ∧ yX11_inputOf.cls ≠ "java/lang/invoke/VarHandle" ∧ (parseMethodDescriptor yX11_inputOf.desc).map (fun d => d.parameters.length) = some 2 := ⟨by decide +kernel, by decide +kernel, by decide +kernel⟩
set_option maxRecDepth 100000 in
theorem mw_RX11_318 : VW RX11 318 RX11 yX11_inputOf cX11_inputOf 3 (some .int) 2 := ⟨⟨(wjU_i 1511 rfl rfl), me_X11_inputOf.1, (wjU_i 62 rfl rfl), me_X11_inputOf.2⟩, rfl, mf_X11_inputOf⟩
set_option maxRecDepth 100000 in
theorem me_X11_meet : Cond.instanceMethod yX11_meet ∈ wjU ∧ Cond.initialized RX11 ∈ wjU ∧ Cond.code yX11_meet cX11_meet 16 none ∈ wjU := ⟨(wjU_i 1517 rfl rfl), (wjU_i 84 rfl rfl), (wjU_i 1518 rfl rfl)⟩
theorem mf_X11_meet : yX11_meet.cls ≠ "java/lang/invoke/MethodHandle" ∧ yX11_meet.cls ≠ "java/lang/invoke/VarHandle" ∧ (parseMethodDescriptor yX11_meet.desc).map (fun d => d.parameters.length) = some 5 := ⟨by decide +kernel, by decide +kernel, by decide +kernel⟩
set_option maxRecDepth 100000 in
theorem mw_RX11_321 : VW RX11 321 RX11 yX11_meet cX11_meet 16 none 5 := ⟨⟨(wjU_i 1515 rfl rfl), me_X11_meet.1, (wjU_i 63 rfl rfl), me_X11_meet.2⟩, rfl, mf_X11_meet⟩
set_option maxRecDepth 100000 in
theorem me_X11_put : Cond.instanceMethod yX11_put ∈ wjU ∧ Cond.initialized RX11 ∈ wjU ∧ Cond.code yX11_put cX11_put 15 none ∈ wjU := ⟨(wjU_i 1530 rfl rfl), (wjU_i 84 rfl rfl), (wjU_i 1531 rfl rfl)⟩
theorem mf_X11_put : yX11_put.cls ≠ "java/lang/invoke/MethodHandle" ∧ yX11_put.cls ≠ "java/lang/invoke/VarHandle" ∧ (parseMethodDescriptor yX11_put.desc).map (fun d => d.parameters.length) = some 4 := ⟨by decide +kernel, by decide +kernel, by decide +kernel⟩
set_option maxRecDepth 100000 in
theorem mw_RX11_325 : VW RX11 325 RX11 yX11_put cX11_put 15 none 4 := ⟨⟨(wjU_i 1528 rfl rfl), me_X11_put.1, (wjU_i 66 rfl rfl), me_X11_put.2⟩, rfl, mf_X11_put⟩
set_option maxRecDepth 100000 in
theorem me_X11_pass : Cond.instanceMethod yX11_pass ∈ wjU ∧ Cond.initialized RX11 ∈ wjU ∧ Cond.code yX11_pass cX11_pass 9 none ∈ wjU := ⟨(wjU_i 1501 rfl rfl), (wjU_i 84 rfl rfl), (wjU_i 1502 rfl rfl)⟩
theorem mf_X11_pass : yX11_pass.cls ≠ "java/lang/invoke/MethodHandle" ∧ yX11_pass.cls ≠ "java/lang/invoke/VarHandle" ∧ (parseMethodDescriptor yX11_pass.desc).map (fun d => d.parameters.length) = some 4 := ⟨by decide +kernel, by decide +kernel, by decide +kernel⟩
set_option maxRecDepth 100000 in
theorem mw_RX11_328 : VW RX11 328 RX11 yX11_pass cX11_pass 9 none 4 := ⟨⟨(wjU_i 1499 rfl rfl), me_X11_pass.1, (wjU_i 59 rfl rfl), me_X11_pass.2⟩, rfl, mf_X11_pass⟩
set_option maxRecDepth 100000 in
theorem me_X11_isFar : Cond.instanceMethod yX11_isFar ∈ wjU ∧ Cond.initialized RX11 ∈ wjU ∧ Cond.code yX11_isFar cX11_isFar 5 (some .boolean) ∈ wjU := ⟨(wjU_i 1522 rfl rfl), (wjU_i 84 rfl rfl), (wjU_i 1523 rfl rfl)⟩
theorem mf_X11_isFar : yX11_isFar.cls ≠ "java/lang/invoke/MethodHandle" ∧ yX11_isFar.cls ≠ "java/lang/invoke/VarHandle" ∧ (parseMethodDescriptor yX11_isFar.desc).map (fun d => d.parameters.length) = some 3 := ⟨by decide +kernel, by decide +kernel, by decide +kernel⟩
set_option maxRecDepth 100000 in
theorem mw_RX11_339 : VW RX11 339 RX11 yX11_isFar cX11_isFar 5 (some .boolean) 3 := ⟨⟨(wjU_i 1520 rfl rfl), me_X11_isFar.1, (wjU_i 64 rfl rfl), me_X11_isFar.2⟩, rfl, mf_X11_isFar⟩
set_option maxRecDepth 100000 in
theorem me_X11_drop : Cond.instanceMethod yX11_drop ∈ wjU ∧ Cond.initialized RX11 ∈ wjU ∧ Cond.code yX11_drop cX11_drop 4 none ∈ wjU := ⟨(wjU_i 1526 rfl rfl), (wjU_i 84 rfl rfl), (wjU_i 1527 rfl rfl)⟩
theorem mf_X11_drop : yX11_drop.cls ≠ "java/lang/invoke/MethodHandle" ∧ yX11_drop.cls ≠ "java/lang/invoke/VarHandle" ∧ (parseMethodDescriptor yX11_drop.desc).map (fun d => d.parameters.length) = some 2 := ⟨by decide +kernel, by decide +kernel, by decide +kernel⟩
set_option maxRecDepth 100000 in
theorem mw_RX11_343 : VW RX11 343 RX11 yX11_drop cX11_drop 4 none 2 := ⟨⟨(wjU_i 1524 rfl rfl), me_X11_drop.1, (wjU_i 65 rfl rfl), me_X11_drop.2⟩, rfl, mf_X11_drop⟩
set_option maxRecDepth 100000 in
theorem me_X11_sourceGoal : Cond.instanceMethod yX11_sourceGoal ∈ wjU ∧ Cond.initialized RX11 ∈ wjU ∧ Cond.code yX11_sourceGoal cX11_sourceGoal 4 none ∈ wjU := ⟨(wjU_i 1544 rfl rfl), (wjU_i 84 rfl rfl), (wjU_i 1545 rfl rfl)⟩
theorem mf_X11_sourceGoal : yX11_sourceGoal.cls ≠ "java/lang/invoke/MethodHandle" ∧ yX11_sourceGoal.cls ≠ "java/lang/invoke/VarHandle" ∧ (parseMethodDescriptor yX11_sourceGoal.desc).map (fun d => d.parameters.length) = some 1 := ⟨by decide +kernel, by decide +kernel, by decide +kernel⟩
set_option maxRecDepth 100000 in
theorem mw_RX11_353 : VW RX11 353 RX11 yX11_sourceGoal cX11_sourceGoal 4 none 1 := ⟨⟨(wjU_i 1542 rfl rfl), me_X11_sourceGoal.1, (wjU_i 69 rfl rfl), me_X11_sourceGoal.2⟩, rfl, mf_X11_sourceGoal⟩
set_option maxRecDepth 100000 in
theorem me_X11_least : Cond.instanceMethod yX11_least ∈ wjU ∧ Cond.initialized RX11 ∈ wjU ∧ Cond.code yX11_least cX11_least 3 none ∈ wjU := ⟨(wjU_i 1548 rfl rfl), (wjU_i 84 rfl rfl), (wjU_i 1549 rfl rfl)⟩
theorem mf_X11_least : yX11_least.cls ≠ "java/lang/invoke/MethodHandle" ∧ yX11_least.cls ≠ "java/lang/invoke/VarHandle" ∧ (parseMethodDescriptor yX11_least.desc).map (fun d => d.parameters.length) = some 1 := ⟨by decide +kernel, by decide +kernel, by decide +kernel⟩
set_option maxRecDepth 100000 in
theorem mw_RX11_356 : VW RX11 356 RX11 yX11_least cX11_least 3 none 1 := ⟨⟨(wjU_i 1546 rfl rfl), me_X11_least.1, (wjU_i 70 rfl rfl), me_X11_least.2⟩, rfl, mf_X11_least⟩
set_option maxRecDepth 100000 in
theorem me_X11_holdGoal : Cond.instanceMethod yX11_holdGoal ∈ wjU ∧ Cond.initialized RX11 ∈ wjU ∧ Cond.code yX11_holdGoal cX11_holdGoal 4 none ∈ wjU := ⟨(wjU_i 1552 rfl rfl), (wjU_i 84 rfl rfl), (wjU_i 1553 rfl rfl)⟩
theorem mf_X11_holdGoal : yX11_holdGoal.cls ≠ "java/lang/invoke/MethodHandle" ∧ yX11_holdGoal.cls ≠ "java/lang/invoke/VarHandle" ∧ (parseMethodDescriptor yX11_holdGoal.desc).map (fun d => d.parameters.length) = some 1 := ⟨by decide +kernel, by decide +kernel, by decide +kernel⟩
set_option maxRecDepth 100000 in
theorem mw_RX11_360 : VW RX11 360 RX11 yX11_holdGoal cX11_holdGoal 4 none 1 := ⟨⟨(wjU_i 1550 rfl rfl), me_X11_holdGoal.1, (wjU_i 71 rfl rfl), me_X11_holdGoal.2⟩, rfl, mf_X11_holdGoal⟩
set_option maxRecDepth 100000 in
theorem me_X11_findGoal : Cond.instanceMethod yX11_findGoal ∈ wjU ∧ Cond.initialized RX11 ∈ wjU ∧ Cond.code yX11_findGoal cX11_findGoal 5 none ∈ wjU := ⟨(wjU_i 1540 rfl rfl), (wjU_i 84 rfl rfl), (wjU_i 1541 rfl rfl)⟩
theorem mf_X11_findGoal : yX11_findGoal.cls ≠ "java/lang/invoke/MethodHandle" ∧ yX11_findGoal.cls ≠ "java/lang/invoke/VarHandle" ∧ (parseMethodDescriptor yX11_findGoal.desc).map (fun d => d.parameters.length) = some 1 := ⟨by decide +kernel, by decide +kernel, by decide +kernel⟩
set_option maxRecDepth 100000 in
theorem mw_RX11_365 : VW RX11 365 RX11 yX11_findGoal cX11_findGoal 5 none 1 := ⟨⟨(wjU_i 1538 rfl rfl), me_X11_findGoal.1, (wjU_i 68 rfl rfl), me_X11_findGoal.2⟩, rfl, mf_X11_findGoal⟩
set_option maxRecDepth 100000 in
theorem me_X11_close : Cond.instanceMethod yX11_close ∈ wjU ∧ Cond.initialized RX11 ∈ wjU ∧ Cond.code yX11_close cX11_close 8 none ∈ wjU := ⟨(wjU_i 1556 rfl rfl), (wjU_i 84 rfl rfl), (wjU_i 1557 rfl rfl)⟩
theorem mf_X11_close : yX11_close.cls ≠ "java/lang/invoke/MethodHandle" ∧ yX11_close.cls ≠ "java/lang/invoke/VarHandle" ∧ (parseMethodDescriptor yX11_close.desc).map (fun d => d.parameters.length) = some 1 := ⟨by decide +kernel, by decide +kernel, by decide +kernel⟩
set_option maxRecDepth 100000 in
theorem mw_RX11_368 : VW RX11 368 RX11 yX11_close cX11_close 8 none 1 := ⟨⟨(wjU_i 1554 rfl rfl), me_X11_close.1, (wjU_i 72 rfl rfl), me_X11_close.2⟩, rfl, mf_X11_close⟩
set_option maxRecDepth 100000 in
theorem me_X11_isStream : Cond.instanceMethod yX11_isStream ∈ wjU ∧ Cond.initialized RX11 ∈ wjU ∧ Cond.code yX11_isStream cX11_isStream 2 (some .boolean) ∈ wjU := ⟨(wjU_i 1473 rfl rfl), (wjU_i 84 rfl rfl), (wjU_i 1474 rfl rfl)⟩
theorem mf_X11_isStream : yX11_isStream.cls ≠ "java/lang/invoke/MethodHandle" ∧ yX11_isStream.cls ≠ "java/lang/invoke/VarHandle" ∧ (parseMethodDescriptor yX11_isStream.desc).map (fun d => d.parameters.length) = some 1 := ⟨by decide +kernel, by decide +kernel, by decide +kernel⟩
set_option maxRecDepth 100000 in
theorem mw_RX11_371 : VW RX11 371 RX11 yX11_isStream cX11_isStream 2 (some .boolean) 1 := ⟨⟨(wjU_i 1471 rfl rfl), me_X11_isStream.1, (wjU_i 55 rfl rfl), me_X11_isStream.2⟩, rfl, mf_X11_isStream⟩
set_option maxRecDepth 100000 in
theorem me_X11_isPart : Cond.instanceMethod yX11_isPart ∈ wjU ∧ Cond.initialized RX11 ∈ wjU ∧ Cond.code yX11_isPart cX11_isPart 3 (some .boolean) ∈ wjU := ⟨(wjU_i 1469 rfl rfl), (wjU_i 84 rfl rfl), (wjU_i 1470 rfl rfl)⟩
theorem mf_X11_isPart : yX11_isPart.cls ≠ "java/lang/invoke/MethodHandle" ∧ yX11_isPart.cls ≠ "java/lang/invoke/VarHandle" ∧ (parseMethodDescriptor yX11_isPart.desc).map (fun d => d.parameters.length) = some 2 := ⟨by decide +kernel, by decide +kernel, by decide +kernel⟩
set_option maxRecDepth 100000 in
theorem mw_RX11_381 : VW RX11 381 RX11 yX11_isPart cX11_isPart 3 (some .boolean) 2 := ⟨⟨(wjU_i 1467 rfl rfl), me_X11_isPart.1, (wjU_i 54 rfl rfl), me_X11_isPart.2⟩, rfl, mf_X11_isPart⟩
set_option maxRecDepth 100000 in
theorem me_X11_isStopped : Cond.instanceMethod yX11_isStopped ∈ wjU ∧ Cond.initialized RX11 ∈ wjU ∧ Cond.code yX11_isStopped cX11_isStopped 8 (some .boolean) ∈ wjU := ⟨(wjU_i 1486 rfl rfl), (wjU_i 84 rfl rfl), (wjU_i 1487 rfl rfl)⟩
theorem mf_X11_isStopped : yX11_isStopped.cls ≠ "java/lang/invoke/MethodHandle" ∧ yX11_isStopped.cls ≠ "java/lang/invoke/VarHandle" ∧ (parseMethodDescriptor yX11_isStopped.desc).map (fun d => d.parameters.length) = some 2 := ⟨by decide +kernel, by decide +kernel, by decide +kernel⟩
set_option maxRecDepth 100000 in
theorem mw_RX11_389 : VW RX11 389 RX11 yX11_isStopped cX11_isStopped 8 (some .boolean) 2 := ⟨⟨(wjU_i 1484 rfl rfl), me_X11_isStopped.1, (wjU_i 57 rfl rfl), me_X11_isStopped.2⟩, rfl, mf_X11_isStopped⟩
set_option maxRecDepth 100000 in
theorem me_X11_hear : Cond.instanceMethod yX11_hear ∈ wjU ∧ Cond.initialized RX11 ∈ wjU ∧ Cond.code yX11_hear cX11_hear 3 none ∈ wjU := ⟨(wjU_i 1497 rfl rfl), (wjU_i 84 rfl rfl), (wjU_i 1498 rfl rfl)⟩
theorem mf_X11_hear : yX11_hear.cls ≠ "java/lang/invoke/MethodHandle" ∧ yX11_hear.cls ≠ "java/lang/invoke/VarHandle" ∧ (parseMethodDescriptor yX11_hear.desc).map (fun d => d.parameters.length) = some 2 := ⟨by decide +kernel, by decide +kernel, by decide +kernel⟩
set_option maxRecDepth 100000 in
theorem mw_RX11_392 : VW RX11 392 RX11 yX11_hear cX11_hear 3 none 2 := ⟨⟨(wjU_i 1495 rfl rfl), me_X11_hear.1, (wjU_i 58 rfl rfl), me_X11_hear.2⟩, rfl, mf_X11_hear⟩
set_option maxRecDepth 100000 in
theorem me_X11_reckon : Cond.instanceMethod yX11_reckon ∈ wjU ∧ Cond.initialized RX11 ∈ wjU ∧ Cond.code yX11_reckon cX11_reckon 4 none ∈ wjU := ⟨(wjU_i 1536 rfl rfl), (wjU_i 84 rfl rfl), (wjU_i 1537 rfl rfl)⟩
theorem mf_X11_reckon : yX11_reckon.cls ≠ "java/lang/invoke/MethodHandle" ∧ yX11_reckon.cls ≠ "java/lang/invoke/VarHandle" ∧ (parseMethodDescriptor yX11_reckon.desc).map (fun d => d.parameters.length) = some 0 := ⟨by decide +kernel, by decide +kernel, by decide +kernel⟩
set_option maxRecDepth 100000 in
theorem mw_RX11_395 : VW RX11 395 RX11 yX11_reckon cX11_reckon 4 none 0 := ⟨⟨(wjU_i 1534 rfl rfl), me_X11_reckon.1, (wjU_i 67 rfl rfl), me_X11_reckon.2⟩, rfl, mf_X11_reckon⟩
set_option maxRecDepth 100000 in
theorem me_X11_mustBe : Cond.instanceMethod yX11_mustBe ∈ wjU ∧ Cond.initialized RX11 ∈ wjU ∧ Cond.code yX11_mustBe cX11_mustBe 2 (some .boolean) ∈ wjU := ⟨(wjU_i 1588 rfl rfl), (wjU_i 84 rfl rfl), (wjU_i 1589 rfl rfl)⟩
theorem mf_X11_mustBe : yX11_mustBe.cls ≠ "java/lang/invoke/MethodHandle" ∧ yX11_mustBe.cls ≠ "java/lang/invoke/VarHandle" ∧ (parseMethodDescriptor yX11_mustBe.desc).map (fun d => d.parameters.length) = some 1 := ⟨by decide +kernel, by decide +kernel, by decide +kernel⟩
set_option maxRecDepth 100000 in
theorem mw_RX11_398 : VW RX11 398 RX11 yX11_mustBe cX11_mustBe 2 (some .boolean) 1 := ⟨⟨(wjU_i 1586 rfl rfl), me_X11_mustBe.1, (wjU_i 73 rfl rfl), me_X11_mustBe.2⟩, rfl, mf_X11_mustBe⟩
set_option maxRecDepth 100000 in
theorem me_X11_heldIn : Cond.instanceMethod yX11_heldIn ∈ wjU ∧ Cond.initialized RX11 ∈ wjU ∧ Cond.code yX11_heldIn cX11_heldIn 4 (some .int) ∈ wjU := ⟨(wjU_i 1608 rfl rfl), (wjU_i 84 rfl rfl), (wjU_i 1609 rfl rfl)⟩
theorem mf_X11_heldIn : yX11_heldIn.cls ≠ "java/lang/invoke/MethodHandle" ∧ yX11_heldIn.cls ≠ "java/lang/invoke/VarHandle" ∧ (parseMethodDescriptor yX11_heldIn.desc).map (fun d => d.parameters.length) = some 1 := ⟨by decide +kernel, by decide +kernel, by decide +kernel⟩
set_option maxRecDepth 100000 in
theorem mw_RX11_401 : VW RX11 401 RX11 yX11_heldIn cX11_heldIn 4 (some .int) 1 := ⟨⟨(wjU_i 1606 rfl rfl), me_X11_heldIn.1, (wjU_i 74 rfl rfl), me_X11_heldIn.2⟩, rfl, mf_X11_heldIn⟩
set_option maxRecDepth 100000 in
theorem me_X11_noted : Cond.instanceMethod yX11_noted ∈ wjU ∧ Cond.initialized RX11 ∈ wjU ∧ Cond.code yX11_noted cX11_noted 7 (some .long) ∈ wjU := ⟨(wjU_i 1616 rfl rfl), (wjU_i 84 rfl rfl), (wjU_i 1617 rfl rfl)⟩
theorem mf_X11_noted : yX11_noted.cls ≠ "java/lang/invoke/MethodHandle" ∧ yX11_noted.cls ≠ "java/lang/invoke/VarHandle" ∧ (parseMethodDescriptor yX11_noted.desc).map (fun d => d.parameters.length) = some 5 := ⟨by decide +kernel, by decide +kernel, by decide +kernel⟩
set_option maxRecDepth 100000 in
theorem mw_RX11_404 : VW RX11 404 RX11 yX11_noted cX11_noted 7 (some .long) 5 := ⟨⟨(wjU_i 1614 rfl rfl), me_X11_noted.1, (wjU_i 75 rfl rfl), me_X11_noted.2⟩, rfl, mf_X11_noted⟩
set_option maxRecDepth 100000 in
theorem me_X11_partsThat : Cond.instanceMethod yX11_partsThat ∈ wjU ∧ Cond.initialized RX11 ∈ wjU ∧ Cond.code yX11_partsThat cX11_partsThat 5 (some .int) ∈ wjU := ⟨(wjU_i 1628 rfl rfl), (wjU_i 84 rfl rfl), (wjU_i 1629 rfl rfl)⟩
theorem mf_X11_partsThat : yX11_partsThat.cls ≠ "java/lang/invoke/MethodHandle" ∧ yX11_partsThat.cls ≠ "java/lang/invoke/VarHandle" ∧ (parseMethodDescriptor yX11_partsThat.desc).map (fun d => d.parameters.length) = some 1 := ⟨by decide +kernel, by decide +kernel, by decide +kernel⟩
set_option maxRecDepth 100000 in
theorem mw_RX11_408 : VW RX11 408 RX11 yX11_partsThat cX11_partsThat 5 (some .int) 1 := ⟨⟨(wjU_i 1626 rfl rfl), me_X11_partsThat.1, (wjU_i 76 rfl rfl), me_X11_partsThat.2⟩, rfl, mf_X11_partsThat⟩
set_option maxRecDepth 100000 in
theorem me_X11_say : Cond.instanceMethod yX11_say ∈ wjU ∧ Cond.initialized RX11 ∈ wjU ∧ Cond.code yX11_say cX11_say 2 none ∈ wjU := ⟨(wjU_i 1640 rfl rfl), (wjU_i 84 rfl rfl), (wjU_i 1641 rfl rfl)⟩
theorem mf_X11_say : yX11_say.cls ≠ "java/lang/invoke/MethodHandle" ∧ yX11_say.cls ≠ "java/lang/invoke/VarHandle" ∧ (parseMethodDescriptor yX11_say.desc).map (fun d => d.parameters.length) = some 1 := ⟨by decide +kernel, by decide +kernel, by decide +kernel⟩
set_option maxRecDepth 100000 in
theorem mw_RX11_415 : VW RX11 415 RX11 yX11_say cX11_say 2 none 1 := ⟨⟨(wjU_i 1638 rfl rfl), me_X11_say.1, (wjU_i 78 rfl rfl), me_X11_say.2⟩, rfl, mf_X11_say⟩
set_option maxRecDepth 100000 in
theorem me_X11_sayNumber : Cond.instanceMethod yX11_sayNumber ∈ wjU ∧ Cond.initialized RX11 ∈ wjU ∧ Cond.code yX11_sayNumber cX11_sayNumber 7 none ∈ wjU := ⟨(wjU_i 1636 rfl rfl), (wjU_i 84 rfl rfl), (wjU_i 1637 rfl rfl)⟩
theorem mf_X11_sayNumber : yX11_sayNumber.cls ≠ "java/lang/invoke/MethodHandle" ∧ yX11_sayNumber.cls ≠ "java/lang/invoke/VarHandle" ∧ (parseMethodDescriptor yX11_sayNumber.desc).map (fun d => d.parameters.length) = some 1 := ⟨by decide +kernel, by decide +kernel, by decide +kernel⟩
set_option maxRecDepth 100000 in
theorem mw_RX11_429 : VW RX11 429 RX11 yX11_sayNumber cX11_sayNumber 7 none 1 := ⟨⟨(wjU_i 1634 rfl rfl), me_X11_sayNumber.1, (wjU_i 77 rfl rfl), me_X11_sayNumber.2⟩, rfl, mf_X11_sayNumber⟩
set_option maxRecDepth 100000 in
theorem me_X11_sayAll : Cond.instanceMethod yX11_sayAll ∈ wjU ∧ Cond.initialized RX11 ∈ wjU ∧ Cond.code yX11_sayAll cX11_sayAll 3 none ∈ wjU := ⟨(wjU_i 1655 rfl rfl), (wjU_i 84 rfl rfl), (wjU_i 1656 rfl rfl)⟩
theorem mf_X11_sayAll : yX11_sayAll.cls ≠ "java/lang/invoke/MethodHandle" ∧ yX11_sayAll.cls ≠ "java/lang/invoke/VarHandle" ∧ (parseMethodDescriptor yX11_sayAll.desc).map (fun d => d.parameters.length) = some 1 := ⟨by decide +kernel, by decide +kernel, by decide +kernel⟩
set_option maxRecDepth 100000 in
theorem mw_RX11_438 : VW RX11 438 RX11 yX11_sayAll cX11_sayAll 3 none 1 := ⟨⟨(wjU_i 1653 rfl rfl), me_X11_sayAll.1, (wjU_i 79 rfl rfl), me_X11_sayAll.2⟩, rfl, mf_X11_sayAll⟩
set_option maxRecDepth 100000 in
theorem me_X2_dropFirst : Cond.instanceMethod yX2_dropFirst ∈ wjU ∧ Cond.initialized RX2 ∈ wjU ∧ Cond.code yX2_dropFirst cX2_dropFirst 3 none ∈ wjU := ⟨(wjU_i 739 rfl rfl), (wjU_i 91 rfl rfl), (wjU_i 740 rfl rfl)⟩
theorem mf_X2_dropFirst : yX2_dropFirst.cls ≠ "java/lang/invoke/MethodHandle" ∧ yX2_dropFirst.cls ≠ "java/lang/invoke/VarHandle" ∧ (parseMethodDescriptor yX2_dropFirst.desc).map (fun d => d.parameters.length) = some 1 := ⟨by decide +kernel, by decide +kernel, by decide +kernel⟩
set_option maxRecDepth 100000 in
theorem mw_RX2_51 : VW RX2 51 RX2 yX2_dropFirst cX2_dropFirst 3 none 1 := ⟨⟨(wjU_i 737 rfl rfl), me_X2_dropFirst.1, (wjU_i 27 rfl rfl), me_X2_dropFirst.2⟩, rfl, mf_X2_dropFirst⟩
set_option maxRecDepth 100000 in
theorem me_X2_put : Cond.instanceMethod yX2_put ∈ wjU ∧ Cond.initialized RX2 ∈ wjU ∧ Cond.code yX2_put cX2_put 7 none ∈ wjU := ⟨(wjU_i 743 rfl rfl), (wjU_i 91 rfl rfl), (wjU_i 744 rfl rfl)⟩
theorem mf_X2_put : yX2_put.cls ≠ "java/lang/invoke/MethodHandle" ∧ yX2_put.cls ≠ "java/lang/invoke/VarHandle" ∧ (parseMethodDescriptor yX2_put.desc).map (fun d => d.parameters.length) = some 5 := ⟨by decide +kernel, by decide +kernel, by decide +kernel⟩
set_option maxRecDepth 100000 in
theorem mw_RX2_55 : VW RX2 55 RX2 yX2_put cX2_put 7 none 5 := ⟨⟨(wjU_i 741 rfl rfl), me_X2_put.1, (wjU_i 28 rfl rfl), me_X2_put.2⟩, rfl, mf_X2_put⟩
set_option maxRecDepth 100000 in
theorem mw_RX2_59 : VW RX2 59 RX2 yX2_isFar cX2_isFar 4 (some .boolean) 2 := ⟨⟨(wjU_i 805 rfl rfl), me_X2_isFar.1, (wjU_i 731 rfl rfl), me_X2_isFar.2⟩, rfl, mf_X2_isFar⟩
set_option maxRecDepth 100000 in
theorem mw_RX4_24 : VW RX4 24 RX0 yX0_at cX0_at 2 (some .int) 1 := ⟨⟨(wjU_i 308 rfl rfl), me_X0_at.1, (wjU_i 310 rfl rfl), me_X0_at.2⟩, rfl, mf_X0_at⟩
set_option maxRecDepth 100000 in
theorem me_X4_scanRun : Cond.instanceMethod yX4_scanRun ∈ wjU ∧ Cond.initialized RX4 ∈ wjU ∧ Cond.code yX4_scanRun cX4_scanRun 4 (some .int) ∈ wjU := ⟨(wjU_i 317 rfl rfl), (wjU_i 86 rfl rfl), (wjU_i 318 rfl rfl)⟩
theorem mf_X4_scanRun : yX4_scanRun.cls ≠ "java/lang/invoke/MethodHandle" ∧ yX4_scanRun.cls ≠ "java/lang/invoke/VarHandle" ∧ (parseMethodDescriptor yX4_scanRun.desc).map (fun d => d.parameters.length) = some 2 := ⟨by decide +kernel, by decide +kernel, by decide +kernel⟩
set_option maxRecDepth 100000 in
theorem mw_RX4_38 : VW RX4 38 RX4 yX4_scanRun cX4_scanRun 4 (some .int) 2 := ⟨⟨(wjU_i 315 rfl rfl), me_X4_scanRun.1, (wjU_i 0 rfl rfl), me_X4_scanRun.2⟩, rfl, mf_X4_scanRun⟩
set_option maxRecDepth 100000 in
theorem me_X4_isKeyword : Cond.instanceMethod yX4_isKeyword ∈ wjU ∧ Cond.initialized RX4 ∈ wjU ∧ Cond.code yX4_isKeyword cX4_isKeyword 1 (some .boolean) ∈ wjU := ⟨(wjU_i 322 rfl rfl), (wjU_i 86 rfl rfl), (wjU_i 323 rfl rfl)⟩
theorem mf_X4_isKeyword : yX4_isKeyword.cls ≠ "java/lang/invoke/MethodHandle" ∧ yX4_isKeyword.cls ≠ "java/lang/invoke/VarHandle" ∧ (parseMethodDescriptor yX4_isKeyword.desc).map (fun d => d.parameters.length) = some 0 := ⟨by decide +kernel, by decide +kernel, by decide +kernel⟩
set_option maxRecDepth 100000 in
theorem mw_RX4_42 : VW RX4 42 RX4 yX4_isKeyword cX4_isKeyword 1 (some .boolean) 0 := ⟨⟨(wjU_i 320 rfl rfl), me_X4_isKeyword.1, (wjU_i 1 rfl rfl), me_X4_isKeyword.2⟩, rfl, mf_X4_isKeyword⟩
set_option maxRecDepth 100000 in
theorem mw_RX5_50 : VW RX5 50 RX5 yX5_countIn cX5_countIn 4 (some .int) 1 := ⟨⟨(wjU_i 761 rfl rfl), me_X5_countIn.1, (wjU_i 763 rfl rfl), me_X5_countIn.2⟩, rfl, mf_X5_countIn⟩
set_option maxRecDepth 100000 in
theorem mw_RX5_54 : VW RX5 54 RX5 yX5_leastActive cX5_leastActive 4 (some .long) 0 := ⟨⟨(wjU_i 765 rfl rfl), me_X5_leastActive.1, (wjU_i 666 rfl rfl), me_X5_leastActive.2⟩, rfl, mf_X5_leastActive⟩
set_option maxRecDepth 100000 in
theorem mw_RX6_48 : VW RX6 48 RX0 yX0_addNumber cX0_addNumber 8 none 1 := ⟨⟨(wjU_i 891 rfl rfl), me_X0_addNumber.1, (wjU_i 893 rfl rfl), me_X0_addNumber.2⟩, rfl, mf_X0_addNumber⟩
set_option maxRecDepth 100000 in
theorem mw_RX6_54 : VW RX6 54 RX0 yX0_add cX0_add 2 none 1 := ⟨⟨(wjU_i 898 rfl rfl), me_X0_add.1, (wjU_i 172 rfl rfl), me_X0_add.2⟩, rfl, mf_X0_add⟩
set_option maxRecDepth 100000 in
theorem mw_RX6_58 : VW RX6 58 RX0 yX0_addWord cX0_addWord 5 none 1 := ⟨⟨(wjU_i 899 rfl rfl), me_X0_addWord.1, (wjU_i 901 rfl rfl), me_X0_addWord.2⟩, rfl, mf_X0_addWord⟩
set_option maxRecDepth 100000 in
theorem me_X0_addTime : Cond.instanceMethod yX0_addTime ∈ wjU ∧ Cond.initialized RX0 ∈ wjU ∧ Cond.code yX0_addTime cX0_addTime 3 none ∈ wjU := ⟨(wjU_i 904 rfl rfl), (wjU_i 82 rfl rfl), (wjU_i 906 rfl rfl)⟩
theorem mf_X0_addTime : yX0_addTime.cls ≠ "java/lang/invoke/MethodHandle" ∧ yX0_addTime.cls ≠ "java/lang/invoke/VarHandle" ∧ (parseMethodDescriptor yX0_addTime.desc).map (fun d => d.parameters.length) = some 1 := ⟨by decide +kernel, by decide +kernel, by decide +kernel⟩
set_option maxRecDepth 100000 in
theorem mw_RX6_61 : VW RX6 61 RX0 yX0_addTime cX0_addTime 3 none 1 := ⟨⟨(wjU_i 903 rfl rfl), me_X0_addTime.1, (wjU_i 905 rfl rfl), me_X0_addTime.2⟩, rfl, mf_X0_addTime⟩
set_option maxRecDepth 100000 in
theorem me_X4_advance : Cond.instanceMethod yX4_advance ∈ wjU ∧ Cond.initialized RX4 ∈ wjU ∧ Cond.code yX4_advance cX4_advance 2 none ∈ wjU := ⟨(wjU_i 305 rfl rfl), (wjU_i 86 rfl rfl), (wjU_i 307 rfl rfl)⟩
theorem mf_X4_advance : yX4_advance.cls ≠ "java/lang/invoke/MethodHandle" ∧ yX4_advance.cls ≠ "java/lang/invoke/VarHandle" ∧ (parseMethodDescriptor yX4_advance.desc).map (fun d => d.parameters.length) = some 0 := ⟨by decide +kernel, by decide +kernel, by decide +kernel⟩
set_option maxRecDepth 100000 in
theorem mw_RX7_19 : VW RX7 19 RX4 yX4_advance cX4_advance 2 none 0 := ⟨⟨(wjU_i 304 rfl rfl), me_X4_advance.1, (wjU_i 306 rfl rfl), me_X4_advance.2⟩, rfl, mf_X4_advance⟩
set_option maxRecDepth 100000 in
theorem me_X7_isKeyword : Cond.instanceMethod yX7_isKeyword ∈ wjU ∧ Cond.initialized RX7 ∈ wjU ∧ Cond.code yX7_isKeyword cX7_isKeyword 3 (some .boolean) ∈ wjU := ⟨(wjU_i 342 rfl rfl), (wjU_i 85 rfl rfl), (wjU_i 343 rfl rfl)⟩
theorem mf_X7_isKeyword : yX7_isKeyword.cls ≠ "java/lang/invoke/MethodHandle" ∧ yX7_isKeyword.cls ≠ "java/lang/invoke/VarHandle" ∧ (parseMethodDescriptor yX7_isKeyword.desc).map (fun d => d.parameters.length) = some 1 := ⟨by decide +kernel, by decide +kernel, by decide +kernel⟩
set_option maxRecDepth 100000 in
theorem mw_RX7_30 : VW RX7 30 RX7 yX7_isKeyword cX7_isKeyword 3 (some .boolean) 1 := ⟨⟨(wjU_i 340 rfl rfl), me_X7_isKeyword.1, (wjU_i 2 rfl rfl), me_X7_isKeyword.2⟩, rfl, mf_X7_isKeyword⟩
set_option maxRecDepth 100000 in
theorem me_X7_refuse : Cond.instanceMethod yX7_refuse ∈ wjU ∧ Cond.initialized RX7 ∈ wjU ∧ Cond.code yX7_refuse cX7_refuse 2 (some .boolean) ∈ wjU := ⟨(wjU_i 346 rfl rfl), (wjU_i 85 rfl rfl), (wjU_i 347 rfl rfl)⟩
theorem mf_X7_refuse : yX7_refuse.cls ≠ "java/lang/invoke/MethodHandle" ∧ yX7_refuse.cls ≠ "java/lang/invoke/VarHandle" ∧ (parseMethodDescriptor yX7_refuse.desc).map (fun d => d.parameters.length) = some 1 := ⟨by decide +kernel, by decide +kernel, by decide +kernel⟩
set_option maxRecDepth 100000 in
theorem mw_RX7_34 : VW RX7 34 RX7 yX7_refuse cX7_refuse 2 (some .boolean) 1 := ⟨⟨(wjU_i 344 rfl rfl), me_X7_refuse.1, (wjU_i 3 rfl rfl), me_X7_refuse.2⟩, rfl, mf_X7_refuse⟩
set_option maxRecDepth 100000 in
theorem me_X7_readAlign : Cond.instanceMethod yX7_readAlign ∈ wjU ∧ Cond.initialized RX7 ∈ wjU ∧ Cond.code yX7_readAlign cX7_readAlign 2 (some .boolean) ∈ wjU := ⟨(wjU_i 350 rfl rfl), (wjU_i 85 rfl rfl), (wjU_i 351 rfl rfl)⟩
theorem mf_X7_readAlign : yX7_readAlign.cls ≠ "java/lang/invoke/MethodHandle" ∧ yX7_readAlign.cls ≠ "java/lang/invoke/VarHandle" ∧ (parseMethodDescriptor yX7_readAlign.desc).map (fun d => d.parameters.length) = some 0 := ⟨by decide +kernel, by decide +kernel, by decide +kernel⟩
set_option maxRecDepth 100000 in
theorem mw_RX7_38 : VW RX7 38 RX7 yX7_readAlign cX7_readAlign 2 (some .boolean) 0 := ⟨⟨(wjU_i 348 rfl rfl), me_X7_readAlign.1, (wjU_i 4 rfl rfl), me_X7_readAlign.2⟩, rfl, mf_X7_readAlign⟩
set_option maxRecDepth 100000 in
theorem me_X7_readBeginning : Cond.instanceMethod yX7_readBeginning ∈ wjU ∧ Cond.initialized RX7 ∈ wjU ∧ Cond.code yX7_readBeginning cX7_readBeginning 4 (some (.object "WatermarkJoin$Stream")) ∈ wjU := ⟨(wjU_i 380 rfl rfl), (wjU_i 85 rfl rfl), (wjU_i 381 rfl rfl)⟩
theorem mf_X7_readBeginning : yX7_readBeginning.cls ≠ "java/lang/invoke/MethodHandle" ∧ yX7_readBeginning.cls ≠ "java/lang/invoke/VarHandle" ∧ (parseMethodDescriptor yX7_readBeginning.desc).map (fun d => d.parameters.length) = some 1 := ⟨by decide +kernel, by decide +kernel, by decide +kernel⟩
set_option maxRecDepth 100000 in
theorem mw_RX7_42 : VW RX7 42 RX7 yX7_readBeginning cX7_readBeginning 4 (some (.object "WatermarkJoin$Stream")) 1 := ⟨⟨(wjU_i 378 rfl rfl), me_X7_readBeginning.1, (wjU_i 10 rfl rfl), me_X7_readBeginning.2⟩, rfl, mf_X7_readBeginning⟩
set_option maxRecDepth 100000 in
theorem me_X7_readKind : Cond.instanceMethod yX7_readKind ∈ wjU ∧ Cond.initialized RX7 ∈ wjU ∧ Cond.code yX7_readKind cX7_readKind 2 (some .boolean) ∈ wjU := ⟨(wjU_i 452 rfl rfl), (wjU_i 85 rfl rfl), (wjU_i 453 rfl rfl)⟩
theorem mf_X7_readKind : yX7_readKind.cls ≠ "java/lang/invoke/MethodHandle" ∧ yX7_readKind.cls ≠ "java/lang/invoke/VarHandle" ∧ (parseMethodDescriptor yX7_readKind.desc).map (fun d => d.parameters.length) = some 1 := ⟨by decide +kernel, by decide +kernel, by decide +kernel⟩
set_option maxRecDepth 100000 in
theorem mw_RX7_46 : VW RX7 46 RX7 yX7_readKind cX7_readKind 2 (some .boolean) 1 := ⟨⟨(wjU_i 450 rfl rfl), me_X7_readKind.1, (wjU_i 11 rfl rfl), me_X7_readKind.2⟩, rfl, mf_X7_readKind⟩
set_option maxRecDepth 100000 in
theorem me_X1_add : Cond.instanceMethod yX1_add ∈ wjU ∧ Cond.initialized RX1 ∈ wjU ∧ Cond.code yX1_add cX1_add 2 none ∈ wjU := ⟨(wjU_i 619 rfl rfl), (wjU_i 87 rfl rfl), (wjU_i 621 rfl rfl)⟩
theorem mf_X1_add : yX1_add.cls ≠ "java/lang/invoke/MethodHandle" ∧ yX1_add.cls ≠ "java/lang/invoke/VarHandle" ∧ (parseMethodDescriptor yX1_add.desc).map (fun d => d.parameters.length) = some 1 := ⟨by decide +kernel, by decide +kernel, by decide +kernel⟩
set_option maxRecDepth 100000 in
theorem mw_RX7_50 : VW RX7 50 RX1 yX1_add cX1_add 2 none 1 := ⟨⟨(wjU_i 618 rfl rfl), me_X1_add.1, (wjU_i 620 rfl rfl), me_X1_add.2⟩, rfl, mf_X1_add⟩
set_option maxRecDepth 100000 in
theorem me_X7_isNumber : Cond.instanceMethod yX7_isNumber ∈ wjU ∧ Cond.initialized RX7 ∈ wjU ∧ Cond.code yX7_isNumber cX7_isNumber 5 (some .boolean) ∈ wjU := ⟨(wjU_i 355 rfl rfl), (wjU_i 85 rfl rfl), (wjU_i 356 rfl rfl)⟩
theorem mf_X7_isNumber : yX7_isNumber.cls ≠ "java/lang/invoke/MethodHandle" ∧ yX7_isNumber.cls ≠ "java/lang/invoke/VarHandle" ∧ (parseMethodDescriptor yX7_isNumber.desc).map (fun d => d.parameters.length) = some 2 := ⟨by decide +kernel, by decide +kernel, by decide +kernel⟩
set_option maxRecDepth 100000 in
theorem mw_RX7_58 : VW RX7 58 RX7 yX7_isNumber cX7_isNumber 5 (some .boolean) 2 := ⟨⟨(wjU_i 353 rfl rfl), me_X7_isNumber.1, (wjU_i 5 rfl rfl), me_X7_isNumber.2⟩, rfl, mf_X7_isNumber⟩
set_option maxRecDepth 100000 in
theorem mw_RX7_66 : VW RX7 66 RX1 yX1_isAligned cX1_isAligned 2 (some .boolean) 1 := ⟨⟨(wjU_i 361 rfl rfl), me_X1_isAligned.1, (wjU_i 363 rfl rfl), me_X1_isAligned.2⟩, rfl, mf_X1_isAligned⟩
set_option maxRecDepth 100000 in
theorem me_X7_readNumber : Cond.instanceMethod yX7_readNumber ∈ wjU ∧ Cond.initialized RX7 ∈ wjU ∧ Cond.code yX7_readNumber cX7_readNumber 5 (some .boolean) ∈ wjU := ⟨(wjU_i 368 rfl rfl), (wjU_i 85 rfl rfl), (wjU_i 369 rfl rfl)⟩
theorem mf_X7_readNumber : yX7_readNumber.cls ≠ "java/lang/invoke/MethodHandle" ∧ yX7_readNumber.cls ≠ "java/lang/invoke/VarHandle" ∧ (parseMethodDescriptor yX7_readNumber.desc).map (fun d => d.parameters.length) = some 2 := ⟨by decide +kernel, by decide +kernel, by decide +kernel⟩
set_option maxRecDepth 100000 in
theorem mw_RX7_71 : VW RX7 71 RX7 yX7_readNumber cX7_readNumber 5 (some .boolean) 2 := ⟨⟨(wjU_i 366 rfl rfl), me_X7_readNumber.1, (wjU_i 7 rfl rfl), me_X7_readNumber.2⟩, rfl, mf_X7_readNumber⟩
set_option maxRecDepth 100000 in
theorem me_X7_readSign : Cond.instanceMethod yX7_readSign ∈ wjU ∧ Cond.initialized RX7 ∈ wjU ∧ Cond.code yX7_readSign cX7_readSign 2 (some .boolean) ∈ wjU := ⟨(wjU_i 372 rfl rfl), (wjU_i 85 rfl rfl), (wjU_i 373 rfl rfl)⟩
theorem mf_X7_readSign : yX7_readSign.cls ≠ "java/lang/invoke/MethodHandle" ∧ yX7_readSign.cls ≠ "java/lang/invoke/VarHandle" ∧ (parseMethodDescriptor yX7_readSign.desc).map (fun d => d.parameters.length) = some 1 := ⟨by decide +kernel, by decide +kernel, by decide +kernel⟩
set_option maxRecDepth 100000 in
theorem mw_RX7_78 : VW RX7 78 RX7 yX7_readSign cX7_readSign 2 (some .boolean) 1 := ⟨⟨(wjU_i 370 rfl rfl), me_X7_readSign.1, (wjU_i 8 rfl rfl), me_X7_readSign.2⟩, rfl, mf_X7_readSign⟩
set_option maxRecDepth 100000 in
theorem me_X7_refuseToken : Cond.instanceMethod yX7_refuseToken ∈ wjU ∧ Cond.initialized RX7 ∈ wjU ∧ Cond.code yX7_refuseToken cX7_refuseToken 1 (some .boolean) ∈ wjU := ⟨(wjU_i 359 rfl rfl), (wjU_i 85 rfl rfl), (wjU_i 360 rfl rfl)⟩
theorem mf_X7_refuseToken : yX7_refuseToken.cls ≠ "java/lang/invoke/MethodHandle" ∧ yX7_refuseToken.cls ≠ "java/lang/invoke/VarHandle" ∧ (parseMethodDescriptor yX7_refuseToken.desc).map (fun d => d.parameters.length) = some 0 := ⟨by decide +kernel, by decide +kernel, by decide +kernel⟩
set_option maxRecDepth 100000 in
theorem mw_RX7_84 : VW RX7 84 RX7 yX7_refuseToken cX7_refuseToken 1 (some .boolean) 0 := ⟨⟨(wjU_i 357 rfl rfl), me_X7_refuseToken.1, (wjU_i 6 rfl rfl), me_X7_refuseToken.2⟩, rfl, mf_X7_refuseToken⟩
set_option maxRecDepth 100000 in
theorem me_X1_named : Cond.instanceMethod yX1_named ∈ wjU ∧ Cond.initialized RX1 ∈ wjU ∧ Cond.code yX1_named cX1_named 4 (some (.object "WatermarkJoin$Stream")) ∈ wjU := ⟨(wjU_i 383 rfl rfl), (wjU_i 87 rfl rfl), (wjU_i 385 rfl rfl)⟩
theorem mf_X1_named : yX1_named.cls ≠ "java/lang/invoke/MethodHandle" ∧ yX1_named.cls ≠ "java/lang/invoke/VarHandle" ∧ (parseMethodDescriptor yX1_named.desc).map (fun d => d.parameters.length) = some 1 := ⟨by decide +kernel, by decide +kernel, by decide +kernel⟩
set_option maxRecDepth 100000 in
theorem mw_RX7_87 : VW RX7 87 RX1 yX1_named cX1_named 4 (some (.object "WatermarkJoin$Stream")) 1 := ⟨⟨(wjU_i 382 rfl rfl), me_X1_named.1, (wjU_i 384 rfl rfl), me_X1_named.2⟩, rfl, mf_X1_named⟩
set_option maxRecDepth 100000 in
theorem me_X7_readSource : Cond.instanceMethod yX7_readSource ∈ wjU ∧ Cond.initialized RX7 ∈ wjU ∧ Cond.code yX7_readSource cX7_readSource 7 (some .boolean) ∈ wjU := ⟨(wjU_i 457 rfl rfl), (wjU_i 85 rfl rfl), (wjU_i 458 rfl rfl)⟩
theorem mf_X7_readSource : yX7_readSource.cls ≠ "java/lang/invoke/MethodHandle" ∧ yX7_readSource.cls ≠ "java/lang/invoke/VarHandle" ∧ (parseMethodDescriptor yX7_readSource.desc).map (fun d => d.parameters.length) = some 1 := ⟨by decide +kernel, by decide +kernel, by decide +kernel⟩
set_option maxRecDepth 100000 in
theorem mw_RX7_101 : VW RX7 101 RX7 yX7_readSource cX7_readSource 7 (some .boolean) 1 := ⟨⟨(wjU_i 455 rfl rfl), me_X7_readSource.1, (wjU_i 12 rfl rfl), me_X7_readSource.2⟩, rfl, mf_X7_readSource⟩
set_option maxRecDepth 100000 in
theorem me_X7_readUnion : Cond.instanceMethod yX7_readUnion ∈ wjU ∧ Cond.initialized RX7 ∈ wjU ∧ Cond.code yX7_readUnion cX7_readUnion 3 (some .boolean) ∈ wjU := ⟨(wjU_i 514 rfl rfl), (wjU_i 85 rfl rfl), (wjU_i 515 rfl rfl)⟩
theorem mf_X7_readUnion : yX7_readUnion.cls ≠ "java/lang/invoke/MethodHandle" ∧ yX7_readUnion.cls ≠ "java/lang/invoke/VarHandle" ∧ (parseMethodDescriptor yX7_readUnion.desc).map (fun d => d.parameters.length) = some 1 := ⟨by decide +kernel, by decide +kernel, by decide +kernel⟩
set_option maxRecDepth 100000 in
theorem mw_RX7_106 : VW RX7 106 RX7 yX7_readUnion cX7_readUnion 3 (some .boolean) 1 := ⟨⟨(wjU_i 512 rfl rfl), me_X7_readUnion.1, (wjU_i 14 rfl rfl), me_X7_readUnion.2⟩, rfl, mf_X7_readUnion⟩
set_option maxRecDepth 100000 in
theorem me_X7_readDelay : Cond.instanceMethod yX7_readDelay ∈ wjU ∧ Cond.initialized RX7 ∈ wjU ∧ Cond.code yX7_readDelay cX7_readDelay 2 (some .boolean) ∈ wjU := ⟨(wjU_i 527 rfl rfl), (wjU_i 85 rfl rfl), (wjU_i 528 rfl rfl)⟩
theorem mf_X7_readDelay : yX7_readDelay.cls ≠ "java/lang/invoke/MethodHandle" ∧ yX7_readDelay.cls ≠ "java/lang/invoke/VarHandle" ∧ (parseMethodDescriptor yX7_readDelay.desc).map (fun d => d.parameters.length) = some 1 := ⟨by decide +kernel, by decide +kernel, by decide +kernel⟩
set_option maxRecDepth 100000 in
theorem mw_RX7_111 : VW RX7 111 RX7 yX7_readDelay cX7_readDelay 2 (some .boolean) 1 := ⟨⟨(wjU_i 525 rfl rfl), me_X7_readDelay.1, (wjU_i 16 rfl rfl), me_X7_readDelay.2⟩, rfl, mf_X7_readDelay⟩
set_option maxRecDepth 100000 in
theorem me_X7_readInput : Cond.instanceMethod yX7_readInput ∈ wjU ∧ Cond.initialized RX7 ∈ wjU ∧ Cond.code yX7_readInput cX7_readInput 3 (some .boolean) ∈ wjU := ⟨(wjU_i 518 rfl rfl), (wjU_i 85 rfl rfl), (wjU_i 519 rfl rfl)⟩
theorem mf_X7_readInput : yX7_readInput.cls ≠ "java/lang/invoke/MethodHandle" ∧ yX7_readInput.cls ≠ "java/lang/invoke/VarHandle" ∧ (parseMethodDescriptor yX7_readInput.desc).map (fun d => d.parameters.length) = some 1 := ⟨by decide +kernel, by decide +kernel, by decide +kernel⟩
set_option maxRecDepth 100000 in
theorem mw_RX7_116 : VW RX7 116 RX7 yX7_readInput cX7_readInput 3 (some .boolean) 1 := ⟨⟨(wjU_i 516 rfl rfl), me_X7_readInput.1, (wjU_i 15 rfl rfl), me_X7_readInput.2⟩, rfl, mf_X7_readInput⟩
set_option maxRecDepth 100000 in
theorem me_X7_readJoin : Cond.instanceMethod yX7_readJoin ∈ wjU ∧ Cond.initialized RX7 ∈ wjU ∧ Cond.code yX7_readJoin cX7_readJoin 4 (some .boolean) ∈ wjU := ⟨(wjU_i 533 rfl rfl), (wjU_i 85 rfl rfl), (wjU_i 534 rfl rfl)⟩
theorem mf_X7_readJoin : yX7_readJoin.cls ≠ "java/lang/invoke/MethodHandle" ∧ yX7_readJoin.cls ≠ "java/lang/invoke/VarHandle" ∧ (parseMethodDescriptor yX7_readJoin.desc).map (fun d => d.parameters.length) = some 1 := ⟨by decide +kernel, by decide +kernel, by decide +kernel⟩
set_option maxRecDepth 100000 in
theorem mw_RX7_124 : VW RX7 124 RX7 yX7_readJoin cX7_readJoin 4 (some .boolean) 1 := ⟨⟨(wjU_i 531 rfl rfl), me_X7_readJoin.1, (wjU_i 17 rfl rfl), me_X7_readJoin.2⟩, rfl, mf_X7_readJoin⟩
set_option maxRecDepth 100000 in
theorem me_X7_readWindow : Cond.instanceMethod yX7_readWindow ∈ wjU ∧ Cond.initialized RX7 ∈ wjU ∧ Cond.code yX7_readWindow cX7_readWindow 6 (some .boolean) ∈ wjU := ⟨(wjU_i 584 rfl rfl), (wjU_i 85 rfl rfl), (wjU_i 585 rfl rfl)⟩
theorem mf_X7_readWindow : yX7_readWindow.cls ≠ "java/lang/invoke/MethodHandle" ∧ yX7_readWindow.cls ≠ "java/lang/invoke/VarHandle" ∧ (parseMethodDescriptor yX7_readWindow.desc).map (fun d => d.parameters.length) = some 1 := ⟨by decide +kernel, by decide +kernel, by decide +kernel⟩
set_option maxRecDepth 100000 in
theorem mw_RX7_132 : VW RX7 132 RX7 yX7_readWindow cX7_readWindow 6 (some .boolean) 1 := ⟨⟨(wjU_i 582 rfl rfl), me_X7_readWindow.1, (wjU_i 19 rfl rfl), me_X7_readWindow.2⟩, rfl, mf_X7_readWindow⟩
set_option maxRecDepth 100000 in
theorem me_X7_readKeyword : Cond.instanceMethod yX7_readKeyword ∈ wjU ∧ Cond.initialized RX7 ∈ wjU ∧ Cond.code yX7_readKeyword cX7_readKeyword 3 (some .boolean) ∈ wjU := ⟨(wjU_i 465 rfl rfl), (wjU_i 85 rfl rfl), (wjU_i 466 rfl rfl)⟩
theorem mf_X7_readKeyword : yX7_readKeyword.cls ≠ "java/lang/invoke/MethodHandle" ∧ yX7_readKeyword.cls ≠ "java/lang/invoke/VarHandle" ∧ (parseMethodDescriptor yX7_readKeyword.desc).map (fun d => d.parameters.length) = some 1 := ⟨by decide +kernel, by decide +kernel, by decide +kernel⟩
set_option maxRecDepth 100000 in
theorem mw_RX7_145 : VW RX7 145 RX7 yX7_readKeyword cX7_readKeyword 3 (some .boolean) 1 := ⟨⟨(wjU_i 463 rfl rfl), me_X7_readKeyword.1, (wjU_i 13 rfl rfl), me_X7_readKeyword.2⟩, rfl, mf_X7_readKeyword⟩
set_option maxRecDepth 100000 in
theorem me_X7_readSignedNumber : Cond.instanceMethod yX7_readSignedNumber ∈ wjU ∧ Cond.initialized RX7 ∈ wjU ∧ Cond.code yX7_readSignedNumber cX7_readSignedNumber 4 (some .boolean) ∈ wjU := ⟨(wjU_i 539 rfl rfl), (wjU_i 85 rfl rfl), (wjU_i 540 rfl rfl)⟩
theorem mf_X7_readSignedNumber : yX7_readSignedNumber.cls ≠ "java/lang/invoke/MethodHandle" ∧ yX7_readSignedNumber.cls ≠ "java/lang/invoke/VarHandle" ∧ (parseMethodDescriptor yX7_readSignedNumber.desc).map (fun d => d.parameters.length) = some 1 := ⟨by decide +kernel, by decide +kernel, by decide +kernel⟩
set_option maxRecDepth 100000 in
theorem mw_RX7_168 : VW RX7 168 RX7 yX7_readSignedNumber cX7_readSignedNumber 4 (some .boolean) 1 := ⟨⟨(wjU_i 537 rfl rfl), me_X7_readSignedNumber.1, (wjU_i 18 rfl rfl), me_X7_readSignedNumber.2⟩, rfl, mf_X7_readSignedNumber⟩
set_option maxRecDepth 100000 in
theorem me_X6_addInput : Cond.instanceMethod yX6_addInput ∈ wjU ∧ Cond.initialized RX6 ∈ wjU ∧ Cond.code yX6_addInput cX6_addInput 2 none ∈ wjU := ⟨(wjU_i 521 rfl rfl), (wjU_i 89 rfl rfl), (wjU_i 523 rfl rfl)⟩
theorem mf_X6_addInput : yX6_addInput.cls ≠ "java/lang/invoke/MethodHandle" ∧ yX6_addInput.cls ≠ "java/lang/invoke/VarHandle" ∧ (parseMethodDescriptor yX6_addInput.desc).map (fun d => d.parameters.length) = some 1 := ⟨by decide +kernel, by decide +kernel, by decide +kernel⟩
set_option maxRecDepth 100000 in
theorem mw_RX7_205 : VW RX7 205 RX6 yX6_addInput cX6_addInput 2 none 1 := ⟨⟨(wjU_i 520 rfl rfl), me_X6_addInput.1, (wjU_i 522 rfl rfl), me_X6_addInput.2⟩, rfl, mf_X6_addInput⟩
set_option maxRecDepth 100000 in
theorem me_X7_isSign : Cond.instanceMethod yX7_isSign ∈ wjU ∧ Cond.initialized RX7 ∈ wjU ∧ Cond.code yX7_isSign cX7_isSign 2 (some .boolean) ∈ wjU := ⟨(wjU_i 376 rfl rfl), (wjU_i 85 rfl rfl), (wjU_i 377 rfl rfl)⟩
theorem mf_X7_isSign : yX7_isSign.cls ≠ "java/lang/invoke/MethodHandle" ∧ yX7_isSign.cls ≠ "java/lang/invoke/VarHandle" ∧ (parseMethodDescriptor yX7_isSign.desc).map (fun d => d.parameters.length) = some 1 := ⟨by decide +kernel, by decide +kernel, by decide +kernel⟩
set_option maxRecDepth 100000 in
theorem mw_RX7_208 : VW RX7 208 RX7 yX7_isSign cX7_isSign 2 (some .boolean) 1 := ⟨⟨(wjU_i 374 rfl rfl), me_X7_isSign.1, (wjU_i 9 rfl rfl), me_X7_isSign.2⟩, rfl, mf_X7_isSign⟩
set_option maxRecDepth 100000 in
theorem me_X9_addTo : Cond.instanceMethod yX9_addTo ∈ wjU ∧ Cond.initialized RX9 ∈ wjU ∧ Cond.code yX9_addTo cX9_addTo 7 (some .boolean) ∈ wjU := ⟨(wjU_i 709 rfl rfl), (wjU_i 92 rfl rfl), (wjU_i 710 rfl rfl)⟩
theorem mf_X9_addTo : yX9_addTo.cls ≠ "java/lang/invoke/MethodHandle" ∧ yX9_addTo.cls ≠ "java/lang/invoke/VarHandle" ∧ (parseMethodDescriptor yX9_addTo.desc).map (fun d => d.parameters.length) = some 3 := ⟨by decide +kernel, by decide +kernel, by decide +kernel⟩
set_option maxRecDepth 100000 in
theorem mw_RX9_35 : VW RX9 35 RX9 yX9_addTo cX9_addTo 7 (some .boolean) 3 := ⟨⟨(wjU_i 707 rfl rfl), me_X9_addTo.1, (wjU_i 23 rfl rfl), me_X9_addTo.2⟩, rfl, mf_X9_addTo⟩
set_option maxRecDepth 100000 in
theorem me_X9_isAhead : Cond.instanceMethod yX9_isAhead ∈ wjU ∧ Cond.initialized RX9 ∈ wjU ∧ Cond.code yX9_isAhead cX9_isAhead 5 (some .boolean) ∈ wjU := ⟨(wjU_i 713 rfl rfl), (wjU_i 92 rfl rfl), (wjU_i 714 rfl rfl)⟩
theorem mf_X9_isAhead : yX9_isAhead.cls ≠ "java/lang/invoke/MethodHandle" ∧ yX9_isAhead.cls ≠ "java/lang/invoke/VarHandle" ∧ (parseMethodDescriptor yX9_isAhead.desc).map (fun d => d.parameters.length) = some 3 := ⟨by decide +kernel, by decide +kernel, by decide +kernel⟩
set_option maxRecDepth 100000 in
theorem mw_RX9_43 : VW RX9 43 RX9 yX9_isAhead cX9_isAhead 5 (some .boolean) 3 := ⟨⟨(wjU_i 711 rfl rfl), me_X9_isAhead.1, (wjU_i 24 rfl rfl), me_X9_isAhead.2⟩, rfl, mf_X9_isAhead⟩
set_option maxRecDepth 100000 in
theorem me_X9_put : Cond.instanceMethod yX9_put ∈ wjU ∧ Cond.initialized RX9 ∈ wjU ∧ Cond.code yX9_put cX9_put 6 none ∈ wjU := ⟨(wjU_i 717 rfl rfl), (wjU_i 92 rfl rfl), (wjU_i 718 rfl rfl)⟩
theorem mf_X9_put : yX9_put.cls ≠ "java/lang/invoke/MethodHandle" ∧ yX9_put.cls ≠ "java/lang/invoke/VarHandle" ∧ (parseMethodDescriptor yX9_put.desc).map (fun d => d.parameters.length) = some 4 := ⟨by decide +kernel, by decide +kernel, by decide +kernel⟩
set_option maxRecDepth 100000 in
theorem mw_RX9_47 : VW RX9 47 RX9 yX9_put cX9_put 6 none 4 := ⟨⟨(wjU_i 715 rfl rfl), me_X9_put.1, (wjU_i 25 rfl rfl), me_X9_put.2⟩, rfl, mf_X9_put⟩
set_option maxRecDepth 100000 in
theorem nq_RL_8 {X : Cx} {cc : ByteArray} {rm : Room} {M : Mm} {ce sl pc : Nat} {lv : List (Nat × Value)} {rest : List Value} (hX : Ok X cc RL rm) (hdg : decode cc pc = .ok (.new 8, 3)) (hce : ce + 1 ≤ rm.cells) (hsl : sl + 6 ≤ rm.slots) (k : ∀ q, mK M q = 0 → Z X (nw M q 11) (ce + 1) (sl + 6) (pc + 3) lv (va_rf (some q) :: rest)) : Z X M ce sl pc lv rest := z_new hX (ci := 10) (ty0 := tyX10) rfl inU_10 tyX10_ok (by decide) (wjU_i 105 rfl rfl) (wjU_i 106 rfl rfl) (wjU_i 81 rfl rfl) (by decide +kernel) hdg hce hsl k
set_option maxRecDepth 100000 in
theorem nq_RL_36 {X : Cx} {cc : ByteArray} {rm : Room} {M : Mm} {ce sl pc : Nat} {lv : List (Nat × Value)} {rest : List Value} (hX : Ok X cc RL rm) (hdg : decode cc pc = .ok (.new 36, 3)) (hce : ce + 1 ≤ rm.cells) (hsl : sl + 57 ≤ rm.slots) (k : ∀ q, mK M q = 0 → Z X (nw M q 12) (ce + 1) (sl + 57) (pc + 3) lv (va_rf (some q) :: rest)) : Z X M ce sl pc lv rest := z_new hX (ci := 11) (ty0 := tyX11) rfl inU_11 tyX11_ok (by decide) (wjU_i 1062 rfl rfl) (wjU_i 1063 rfl rfl) (wjU_i 84 rfl rfl) (by decide +kernel) hdg hce hsl k
set_option maxRecDepth 100000 in
theorem nq_RX1_30 {X : Cx} {cc : ByteArray} {rm : Room} {M : Mm} {ce sl pc : Nat} {lv : List (Nat × Value)} {rest : List Value} (hX : Ok X cc RX1 rm) (hdg : decode cc pc = .ok (.new 30, 3)) (hce : ce + 1 ≤ rm.cells) (hsl : sl + 4 ≤ rm.slots) (k : ∀ q, mK M q = 0 → Z X (nw M q 9) (ce + 1) (sl + 4) (pc + 3) lv (va_rf (some q) :: rest)) : Z X M ce sl pc lv rest := z_new hX (ci := 8) (ty0 := tyX8) rfl inU_8 tyX8_ok (by decide) (wjU_i 214 rfl rfl) (wjU_i 215 rfl rfl) (wjU_i 88 rfl rfl) (by decide +kernel) hdg hce hsl k
set_option maxRecDepth 100000 in
theorem nq_RX10_9 {X : Cx} {cc : ByteArray} {rm : Room} {M : Mm} {ce sl pc : Nat} {lv : List (Nat × Value)} {rest : List Value} (hX : Ok X cc RX10 rm) (hdg : decode cc pc = .ok (.new 9, 3)) (hce : ce + 1 ≤ rm.cells) (hsl : sl + 2 ≤ rm.slots) (k : ∀ q, mK M q = 0 → Z X (nw M q 1) (ce + 1) (sl + 2) (pc + 3) lv (va_rf (some q) :: rest)) : Z X M ce sl pc lv rest := z_new hX (ci := 0) (ty0 := tyX0) rfl inU_0 tyX0_ok (by decide) (wjU_i 113 rfl rfl) (wjU_i 114 rfl rfl) (wjU_i 82 rfl rfl) (by decide +kernel) hdg hce hsl k
set_option maxRecDepth 100000 in
theorem nq_RX10_21 {X : Cx} {cc : ByteArray} {rm : Room} {M : Mm} {ce sl pc : Nat} {lv : List (Nat × Value)} {rest : List Value} (hX : Ok X cc RX10 rm) (hdg : decode cc pc = .ok (.new 21, 3)) (hce : ce + 1 ≤ rm.cells) (hsl : sl + 3 ≤ rm.slots) (k : ∀ q, mK M q = 0 → Z X (nw M q 4) (ce + 1) (sl + 3) (pc + 3) lv (va_rf (some q) :: rest)) : Z X M ce sl pc lv rest := z_new hX (ci := 3) (ty0 := tyX3) rfl inU_3 tyX3_ok (by decide) (wjU_i 129 rfl rfl) (wjU_i 130 rfl rfl) (wjU_i 83 rfl rfl) (by decide +kernel) hdg hce hsl k
set_option maxRecDepth 100000 in
theorem nq_RX10_45 {X : Cx} {cc : ByteArray} {rm : Room} {M : Mm} {ce sl pc : Nat} {lv : List (Nat × Value)} {rest : List Value} (hX : Ok X cc RX10 rm) (hdg : decode cc pc = .ok (.new 45, 3)) (hce : ce + 1 ≤ rm.cells) (hsl : sl + 7 ≤ rm.slots) (k : ∀ q, mK M q = 0 → Z X (nw M q 8) (ce + 1) (sl + 7) (pc + 3) lv (va_rf (some q) :: rest)) : Z X M ce sl pc lv rest := z_new hX (ci := 7) (ty0 := tyX7) rfl inU_7 tyX7_ok (by decide) (wjU_i 178 rfl rfl) (wjU_i 179 rfl rfl) (wjU_i 85 rfl rfl) (by decide +kernel) hdg hce hsl k
set_option maxRecDepth 100000 in
theorem nq_RX10_47 {X : Cx} {cc : ByteArray} {rm : Room} {M : Mm} {ce sl pc : Nat} {lv : List (Nat × Value)} {rest : List Value} (hX : Ok X cc RX10 rm) (hdg : decode cc pc = .ok (.new 47, 3)) (hce : ce + 1 ≤ rm.cells) (hsl : sl + 5 ≤ rm.slots) (k : ∀ q, mK M q = 0 → Z X (nw M q 5) (ce + 1) (sl + 5) (pc + 3) lv (va_rf (some q) :: rest)) : Z X M ce sl pc lv rest := z_new hX (ci := 4) (ty0 := tyX4) rfl inU_4 tyX4_ok (by decide) (wjU_i 180 rfl rfl) (wjU_i 181 rfl rfl) (wjU_i 86 rfl rfl) (by decide +kernel) hdg hce hsl k
set_option maxRecDepth 100000 in
theorem nq_RX10_52 {X : Cx} {cc : ByteArray} {rm : Room} {M : Mm} {ce sl pc : Nat} {lv : List (Nat × Value)} {rest : List Value} (hX : Ok X cc RX10 rm) (hdg : decode cc pc = .ok (.new 52, 3)) (hce : ce + 1 ≤ rm.cells) (hsl : sl + 8 ≤ rm.slots) (k : ∀ q, mK M q = 0 → Z X (nw M q 2) (ce + 1) (sl + 8) (pc + 3) lv (va_rf (some q) :: rest)) : Z X M ce sl pc lv rest := z_new hX (ci := 1) (ty0 := tyX1) rfl inU_1 tyX1_ok (by decide) (wjU_i 205 rfl rfl) (wjU_i 206 rfl rfl) (wjU_i 87 rfl rfl) (by decide +kernel) hdg hce hsl k
set_option maxRecDepth 100000 in
theorem nq_RX7_94 {X : Cx} {cc : ByteArray} {rm : Room} {M : Mm} {ce sl pc : Nat} {lv : List (Nat × Value)} {rest : List Value} (hX : Ok X cc RX7 rm) (hdg : decode cc pc = .ok (.new 94, 3)) (hce : ce + 1 ≤ rm.cells) (hsl : sl + 12 ≤ rm.slots) (k : ∀ q, mK M q = 0 → Z X (nw M q 7) (ce + 1) (sl + 12) (pc + 3) lv (va_rf (some q) :: rest)) : Z X M ce sl pc lv rest := z_new hX (ci := 6) (ty0 := tyX6) rfl inU_6 tyX6_ok (by decide) (wjU_i 386 rfl rfl) (wjU_i 387 rfl rfl) (wjU_i 89 rfl rfl) (by decide +kernel) hdg hce hsl k
set_option maxRecDepth 100000 in
theorem nq_RX7_137 {X : Cx} {cc : ByteArray} {rm : Room} {M : Mm} {ce sl pc : Nat} {lv : List (Nat × Value)} {rest : List Value} (hX : Ok X cc RX7 rm) (hdg : decode cc pc = .ok (.new 137, 3)) (hce : ce + 1 ≤ rm.cells) (hsl : sl + 8 ≤ rm.slots) (k : ∀ q, mK M q = 0 → Z X (nw M q 6) (ce + 1) (sl + 8) (pc + 3) lv (va_rf (some q) :: rest)) : Z X M ce sl pc lv rest := z_new hX (ci := 5) (ty0 := tyX5) rfl inU_5 tyX5_ok (by decide) (wjU_i 470 rfl rfl) (wjU_i 471 rfl rfl) (wjU_i 90 rfl rfl) (by decide +kernel) hdg hce hsl k
set_option maxRecDepth 100000 in
theorem nq_RX7_173 {X : Cx} {cc : ByteArray} {rm : Room} {M : Mm} {ce sl pc : Nat} {lv : List (Nat × Value)} {rest : List Value} (hX : Ok X cc RX7 rm) (hdg : decode cc pc = .ok (.new 173, 3)) (hce : ce + 1 ≤ rm.cells) (hsl : sl + 8 ≤ rm.slots) (k : ∀ q, mK M q = 0 → Z X (nw M q 3) (ce + 1) (sl + 8) (pc + 3) lv (va_rf (some q) :: rest)) : Z X M ce sl pc lv rest := z_new hX (ci := 2) (ty0 := tyX2) rfl inU_2 tyX2_ok (by decide) (wjU_i 542 rfl rfl) (wjU_i 543 rfl rfl) (wjU_i 91 rfl rfl) (by decide +kernel) hdg hce hsl k
set_option maxRecDepth 100000 in
theorem nq_RX7_192 {X : Cx} {cc : ByteArray} {rm : Room} {M : Mm} {ce sl pc : Nat} {lv : List (Nat × Value)} {rest : List Value} (hX : Ok X cc RX7 rm) (hdg : decode cc pc = .ok (.new 192, 3)) (hce : ce + 1 ≤ rm.cells) (hsl : sl + 6 ≤ rm.slots) (k : ∀ q, mK M q = 0 → Z X (nw M q 10) (ce + 1) (sl + 6) (pc + 3) lv (va_rf (some q) :: rest)) : Z X M ce sl pc lv rest := z_new hX (ci := 9) (ty0 := tyX9) rfl inU_9 tyX9_ok (by decide) (wjU_i 589 rfl rfl) (wjU_i 590 rfl rfl) (wjU_i 92 rfl rfl) (by decide +kernel) hdg hce hsl k
set_option maxRecDepth 100000 in
theorem kj_RL_39 : Cond.constantLong RL 39 (4294967295) ∈ wjU := (wjU_i 1665 rfl rfl)
set_option maxRecDepth 100000 in
theorem kj_RX0_23 : Cond.constantLong RX0 23 (10) ∈ wjU := (wjU_i 896 rfl rfl)
set_option maxRecDepth 100000 in
theorem kj_RX0_25 : Cond.constantLong RX0 25 (48) ∈ wjU := (wjU_i 897 rfl rfl)
set_option maxRecDepth 100000 in
theorem kj_RX0_27 : Cond.constantLong RX0 27 (-9000000000000000000) ∈ wjU := (wjU_i 907 rfl rfl)
set_option maxRecDepth 100000 in
theorem kj_RX0_29 : Cond.constantLong RX0 29 (495873782388) ∈ wjU := (wjU_i 908 rfl rfl)
set_option maxRecDepth 100000 in
theorem kj_RX0_35 : Cond.constantLong RX0 35 (9000000000000000000) ∈ wjU := (wjU_i 910 rfl rfl)
set_option maxRecDepth 100000 in
theorem kj_RX0_37 : Cond.constantLong RX0 37 (6647396) ∈ wjU := (wjU_i 911 rfl rfl)
set_option maxRecDepth 100000 in
theorem kj_RX1_28 : Cond.constantLong RX1 28 (-1) ∈ wjU := (wjU_i 213 rfl rfl)
set_option maxRecDepth 100000 in
theorem kj_RX1_58 : Cond.constantLong RX1 58 (9000000000000000000) ∈ wjU := (wjU_i 663 rfl rfl)
set_option maxRecDepth 100000 in
theorem kj_RX1_196 : Cond.constantLong RX1 196 (-9000000000000000001) ∈ wjU := (wjU_i 787 rfl rfl)
set_option maxRecDepth 100000 in
theorem kj_RX1_215 : Cond.constantLong RX1 215 (504363577198) ∈ wjU := (wjU_i 767 rfl rfl)
set_option maxRecDepth 100000 in
theorem kj_RX1_217 : Cond.constantLong RX1 217 (1785686382) ∈ wjU := (wjU_i 768 rfl rfl)
set_option maxRecDepth 100000 in
theorem kj_RX1_222 : Cond.constantLong RX1 222 (1752132708) ∈ wjU := (wjU_i 776 rfl rfl)
set_option maxRecDepth 100000 in
theorem kj_RX10_137 : Cond.constantLong RX10 137 (1752132708) ∈ wjU := (wjU_i 840 rfl rfl)
set_option maxRecDepth 100000 in
theorem kj_RX10_254 : Cond.constantLong RX10 254 (-100000000000000000) ∈ wjU := (wjU_i 649 rfl rfl)
set_option maxRecDepth 100000 in
theorem kj_RX10_256 : Cond.constantLong RX10 256 (100000000000000000) ∈ wjU := (wjU_i 650 rfl rfl)
set_option maxRecDepth 100000 in
theorem kj_RX10_258 : Cond.constantLong RX10 258 (-9000000000000000000) ∈ wjU := (wjU_i 676 rfl rfl)
set_option maxRecDepth 100000 in
theorem kj_RX10_260 : Cond.constantLong RX10 260 (9000000000000000000) ∈ wjU := (wjU_i 677 rfl rfl)
set_option maxRecDepth 100000 in
theorem kj_RX10_262 : Cond.constantLong RX10 262 (-8000000000000000000) ∈ wjU := (wjU_i 678 rfl rfl)
set_option maxRecDepth 100000 in
theorem kj_RX10_264 : Cond.constantLong RX10 264 (8000000000000000000) ∈ wjU := (wjU_i 679 rfl rfl)
set_option maxRecDepth 100000 in
theorem kj_RX11_161 : Cond.constantLong RX11 161 (10) ∈ wjU := (wjU_i 1374 rfl rfl)
set_option maxRecDepth 100000 in
theorem kj_RX11_163 : Cond.constantLong RX11 163 (48) ∈ wjU := (wjU_i 1375 rfl rfl)
set_option maxRecDepth 100000 in
theorem kj_RX11_225 : Cond.constantLong RX11 225 (9223372036854775807) ∈ wjU := (wjU_i 1414 rfl rfl)
set_option maxRecDepth 100000 in
theorem kj_RX11_237 : Cond.constantLong RX11 237 (4) ∈ wjU := (wjU_i 1404 rfl rfl)
set_option maxRecDepth 100000 in
theorem kj_RX11_242 : Cond.constantLong RX11 242 (1000) ∈ wjU := (wjU_i 1431 rfl rfl)
set_option maxRecDepth 100000 in
theorem kj_RX11_244 : Cond.constantLong RX11 244 (3) ∈ wjU := (wjU_i 1405 rfl rfl)
set_option maxRecDepth 100000 in
theorem kj_RX11_249 : Cond.constantLong RX11 249 (-9223372036854775807) ∈ wjU := (wjU_i 1440 rfl rfl)
set_option maxRecDepth 100000 in
theorem kj_RX11_255 : Cond.constantLong RX11 255 (45) ∈ wjU := (wjU_i 1445 rfl rfl)
set_option maxRecDepth 100000 in
theorem kj_RX11_260 : Cond.constantLong RX11 260 (1000000) ∈ wjU := (wjU_i 1450 rfl rfl)
set_option maxRecDepth 100000 in
theorem kj_RX11_281 : Cond.constantLong RX11 281 (-9000000000000000000) ∈ wjU := (wjU_i 1458 rfl rfl)
set_option maxRecDepth 100000 in
theorem kj_RX11_298 : Cond.constantLong RX11 298 (9000000000000000000) ∈ wjU := (wjU_i 1488 rfl rfl)
set_option maxRecDepth 100000 in
theorem kj_RX11_300 : Cond.constantLong RX11 300 (8000000000000000000) ∈ wjU := (wjU_i 1493 rfl rfl)
set_option maxRecDepth 100000 in
theorem kj_RX11_302 : Cond.constantLong RX11 302 (-8000000000000000000) ∈ wjU := (wjU_i 1494 rfl rfl)
set_option maxRecDepth 100000 in
theorem kj_RX11_363 : Cond.constantLong RX11 363 (-1) ∈ wjU := (wjU_i 1533 rfl rfl)
set_option maxRecDepth 100000 in
theorem kj_RX11_374 : Cond.constantLong RX11 374 (-100000000000000000) ∈ wjU := (wjU_i 1482 rfl rfl)
set_option maxRecDepth 100000 in
theorem kj_RX11_376 : Cond.constantLong RX11 376 (100000000000000000) ∈ wjU := (wjU_i 1483 rfl rfl)
set_option maxRecDepth 100000 in
theorem kj_RX11_418 : Cond.constantLong RX11 418 (9) ∈ wjU := (wjU_i 1642 rfl rfl)
set_option maxRecDepth 100000 in
theorem kj_RX11_432 : Cond.constantLong RX11 432 (31) ∈ wjU := (wjU_i 1643 rfl rfl)
set_option maxRecDepth 100000 in
theorem kj_RX4_50 : Cond.constantLong RX4 50 (10) ∈ wjU := (wjU_i 319 rfl rfl)
set_option maxRecDepth 100000 in
theorem kj_RX4_52 : Cond.constantLong RX4 52 (126922548994917) ∈ wjU := (wjU_i 324 rfl rfl)
set_option maxRecDepth 100000 in
theorem kj_RX4_54 : Cond.constantLong RX4 54 (7102823) ∈ wjU := (wjU_i 325 rfl rfl)
set_option maxRecDepth 100000 in
theorem kj_RX4_56 : Cond.constantLong RX4 56 (469786323827) ∈ wjU := (wjU_i 326 rfl rfl)
set_option maxRecDepth 100000 in
theorem kj_RX4_58 : Cond.constantLong RX4 58 (418330731890) ∈ wjU := (wjU_i 327 rfl rfl)
set_option maxRecDepth 100000 in
theorem kj_RX4_60 : Cond.constantLong RX4 60 (444301538672) ∈ wjU := (wjU_i 328 rfl rfl)
set_option maxRecDepth 100000 in
theorem kj_RX4_62 : Cond.constantLong RX4 62 (504363577198) ∈ wjU := (wjU_i 329 rfl rfl)
set_option maxRecDepth 100000 in
theorem kj_RX4_64 : Cond.constantLong RX4 64 (431198331257) ∈ wjU := (wjU_i 330 rfl rfl)
set_option maxRecDepth 100000 in
theorem kj_RX4_66 : Cond.constantLong RX4 66 (1752132708) ∈ wjU := (wjU_i 331 rfl rfl)
set_option maxRecDepth 100000 in
theorem kj_RX4_68 : Cond.constantLong RX4 68 (1785686382) ∈ wjU := (wjU_i 332 rfl rfl)
set_option maxRecDepth 100000 in
theorem kj_RX4_70 : Cond.constantLong RX4 70 (1718775661) ∈ wjU := (wjU_i 333 rfl rfl)
set_option maxRecDepth 100000 in
theorem kj_RX4_72 : Cond.constantLong RX4 72 (29807) ∈ wjU := (wjU_i 334 rfl rfl)
set_option maxRecDepth 100000 in
theorem kj_RX4_74 : Cond.constantLong RX4 74 (131294707347319) ∈ wjU := (wjU_i 335 rfl rfl)
set_option maxRecDepth 100000 in
theorem kj_RX4_76 : Cond.constantLong RX4 76 (1936292453) ∈ wjU := (wjU_i 336 rfl rfl)
set_option maxRecDepth 100000 in
theorem kj_RX4_78 : Cond.constantLong RX4 78 (1937007984) ∈ wjU := (wjU_i 337 rfl rfl)
set_option maxRecDepth 100000 in
theorem kj_RX4_80 : Cond.constantLong RX4 80 (418430674798) ∈ wjU := (wjU_i 338 rfl rfl)
set_option maxRecDepth 100000 in
theorem kj_RX5_40 : Cond.constantLong RX5 40 (-9000000000000000000) ∈ wjU := (wjU_i 476 rfl rfl)
set_option maxRecDepth 100000 in
theorem kj_RX5_42 : Cond.constantLong RX5 42 (9000000000000000000) ∈ wjU := (wjU_i 668 rfl rfl)
set_option maxRecDepth 100000 in
theorem kj_RX5_58 : Cond.constantLong RX5 58 (-9000000000000000001) ∈ wjU := (wjU_i 766 rfl rfl)
set_option maxRecDepth 100000 in
theorem kj_RX6_26 : Cond.constantLong RX6 26 (-9000000000000000000) ∈ wjU := (wjU_i 393 rfl rfl)
set_option maxRecDepth 100000 in
theorem kj_RX6_34 : Cond.constantLong RX6 34 (9000000000000000000) ∈ wjU := (wjU_i 773 rfl rfl)
set_option maxRecDepth 100000 in
theorem kj_RX6_46 : Cond.constantLong RX6 46 (-9000000000000000001) ∈ wjU := (wjU_i 775 rfl rfl)
set_option maxRecDepth 100000 in
theorem kj_RX6_64 : Cond.constantLong RX6 64 (1768189029) ∈ wjU := (wjU_i 913 rfl rfl)
set_option maxRecDepth 100000 in
theorem kj_RX7_28 : Cond.constantLong RX7 28 (418430674798) ∈ wjU := (wjU_i 339 rfl rfl)
set_option maxRecDepth 100000 in
theorem kj_RX7_56 : Cond.constantLong RX7 56 (3) ∈ wjU := (wjU_i 352 rfl rfl)
set_option maxRecDepth 100000 in
theorem kj_RX7_69 : Cond.constantLong RX7 69 (999999999999999999) ∈ wjU := (wjU_i 365 rfl rfl)
set_option maxRecDepth 100000 in
theorem kj_RX7_99 : Cond.constantLong RX7 99 (126922548994917) ∈ wjU := (wjU_i 454 rfl rfl)
set_option maxRecDepth 100000 in
theorem kj_RX7_104 : Cond.constantLong RX7 104 (504363577198) ∈ wjU := (wjU_i 511 rfl rfl)
set_option maxRecDepth 100000 in
theorem kj_RX7_109 : Cond.constantLong RX7 109 (431198331257) ∈ wjU := (wjU_i 524 rfl rfl)
set_option maxRecDepth 100000 in
theorem kj_RX7_114 : Cond.constantLong RX7 114 (1752132708) ∈ wjU := (wjU_i 529 rfl rfl)
set_option maxRecDepth 100000 in
theorem kj_RX7_119 : Cond.constantLong RX7 119 (1785686382) ∈ wjU := (wjU_i 530 rfl rfl)
set_option maxRecDepth 100000 in
theorem kj_RX7_127 : Cond.constantLong RX7 127 (131294707347319) ∈ wjU := (wjU_i 581 rfl rfl)
set_option maxRecDepth 100000 in
theorem kj_RX7_135 : Cond.constantLong RX7 135 (4) ∈ wjU := (wjU_i 459 rfl rfl)
set_option maxRecDepth 100000 in
theorem kj_RX7_139 : Cond.constantLong RX7 139 (-1) ∈ wjU := (wjU_i 460 rfl rfl)
set_option maxRecDepth 100000 in
theorem kj_RX7_141 : Cond.constantLong RX7 141 (7102823) ∈ wjU := (wjU_i 461 rfl rfl)
set_option maxRecDepth 100000 in
theorem kj_RX7_143 : Cond.constantLong RX7 143 (469786323827) ∈ wjU := (wjU_i 462 rfl rfl)
set_option maxRecDepth 100000 in
theorem kj_RX7_148 : Cond.constantLong RX7 148 (418330731890) ∈ wjU := (wjU_i 467 rfl rfl)
set_option maxRecDepth 100000 in
theorem kj_RX7_150 : Cond.constantLong RX7 150 (1000) ∈ wjU := (wjU_i 468 rfl rfl)
set_option maxRecDepth 100000 in
theorem kj_RX7_152 : Cond.constantLong RX7 152 (444301538672) ∈ wjU := (wjU_i 469 rfl rfl)
set_option maxRecDepth 100000 in
theorem kj_RX7_164 : Cond.constantLong RX7 164 (1718775661) ∈ wjU := (wjU_i 535 rfl rfl)
set_option maxRecDepth 100000 in
theorem kj_RX7_166 : Cond.constantLong RX7 166 (-999999999999999999) ∈ wjU := (wjU_i 536 rfl rfl)
set_option maxRecDepth 100000 in
theorem kj_RX7_171 : Cond.constantLong RX7 171 (29807) ∈ wjU := (wjU_i 541 rfl rfl)
set_option maxRecDepth 100000 in
theorem kj_RX7_186 : Cond.constantLong RX7 186 (1936292453) ∈ wjU := (wjU_i 586 rfl rfl)
set_option maxRecDepth 100000 in
theorem kj_RX7_188 : Cond.constantLong RX7 188 (1000000) ∈ wjU := (wjU_i 587 rfl rfl)
set_option maxRecDepth 100000 in
theorem kj_RX7_190 : Cond.constantLong RX7 190 (1937007984) ∈ wjU := (wjU_i 588 rfl rfl)
set_option maxRecDepth 100000 in
theorem kj_RX8_27 : Cond.constantLong RX8 27 (9000000000000000000) ∈ wjU := (wjU_i 785 rfl rfl)
