set_option maxRecDepth 100000 in
theorem tk_172 : Cond.classLink RX10 172 "java/lang/IllegalStateException" ∈ wjU ∧ Cond.initialized "java/lang/IllegalStateException" ∈ wjU := ⟨(wjU_i 932 rfl rfl), (wjU_i 103 rfl rfl)⟩
theorem tg_176 : ∀ w ∈ (vx_atS RX10 176 "java/lang/IllegalStateException" ["java/lang/RuntimeException", "java/lang/Exception"]).filter goodWord, w ∈ lw_tbl := by decide +kernel
theorem tb_176 : ∀ w ∈ (vx_atS RX10 176 "java/lang/IllegalStateException" ["java/lang/RuntimeException", "java/lang/Exception"]).filter (fun w => !goodWord w), w ∈ lw_tbl ∧ (w.faceAtom && w.onTables) = true := by decide +kernel
theorem to_176 : ∀ w ∈ Cond.classLink RX10 172 "java/lang/IllegalStateException" :: Cond.initialized "java/lang/IllegalStateException" :: vx_atS RX10 176 "java/lang/IllegalStateException" ["java/lang/RuntimeException", "java/lang/Exception"], vx_ot w = true := by decide +kernel
set_option maxRecDepth 100000 in
theorem tk_179 : Cond.classLink RX10 179 "java/lang/IndexOutOfBoundsException" ∈ wjU ∧ Cond.initialized "java/lang/IndexOutOfBoundsException" ∈ wjU := ⟨(wjU_i 998 rfl rfl), (wjU_i 104 rfl rfl)⟩
theorem tg_183 : ∀ w ∈ (vx_atS RX10 183 "java/lang/IndexOutOfBoundsException" ["java/lang/RuntimeException", "java/lang/Exception"]).filter goodWord, w ∈ lw_tbl := by decide +kernel
theorem tb_183 : ∀ w ∈ (vx_atS RX10 183 "java/lang/IndexOutOfBoundsException" ["java/lang/RuntimeException", "java/lang/Exception"]).filter (fun w => !goodWord w), w ∈ lw_tbl ∧ (w.faceAtom && w.onTables) = true := by decide +kernel
theorem to_183 : ∀ w ∈ Cond.classLink RX10 179 "java/lang/IndexOutOfBoundsException" :: Cond.initialized "java/lang/IndexOutOfBoundsException" :: vx_atS RX10 183 "java/lang/IndexOutOfBoundsException" ["java/lang/RuntimeException", "java/lang/Exception"], vx_ot w = true := by decide +kernel
set_option maxRecDepth 100000 in
theorem me_X10_watermark : Cond.instanceMethod yX10_watermark ∈ wjU ∧ Cond.initialized RX10 ∈ wjU ∧ Cond.code yX10_watermark cX10_watermark 2 (some .long) ∈ wjU := ⟨(wjU_i 925 rfl rfl), (wjU_i 81 rfl rfl), (wjU_i 927 rfl rfl)⟩
theorem mf_X10_watermark : yX10_watermark.cls ≠ "java/lang/invoke/MethodHandle" ∧ yX10_watermark.cls ≠ "java/lang/invoke/VarHandle" ∧ (parseMethodDescriptor yX10_watermark.desc).map (fun d => d.parameters.length) = some 1 := ⟨by decide +kernel, by decide +kernel, by decide +kernel⟩
set_option maxRecDepth 100000 in
theorem mw_RL_7 : VW RL 7 RX10 yX10_watermark cX10_watermark 2 (some .long) 1 := ⟨⟨(wjU_i 924 rfl rfl), me_X10_watermark.1, (wjU_i 926 rfl rfl), me_X10_watermark.2⟩, rfl, mf_X10_watermark⟩
set_option maxRecDepth 100000 in
theorem me_X10_isIdle : Cond.instanceMethod yX10_isIdle ∈ wjU ∧ Cond.initialized RX10 ∈ wjU ∧ Cond.code yX10_isIdle cX10_isIdle 2 (some .boolean) ∈ wjU := ⟨(wjU_i 1018 rfl rfl), (wjU_i 81 rfl rfl), (wjU_i 1020 rfl rfl)⟩
theorem mf_X10_isIdle : yX10_isIdle.cls ≠ "java/lang/invoke/MethodHandle" ∧ yX10_isIdle.cls ≠ "java/lang/invoke/VarHandle" ∧ (parseMethodDescriptor yX10_isIdle.desc).map (fun d => d.parameters.length) = some 1 := ⟨by decide +kernel, by decide +kernel, by decide +kernel⟩
set_option maxRecDepth 100000 in
theorem mw_RL_17 : VW RL 17 RX10 yX10_isIdle cX10_isIdle 2 (some .boolean) 1 := ⟨⟨(wjU_i 1017 rfl rfl), me_X10_isIdle.1, (wjU_i 1019 rfl rfl), me_X10_isIdle.2⟩, rfl, mf_X10_isIdle⟩
set_option maxRecDepth 100000 in
theorem me_X10_promise : Cond.instanceMethod yX10_promise ∈ wjU ∧ Cond.initialized RX10 ∈ wjU ∧ Cond.code yX10_promise cX10_promise 4 (some .long) ∈ wjU := ⟨(wjU_i 1025 rfl rfl), (wjU_i 81 rfl rfl), (wjU_i 1027 rfl rfl)⟩
theorem mf_X10_promise : yX10_promise.cls ≠ "java/lang/invoke/MethodHandle" ∧ yX10_promise.cls ≠ "java/lang/invoke/VarHandle" ∧ (parseMethodDescriptor yX10_promise.desc).map (fun d => d.parameters.length) = some 2 := ⟨by decide +kernel, by decide +kernel, by decide +kernel⟩
set_option maxRecDepth 100000 in
theorem mw_RL_21 : VW RL 21 RX10 yX10_promise cX10_promise 4 (some .long) 2 := ⟨⟨(wjU_i 1024 rfl rfl), me_X10_promise.1, (wjU_i 1026 rfl rfl), me_X10_promise.2⟩, rfl, mf_X10_promise⟩
set_option maxRecDepth 100000 in
theorem me_X10_kept : Cond.instanceMethod yX10_kept ∈ wjU ∧ Cond.initialized RX10 ∈ wjU ∧ Cond.code yX10_kept cX10_kept 4 (some .int) ∈ wjU := ⟨(wjU_i 1033 rfl rfl), (wjU_i 81 rfl rfl), (wjU_i 1035 rfl rfl)⟩
theorem mf_X10_kept : yX10_kept.cls ≠ "java/lang/invoke/MethodHandle" ∧ yX10_kept.cls ≠ "java/lang/invoke/VarHandle" ∧ (parseMethodDescriptor yX10_kept.desc).map (fun d => d.parameters.length) = some 2 := ⟨by decide +kernel, by decide +kernel, by decide +kernel⟩
set_option maxRecDepth 100000 in
theorem mw_RL_25 : VW RL 25 RX10 yX10_kept cX10_kept 4 (some .int) 2 := ⟨⟨(wjU_i 1032 rfl rfl), me_X10_kept.1, (wjU_i 1034 rfl rfl), me_X10_kept.2⟩, rfl, mf_X10_kept⟩
set_option maxRecDepth 100000 in
theorem me_X10_out : Cond.instanceMethod yX10_out ∈ wjU ∧ Cond.initialized RX10 ∈ wjU ∧ Cond.code yX10_out cX10_out 3 (some .long) ∈ wjU := ⟨(wjU_i 1042 rfl rfl), (wjU_i 81 rfl rfl), (wjU_i 1044 rfl rfl)⟩
theorem mf_X10_out : yX10_out.cls ≠ "java/lang/invoke/MethodHandle" ∧ yX10_out.cls ≠ "java/lang/invoke/VarHandle" ∧ (parseMethodDescriptor yX10_out.desc).map (fun d => d.parameters.length) = some 2 := ⟨by decide +kernel, by decide +kernel, by decide +kernel⟩
set_option maxRecDepth 100000 in
theorem mw_RL_29 : VW RL 29 RX10 yX10_out cX10_out 3 (some .long) 2 := ⟨⟨(wjU_i 1041 rfl rfl), me_X10_out.1, (wjU_i 1043 rfl rfl), me_X10_out.2⟩, rfl, mf_X10_out⟩
set_option maxRecDepth 100000 in
theorem me_X10_late : Cond.instanceMethod yX10_late ∈ wjU ∧ Cond.initialized RX10 ∈ wjU ∧ Cond.code yX10_late cX10_late 3 (some .long) ∈ wjU := ⟨(wjU_i 1058 rfl rfl), (wjU_i 81 rfl rfl), (wjU_i 1060 rfl rfl)⟩
theorem mf_X10_late : yX10_late.cls ≠ "java/lang/invoke/MethodHandle" ∧ yX10_late.cls ≠ "java/lang/invoke/VarHandle" ∧ (parseMethodDescriptor yX10_late.desc).map (fun d => d.parameters.length) = some 2 := ⟨by decide +kernel, by decide +kernel, by decide +kernel⟩
set_option maxRecDepth 100000 in
theorem mw_RL_32 : VW RL 32 RX10 yX10_late cX10_late 3 (some .long) 2 := ⟨⟨(wjU_i 1057 rfl rfl), me_X10_late.1, (wjU_i 1059 rfl rfl), me_X10_late.2⟩, rfl, mf_X10_late⟩
set_option maxRecDepth 100000 in
theorem me_X10_streamOrThrow : Cond.instanceMethod yX10_streamOrThrow ∈ wjU ∧ Cond.initialized RX10 ∈ wjU ∧ Cond.code yX10_streamOrThrow cX10_streamOrThrow 3 (some (.object "WatermarkJoin$Stream")) ∈ wjU := ⟨(wjU_i 930 rfl rfl), (wjU_i 81 rfl rfl), (wjU_i 931 rfl rfl)⟩
theorem mf_X10_streamOrThrow : yX10_streamOrThrow.cls ≠ "java/lang/invoke/MethodHandle" ∧ yX10_streamOrThrow.cls ≠ "java/lang/invoke/VarHandle" ∧ (parseMethodDescriptor yX10_streamOrThrow.desc).map (fun d => d.parameters.length) = some 1 := ⟨by decide +kernel, by decide +kernel, by decide +kernel⟩
set_option maxRecDepth 100000 in
theorem mw_RX10_165 : VW RX10 165 RX10 yX10_streamOrThrow cX10_streamOrThrow 3 (some (.object "WatermarkJoin$Stream")) 1 := ⟨⟨(wjU_i 928 rfl rfl), me_X10_streamOrThrow.1, (wjU_i 31 rfl rfl), me_X10_streamOrThrow.2⟩, rfl, mf_X10_streamOrThrow⟩
