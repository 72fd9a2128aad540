section Q1
variable {M : Mm} {x m o tb ta pb pa ob oa lb la b L : Nat} {xs : Nat → Int32} {K : Int32 → Mm → Prop} {R : Option Nat → Option Nat → Option Nat → Int32 → Mm → Prop} {l4 : Int32}
set_option maxHeartbeats 2000000 in
theorem q_fault (h : Fresh M x m o tb ta pb pa ob oa lb la) (hR : ∀ M1, R (some x) (some m) (some o) (l4 + 6) M1) (v1 : vp_in (l4 + 1) L) (v2 : vp_in (l4 + 2) L) (v3 : vp_in (l4 + 3) L) (v4 : vp_in (l4 + 4) L) (v5 : vp_in (l4 + 5) L) : bk_L_law_218 b L xs R K (some x) (some m) (some o) l4 M := by
  obtain ⟨hC, hM, ho, hn⟩ := h
  have c0 := hC.1
  have c1 := hC.2.2.2.2.2.1
  have c2 := hC.2.2.2.2.2.2.1
  have m0 := hM.1
  have z := hM.2.1
  simp [bk_L_law_1153, bk_L_law_218, wp_X10_fault, wp_X11_fault_, c0, c1, c2, m0, z, ms, hR, v1, v2, v3, v4, v5, bz]
set_option maxHeartbeats 2000000 in
theorem q_row (h : Fresh M x m o tb ta pb pa ob oa lb la) (hR : ∀ M1, R (some x) (some m) (some o) (l4 + 6) M1) (v1 : vp_in (l4 + 1) L) (v2 : vp_in (l4 + 2) L) (v3 : vp_in (l4 + 3) L) (v4 : vp_in (l4 + 4) L) (v5 : vp_in (l4 + 5) L) : bk_L_law_231 b L xs R K (some x) (some m) (some o) l4 M := by
  obtain ⟨hC, hM, ho, hn⟩ := h
  have c0 := hC.1
  have c1 := hC.2.2.2.2.2.1
  have c2 := hC.2.2.2.2.2.2.1
  have m0 := hM.1
  have z := hM.2.1
  simp [bk_L_law_1153, bk_L_law_231, bk_X10_isKey_14, bk_X10_isKey_15, bk_X10_isTime_20, bk_X10_isTime_21, bk_X10_row_28, bk_X10_sourceWith_32, bk_X10_streamOrNull_22, bk_X11_isPart_37, bk_X11_isPart_38, bk_X11_isStream_25, bk_X11_isStream_26, bk_X11_isTime_20, bk_X11_isTime_21, bk_X11_row_104, bk_X11_row_105, bk_X11_row_182, bk_X11_row_196, bk_X11_row_33, wp_X10_isKey, wp_X10_isTime, wp_X10_row, wp_X10_sourceWith, wp_X10_streamOrNull, wp_X11_isPart, wp_X11_isStream, wp_X11_isTime, wp_X11_kindOf, wp_X11_row, c0, c1, c2, m0, z, ms, hR, v1, v2, v3, v4, v5, bz]
set_option maxHeartbeats 2000000 in
theorem q_mark (h : Fresh M x m o tb ta pb pa ob oa lb la) (hR : ∀ M1, R (some x) (some m) (some o) (l4 + 6) M1) (v1 : vp_in (l4 + 1) L) (v2 : vp_in (l4 + 2) L) (v3 : vp_in (l4 + 3) L) (v4 : vp_in (l4 + 4) L) (v5 : vp_in (l4 + 5) L) : bk_L_law_324 b L xs R K (some x) (some m) (some o) l4 M := by
  obtain ⟨hC, hM, ho, hn⟩ := h
  have c0 := hC.1
  have c1 := hC.2.2.2.2.2.1
  have c2 := hC.2.2.2.2.2.2.1
  have m0 := hM.1
  have z := hM.2.1
  simp [bk_L_law_1153, bk_L_law_324, bk_X10_isTime_20, bk_X10_isTime_21, bk_X10_mark_20, bk_X10_mark_90, bk_X10_sourceWith_32, bk_X10_streamOrNull_22, bk_X11_isPart_37, bk_X11_isPart_38, bk_X11_isStream_25, bk_X11_isStream_26, bk_X11_isTime_20, bk_X11_isTime_21, bk_X11_mark_103, bk_X11_mark_118, bk_X11_mark_21, bk_X11_mark_79, wp_X10_isTime, wp_X10_mark, wp_X10_sourceWith, wp_X10_streamOrNull, wp_X11_isPart, wp_X11_isStream, wp_X11_isTime, wp_X11_kindOf, wp_X11_mark, c0, c1, c2, m0, z, ms, hR, v1, v2, v3, v4, v5, bz]
set_option maxHeartbeats 2000000 in
theorem q_end (h : Fresh M x m o tb ta pb pa ob oa lb la) (hR : ∀ M1, R (some x) (some m) (some o) (l4 + 6) M1) (v1 : vp_in (l4 + 1) L) (v2 : vp_in (l4 + 2) L) (v3 : vp_in (l4 + 3) L) (v4 : vp_in (l4 + 4) L) (v5 : vp_in (l4 + 5) L) : bk_L_law_405 b L xs R K (some x) (some m) (some o) l4 M := by
  obtain ⟨hC, hM, ho, hn⟩ := h
  have c0 := hC.1
  have c1 := hC.2.2.2.2.2.1
  have c2 := hC.2.2.2.2.2.2.1
  have m0 := hM.1
  have z := hM.2.1
  simp [bk_L_law_1153, bk_L_law_405, bk_X10_sourceWith_32, bk_X10_streamOrNull_22, bk_X11_isPart_37, bk_X11_isPart_38, bk_X11_isStream_25, bk_X11_isStream_26, wp_X10_end, wp_X10_sourceWith, wp_X10_streamOrNull, wp_X11_end, wp_X11_isPart, wp_X11_isStream, wp_X11_kindOf, c0, c1, c2, m0, z, ms, hR, v1, v2, v3, v4, v5, bz]
set_option maxHeartbeats 2000000 in
theorem q_idle (h : Fresh M x m o tb ta pb pa ob oa lb la) (hR : ∀ M1, R (some x) (some m) (some o) (l4 + 6) M1) (v1 : vp_in (l4 + 1) L) (v2 : vp_in (l4 + 2) L) (v3 : vp_in (l4 + 3) L) (v4 : vp_in (l4 + 4) L) (v5 : vp_in (l4 + 5) L) : bk_L_law_442 b L xs R K (some x) (some m) (some o) l4 M := by
  obtain ⟨hC, hM, ho, hn⟩ := h
  have c0 := hC.1
  have c1 := hC.2.2.2.2.2.1
  have c2 := hC.2.2.2.2.2.2.1
  have m0 := hM.1
  have z := hM.2.1
  simp [bk_L_law_1153, bk_L_law_442, bk_L_law_469, bk_L_law_499, bk_X10_idle_47, bk_X10_idle_87, bk_X10_sourceWith_32, bk_X10_streamOrNull_22, bk_X11_idle_109, bk_X11_idle_54, bk_X11_idle_62, bk_X11_idle_84, bk_X11_idle_95, bk_X11_isPart_37, bk_X11_isPart_38, bk_X11_isStream_25, bk_X11_isStream_26, wp_X10_idle, wp_X10_sourceWith, wp_X10_streamOrNull, wp_X11_idle, wp_X11_isPart, wp_X11_isStream, wp_X11_kindOf, c0, c1, c2, m0, z, ms, hR, v1, v2, v3, v4, v5, bz]
set_option maxHeartbeats 2000000 in
theorem q_turn (h : Fresh M x m o tb ta pb pa ob oa lb la) (hR : ∀ M1, R (some x) (some m) (some o) (l4 + 6) M1) (v1 : vp_in (l4 + 1) L) (v2 : vp_in (l4 + 2) L) (v3 : vp_in (l4 + 3) L) (v4 : vp_in (l4 + 4) L) (v5 : vp_in (l4 + 5) L) : bk_L_law_507 b L xs R K (some x) (some m) (some o) l4 M := by
  obtain ⟨hC, hM, ho, hn⟩ := h
  have c0 := hC.1
  have c1 := hC.2.2.2.2.2.1
  have c2 := hC.2.2.2.2.2.2.1
  have m0 := hM.1
  have z := hM.2.1
  simp [bk_L_law_1153, bk_L_law_507, bk_X10_turn_19, bk_X11_turn_24, wp_X10_turn, wp_X11_turn, c0, c1, c2, m0, z, ms, hR, v1, v2, v3, v4, v5, bz]
set_option maxHeartbeats 2000000 in
theorem q_hold (h : Fresh M x m o tb ta pb pa ob oa lb la) (hR : ∀ M1, R (some x) (some m) (some o) (l4 + 6) M1) (v1 : vp_in (l4 + 1) L) (v2 : vp_in (l4 + 2) L) (v3 : vp_in (l4 + 3) L) (v4 : vp_in (l4 + 4) L) (v5 : vp_in (l4 + 5) L) : bk_L_law_532 b L xs R K (some x) (some m) (some o) l4 M := by
  obtain ⟨hC, hM, ho, hn⟩ := h
  have c0 := hC.1
  have c1 := hC.2.2.2.2.2.1
  have c2 := hC.2.2.2.2.2.2.1
  have m0 := hM.1
  have z := hM.2.1
  simp [bk_L_law_1153, bk_L_law_532, bk_X10_hold_31, bk_X10_isTime_20, bk_X10_isTime_21, bk_X10_streamOrNull_22, bk_X11_hold_29, bk_X11_isStream_25, bk_X11_isStream_26, bk_X11_isTime_20, bk_X11_isTime_21, wp_X10_hold, wp_X10_isTime, wp_X10_streamOrNull, wp_X11_hold, wp_X11_isStream, wp_X11_isTime, wp_X11_kindOf, c0, c1, c2, m0, z, ms, hR, v1, v2, v3, v4, v5, bz]
set_option maxHeartbeats 2000000 in
theorem q_release (h : Fresh M x m o tb ta pb pa ob oa lb la) (hR : ∀ M1, R (some x) (some m) (some o) (l4 + 6) M1) (v1 : vp_in (l4 + 1) L) (v2 : vp_in (l4 + 2) L) (v3 : vp_in (l4 + 3) L) (v4 : vp_in (l4 + 4) L) (v5 : vp_in (l4 + 5) L) : bk_L_law_601 b L xs R K (some x) (some m) (some o) l4 M := by
  obtain ⟨hC, hM, ho, hn⟩ := h
  have c0 := hC.1
  have c1 := hC.2.2.2.2.2.1
  have c2 := hC.2.2.2.2.2.2.1
  have m0 := hM.1
  have z := hM.2.1
  simp [bk_L_law_1153, bk_L_law_601, bk_L_law_622, bk_L_law_652, bk_X10_isKey_14, bk_X10_isKey_15, bk_X10_release_28, bk_X10_release_43, bk_X11_release_43, bk_X11_release_67, wp_X10_isKey, wp_X10_release, wp_X11_release, c0, c1, c2, m0, z, ms, hR, v1, v2, v3, v4, v5, bz]
set_option maxHeartbeats 2000000 in
theorem q_watermark (h : Fresh M x m o tb ta pb pa ob oa lb la) (hR : ∀ M1, R (some x) (some m) (some o) (l4 + 6) M1) (v1 : vp_in (l4 + 1) L) (v2 : vp_in (l4 + 2) L) (v3 : vp_in (l4 + 3) L) (v4 : vp_in (l4 + 4) L) (v5 : vp_in (l4 + 5) L) : bk_L_law_666 b L xs R K (some x) (some m) (some o) l4 M := by
  obtain ⟨hC, hM, ho, hn⟩ := h
  have c0 := hC.1
  have c1 := hC.2.2.2.2.2.1
  have c2 := hC.2.2.2.2.2.2.1
  have m0 := hM.1
  have z := hM.2.1
  simp [bk_L_law_1153, bk_L_law_666, bk_L_law_718, bk_X10_streamOrNull_22, bk_X11_isStream_25, bk_X11_isStream_26, bk_X11_mustBe_25, bk_X11_mustBe_40, bk_X11_watermark_18, wp_L_watermark, wp_X10_streamOrNull, wp_X10_streamOrThrow, wp_X10_watermark, wp_X11_isStream, wp_X11_mustBe, wp_X11_thrown, wp_X11_watermark, c0, c1, c2, m0, z, ms, hR, v1, v2, v3, v4, v5, bz]
set_option maxHeartbeats 2000000 in
theorem q_isIdle (h : Fresh M x m o tb ta pb pa ob oa lb la) (hR : ∀ M1, R (some x) (some m) (some o) (l4 + 6) M1) (v1 : vp_in (l4 + 1) L) (v2 : vp_in (l4 + 2) L) (v3 : vp_in (l4 + 3) L) (v4 : vp_in (l4 + 4) L) (v5 : vp_in (l4 + 5) L) : bk_L_law_721 b L xs R K (some x) (some m) (some o) l4 M := by
  obtain ⟨hC, hM, ho, hn⟩ := h
  have c0 := hC.1
  have c1 := hC.2.2.2.2.2.1
  have c2 := hC.2.2.2.2.2.2.1
  have m0 := hM.1
  have z := hM.2.1
  simp [bk_L_isIdle_15, bk_L_law_1153, bk_L_law_721, bk_L_law_775, bk_L_law_781, bk_X10_streamOrNull_22, bk_X11_isIdle_21, bk_X11_isIdle_22, bk_X11_isStream_25, bk_X11_isStream_26, bk_X11_mustBe_25, bk_X11_mustBe_40, wp_L_isIdle, wp_X10_isIdle, wp_X10_streamOrNull, wp_X10_streamOrThrow, wp_X11_isIdle, wp_X11_isStream, wp_X11_mustBe, wp_X11_thrown, c0, c1, c2, m0, z, ms, hR, v1, v2, v3, v4, v5, bz]
set_option maxHeartbeats 2000000 in
theorem q_promise (h : Fresh M x m o tb ta pb pa ob oa lb la) (hR : ∀ M1, R (some x) (some m) (some o) (l4 + 6) M1) (v1 : vp_in (l4 + 1) L) (v2 : vp_in (l4 + 2) L) (v3 : vp_in (l4 + 3) L) (v4 : vp_in (l4 + 4) L) (v5 : vp_in (l4 + 5) L) : bk_L_law_784 b L xs R K (some x) (some m) (some o) l4 M := by
  obtain ⟨hC, hM, ho, hn⟩ := h
  have c0 := hC.1
  have c1 := hC.2.2.2.2.2.1
  have c2 := hC.2.2.2.2.2.2.1
  have m0 := hM.1
  have z := hM.2.1
  simp [bk_L_law_1153, bk_L_law_784, bk_L_law_848, bk_X10_sourceWith_32, bk_X10_streamOrNull_22, bk_X11_isPart_37, bk_X11_isPart_38, bk_X11_isStream_25, bk_X11_isStream_26, bk_X11_promise_26, bk_X11_promise_50, wp_L_promise, wp_X10_promise, wp_X10_sourceWith, wp_X10_streamOrNull, wp_X11_isPart, wp_X11_isStream, wp_X11_kindOf, wp_X11_promise, wp_X11_thrown, c0, c1, c2, m0, z, ms, hR, v1, v2, v3, v4, v5, bz]
set_option maxHeartbeats 2000000 in
theorem q_part (h : Fresh M x m o tb ta pb pa ob oa lb la) (hR : ∀ M1, R (some x) (some m) (some o) (l4 + 6) M1) (v1 : vp_in (l4 + 1) L) (v2 : vp_in (l4 + 2) L) (v3 : vp_in (l4 + 3) L) (v4 : vp_in (l4 + 4) L) (v5 : vp_in (l4 + 5) L) : bk_L_law_851 b L xs R K (some x) (some m) (some o) l4 M := by
  obtain ⟨hC, hM, ho, hn⟩ := h
  have c0 := hC.1
  have c1 := hC.2.2.2.2.2.1
  have c2 := hC.2.2.2.2.2.2.1
  have m0 := hM.1
  have z := hM.2.1
  simp [bk_L_law_1153, bk_L_law_851, bk_X10_part_41, bk_X10_sourceWith_32, bk_X10_streamOrNull_22, bk_X11_isPart_37, bk_X11_isPart_38, bk_X11_isStream_25, bk_X11_isStream_26, bk_X11_part_39, wp_X10_part, wp_X10_sourceWith, wp_X10_streamOrNull, wp_X11_isPart, wp_X11_isStream, wp_X11_kindOf, wp_X11_part, c0, c1, c2, m0, z, ms, hR, v1, v2, v3, v4, v5, bz]
set_option maxHeartbeats 2000000 in
theorem q_kept (h : Fresh M x m o tb ta pb pa ob oa lb la) (hR : ∀ M1, R (some x) (some m) (some o) (l4 + 6) M1) (v1 : vp_in (l4 + 1) L) (v2 : vp_in (l4 + 2) L) (v3 : vp_in (l4 + 3) L) (v4 : vp_in (l4 + 4) L) (v5 : vp_in (l4 + 5) L) : bk_L_law_888 b L xs R K (some x) (some m) (some o) l4 M := by
  obtain ⟨hC, hM, ho, hn⟩ := h
  have c0 := hC.1
  have c1 := hC.2.2.2.2.2.1
  have c2 := hC.2.2.2.2.2.2.1
  have m0 := hM.1
  have z := hM.2.1
  simp [bk_L_law_1153, bk_L_law_888, bk_L_law_953, bk_X10_kept_25, bk_X10_streamOrNull_22, bk_X11_isStream_25, bk_X11_isStream_26, bk_X11_kept_19, bk_X11_kept_89, bk_X11_mustBe_25, bk_X11_mustBe_40, wp_L_kept, wp_X10_kept, wp_X10_streamOrNull, wp_X10_streamOrThrow, wp_X11_isStream, wp_X11_kept, wp_X11_kindOf, wp_X11_mustBe, wp_X11_thrown, c0, c1, c2, m0, z, ms, hR, v1, v2, v3, v4, v5, bz]
set_option maxHeartbeats 2000000 in
theorem q_print (h : Fresh M x m o tb ta pb pa ob oa lb la) (hR : ∀ M1, R (some x) (some m) (some o) (l4 + 6) M1) (v1 : vp_in (l4 + 1) L) (v2 : vp_in (l4 + 2) L) (v3 : vp_in (l4 + 3) L) (v4 : vp_in (l4 + 4) L) (v5 : vp_in (l4 + 5) L) : bk_L_law_1115 b L xs R K (some x) (some m) (some o) l4 M := by
  obtain ⟨hC, hM, ho, hn⟩ := h
  have c0 := hC.1
  have c1 := hC.2.2.2.2.2.1
  have c2 := hC.2.2.2.2.2.2.1
  have m0 := hM.1
  have z := hM.2.1
  simp [bk_L_law_1115, bk_L_law_1153, wp_X10_print, wp_X11_print, c0, c1, c2, m0, z, ms, hR, v1, v2, v3, v4, v5, bz]
end Q1
