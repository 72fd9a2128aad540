set_option maxRecDepth 100000 in
theorem sw_RL_89 : SWH RL 89 yL_watermark cL_watermark 4 [(0, 8, 11, 13), (0, 8, 14, 15)] 3 := ⟨⟨wjU_i 919 rfl rfl, wjU_i 920 rfl rfl, wjU_i 80 rfl rfl, wjU_i 921 rfl rfl⟩, by decide +kernel, by decide +kernel, by decide +kernel⟩
set_option maxRecDepth 100000 in
theorem sw_RL_98 : SWH RL 98 yL_isIdle cL_isIdle 4 [(0, 16, 19, 13), (0, 16, 22, 15)] 3 := ⟨⟨wjU_i 1014 rfl rfl, wjU_i 1015 rfl rfl, wjU_i 80 rfl rfl, wjU_i 1016 rfl rfl⟩, by decide +kernel, by decide +kernel, by decide +kernel⟩
set_option maxRecDepth 100000 in
theorem sw_RL_101 : SWH RL 101 yL_promise cL_promise 5 [(0, 9, 12, 13), (0, 9, 16, 15)] 4 := ⟨⟨wjU_i 1021 rfl rfl, wjU_i 1022 rfl rfl, wjU_i 80 rfl rfl, wjU_i 1023 rfl rfl⟩, by decide +kernel, by decide +kernel, by decide +kernel⟩
set_option maxRecDepth 100000 in
theorem sw_RL_109 : SWH RL 109 yL_kept cL_kept 5 [(0, 10, 13, 13), (0, 10, 17, 15)] 4 := ⟨⟨wjU_i 1029 rfl rfl, wjU_i 1030 rfl rfl, wjU_i 80 rfl rfl, wjU_i 1031 rfl rfl⟩, by decide +kernel, by decide +kernel, by decide +kernel⟩
set_option maxRecDepth 100000 in
theorem sw_RL_112 : SWH RL 112 yL_out cL_out 5 [(0, 9, 12, 15)] 4 := ⟨⟨wjU_i 1038 rfl rfl, wjU_i 1039 rfl rfl, wjU_i 80 rfl rfl, wjU_i 1040 rfl rfl⟩, by decide +kernel, by decide +kernel, by decide +kernel⟩
set_option maxRecDepth 100000 in
theorem sw_RL_115 : SWH RL 115 yL_late cL_late 5 [(0, 9, 12, 15)] 4 := ⟨⟨wjU_i 1054 rfl rfl, wjU_i 1055 rfl rfl, wjU_i 80 rfl rfl, wjU_i 1056 rfl rfl⟩, by decide +kernel, by decide +kernel, by decide +kernel⟩
def bk_L_law_1153 (h0 L : Nat) (xs : Nat → Int32) (R23 : Option Nat → Option Nat → Option Nat → Int32 → Mm → Prop) (K : Int32 → Mm → Prop) (l1 : Option Nat) (l2 : Option Nat) (l3 : Option Nat) (l4 : Int32) (M : Mm) : Prop := (R23 l1 l2 l3 (l4 + 6) M)
set_option maxRecDepth 100000 in
set_option maxHeartbeats 4000000 in
theorem zb_L_law_1153 {X : Cx} {h0 L : Nat} {xs : Nat → Int32} {R23 : Option Nat → Option Nat → Option Nat → Int32 → Mm → Prop} {K : Int32 → Mm → Prop} (hX : Ok X cL_law RL room_1) (hQ : RqL X h0 K) (hnL : X.2.2.2.2.2.2.2.2.2.2.2.2.2.2 = 8) (hSc : Scr X h0 L xs) {cc0 ss0 : Nat} (hcs : cc0 + 295 ≤ 2407 ∧ ss0 + 2288 ≤ 28584) (hR23 : ∀ l1 l2 l3 l4 M, R23 l1 l2 l3 l4 M → Z X M (cc0 + 295) (ss0 + 2288) 23 [(0, va_rf (some h0)), (1, va_rf l1), (2, va_rf l2), (3, va_rf l3), (4, .int l4)] []) {l1 : Option Nat} {l2 : Option Nat} {l3 : Option Nat} {l4 : Int32} {M : Mm} (h : bk_L_law_1153 h0 L xs R23 K l1 l2 l3 l4 M) : Z X M (cc0 + 295) (ss0 + 2288) 1153 [(0, va_rf (some h0)), (1, va_rf l1), (2, va_rf l2), (3, va_rf l3), (4, .int l4)] [] := by
  unfold bk_L_law_1153 at h
  refine z_iinc (v := (l4 + 6)) hX [(4, .int (l4 + 6)), (0, va_rf (some h0)), (1, va_rf l1), (2, va_rf l2), (3, va_rf l3)] dL_law_1153 4 rfl rfl (by rw [hnL]; decide) (by simp [cat_rf]) ?_
  refine z_goto (tgt := 23) hX dL_law_1156 (by decide) ?_
  refine z_loc [1, 2, 3, 4, 0] rfl ?_
  refine z_widen (cc0 + 295) (ss0 + 2288) (by first | omega | (simp only [rm_L_isIdle, rm_L_kept, rm_L_late, rm_L_out, rm_L_promise, rm_L_watermark, rm_X10_build, rm_X10_end, rm_X10_fault, rm_X10_feed, rm_X10_hold, rm_X10_idle, rm_X10_init, rm_X10_letter, rm_X10_mark, rm_X10_part, rm_X10_print, rm_X10_release, rm_X10_row, rm_X10_told, rm_X10_turn, rm_X11_build, rm_X11_end, rm_X11_fault_, rm_X11_feed, rm_X11_hold, rm_X11_idle, rm_X11_init, rm_X11_isIdle, rm_X11_kept, rm_X11_late_, rm_X11_letter, rm_X11_mark, rm_X11_out, rm_X11_part, rm_X11_print, rm_X11_promise, rm_X11_release, rm_X11_row, rm_X11_thrown, rm_X11_told, rm_X11_turn, rm_X11_watermark]; omega)) (by first | omega | (simp only [rm_L_isIdle, rm_L_kept, rm_L_late, rm_L_out, rm_L_promise, rm_L_watermark, rm_X10_build, rm_X10_end, rm_X10_fault, rm_X10_feed, rm_X10_hold, rm_X10_idle, rm_X10_init, rm_X10_letter, rm_X10_mark, rm_X10_part, rm_X10_print, rm_X10_release, rm_X10_row, rm_X10_told, rm_X10_turn, rm_X11_build, rm_X11_end, rm_X11_fault_, rm_X11_feed, rm_X11_hold, rm_X11_idle, rm_X11_init, rm_X11_isIdle, rm_X11_kept, rm_X11_late_, rm_X11_letter, rm_X11_mark, rm_X11_out, rm_X11_part, rm_X11_print, rm_X11_promise, rm_X11_release, rm_X11_row, rm_X11_thrown, rm_X11_told, rm_X11_turn, rm_X11_watermark]; omega)) ?_
  exact hR23 _ _ _ _ _ h
def bk_L_law_136 (h0 L : Nat) (xs : Nat → Int32) (R23 : Option Nat → Option Nat → Option Nat → Int32 → Mm → Prop) (K : Int32 → Mm → Prop) (l1 : Option Nat) (l2 : Option Nat) (l3 : Option Nat) (l4 : Int32) (M : Mm) : Prop := vp_in (l4 + (1 : Int32)) L ∧ vp_in (l4 + (2 : Int32)) L ∧ vp_in (l4 + (3 : Int32)) L ∧ ∃ a6, l1 = some a6 ∧ mK M a6 = 11 ∧ (wp_X10_feed M a6 (((((xs ((l4 + (1 : Int32))).toNatClampNeg)).toInt64) <<< (((32 : Int32)).toInt64 &&& 63)) ||| ((((xs ((l4 + (2 : Int32))).toNatClampNeg)).toInt64) &&& (4294967295 : Int64))) (xs ((l4 + (3 : Int32))).toNatClampNeg) (fun r4 M5 => vp_in (l4 + (1 : Int32)) L ∧ vp_in (l4 + (2 : Int32)) L ∧ vp_in (l4 + (3 : Int32)) L ∧ ∃ a15, l2 = some a15 ∧ mK M5 a15 = 12 ∧ (wp_X11_feed M5 a15 (((((xs ((l4 + (1 : Int32))).toNatClampNeg)).toInt64) <<< (((32 : Int32)).toInt64 &&& 63)) ||| ((((xs ((l4 + (2 : Int32))).toNatClampNeg)).toInt64) &&& (4294967295 : Int64))) (xs ((l4 + (3 : Int32))).toNatClampNeg) (fun r13 M14 => ((r4 = r13 → (bk_L_law_1153 h0 L xs R23 K l1 l2 l3 l4 M14)) ∧ (¬ r4 = r13 → (K (0 : Int32) M14)))))))
set_option maxRecDepth 100000 in
set_option maxHeartbeats 4000000 in
theorem zb_L_law_136 {X : Cx} {h0 L : Nat} {xs : Nat → Int32} {R23 : Option Nat → Option Nat → Option Nat → Int32 → Mm → Prop} {K : Int32 → Mm → Prop} (hX : Ok X cL_law RL room_1) (hQ : RqL X h0 K) (hnL : X.2.2.2.2.2.2.2.2.2.2.2.2.2.2 = 8) (hSc : Scr X h0 L xs) {cc0 ss0 : Nat} (hcs : cc0 + 295 ≤ 2407 ∧ ss0 + 2288 ≤ 28584) (hR23 : ∀ l1 l2 l3 l4 M, R23 l1 l2 l3 l4 M → Z X M (cc0 + 295) (ss0 + 2288) 23 [(0, va_rf (some h0)), (1, va_rf l1), (2, va_rf l2), (3, va_rf l3), (4, .int l4)] []) {l1 : Option Nat} {l2 : Option Nat} {l3 : Option Nat} {l4 : Int32} {M : Mm} (h : bk_L_law_136 h0 L xs R23 K l1 l2 l3 l4 M) : Z X M (cc0 + 0) (ss0 + 0) 136 [(0, va_rf (some h0)), (1, va_rf l1), (2, va_rf l2), (3, va_rf l3), (4, .int l4)] [] := by
  unfold bk_L_law_136 at h
  refine z_aload_n (r := l1) hX dL_law_136 rfl 1 rfl ?_
  refine z_aload_n (r := (some h0)) hX dL_law_137 rfl 0 rfl ?_
  refine z_iload hX dL_law_138 4 rfl ?_
  refine z_iconst (v := (1 : Int32)) hX dL_law_140 (by decide) ?_
  refine z_iadd hX dL_law_141 ?_
  obtain ⟨hc1, h⟩ := h
  refine z_sld hX hSc dL_law_142 hc1 ?_
  refine z_i2l hX dL_law_143 ?_
  refine z_bipush (v := (32 : Int32)) hX dL_law_144 (by decide) ?_
  refine z_lshl hX dL_law_146 ?_
  refine z_aload_n (r := (some h0)) hX dL_law_147 rfl 0 rfl ?_
  refine z_iload hX dL_law_148 4 rfl ?_
  refine z_iconst (v := (2 : Int32)) hX dL_law_150 (by decide) ?_
  refine z_iadd hX dL_law_151 ?_
  obtain ⟨hc2, h⟩ := h
  refine z_sld hX hSc dL_law_152 hc2 ?_
  refine z_i2l hX dL_law_153 ?_
  refine z_ldc2 (v := (4294967295 : Int64)) hX dL_law_154 kj_RL_39 ?_
  refine z_land hX dL_law_157 ?_
  refine z_lor hX dL_law_158 ?_
  refine z_aload_n (r := (some h0)) hX dL_law_159 rfl 0 rfl ?_
  refine z_iload hX dL_law_160 4 rfl ?_
  refine z_iconst (v := (3 : Int32)) hX dL_law_162 (by decide) ?_
  refine z_iadd hX dL_law_163 ?_
  obtain ⟨hc3, h⟩ := h
  refine z_sld hX hSc dL_law_164 hc3 ?_
  obtain ⟨a6, ha7, h⟩ := h
  obtain ⟨hk8, h⟩ := h
  refine z_callVI (As := [.long (((((xs ((l4 + (1 : Int32))).toNatClampNeg)).toInt64) <<< (((32 : Int32)).toInt64 &&& 63)) ||| ((((xs ((l4 + (2 : Int32))).toNatClampNeg)).toInt64) &&& (4294967295 : Int64))), .int (xs ((l4 + (3 : Int32))).toNatClampNeg)]) (rest := []) (ci := 10) hX (ct_X10_feed h) mw_RL_41 rfl (by decide) rfl (by rw [ha7]; rfl) (by simp only [RoomC, room_1, rm_L_isIdle, rm_L_kept, rm_L_late, rm_L_out, rm_L_promise, rm_L_watermark, rm_X10_build, rm_X10_end, rm_X10_fault, rm_X10_feed, rm_X10_hold, rm_X10_idle, rm_X10_init, rm_X10_letter, rm_X10_mark, rm_X10_part, rm_X10_print, rm_X10_release, rm_X10_row, rm_X10_told, rm_X10_turn, rm_X11_build, rm_X11_end, rm_X11_fault_, rm_X11_feed, rm_X11_hold, rm_X11_idle, rm_X11_init, rm_X11_isIdle, rm_X11_kept, rm_X11_late_, rm_X11_letter, rm_X11_mark, rm_X11_out, rm_X11_part, rm_X11_print, rm_X11_promise, rm_X11_release, rm_X11_row, rm_X11_thrown, rm_X11_told, rm_X11_turn, rm_X11_watermark]; omega) (by decide) dL_law_165 hk8 (fun r4 M5 h => ?_)
  refine z_aload_n (r := l2) hX dL_law_168 rfl 2 rfl ?_
  refine z_aload_n (r := (some h0)) hX dL_law_169 rfl 0 rfl ?_
  refine z_iload hX dL_law_170 4 rfl ?_
  refine z_iconst (v := (1 : Int32)) hX dL_law_172 (by decide) ?_
  refine z_iadd hX dL_law_173 ?_
  obtain ⟨hc10, h⟩ := h
  refine z_sld hX hSc dL_law_174 hc10 ?_
  refine z_i2l hX dL_law_175 ?_
  refine z_bipush (v := (32 : Int32)) hX dL_law_176 (by decide) ?_
  refine z_lshl hX dL_law_178 ?_
  refine z_aload_n (r := (some h0)) hX dL_law_179 rfl 0 rfl ?_
  refine z_iload hX dL_law_180 4 rfl ?_
  refine z_iconst (v := (2 : Int32)) hX dL_law_182 (by decide) ?_
  refine z_iadd hX dL_law_183 ?_
  obtain ⟨hc11, h⟩ := h
  refine z_sld hX hSc dL_law_184 hc11 ?_
  refine z_i2l hX dL_law_185 ?_
  refine z_ldc2 (v := (4294967295 : Int64)) hX dL_law_186 kj_RL_39 ?_
  refine z_land hX dL_law_189 ?_
  refine z_lor hX dL_law_190 ?_
  refine z_aload_n (r := (some h0)) hX dL_law_191 rfl 0 rfl ?_
  refine z_iload hX dL_law_192 4 rfl ?_
  refine z_iconst (v := (3 : Int32)) hX dL_law_194 (by decide) ?_
  refine z_iadd hX dL_law_195 ?_
  obtain ⟨hc12, h⟩ := h
  refine z_sld hX hSc dL_law_196 hc12 ?_
  obtain ⟨a15, ha16, h⟩ := h
  obtain ⟨hk17, h⟩ := h
  refine z_callVI (As := [.long (((((xs ((l4 + (1 : Int32))).toNatClampNeg)).toInt64) <<< (((32 : Int32)).toInt64 &&& 63)) ||| ((((xs ((l4 + (2 : Int32))).toNatClampNeg)).toInt64) &&& (4294967295 : Int64))), .int (xs ((l4 + (3 : Int32))).toNatClampNeg)]) (rest := [.int r4]) (ci := 11) hX (ct_X11_feed h) mw_RL_45 rfl (by decide) rfl (by rw [ha16]; rfl) (by simp only [RoomC, room_1, rm_L_isIdle, rm_L_kept, rm_L_late, rm_L_out, rm_L_promise, rm_L_watermark, rm_X10_build, rm_X10_end, rm_X10_fault, rm_X10_feed, rm_X10_hold, rm_X10_idle, rm_X10_init, rm_X10_letter, rm_X10_mark, rm_X10_part, rm_X10_print, rm_X10_release, rm_X10_row, rm_X10_told, rm_X10_turn, rm_X11_build, rm_X11_end, rm_X11_fault_, rm_X11_feed, rm_X11_hold, rm_X11_idle, rm_X11_init, rm_X11_isIdle, rm_X11_kept, rm_X11_late_, rm_X11_letter, rm_X11_mark, rm_X11_out, rm_X11_part, rm_X11_print, rm_X11_promise, rm_X11_release, rm_X11_row, rm_X11_thrown, rm_X11_told, rm_X11_turn, rm_X11_watermark]; omega) (by simp only [List.map_cons, List.map_nil, List.sum_cons, List.sum_nil, cat_rf, cat_i, cat_j]; decide) dL_law_197 hk17 (fun r13 M14 h => ?_)
  obtain ⟨h1, h2⟩ := h
  refine z_icmp_eq (tgt := 1153) hX dL_law_200 (by decide) (fun hc => ?_) (fun hc => ?_)
  · have h := h1 hc
    refine z_widen (cc0 + 295) (ss0 + 2288) (by first | omega | (simp only [rm_L_isIdle, rm_L_kept, rm_L_late, rm_L_out, rm_L_promise, rm_L_watermark, rm_X10_build, rm_X10_end, rm_X10_fault, rm_X10_feed, rm_X10_hold, rm_X10_idle, rm_X10_init, rm_X10_letter, rm_X10_mark, rm_X10_part, rm_X10_print, rm_X10_release, rm_X10_row, rm_X10_told, rm_X10_turn, rm_X11_build, rm_X11_end, rm_X11_fault_, rm_X11_feed, rm_X11_hold, rm_X11_idle, rm_X11_init, rm_X11_isIdle, rm_X11_kept, rm_X11_late_, rm_X11_letter, rm_X11_mark, rm_X11_out, rm_X11_part, rm_X11_print, rm_X11_promise, rm_X11_release, rm_X11_row, rm_X11_thrown, rm_X11_told, rm_X11_turn, rm_X11_watermark]; omega)) (by first | omega | (simp only [rm_L_isIdle, rm_L_kept, rm_L_late, rm_L_out, rm_L_promise, rm_L_watermark, rm_X10_build, rm_X10_end, rm_X10_fault, rm_X10_feed, rm_X10_hold, rm_X10_idle, rm_X10_init, rm_X10_letter, rm_X10_mark, rm_X10_part, rm_X10_print, rm_X10_release, rm_X10_row, rm_X10_told, rm_X10_turn, rm_X11_build, rm_X11_end, rm_X11_fault_, rm_X11_feed, rm_X11_hold, rm_X11_idle, rm_X11_init, rm_X11_isIdle, rm_X11_kept, rm_X11_late_, rm_X11_letter, rm_X11_mark, rm_X11_out, rm_X11_part, rm_X11_print, rm_X11_promise, rm_X11_release, rm_X11_row, rm_X11_thrown, rm_X11_told, rm_X11_turn, rm_X11_watermark]; omega)) ?_
    exact zb_L_law_1153 hX hQ hnL hSc hcs hR23 h
  · have h := h2 hc
    refine z_iconst (v := (0 : Int32)) hX dL_law_203 (by decide) ?_
    refine z_widen 600002 7302232 (by first | omega | (simp only [rm_L_isIdle, rm_L_kept, rm_L_late, rm_L_out, rm_L_promise, rm_L_watermark, rm_X10_build, rm_X10_end, rm_X10_fault, rm_X10_feed, rm_X10_hold, rm_X10_idle, rm_X10_init, rm_X10_letter, rm_X10_mark, rm_X10_part, rm_X10_print, rm_X10_release, rm_X10_row, rm_X10_told, rm_X10_turn, rm_X11_build, rm_X11_end, rm_X11_fault_, rm_X11_feed, rm_X11_hold, rm_X11_idle, rm_X11_init, rm_X11_isIdle, rm_X11_kept, rm_X11_late_, rm_X11_letter, rm_X11_mark, rm_X11_out, rm_X11_part, rm_X11_print, rm_X11_promise, rm_X11_release, rm_X11_row, rm_X11_thrown, rm_X11_told, rm_X11_turn, rm_X11_watermark]; omega)) (by first | omega | (simp only [rm_L_isIdle, rm_L_kept, rm_L_late, rm_L_out, rm_L_promise, rm_L_watermark, rm_X10_build, rm_X10_end, rm_X10_fault, rm_X10_feed, rm_X10_hold, rm_X10_idle, rm_X10_init, rm_X10_letter, rm_X10_mark, rm_X10_part, rm_X10_print, rm_X10_release, rm_X10_row, rm_X10_told, rm_X10_turn, rm_X11_build, rm_X11_end, rm_X11_fault_, rm_X11_feed, rm_X11_hold, rm_X11_idle, rm_X11_init, rm_X11_isIdle, rm_X11_kept, rm_X11_late_, rm_X11_letter, rm_X11_mark, rm_X11_out, rm_X11_part, rm_X11_print, rm_X11_promise, rm_X11_release, rm_X11_row, rm_X11_thrown, rm_X11_told, rm_X11_turn, rm_X11_watermark]; omega)) ?_
    exact z_lwret hX hQ dL_law_204 h
def bk_L_law_205 (h0 L : Nat) (xs : Nat → Int32) (R23 : Option Nat → Option Nat → Option Nat → Int32 → Mm → Prop) (K : Int32 → Mm → Prop) (l1 : Option Nat) (l2 : Option Nat) (l3 : Option Nat) (l4 : Int32) (M : Mm) : Prop := ∃ a21, l1 = some a21 ∧ mK M a21 = 11 ∧ (wp_X10_build M a21 (fun r19 M20 => ∃ a27, l2 = some a27 ∧ mK M20 a27 = 12 ∧ (wp_X11_build M20 a27 (fun r25 M26 => ((r19 = r25 → (bk_L_law_1153 h0 L xs R23 K l1 l2 l3 l4 M26)) ∧ (¬ r19 = r25 → (K (0 : Int32) M26)))))))
set_option maxRecDepth 100000 in
set_option maxHeartbeats 4000000 in
theorem zb_L_law_205 {X : Cx} {h0 L : Nat} {xs : Nat → Int32} {R23 : Option Nat → Option Nat → Option Nat → Int32 → Mm → Prop} {K : Int32 → Mm → Prop} (hX : Ok X cL_law RL room_1) (hQ : RqL X h0 K) (hnL : X.2.2.2.2.2.2.2.2.2.2.2.2.2.2 = 8) (hSc : Scr X h0 L xs) {cc0 ss0 : Nat} (hcs : cc0 + 295 ≤ 2407 ∧ ss0 + 2288 ≤ 28584) (hR23 : ∀ l1 l2 l3 l4 M, R23 l1 l2 l3 l4 M → Z X M (cc0 + 295) (ss0 + 2288) 23 [(0, va_rf (some h0)), (1, va_rf l1), (2, va_rf l2), (3, va_rf l3), (4, .int l4)] []) {l1 : Option Nat} {l2 : Option Nat} {l3 : Option Nat} {l4 : Int32} {M : Mm} (h : bk_L_law_205 h0 L xs R23 K l1 l2 l3 l4 M) : Z X M (cc0 + 0) (ss0 + 0) 205 [(0, va_rf (some h0)), (1, va_rf l1), (2, va_rf l2), (3, va_rf l3), (4, .int l4)] [] := by
  unfold bk_L_law_205 at h
  refine z_aload_n (r := l1) hX dL_law_205 rfl 1 rfl ?_
  obtain ⟨a21, ha22, h⟩ := h
  obtain ⟨hk23, h⟩ := h
  refine z_callVI (As := []) (rest := []) (ci := 10) hX (ct_X10_build h) mw_RL_46 rfl (by decide) rfl (by rw [ha22]; rfl) (by simp only [RoomC, room_1, rm_L_isIdle, rm_L_kept, rm_L_late, rm_L_out, rm_L_promise, rm_L_watermark, rm_X10_build, rm_X10_end, rm_X10_fault, rm_X10_feed, rm_X10_hold, rm_X10_idle, rm_X10_init, rm_X10_letter, rm_X10_mark, rm_X10_part, rm_X10_print, rm_X10_release, rm_X10_row, rm_X10_told, rm_X10_turn, rm_X11_build, rm_X11_end, rm_X11_fault_, rm_X11_feed, rm_X11_hold, rm_X11_idle, rm_X11_init, rm_X11_isIdle, rm_X11_kept, rm_X11_late_, rm_X11_letter, rm_X11_mark, rm_X11_out, rm_X11_part, rm_X11_print, rm_X11_promise, rm_X11_release, rm_X11_row, rm_X11_thrown, rm_X11_told, rm_X11_turn, rm_X11_watermark]; omega) (by decide) dL_law_206 hk23 (fun r19 M20 h => ?_)
  refine z_aload_n (r := l2) hX dL_law_209 rfl 2 rfl ?_
  obtain ⟨a27, ha28, h⟩ := h
  obtain ⟨hk29, h⟩ := h
  refine z_callVI (As := []) (rest := [.int r19]) (ci := 11) hX (ct_X11_build h) mw_RL_50 rfl (by decide) rfl (by rw [ha28]; rfl) (by simp only [RoomC, room_1, rm_L_isIdle, rm_L_kept, rm_L_late, rm_L_out, rm_L_promise, rm_L_watermark, rm_X10_build, rm_X10_end, rm_X10_fault, rm_X10_feed, rm_X10_hold, rm_X10_idle, rm_X10_init, rm_X10_letter, rm_X10_mark, rm_X10_part, rm_X10_print, rm_X10_release, rm_X10_row, rm_X10_told, rm_X10_turn, rm_X11_build, rm_X11_end, rm_X11_fault_, rm_X11_feed, rm_X11_hold, rm_X11_idle, rm_X11_init, rm_X11_isIdle, rm_X11_kept, rm_X11_late_, rm_X11_letter, rm_X11_mark, rm_X11_out, rm_X11_part, rm_X11_print, rm_X11_promise, rm_X11_release, rm_X11_row, rm_X11_thrown, rm_X11_told, rm_X11_turn, rm_X11_watermark]; omega) (by simp only [List.map_cons, List.map_nil, List.sum_cons, List.sum_nil, cat_rf, cat_i, cat_j]; decide) dL_law_210 hk29 (fun r25 M26 h => ?_)
  obtain ⟨h1, h2⟩ := h
  refine z_icmp_eq (tgt := 1153) hX dL_law_213 (by decide) (fun hc => ?_) (fun hc => ?_)
  · have h := h1 hc
    refine z_widen (cc0 + 295) (ss0 + 2288) (by first | omega | (simp only [rm_L_isIdle, rm_L_kept, rm_L_late, rm_L_out, rm_L_promise, rm_L_watermark, rm_X10_build, rm_X10_end, rm_X10_fault, rm_X10_feed, rm_X10_hold, rm_X10_idle, rm_X10_init, rm_X10_letter, rm_X10_mark, rm_X10_part, rm_X10_print, rm_X10_release, rm_X10_row, rm_X10_told, rm_X10_turn, rm_X11_build, rm_X11_end, rm_X11_fault_, rm_X11_feed, rm_X11_hold, rm_X11_idle, rm_X11_init, rm_X11_isIdle, rm_X11_kept, rm_X11_late_, rm_X11_letter, rm_X11_mark, rm_X11_out, rm_X11_part, rm_X11_print, rm_X11_promise, rm_X11_release, rm_X11_row, rm_X11_thrown, rm_X11_told, rm_X11_turn, rm_X11_watermark]; omega)) (by first | omega | (simp only [rm_L_isIdle, rm_L_kept, rm_L_late, rm_L_out, rm_L_promise, rm_L_watermark, rm_X10_build, rm_X10_end, rm_X10_fault, rm_X10_feed, rm_X10_hold, rm_X10_idle, rm_X10_init, rm_X10_letter, rm_X10_mark, rm_X10_part, rm_X10_print, rm_X10_release, rm_X10_row, rm_X10_told, rm_X10_turn, rm_X11_build, rm_X11_end, rm_X11_fault_, rm_X11_feed, rm_X11_hold, rm_X11_idle, rm_X11_init, rm_X11_isIdle, rm_X11_kept, rm_X11_late_, rm_X11_letter, rm_X11_mark, rm_X11_out, rm_X11_part, rm_X11_print, rm_X11_promise, rm_X11_release, rm_X11_row, rm_X11_thrown, rm_X11_told, rm_X11_turn, rm_X11_watermark]; omega)) ?_
    exact zb_L_law_1153 hX hQ hnL hSc hcs hR23 h
  · have h := h2 hc
    refine z_iconst (v := (0 : Int32)) hX dL_law_216 (by decide) ?_
    refine z_widen 600002 7302232 (by first | omega | (simp only [rm_L_isIdle, rm_L_kept, rm_L_late, rm_L_out, rm_L_promise, rm_L_watermark, rm_X10_build, rm_X10_end, rm_X10_fault, rm_X10_feed, rm_X10_hold, rm_X10_idle, rm_X10_init, rm_X10_letter, rm_X10_mark, rm_X10_part, rm_X10_print, rm_X10_release, rm_X10_row, rm_X10_told, rm_X10_turn, rm_X11_build, rm_X11_end, rm_X11_fault_, rm_X11_feed, rm_X11_hold, rm_X11_idle, rm_X11_init, rm_X11_isIdle, rm_X11_kept, rm_X11_late_, rm_X11_letter, rm_X11_mark, rm_X11_out, rm_X11_part, rm_X11_print, rm_X11_promise, rm_X11_release, rm_X11_row, rm_X11_thrown, rm_X11_told, rm_X11_turn, rm_X11_watermark]; omega)) (by first | omega | (simp only [rm_L_isIdle, rm_L_kept, rm_L_late, rm_L_out, rm_L_promise, rm_L_watermark, rm_X10_build, rm_X10_end, rm_X10_fault, rm_X10_feed, rm_X10_hold, rm_X10_idle, rm_X10_init, rm_X10_letter, rm_X10_mark, rm_X10_part, rm_X10_print, rm_X10_release, rm_X10_row, rm_X10_told, rm_X10_turn, rm_X11_build, rm_X11_end, rm_X11_fault_, rm_X11_feed, rm_X11_hold, rm_X11_idle, rm_X11_init, rm_X11_isIdle, rm_X11_kept, rm_X11_late_, rm_X11_letter, rm_X11_mark, rm_X11_out, rm_X11_part, rm_X11_print, rm_X11_promise, rm_X11_release, rm_X11_row, rm_X11_thrown, rm_X11_told, rm_X11_turn, rm_X11_watermark]; omega)) ?_
    exact z_lwret hX hQ dL_law_217 h
def bk_L_law_218 (h0 L : Nat) (xs : Nat → Int32) (R23 : Option Nat → Option Nat → Option Nat → Int32 → Mm → Prop) (K : Int32 → Mm → Prop) (l1 : Option Nat) (l2 : Option Nat) (l3 : Option Nat) (l4 : Int32) (M : Mm) : Prop := ∃ a33, l1 = some a33 ∧ mK M a33 = 11 ∧ (wp_X10_fault M a33 (fun r31 M32 => ∃ a39, l2 = some a39 ∧ mK M32 a39 = 12 ∧ (wp_X11_fault_ M32 a39 (fun r37 M38 => ((r31 = r37 → (bk_L_law_1153 h0 L xs R23 K l1 l2 l3 l4 M38)) ∧ (¬ r31 = r37 → (K (0 : Int32) M38)))))))
set_option maxRecDepth 100000 in
set_option maxHeartbeats 4000000 in
theorem zb_L_law_218 {X : Cx} {h0 L : Nat} {xs : Nat → Int32} {R23 : Option Nat → Option Nat → Option Nat → Int32 → Mm → Prop} {K : Int32 → Mm → Prop} (hX : Ok X cL_law RL room_1) (hQ : RqL X h0 K) (hnL : X.2.2.2.2.2.2.2.2.2.2.2.2.2.2 = 8) (hSc : Scr X h0 L xs) {cc0 ss0 : Nat} (hcs : cc0 + 295 ≤ 2407 ∧ ss0 + 2288 ≤ 28584) (hR23 : ∀ l1 l2 l3 l4 M, R23 l1 l2 l3 l4 M → Z X M (cc0 + 295) (ss0 + 2288) 23 [(0, va_rf (some h0)), (1, va_rf l1), (2, va_rf l2), (3, va_rf l3), (4, .int l4)] []) {l1 : Option Nat} {l2 : Option Nat} {l3 : Option Nat} {l4 : Int32} {M : Mm} (h : bk_L_law_218 h0 L xs R23 K l1 l2 l3 l4 M) : Z X M (cc0 + 0) (ss0 + 0) 218 [(0, va_rf (some h0)), (1, va_rf l1), (2, va_rf l2), (3, va_rf l3), (4, .int l4)] [] := by
  unfold bk_L_law_218 at h
  refine z_aload_n (r := l1) hX dL_law_218 rfl 1 rfl ?_
  obtain ⟨a33, ha34, h⟩ := h
  obtain ⟨hk35, h⟩ := h
  refine z_callVI (As := []) (rest := []) (ci := 10) hX (ct_X10_fault h) mw_RL_51 rfl (by decide) rfl (by rw [ha34]; rfl) (by simp only [RoomC, room_1, rm_L_isIdle, rm_L_kept, rm_L_late, rm_L_out, rm_L_promise, rm_L_watermark, rm_X10_build, rm_X10_end, rm_X10_fault, rm_X10_feed, rm_X10_hold, rm_X10_idle, rm_X10_init, rm_X10_letter, rm_X10_mark, rm_X10_part, rm_X10_print, rm_X10_release, rm_X10_row, rm_X10_told, rm_X10_turn, rm_X11_build, rm_X11_end, rm_X11_fault_, rm_X11_feed, rm_X11_hold, rm_X11_idle, rm_X11_init, rm_X11_isIdle, rm_X11_kept, rm_X11_late_, rm_X11_letter, rm_X11_mark, rm_X11_out, rm_X11_part, rm_X11_print, rm_X11_promise, rm_X11_release, rm_X11_row, rm_X11_thrown, rm_X11_told, rm_X11_turn, rm_X11_watermark]; omega) (by decide) dL_law_219 hk35 (fun r31 M32 h => ?_)
  refine z_aload_n (r := l2) hX dL_law_222 rfl 2 rfl ?_
  obtain ⟨a39, ha40, h⟩ := h
  obtain ⟨hk41, h⟩ := h
  refine z_callVI (As := []) (rest := [.int r31]) (ci := 11) hX (ct_X11_fault_ h) mw_RL_54 rfl (by decide) rfl (by rw [ha40]; rfl) (by simp only [RoomC, room_1, rm_L_isIdle, rm_L_kept, rm_L_late, rm_L_out, rm_L_promise, rm_L_watermark, rm_X10_build, rm_X10_end, rm_X10_fault, rm_X10_feed, rm_X10_hold, rm_X10_idle, rm_X10_init, rm_X10_letter, rm_X10_mark, rm_X10_part, rm_X10_print, rm_X10_release, rm_X10_row, rm_X10_told, rm_X10_turn, rm_X11_build, rm_X11_end, rm_X11_fault_, rm_X11_feed, rm_X11_hold, rm_X11_idle, rm_X11_init, rm_X11_isIdle, rm_X11_kept, rm_X11_late_, rm_X11_letter, rm_X11_mark, rm_X11_out, rm_X11_part, rm_X11_print, rm_X11_promise, rm_X11_release, rm_X11_row, rm_X11_thrown, rm_X11_told, rm_X11_turn, rm_X11_watermark]; omega) (by simp only [List.map_cons, List.map_nil, List.sum_cons, List.sum_nil, cat_rf, cat_i, cat_j]; decide) dL_law_223 hk41 (fun r37 M38 h => ?_)
  obtain ⟨h1, h2⟩ := h
  refine z_icmp_eq (tgt := 1153) hX dL_law_226 (by decide) (fun hc => ?_) (fun hc => ?_)
  · have h := h1 hc
    refine z_widen (cc0 + 295) (ss0 + 2288) (by first | omega | (simp only [rm_L_isIdle, rm_L_kept, rm_L_late, rm_L_out, rm_L_promise, rm_L_watermark, rm_X10_build, rm_X10_end, rm_X10_fault, rm_X10_feed, rm_X10_hold, rm_X10_idle, rm_X10_init, rm_X10_letter, rm_X10_mark, rm_X10_part, rm_X10_print, rm_X10_release, rm_X10_row, rm_X10_told, rm_X10_turn, rm_X11_build, rm_X11_end, rm_X11_fault_, rm_X11_feed, rm_X11_hold, rm_X11_idle, rm_X11_init, rm_X11_isIdle, rm_X11_kept, rm_X11_late_, rm_X11_letter, rm_X11_mark, rm_X11_out, rm_X11_part, rm_X11_print, rm_X11_promise, rm_X11_release, rm_X11_row, rm_X11_thrown, rm_X11_told, rm_X11_turn, rm_X11_watermark]; omega)) (by first | omega | (simp only [rm_L_isIdle, rm_L_kept, rm_L_late, rm_L_out, rm_L_promise, rm_L_watermark, rm_X10_build, rm_X10_end, rm_X10_fault, rm_X10_feed, rm_X10_hold, rm_X10_idle, rm_X10_init, rm_X10_letter, rm_X10_mark, rm_X10_part, rm_X10_print, rm_X10_release, rm_X10_row, rm_X10_told, rm_X10_turn, rm_X11_build, rm_X11_end, rm_X11_fault_, rm_X11_feed, rm_X11_hold, rm_X11_idle, rm_X11_init, rm_X11_isIdle, rm_X11_kept, rm_X11_late_, rm_X11_letter, rm_X11_mark, rm_X11_out, rm_X11_part, rm_X11_print, rm_X11_promise, rm_X11_release, rm_X11_row, rm_X11_thrown, rm_X11_told, rm_X11_turn, rm_X11_watermark]; omega)) ?_
    exact zb_L_law_1153 hX hQ hnL hSc hcs hR23 h
  · have h := h2 hc
    refine z_iconst (v := (0 : Int32)) hX dL_law_229 (by decide) ?_
    refine z_widen 600002 7302232 (by first | omega | (simp only [rm_L_isIdle, rm_L_kept, rm_L_late, rm_L_out, rm_L_promise, rm_L_watermark, rm_X10_build, rm_X10_end, rm_X10_fault, rm_X10_feed, rm_X10_hold, rm_X10_idle, rm_X10_init, rm_X10_letter, rm_X10_mark, rm_X10_part, rm_X10_print, rm_X10_release, rm_X10_row, rm_X10_told, rm_X10_turn, rm_X11_build, rm_X11_end, rm_X11_fault_, rm_X11_feed, rm_X11_hold, rm_X11_idle, rm_X11_init, rm_X11_isIdle, rm_X11_kept, rm_X11_late_, rm_X11_letter, rm_X11_mark, rm_X11_out, rm_X11_part, rm_X11_print, rm_X11_promise, rm_X11_release, rm_X11_row, rm_X11_thrown, rm_X11_told, rm_X11_turn, rm_X11_watermark]; omega)) (by first | omega | (simp only [rm_L_isIdle, rm_L_kept, rm_L_late, rm_L_out, rm_L_promise, rm_L_watermark, rm_X10_build, rm_X10_end, rm_X10_fault, rm_X10_feed, rm_X10_hold, rm_X10_idle, rm_X10_init, rm_X10_letter, rm_X10_mark, rm_X10_part, rm_X10_print, rm_X10_release, rm_X10_row, rm_X10_told, rm_X10_turn, rm_X11_build, rm_X11_end, rm_X11_fault_, rm_X11_feed, rm_X11_hold, rm_X11_idle, rm_X11_init, rm_X11_isIdle, rm_X11_kept, rm_X11_late_, rm_X11_letter, rm_X11_mark, rm_X11_out, rm_X11_part, rm_X11_print, rm_X11_promise, rm_X11_release, rm_X11_row, rm_X11_thrown, rm_X11_told, rm_X11_turn, rm_X11_watermark]; omega)) ?_
    exact z_lwret hX hQ dL_law_230 h
def bk_L_law_231 (h0 L : Nat) (xs : Nat → Int32) (R23 : Option Nat → Option Nat → Option Nat → Int32 → Mm → Prop) (K : Int32 → Mm → Prop) (l1 : Option Nat) (l2 : Option Nat) (l3 : Option Nat) (l4 : Int32) (M : Mm) : Prop := vp_in (l4 + (1 : Int32)) L ∧ vp_in (l4 + (2 : Int32)) L ∧ vp_in (l4 + (3 : Int32)) L ∧ vp_in (l4 + (4 : Int32)) L ∧ vp_in (l4 + (5 : Int32)) L ∧ ∃ a50, l1 = some a50 ∧ mK M a50 = 11 ∧ (wp_X10_row M a50 (xs ((l4 + (1 : Int32))).toNatClampNeg) (xs ((l4 + (2 : Int32))).toNatClampNeg) (((((xs ((l4 + (3 : Int32))).toNatClampNeg)).toInt64) <<< (((32 : Int32)).toInt64 &&& 63)) ||| ((((xs ((l4 + (4 : Int32))).toNatClampNeg)).toInt64) &&& (4294967295 : Int64))) (xs ((l4 + (5 : Int32))).toNatClampNeg) (fun r48 M49 => vp_in (l4 + (1 : Int32)) L ∧ vp_in (l4 + (2 : Int32)) L ∧ vp_in (l4 + (3 : Int32)) L ∧ vp_in (l4 + (4 : Int32)) L ∧ vp_in (l4 + (5 : Int32)) L ∧ ∃ a61, l2 = some a61 ∧ mK M49 a61 = 12 ∧ (wp_X11_row M49 a61 (xs ((l4 + (1 : Int32))).toNatClampNeg) (xs ((l4 + (2 : Int32))).toNatClampNeg) (((((xs ((l4 + (3 : Int32))).toNatClampNeg)).toInt64) <<< (((32 : Int32)).toInt64 &&& 63)) ||| ((((xs ((l4 + (4 : Int32))).toNatClampNeg)).toInt64) &&& (4294967295 : Int64))) (xs ((l4 + (5 : Int32))).toNatClampNeg) (fun r59 M60 => ((r48 = r59 → (bk_L_law_1153 h0 L xs R23 K l1 l2 l3 l4 M60)) ∧ (¬ r48 = r59 → (K (0 : Int32) M60)))))))
set_option maxRecDepth 100000 in
set_option maxHeartbeats 4000000 in
theorem zb_L_law_231 {X : Cx} {h0 L : Nat} {xs : Nat → Int32} {R23 : Option Nat → Option Nat → Option Nat → Int32 → Mm → Prop} {K : Int32 → Mm → Prop} (hX : Ok X cL_law RL room_1) (hQ : RqL X h0 K) (hnL : X.2.2.2.2.2.2.2.2.2.2.2.2.2.2 = 8) (hSc : Scr X h0 L xs) {cc0 ss0 : Nat} (hcs : cc0 + 295 ≤ 2407 ∧ ss0 + 2288 ≤ 28584) (hR23 : ∀ l1 l2 l3 l4 M, R23 l1 l2 l3 l4 M → Z X M (cc0 + 295) (ss0 + 2288) 23 [(0, va_rf (some h0)), (1, va_rf l1), (2, va_rf l2), (3, va_rf l3), (4, .int l4)] []) {l1 : Option Nat} {l2 : Option Nat} {l3 : Option Nat} {l4 : Int32} {M : Mm} (h : bk_L_law_231 h0 L xs R23 K l1 l2 l3 l4 M) : Z X M (cc0 + 0) (ss0 + 0) 231 [(0, va_rf (some h0)), (1, va_rf l1), (2, va_rf l2), (3, va_rf l3), (4, .int l4)] [] := by
  unfold bk_L_law_231 at h
  refine z_aload_n (r := l1) hX dL_law_231 rfl 1 rfl ?_
  refine z_aload_n (r := (some h0)) hX dL_law_232 rfl 0 rfl ?_
  refine z_iload hX dL_law_233 4 rfl ?_
  refine z_iconst (v := (1 : Int32)) hX dL_law_235 (by decide) ?_
  refine z_iadd hX dL_law_236 ?_
  obtain ⟨hc43, h⟩ := h
  refine z_sld hX hSc dL_law_237 hc43 ?_
  refine z_aload_n (r := (some h0)) hX dL_law_238 rfl 0 rfl ?_
  refine z_iload hX dL_law_239 4 rfl ?_
  refine z_iconst (v := (2 : Int32)) hX dL_law_241 (by decide) ?_
  refine z_iadd hX dL_law_242 ?_
  obtain ⟨hc44, h⟩ := h
  refine z_sld hX hSc dL_law_243 hc44 ?_
  refine z_aload_n (r := (some h0)) hX dL_law_244 rfl 0 rfl ?_
  refine z_iload hX dL_law_245 4 rfl ?_
  refine z_iconst (v := (3 : Int32)) hX dL_law_247 (by decide) ?_
  refine z_iadd hX dL_law_248 ?_
  obtain ⟨hc45, h⟩ := h
  refine z_sld hX hSc dL_law_249 hc45 ?_
  refine z_i2l hX dL_law_250 ?_
  refine z_bipush (v := (32 : Int32)) hX dL_law_251 (by decide) ?_
  refine z_lshl hX dL_law_253 ?_
  refine z_aload_n (r := (some h0)) hX dL_law_254 rfl 0 rfl ?_
  refine z_iload hX dL_law_255 4 rfl ?_
  refine z_iconst (v := (4 : Int32)) hX dL_law_257 (by decide) ?_
  refine z_iadd hX dL_law_258 ?_
  obtain ⟨hc46, h⟩ := h
  refine z_sld hX hSc dL_law_259 hc46 ?_
  refine z_i2l hX dL_law_260 ?_
  refine z_ldc2 (v := (4294967295 : Int64)) hX dL_law_261 kj_RL_39 ?_
  refine z_land hX dL_law_264 ?_
  refine z_lor hX dL_law_265 ?_
  refine z_aload_n (r := (some h0)) hX dL_law_266 rfl 0 rfl ?_
  refine z_iload hX dL_law_267 4 rfl ?_
  refine z_iconst (v := (5 : Int32)) hX dL_law_269 (by decide) ?_
  refine z_iadd hX dL_law_270 ?_
  obtain ⟨hc47, h⟩ := h
  refine z_sld hX hSc dL_law_271 hc47 ?_
  obtain ⟨a50, ha51, h⟩ := h
  obtain ⟨hk52, h⟩ := h
  refine z_callVI (As := [.int (xs ((l4 + (1 : Int32))).toNatClampNeg), .int (xs ((l4 + (2 : Int32))).toNatClampNeg), .long (((((xs ((l4 + (3 : Int32))).toNatClampNeg)).toInt64) <<< (((32 : Int32)).toInt64 &&& 63)) ||| ((((xs ((l4 + (4 : Int32))).toNatClampNeg)).toInt64) &&& (4294967295 : Int64))), .int (xs ((l4 + (5 : Int32))).toNatClampNeg)]) (rest := []) (ci := 10) hX (ct_X10_row h) mw_RL_55 rfl (by decide) rfl (by rw [ha51]; rfl) (by simp only [RoomC, room_1, rm_L_isIdle, rm_L_kept, rm_L_late, rm_L_out, rm_L_promise, rm_L_watermark, rm_X10_build, rm_X10_end, rm_X10_fault, rm_X10_feed, rm_X10_hold, rm_X10_idle, rm_X10_init, rm_X10_letter, rm_X10_mark, rm_X10_part, rm_X10_print, rm_X10_release, rm_X10_row, rm_X10_told, rm_X10_turn, rm_X11_build, rm_X11_end, rm_X11_fault_, rm_X11_feed, rm_X11_hold, rm_X11_idle, rm_X11_init, rm_X11_isIdle, rm_X11_kept, rm_X11_late_, rm_X11_letter, rm_X11_mark, rm_X11_out, rm_X11_part, rm_X11_print, rm_X11_promise, rm_X11_release, rm_X11_row, rm_X11_thrown, rm_X11_told, rm_X11_turn, rm_X11_watermark]; omega) (by decide) dL_law_272 hk52 (fun r48 M49 h => ?_)
  refine z_aload_n (r := l2) hX dL_law_275 rfl 2 rfl ?_
  refine z_aload_n (r := (some h0)) hX dL_law_276 rfl 0 rfl ?_
  refine z_iload hX dL_law_277 4 rfl ?_
  refine z_iconst (v := (1 : Int32)) hX dL_law_279 (by decide) ?_
  refine z_iadd hX dL_law_280 ?_
  obtain ⟨hc54, h⟩ := h
  refine z_sld hX hSc dL_law_281 hc54 ?_
  refine z_aload_n (r := (some h0)) hX dL_law_282 rfl 0 rfl ?_
  refine z_iload hX dL_law_283 4 rfl ?_
  refine z_iconst (v := (2 : Int32)) hX dL_law_285 (by decide) ?_
  refine z_iadd hX dL_law_286 ?_
  obtain ⟨hc55, h⟩ := h
  refine z_sld hX hSc dL_law_287 hc55 ?_
  refine z_aload_n (r := (some h0)) hX dL_law_288 rfl 0 rfl ?_
  refine z_iload hX dL_law_289 4 rfl ?_
  refine z_iconst (v := (3 : Int32)) hX dL_law_291 (by decide) ?_
  refine z_iadd hX dL_law_292 ?_
  obtain ⟨hc56, h⟩ := h
  refine z_sld hX hSc dL_law_293 hc56 ?_
  refine z_i2l hX dL_law_294 ?_
  refine z_bipush (v := (32 : Int32)) hX dL_law_295 (by decide) ?_
  refine z_lshl hX dL_law_297 ?_
  refine z_aload_n (r := (some h0)) hX dL_law_298 rfl 0 rfl ?_
  refine z_iload hX dL_law_299 4 rfl ?_
  refine z_iconst (v := (4 : Int32)) hX dL_law_301 (by decide) ?_
  refine z_iadd hX dL_law_302 ?_
  obtain ⟨hc57, h⟩ := h
  refine z_sld hX hSc dL_law_303 hc57 ?_
  refine z_i2l hX dL_law_304 ?_
  refine z_ldc2 (v := (4294967295 : Int64)) hX dL_law_305 kj_RL_39 ?_
  refine z_land hX dL_law_308 ?_
  refine z_lor hX dL_law_309 ?_
  refine z_aload_n (r := (some h0)) hX dL_law_310 rfl 0 rfl ?_
  refine z_iload hX dL_law_311 4 rfl ?_
  refine z_iconst (v := (5 : Int32)) hX dL_law_313 (by decide) ?_
  refine z_iadd hX dL_law_314 ?_
  obtain ⟨hc58, h⟩ := h
  refine z_sld hX hSc dL_law_315 hc58 ?_
  obtain ⟨a61, ha62, h⟩ := h
  obtain ⟨hk63, h⟩ := h
  refine z_callVI (As := [.int (xs ((l4 + (1 : Int32))).toNatClampNeg), .int (xs ((l4 + (2 : Int32))).toNatClampNeg), .long (((((xs ((l4 + (3 : Int32))).toNatClampNeg)).toInt64) <<< (((32 : Int32)).toInt64 &&& 63)) ||| ((((xs ((l4 + (4 : Int32))).toNatClampNeg)).toInt64) &&& (4294967295 : Int64))), .int (xs ((l4 + (5 : Int32))).toNatClampNeg)]) (rest := [.int r48]) (ci := 11) hX (ct_X11_row h) mw_RL_59 rfl (by decide) rfl (by rw [ha62]; rfl) (by simp only [RoomC, room_1, rm_L_isIdle, rm_L_kept, rm_L_late, rm_L_out, rm_L_promise, rm_L_watermark, rm_X10_build, rm_X10_end, rm_X10_fault, rm_X10_feed, rm_X10_hold, rm_X10_idle, rm_X10_init, rm_X10_letter, rm_X10_mark, rm_X10_part, rm_X10_print, rm_X10_release, rm_X10_row, rm_X10_told, rm_X10_turn, rm_X11_build, rm_X11_end, rm_X11_fault_, rm_X11_feed, rm_X11_hold, rm_X11_idle, rm_X11_init, rm_X11_isIdle, rm_X11_kept, rm_X11_late_, rm_X11_letter, rm_X11_mark, rm_X11_out, rm_X11_part, rm_X11_print, rm_X11_promise, rm_X11_release, rm_X11_row, rm_X11_thrown, rm_X11_told, rm_X11_turn, rm_X11_watermark]; omega) (by simp only [List.map_cons, List.map_nil, List.sum_cons, List.sum_nil, cat_rf, cat_i, cat_j]; decide) dL_law_316 hk63 (fun r59 M60 h => ?_)
  obtain ⟨h1, h2⟩ := h
  refine z_icmp_eq (tgt := 1153) hX dL_law_319 (by decide) (fun hc => ?_) (fun hc => ?_)
  · have h := h1 hc
    refine z_widen (cc0 + 295) (ss0 + 2288) (by first | omega | (simp only [rm_L_isIdle, rm_L_kept, rm_L_late, rm_L_out, rm_L_promise, rm_L_watermark, rm_X10_build, rm_X10_end, rm_X10_fault, rm_X10_feed, rm_X10_hold, rm_X10_idle, rm_X10_init, rm_X10_letter, rm_X10_mark, rm_X10_part, rm_X10_print, rm_X10_release, rm_X10_row, rm_X10_told, rm_X10_turn, rm_X11_build, rm_X11_end, rm_X11_fault_, rm_X11_feed, rm_X11_hold, rm_X11_idle, rm_X11_init, rm_X11_isIdle, rm_X11_kept, rm_X11_late_, rm_X11_letter, rm_X11_mark, rm_X11_out, rm_X11_part, rm_X11_print, rm_X11_promise, rm_X11_release, rm_X11_row, rm_X11_thrown, rm_X11_told, rm_X11_turn, rm_X11_watermark]; omega)) (by first | omega | (simp only [rm_L_isIdle, rm_L_kept, rm_L_late, rm_L_out, rm_L_promise, rm_L_watermark, rm_X10_build, rm_X10_end, rm_X10_fault, rm_X10_feed, rm_X10_hold, rm_X10_idle, rm_X10_init, rm_X10_letter, rm_X10_mark, rm_X10_part, rm_X10_print, rm_X10_release, rm_X10_row, rm_X10_told, rm_X10_turn, rm_X11_build, rm_X11_end, rm_X11_fault_, rm_X11_feed, rm_X11_hold, rm_X11_idle, rm_X11_init, rm_X11_isIdle, rm_X11_kept, rm_X11_late_, rm_X11_letter, rm_X11_mark, rm_X11_out, rm_X11_part, rm_X11_print, rm_X11_promise, rm_X11_release, rm_X11_row, rm_X11_thrown, rm_X11_told, rm_X11_turn, rm_X11_watermark]; omega)) ?_
    exact zb_L_law_1153 hX hQ hnL hSc hcs hR23 h
  · have h := h2 hc
    refine z_iconst (v := (0 : Int32)) hX dL_law_322 (by decide) ?_
    refine z_widen 600002 7302232 (by first | omega | (simp only [rm_L_isIdle, rm_L_kept, rm_L_late, rm_L_out, rm_L_promise, rm_L_watermark, rm_X10_build, rm_X10_end, rm_X10_fault, rm_X10_feed, rm_X10_hold, rm_X10_idle, rm_X10_init, rm_X10_letter, rm_X10_mark, rm_X10_part, rm_X10_print, rm_X10_release, rm_X10_row, rm_X10_told, rm_X10_turn, rm_X11_build, rm_X11_end, rm_X11_fault_, rm_X11_feed, rm_X11_hold, rm_X11_idle, rm_X11_init, rm_X11_isIdle, rm_X11_kept, rm_X11_late_, rm_X11_letter, rm_X11_mark, rm_X11_out, rm_X11_part, rm_X11_print, rm_X11_promise, rm_X11_release, rm_X11_row, rm_X11_thrown, rm_X11_told, rm_X11_turn, rm_X11_watermark]; omega)) (by first | omega | (simp only [rm_L_isIdle, rm_L_kept, rm_L_late, rm_L_out, rm_L_promise, rm_L_watermark, rm_X10_build, rm_X10_end, rm_X10_fault, rm_X10_feed, rm_X10_hold, rm_X10_idle, rm_X10_init, rm_X10_letter, rm_X10_mark, rm_X10_part, rm_X10_print, rm_X10_release, rm_X10_row, rm_X10_told, rm_X10_turn, rm_X11_build, rm_X11_end, rm_X11_fault_, rm_X11_feed, rm_X11_hold, rm_X11_idle, rm_X11_init, rm_X11_isIdle, rm_X11_kept, rm_X11_late_, rm_X11_letter, rm_X11_mark, rm_X11_out, rm_X11_part, rm_X11_print, rm_X11_promise, rm_X11_release, rm_X11_row, rm_X11_thrown, rm_X11_told, rm_X11_turn, rm_X11_watermark]; omega)) ?_
    exact z_lwret hX hQ dL_law_323 h
def bk_L_law_324 (h0 L : Nat) (xs : Nat → Int32) (R23 : Option Nat → Option Nat → Option Nat → Int32 → Mm → Prop) (K : Int32 → Mm → Prop) (l1 : Option Nat) (l2 : Option Nat) (l3 : Option Nat) (l4 : Int32) (M : Mm) : Prop := vp_in (l4 + (1 : Int32)) L ∧ vp_in (l4 + (2 : Int32)) L ∧ vp_in (l4 + (3 : Int32)) L ∧ vp_in (l4 + (4 : Int32)) L ∧ ∃ a71, l1 = some a71 ∧ mK M a71 = 11 ∧ (wp_X10_mark M a71 (xs ((l4 + (1 : Int32))).toNatClampNeg) (xs ((l4 + (2 : Int32))).toNatClampNeg) (((((xs ((l4 + (3 : Int32))).toNatClampNeg)).toInt64) <<< (((32 : Int32)).toInt64 &&& 63)) ||| ((((xs ((l4 + (4 : Int32))).toNatClampNeg)).toInt64) &&& (4294967295 : Int64))) (fun r69 M70 => vp_in (l4 + (1 : Int32)) L ∧ vp_in (l4 + (2 : Int32)) L ∧ vp_in (l4 + (3 : Int32)) L ∧ vp_in (l4 + (4 : Int32)) L ∧ ∃ a81, l2 = some a81 ∧ mK M70 a81 = 12 ∧ (wp_X11_mark M70 a81 (xs ((l4 + (1 : Int32))).toNatClampNeg) (xs ((l4 + (2 : Int32))).toNatClampNeg) (((((xs ((l4 + (3 : Int32))).toNatClampNeg)).toInt64) <<< (((32 : Int32)).toInt64 &&& 63)) ||| ((((xs ((l4 + (4 : Int32))).toNatClampNeg)).toInt64) &&& (4294967295 : Int64))) (fun r79 M80 => ((r69 = r79 → (bk_L_law_1153 h0 L xs R23 K l1 l2 l3 l4 M80)) ∧ (¬ r69 = r79 → (K (0 : Int32) M80)))))))
set_option maxRecDepth 100000 in
set_option maxHeartbeats 4000000 in
theorem zb_L_law_324 {X : Cx} {h0 L : Nat} {xs : Nat → Int32} {R23 : Option Nat → Option Nat → Option Nat → Int32 → Mm → Prop} {K : Int32 → Mm → Prop} (hX : Ok X cL_law RL room_1) (hQ : RqL X h0 K) (hnL : X.2.2.2.2.2.2.2.2.2.2.2.2.2.2 = 8) (hSc : Scr X h0 L xs) {cc0 ss0 : Nat} (hcs : cc0 + 295 ≤ 2407 ∧ ss0 + 2288 ≤ 28584) (hR23 : ∀ l1 l2 l3 l4 M, R23 l1 l2 l3 l4 M → Z X M (cc0 + 295) (ss0 + 2288) 23 [(0, va_rf (some h0)), (1, va_rf l1), (2, va_rf l2), (3, va_rf l3), (4, .int l4)] []) {l1 : Option Nat} {l2 : Option Nat} {l3 : Option Nat} {l4 : Int32} {M : Mm} (h : bk_L_law_324 h0 L xs R23 K l1 l2 l3 l4 M) : Z X M (cc0 + 0) (ss0 + 0) 324 [(0, va_rf (some h0)), (1, va_rf l1), (2, va_rf l2), (3, va_rf l3), (4, .int l4)] [] := by
  unfold bk_L_law_324 at h
  refine z_aload_n (r := l1) hX dL_law_324 rfl 1 rfl ?_
  refine z_aload_n (r := (some h0)) hX dL_law_325 rfl 0 rfl ?_
  refine z_iload hX dL_law_326 4 rfl ?_
  refine z_iconst (v := (1 : Int32)) hX dL_law_328 (by decide) ?_
  refine z_iadd hX dL_law_329 ?_
  obtain ⟨hc65, h⟩ := h
  refine z_sld hX hSc dL_law_330 hc65 ?_
  refine z_aload_n (r := (some h0)) hX dL_law_331 rfl 0 rfl ?_
  refine z_iload hX dL_law_332 4 rfl ?_
  refine z_iconst (v := (2 : Int32)) hX dL_law_334 (by decide) ?_
  refine z_iadd hX dL_law_335 ?_
  obtain ⟨hc66, h⟩ := h
  refine z_sld hX hSc dL_law_336 hc66 ?_
  refine z_aload_n (r := (some h0)) hX dL_law_337 rfl 0 rfl ?_
  refine z_iload hX dL_law_338 4 rfl ?_
  refine z_iconst (v := (3 : Int32)) hX dL_law_340 (by decide) ?_
  refine z_iadd hX dL_law_341 ?_
  obtain ⟨hc67, h⟩ := h
  refine z_sld hX hSc dL_law_342 hc67 ?_
  refine z_i2l hX dL_law_343 ?_
  refine z_bipush (v := (32 : Int32)) hX dL_law_344 (by decide) ?_
  refine z_lshl hX dL_law_346 ?_
  refine z_aload_n (r := (some h0)) hX dL_law_347 rfl 0 rfl ?_
  refine z_iload hX dL_law_348 4 rfl ?_
  refine z_iconst (v := (4 : Int32)) hX dL_law_350 (by decide) ?_
  refine z_iadd hX dL_law_351 ?_
  obtain ⟨hc68, h⟩ := h
  refine z_sld hX hSc dL_law_352 hc68 ?_
  refine z_i2l hX dL_law_353 ?_
  refine z_ldc2 (v := (4294967295 : Int64)) hX dL_law_354 kj_RL_39 ?_
  refine z_land hX dL_law_357 ?_
  refine z_lor hX dL_law_358 ?_
  obtain ⟨a71, ha72, h⟩ := h
  obtain ⟨hk73, h⟩ := h
  refine z_callVI (As := [.int (xs ((l4 + (1 : Int32))).toNatClampNeg), .int (xs ((l4 + (2 : Int32))).toNatClampNeg), .long (((((xs ((l4 + (3 : Int32))).toNatClampNeg)).toInt64) <<< (((32 : Int32)).toInt64 &&& 63)) ||| ((((xs ((l4 + (4 : Int32))).toNatClampNeg)).toInt64) &&& (4294967295 : Int64)))]) (rest := []) (ci := 10) hX (ct_X10_mark h) mw_RL_60 rfl (by decide) rfl (by rw [ha72]; rfl) (by simp only [RoomC, room_1, rm_L_isIdle, rm_L_kept, rm_L_late, rm_L_out, rm_L_promise, rm_L_watermark, rm_X10_build, rm_X10_end, rm_X10_fault, rm_X10_feed, rm_X10_hold, rm_X10_idle, rm_X10_init, rm_X10_letter, rm_X10_mark, rm_X10_part, rm_X10_print, rm_X10_release, rm_X10_row, rm_X10_told, rm_X10_turn, rm_X11_build, rm_X11_end, rm_X11_fault_, rm_X11_feed, rm_X11_hold, rm_X11_idle, rm_X11_init, rm_X11_isIdle, rm_X11_kept, rm_X11_late_, rm_X11_letter, rm_X11_mark, rm_X11_out, rm_X11_part, rm_X11_print, rm_X11_promise, rm_X11_release, rm_X11_row, rm_X11_thrown, rm_X11_told, rm_X11_turn, rm_X11_watermark]; omega) (by decide) dL_law_359 hk73 (fun r69 M70 h => ?_)
  refine z_aload_n (r := l2) hX dL_law_362 rfl 2 rfl ?_
  refine z_aload_n (r := (some h0)) hX dL_law_363 rfl 0 rfl ?_
  refine z_iload hX dL_law_364 4 rfl ?_
  refine z_iconst (v := (1 : Int32)) hX dL_law_366 (by decide) ?_
  refine z_iadd hX dL_law_367 ?_
  obtain ⟨hc75, h⟩ := h
  refine z_sld hX hSc dL_law_368 hc75 ?_
  refine z_aload_n (r := (some h0)) hX dL_law_369 rfl 0 rfl ?_
  refine z_iload hX dL_law_370 4 rfl ?_
  refine z_iconst (v := (2 : Int32)) hX dL_law_372 (by decide) ?_
  refine z_iadd hX dL_law_373 ?_
  obtain ⟨hc76, h⟩ := h
  refine z_sld hX hSc dL_law_374 hc76 ?_
  refine z_aload_n (r := (some h0)) hX dL_law_375 rfl 0 rfl ?_
  refine z_iload hX dL_law_376 4 rfl ?_
  refine z_iconst (v := (3 : Int32)) hX dL_law_378 (by decide) ?_
  refine z_iadd hX dL_law_379 ?_
  obtain ⟨hc77, h⟩ := h
  refine z_sld hX hSc dL_law_380 hc77 ?_
  refine z_i2l hX dL_law_381 ?_
  refine z_bipush (v := (32 : Int32)) hX dL_law_382 (by decide) ?_
  refine z_lshl hX dL_law_384 ?_
  refine z_aload_n (r := (some h0)) hX dL_law_385 rfl 0 rfl ?_
  refine z_iload hX dL_law_386 4 rfl ?_
  refine z_iconst (v := (4 : Int32)) hX dL_law_388 (by decide) ?_
  refine z_iadd hX dL_law_389 ?_
  obtain ⟨hc78, h⟩ := h
  refine z_sld hX hSc dL_law_390 hc78 ?_
  refine z_i2l hX dL_law_391 ?_
  refine z_ldc2 (v := (4294967295 : Int64)) hX dL_law_392 kj_RL_39 ?_
  refine z_land hX dL_law_395 ?_
  refine z_lor hX dL_law_396 ?_
  obtain ⟨a81, ha82, h⟩ := h
  obtain ⟨hk83, h⟩ := h
  refine z_callVI (As := [.int (xs ((l4 + (1 : Int32))).toNatClampNeg), .int (xs ((l4 + (2 : Int32))).toNatClampNeg), .long (((((xs ((l4 + (3 : Int32))).toNatClampNeg)).toInt64) <<< (((32 : Int32)).toInt64 &&& 63)) ||| ((((xs ((l4 + (4 : Int32))).toNatClampNeg)).toInt64) &&& (4294967295 : Int64)))]) (rest := [.int r69]) (ci := 11) hX (ct_X11_mark h) mw_RL_64 rfl (by decide) rfl (by rw [ha82]; rfl) (by simp only [RoomC, room_1, rm_L_isIdle, rm_L_kept, rm_L_late, rm_L_out, rm_L_promise, rm_L_watermark, rm_X10_build, rm_X10_end, rm_X10_fault, rm_X10_feed, rm_X10_hold, rm_X10_idle, rm_X10_init, rm_X10_letter, rm_X10_mark, rm_X10_part, rm_X10_print, rm_X10_release, rm_X10_row, rm_X10_told, rm_X10_turn, rm_X11_build, rm_X11_end, rm_X11_fault_, rm_X11_feed, rm_X11_hold, rm_X11_idle, rm_X11_init, rm_X11_isIdle, rm_X11_kept, rm_X11_late_, rm_X11_letter, rm_X11_mark, rm_X11_out, rm_X11_part, rm_X11_print, rm_X11_promise, rm_X11_release, rm_X11_row, rm_X11_thrown, rm_X11_told, rm_X11_turn, rm_X11_watermark]; omega) (by simp only [List.map_cons, List.map_nil, List.sum_cons, List.sum_nil, cat_rf, cat_i, cat_j]; decide) dL_law_397 hk83 (fun r79 M80 h => ?_)
  obtain ⟨h1, h2⟩ := h
  refine z_icmp_eq (tgt := 1153) hX dL_law_400 (by decide) (fun hc => ?_) (fun hc => ?_)
  · have h := h1 hc
    refine z_widen (cc0 + 295) (ss0 + 2288) (by first | omega | (simp only [rm_L_isIdle, rm_L_kept, rm_L_late, rm_L_out, rm_L_promise, rm_L_watermark, rm_X10_build, rm_X10_end, rm_X10_fault, rm_X10_feed, rm_X10_hold, rm_X10_idle, rm_X10_init, rm_X10_letter, rm_X10_mark, rm_X10_part, rm_X10_print, rm_X10_release, rm_X10_row, rm_X10_told, rm_X10_turn, rm_X11_build, rm_X11_end, rm_X11_fault_, rm_X11_feed, rm_X11_hold, rm_X11_idle, rm_X11_init, rm_X11_isIdle, rm_X11_kept, rm_X11_late_, rm_X11_letter, rm_X11_mark, rm_X11_out, rm_X11_part, rm_X11_print, rm_X11_promise, rm_X11_release, rm_X11_row, rm_X11_thrown, rm_X11_told, rm_X11_turn, rm_X11_watermark]; omega)) (by first | omega | (simp only [rm_L_isIdle, rm_L_kept, rm_L_late, rm_L_out, rm_L_promise, rm_L_watermark, rm_X10_build, rm_X10_end, rm_X10_fault, rm_X10_feed, rm_X10_hold, rm_X10_idle, rm_X10_init, rm_X10_letter, rm_X10_mark, rm_X10_part, rm_X10_print, rm_X10_release, rm_X10_row, rm_X10_told, rm_X10_turn, rm_X11_build, rm_X11_end, rm_X11_fault_, rm_X11_feed, rm_X11_hold, rm_X11_idle, rm_X11_init, rm_X11_isIdle, rm_X11_kept, rm_X11_late_, rm_X11_letter, rm_X11_mark, rm_X11_out, rm_X11_part, rm_X11_print, rm_X11_promise, rm_X11_release, rm_X11_row, rm_X11_thrown, rm_X11_told, rm_X11_turn, rm_X11_watermark]; omega)) ?_
    exact zb_L_law_1153 hX hQ hnL hSc hcs hR23 h
  · have h := h2 hc
    refine z_iconst (v := (0 : Int32)) hX dL_law_403 (by decide) ?_
    refine z_widen 600002 7302232 (by first | omega | (simp only [rm_L_isIdle, rm_L_kept, rm_L_late, rm_L_out, rm_L_promise, rm_L_watermark, rm_X10_build, rm_X10_end, rm_X10_fault, rm_X10_feed, rm_X10_hold, rm_X10_idle, rm_X10_init, rm_X10_letter, rm_X10_mark, rm_X10_part, rm_X10_print, rm_X10_release, rm_X10_row, rm_X10_told, rm_X10_turn, rm_X11_build, rm_X11_end, rm_X11_fault_, rm_X11_feed, rm_X11_hold, rm_X11_idle, rm_X11_init, rm_X11_isIdle, rm_X11_kept, rm_X11_late_, rm_X11_letter, rm_X11_mark, rm_X11_out, rm_X11_part, rm_X11_print, rm_X11_promise, rm_X11_release, rm_X11_row, rm_X11_thrown, rm_X11_told, rm_X11_turn, rm_X11_watermark]; omega)) (by first | omega | (simp only [rm_L_isIdle, rm_L_kept, rm_L_late, rm_L_out, rm_L_promise, rm_L_watermark, rm_X10_build, rm_X10_end, rm_X10_fault, rm_X10_feed, rm_X10_hold, rm_X10_idle, rm_X10_init, rm_X10_letter, rm_X10_mark, rm_X10_part, rm_X10_print, rm_X10_release, rm_X10_row, rm_X10_told, rm_X10_turn, rm_X11_build, rm_X11_end, rm_X11_fault_, rm_X11_feed, rm_X11_hold, rm_X11_idle, rm_X11_init, rm_X11_isIdle, rm_X11_kept, rm_X11_late_, rm_X11_letter, rm_X11_mark, rm_X11_out, rm_X11_part, rm_X11_print, rm_X11_promise, rm_X11_release, rm_X11_row, rm_X11_thrown, rm_X11_told, rm_X11_turn, rm_X11_watermark]; omega)) ?_
    exact z_lwret hX hQ dL_law_404 h
def bk_L_law_405 (h0 L : Nat) (xs : Nat → Int32) (R23 : Option Nat → Option Nat → Option Nat → Int32 → Mm → Prop) (K : Int32 → Mm → Prop) (l1 : Option Nat) (l2 : Option Nat) (l3 : Option Nat) (l4 : Int32) (M : Mm) : Prop := vp_in (l4 + (1 : Int32)) L ∧ vp_in (l4 + (2 : Int32)) L ∧ ∃ a89, l1 = some a89 ∧ mK M a89 = 11 ∧ (wp_X10_end M a89 (xs ((l4 + (1 : Int32))).toNatClampNeg) (xs ((l4 + (2 : Int32))).toNatClampNeg) (fun r87 M88 => vp_in (l4 + (1 : Int32)) L ∧ vp_in (l4 + (2 : Int32)) L ∧ ∃ a97, l2 = some a97 ∧ mK M88 a97 = 12 ∧ (wp_X11_end M88 a97 (xs ((l4 + (1 : Int32))).toNatClampNeg) (xs ((l4 + (2 : Int32))).toNatClampNeg) (fun r95 M96 => ((r87 = r95 → (bk_L_law_1153 h0 L xs R23 K l1 l2 l3 l4 M96)) ∧ (¬ r87 = r95 → (K (0 : Int32) M96)))))))
set_option maxRecDepth 100000 in
set_option maxHeartbeats 4000000 in
theorem zb_L_law_405 {X : Cx} {h0 L : Nat} {xs : Nat → Int32} {R23 : Option Nat → Option Nat → Option Nat → Int32 → Mm → Prop} {K : Int32 → Mm → Prop} (hX : Ok X cL_law RL room_1) (hQ : RqL X h0 K) (hnL : X.2.2.2.2.2.2.2.2.2.2.2.2.2.2 = 8) (hSc : Scr X h0 L xs) {cc0 ss0 : Nat} (hcs : cc0 + 295 ≤ 2407 ∧ ss0 + 2288 ≤ 28584) (hR23 : ∀ l1 l2 l3 l4 M, R23 l1 l2 l3 l4 M → Z X M (cc0 + 295) (ss0 + 2288) 23 [(0, va_rf (some h0)), (1, va_rf l1), (2, va_rf l2), (3, va_rf l3), (4, .int l4)] []) {l1 : Option Nat} {l2 : Option Nat} {l3 : Option Nat} {l4 : Int32} {M : Mm} (h : bk_L_law_405 h0 L xs R23 K l1 l2 l3 l4 M) : Z X M (cc0 + 0) (ss0 + 0) 405 [(0, va_rf (some h0)), (1, va_rf l1), (2, va_rf l2), (3, va_rf l3), (4, .int l4)] [] := by
  unfold bk_L_law_405 at h
  refine z_aload_n (r := l1) hX dL_law_405 rfl 1 rfl ?_
  refine z_aload_n (r := (some h0)) hX dL_law_406 rfl 0 rfl ?_
  refine z_iload hX dL_law_407 4 rfl ?_
  refine z_iconst (v := (1 : Int32)) hX dL_law_409 (by decide) ?_
  refine z_iadd hX dL_law_410 ?_
  obtain ⟨hc85, h⟩ := h
  refine z_sld hX hSc dL_law_411 hc85 ?_
  refine z_aload_n (r := (some h0)) hX dL_law_412 rfl 0 rfl ?_
  refine z_iload hX dL_law_413 4 rfl ?_
  refine z_iconst (v := (2 : Int32)) hX dL_law_415 (by decide) ?_
  refine z_iadd hX dL_law_416 ?_
  obtain ⟨hc86, h⟩ := h
  refine z_sld hX hSc dL_law_417 hc86 ?_
  obtain ⟨a89, ha90, h⟩ := h
  obtain ⟨hk91, h⟩ := h
  refine z_callVI (As := [.int (xs ((l4 + (1 : Int32))).toNatClampNeg), .int (xs ((l4 + (2 : Int32))).toNatClampNeg)]) (rest := []) (ci := 10) hX (ct_X10_end h) mw_RL_65 rfl (by decide) rfl (by rw [ha90]; rfl) (by simp only [RoomC, room_1, rm_L_isIdle, rm_L_kept, rm_L_late, rm_L_out, rm_L_promise, rm_L_watermark, rm_X10_build, rm_X10_end, rm_X10_fault, rm_X10_feed, rm_X10_hold, rm_X10_idle, rm_X10_init, rm_X10_letter, rm_X10_mark, rm_X10_part, rm_X10_print, rm_X10_release, rm_X10_row, rm_X10_told, rm_X10_turn, rm_X11_build, rm_X11_end, rm_X11_fault_, rm_X11_feed, rm_X11_hold, rm_X11_idle, rm_X11_init, rm_X11_isIdle, rm_X11_kept, rm_X11_late_, rm_X11_letter, rm_X11_mark, rm_X11_out, rm_X11_part, rm_X11_print, rm_X11_promise, rm_X11_release, rm_X11_row, rm_X11_thrown, rm_X11_told, rm_X11_turn, rm_X11_watermark]; omega) (by decide) dL_law_418 hk91 (fun r87 M88 h => ?_)
  refine z_aload_n (r := l2) hX dL_law_421 rfl 2 rfl ?_
  refine z_aload_n (r := (some h0)) hX dL_law_422 rfl 0 rfl ?_
  refine z_iload hX dL_law_423 4 rfl ?_
  refine z_iconst (v := (1 : Int32)) hX dL_law_425 (by decide) ?_
  refine z_iadd hX dL_law_426 ?_
  obtain ⟨hc93, h⟩ := h
  refine z_sld hX hSc dL_law_427 hc93 ?_
  refine z_aload_n (r := (some h0)) hX dL_law_428 rfl 0 rfl ?_
  refine z_iload hX dL_law_429 4 rfl ?_
  refine z_iconst (v := (2 : Int32)) hX dL_law_431 (by decide) ?_
  refine z_iadd hX dL_law_432 ?_
  obtain ⟨hc94, h⟩ := h
  refine z_sld hX hSc dL_law_433 hc94 ?_
  obtain ⟨a97, ha98, h⟩ := h
  obtain ⟨hk99, h⟩ := h
  refine z_callVI (As := [.int (xs ((l4 + (1 : Int32))).toNatClampNeg), .int (xs ((l4 + (2 : Int32))).toNatClampNeg)]) (rest := [.int r87]) (ci := 11) hX (ct_X11_end h) mw_RL_68 rfl (by decide) rfl (by rw [ha98]; rfl) (by simp only [RoomC, room_1, rm_L_isIdle, rm_L_kept, rm_L_late, rm_L_out, rm_L_promise, rm_L_watermark, rm_X10_build, rm_X10_end, rm_X10_fault, rm_X10_feed, rm_X10_hold, rm_X10_idle, rm_X10_init, rm_X10_letter, rm_X10_mark, rm_X10_part, rm_X10_print, rm_X10_release, rm_X10_row, rm_X10_told, rm_X10_turn, rm_X11_build, rm_X11_end, rm_X11_fault_, rm_X11_feed, rm_X11_hold, rm_X11_idle, rm_X11_init, rm_X11_isIdle, rm_X11_kept, rm_X11_late_, rm_X11_letter, rm_X11_mark, rm_X11_out, rm_X11_part, rm_X11_print, rm_X11_promise, rm_X11_release, rm_X11_row, rm_X11_thrown, rm_X11_told, rm_X11_turn, rm_X11_watermark]; omega) (by simp only [List.map_cons, List.map_nil, List.sum_cons, List.sum_nil, cat_rf, cat_i, cat_j]; decide) dL_law_434 hk99 (fun r95 M96 h => ?_)
  obtain ⟨h1, h2⟩ := h
  refine z_icmp_eq (tgt := 1153) hX dL_law_437 (by decide) (fun hc => ?_) (fun hc => ?_)
  · have h := h1 hc
    refine z_widen (cc0 + 295) (ss0 + 2288) (by first | omega | (simp only [rm_L_isIdle, rm_L_kept, rm_L_late, rm_L_out, rm_L_promise, rm_L_watermark, rm_X10_build, rm_X10_end, rm_X10_fault, rm_X10_feed, rm_X10_hold, rm_X10_idle, rm_X10_init, rm_X10_letter, rm_X10_mark, rm_X10_part, rm_X10_print, rm_X10_release, rm_X10_row, rm_X10_told, rm_X10_turn, rm_X11_build, rm_X11_end, rm_X11_fault_, rm_X11_feed, rm_X11_hold, rm_X11_idle, rm_X11_init, rm_X11_isIdle, rm_X11_kept, rm_X11_late_, rm_X11_letter, rm_X11_mark, rm_X11_out, rm_X11_part, rm_X11_print, rm_X11_promise, rm_X11_release, rm_X11_row, rm_X11_thrown, rm_X11_told, rm_X11_turn, rm_X11_watermark]; omega)) (by first | omega | (simp only [rm_L_isIdle, rm_L_kept, rm_L_late, rm_L_out, rm_L_promise, rm_L_watermark, rm_X10_build, rm_X10_end, rm_X10_fault, rm_X10_feed, rm_X10_hold, rm_X10_idle, rm_X10_init, rm_X10_letter, rm_X10_mark, rm_X10_part, rm_X10_print, rm_X10_release, rm_X10_row, rm_X10_told, rm_X10_turn, rm_X11_build, rm_X11_end, rm_X11_fault_, rm_X11_feed, rm_X11_hold, rm_X11_idle, rm_X11_init, rm_X11_isIdle, rm_X11_kept, rm_X11_late_, rm_X11_letter, rm_X11_mark, rm_X11_out, rm_X11_part, rm_X11_print, rm_X11_promise, rm_X11_release, rm_X11_row, rm_X11_thrown, rm_X11_told, rm_X11_turn, rm_X11_watermark]; omega)) ?_
    exact zb_L_law_1153 hX hQ hnL hSc hcs hR23 h
  · have h := h2 hc
    refine z_iconst (v := (0 : Int32)) hX dL_law_440 (by decide) ?_
    refine z_widen 600002 7302232 (by first | omega | (simp only [rm_L_isIdle, rm_L_kept, rm_L_late, rm_L_out, rm_L_promise, rm_L_watermark, rm_X10_build, rm_X10_end, rm_X10_fault, rm_X10_feed, rm_X10_hold, rm_X10_idle, rm_X10_init, rm_X10_letter, rm_X10_mark, rm_X10_part, rm_X10_print, rm_X10_release, rm_X10_row, rm_X10_told, rm_X10_turn, rm_X11_build, rm_X11_end, rm_X11_fault_, rm_X11_feed, rm_X11_hold, rm_X11_idle, rm_X11_init, rm_X11_isIdle, rm_X11_kept, rm_X11_late_, rm_X11_letter, rm_X11_mark, rm_X11_out, rm_X11_part, rm_X11_print, rm_X11_promise, rm_X11_release, rm_X11_row, rm_X11_thrown, rm_X11_told, rm_X11_turn, rm_X11_watermark]; omega)) (by first | omega | (simp only [rm_L_isIdle, rm_L_kept, rm_L_late, rm_L_out, rm_L_promise, rm_L_watermark, rm_X10_build, rm_X10_end, rm_X10_fault, rm_X10_feed, rm_X10_hold, rm_X10_idle, rm_X10_init, rm_X10_letter, rm_X10_mark, rm_X10_part, rm_X10_print, rm_X10_release, rm_X10_row, rm_X10_told, rm_X10_turn, rm_X11_build, rm_X11_end, rm_X11_fault_, rm_X11_feed, rm_X11_hold, rm_X11_idle, rm_X11_init, rm_X11_isIdle, rm_X11_kept, rm_X11_late_, rm_X11_letter, rm_X11_mark, rm_X11_out, rm_X11_part, rm_X11_print, rm_X11_promise, rm_X11_release, rm_X11_row, rm_X11_thrown, rm_X11_told, rm_X11_turn, rm_X11_watermark]; omega)) ?_
    exact z_lwret hX hQ dL_law_441 h
def bk_L_law_499 (h0 L : Nat) (xs : Nat → Int32) (R23 : Option Nat → Option Nat → Option Nat → Int32 → Mm → Prop) (K : Int32 → Mm → Prop) (l1 : Option Nat) (l2 : Option Nat) (l3 : Option Nat) (l4 : Int32) (s0 : Int32) (s1 : Int32) (s2 : Int32) (s3 : Option Nat) (s4 : Int32) (M : Mm) : Prop := ∃ a103, s3 = some a103 ∧ mK M a103 = 12 ∧ (wp_X11_idle M a103 s2 s1 s0 (fun r101 M102 => ((s4 = r101 → (bk_L_law_1153 h0 L xs R23 K l1 l2 l3 l4 M102)) ∧ (¬ s4 = r101 → (K (0 : Int32) M102)))))
set_option maxRecDepth 100000 in
set_option maxHeartbeats 4000000 in
theorem zb_L_law_499 {X : Cx} {h0 L : Nat} {xs : Nat → Int32} {R23 : Option Nat → Option Nat → Option Nat → Int32 → Mm → Prop} {K : Int32 → Mm → Prop} (hX : Ok X cL_law RL room_1) (hQ : RqL X h0 K) (hnL : X.2.2.2.2.2.2.2.2.2.2.2.2.2.2 = 8) (hSc : Scr X h0 L xs) {cc0 ss0 : Nat} (hcs : cc0 + 295 ≤ 2407 ∧ ss0 + 2288 ≤ 28584) (hR23 : ∀ l1 l2 l3 l4 M, R23 l1 l2 l3 l4 M → Z X M (cc0 + 295) (ss0 + 2288) 23 [(0, va_rf (some h0)), (1, va_rf l1), (2, va_rf l2), (3, va_rf l3), (4, .int l4)] []) {l1 : Option Nat} {l2 : Option Nat} {l3 : Option Nat} {l4 : Int32} {s0 : Int32} {s1 : Int32} {s2 : Int32} {s3 : Option Nat} {s4 : Int32} {M : Mm} (h : bk_L_law_499 h0 L xs R23 K l1 l2 l3 l4 s0 s1 s2 s3 s4 M) : Z X M (cc0 + 0) (ss0 + 0) 499 [(0, va_rf (some h0)), (1, va_rf l1), (2, va_rf l2), (3, va_rf l3), (4, .int l4)] [.int s0, .int s1, .int s2, va_rf s3, .int s4] := by
  unfold bk_L_law_499 at h
  obtain ⟨a103, ha104, h⟩ := h
  obtain ⟨hk105, h⟩ := h
  refine z_callVI (As := [.int s2, .int s1, .int s0]) (rest := [.int s4]) (ci := 11) hX (ct_X11_idle h) mw_RL_73 rfl (by decide) rfl (by rw [ha104]; rfl) (by simp only [RoomC, room_1, rm_L_isIdle, rm_L_kept, rm_L_late, rm_L_out, rm_L_promise, rm_L_watermark, rm_X10_build, rm_X10_end, rm_X10_fault, rm_X10_feed, rm_X10_hold, rm_X10_idle, rm_X10_init, rm_X10_letter, rm_X10_mark, rm_X10_part, rm_X10_print, rm_X10_release, rm_X10_row, rm_X10_told, rm_X10_turn, rm_X11_build, rm_X11_end, rm_X11_fault_, rm_X11_feed, rm_X11_hold, rm_X11_idle, rm_X11_init, rm_X11_isIdle, rm_X11_kept, rm_X11_late_, rm_X11_letter, rm_X11_mark, rm_X11_out, rm_X11_part, rm_X11_print, rm_X11_promise, rm_X11_release, rm_X11_row, rm_X11_thrown, rm_X11_told, rm_X11_turn, rm_X11_watermark]; omega) (by simp only [List.map_cons, List.map_nil, List.sum_cons, List.sum_nil, cat_rf, cat_i, cat_j]; decide) dL_law_499 hk105 (fun r101 M102 h => ?_)
  obtain ⟨h1, h2⟩ := h
  refine z_icmp_eq (tgt := 1153) hX dL_law_502 (by decide) (fun hc => ?_) (fun hc => ?_)
  · have h := h1 hc
    refine z_widen (cc0 + 295) (ss0 + 2288) (by first | omega | (simp only [rm_L_isIdle, rm_L_kept, rm_L_late, rm_L_out, rm_L_promise, rm_L_watermark, rm_X10_build, rm_X10_end, rm_X10_fault, rm_X10_feed, rm_X10_hold, rm_X10_idle, rm_X10_init, rm_X10_letter, rm_X10_mark, rm_X10_part, rm_X10_print, rm_X10_release, rm_X10_row, rm_X10_told, rm_X10_turn, rm_X11_build, rm_X11_end, rm_X11_fault_, rm_X11_feed, rm_X11_hold, rm_X11_idle, rm_X11_init, rm_X11_isIdle, rm_X11_kept, rm_X11_late_, rm_X11_letter, rm_X11_mark, rm_X11_out, rm_X11_part, rm_X11_print, rm_X11_promise, rm_X11_release, rm_X11_row, rm_X11_thrown, rm_X11_told, rm_X11_turn, rm_X11_watermark]; omega)) (by first | omega | (simp only [rm_L_isIdle, rm_L_kept, rm_L_late, rm_L_out, rm_L_promise, rm_L_watermark, rm_X10_build, rm_X10_end, rm_X10_fault, rm_X10_feed, rm_X10_hold, rm_X10_idle, rm_X10_init, rm_X10_letter, rm_X10_mark, rm_X10_part, rm_X10_print, rm_X10_release, rm_X10_row, rm_X10_told, rm_X10_turn, rm_X11_build, rm_X11_end, rm_X11_fault_, rm_X11_feed, rm_X11_hold, rm_X11_idle, rm_X11_init, rm_X11_isIdle, rm_X11_kept, rm_X11_late_, rm_X11_letter, rm_X11_mark, rm_X11_out, rm_X11_part, rm_X11_print, rm_X11_promise, rm_X11_release, rm_X11_row, rm_X11_thrown, rm_X11_told, rm_X11_turn, rm_X11_watermark]; omega)) ?_
    exact zb_L_law_1153 hX hQ hnL hSc hcs hR23 h
  · have h := h2 hc
    refine z_iconst (v := (0 : Int32)) hX dL_law_505 (by decide) ?_
    refine z_widen 600002 7302232 (by first | omega | (simp only [rm_L_isIdle, rm_L_kept, rm_L_late, rm_L_out, rm_L_promise, rm_L_watermark, rm_X10_build, rm_X10_end, rm_X10_fault, rm_X10_feed, rm_X10_hold, rm_X10_idle, rm_X10_init, rm_X10_letter, rm_X10_mark, rm_X10_part, rm_X10_print, rm_X10_release, rm_X10_row, rm_X10_told, rm_X10_turn, rm_X11_build, rm_X11_end, rm_X11_fault_, rm_X11_feed, rm_X11_hold, rm_X11_idle, rm_X11_init, rm_X11_isIdle, rm_X11_kept, rm_X11_late_, rm_X11_letter, rm_X11_mark, rm_X11_out, rm_X11_part, rm_X11_print, rm_X11_promise, rm_X11_release, rm_X11_row, rm_X11_thrown, rm_X11_told, rm_X11_turn, rm_X11_watermark]; omega)) (by first | omega | (simp only [rm_L_isIdle, rm_L_kept, rm_L_late, rm_L_out, rm_L_promise, rm_L_watermark, rm_X10_build, rm_X10_end, rm_X10_fault, rm_X10_feed, rm_X10_hold, rm_X10_idle, rm_X10_init, rm_X10_letter, rm_X10_mark, rm_X10_part, rm_X10_print, rm_X10_release, rm_X10_row, rm_X10_told, rm_X10_turn, rm_X11_build, rm_X11_end, rm_X11_fault_, rm_X11_feed, rm_X11_hold, rm_X11_idle, rm_X11_init, rm_X11_isIdle, rm_X11_kept, rm_X11_late_, rm_X11_letter, rm_X11_mark, rm_X11_out, rm_X11_part, rm_X11_print, rm_X11_promise, rm_X11_release, rm_X11_row, rm_X11_thrown, rm_X11_told, rm_X11_turn, rm_X11_watermark]; omega)) ?_
    exact z_lwret hX hQ dL_law_506 h
def bk_L_law_469 (h0 L : Nat) (xs : Nat → Int32) (R23 : Option Nat → Option Nat → Option Nat → Int32 → Mm → Prop) (K : Int32 → Mm → Prop) (l1 : Option Nat) (l2 : Option Nat) (l3 : Option Nat) (l4 : Int32) (s0 : Int32) (s1 : Int32) (s2 : Int32) (s3 : Option Nat) (M : Mm) : Prop := ∃ a109, s3 = some a109 ∧ mK M a109 = 11 ∧ (wp_X10_idle M a109 s2 s1 s0 (fun r107 M108 => vp_in (l4 + (1 : Int32)) L ∧ vp_in (l4 + (2 : Int32)) L ∧ vp_in (l4 + (3 : Int32)) L ∧ (((xs ((l4 + (3 : Int32))).toNatClampNeg) = 0 → (bk_L_law_499 h0 L xs R23 K l1 l2 l3 l4 (0 : Int32) (xs ((l4 + (2 : Int32))).toNatClampNeg) (xs ((l4 + (1 : Int32))).toNatClampNeg) l2 r107 M108)) ∧ (¬ (xs ((l4 + (3 : Int32))).toNatClampNeg) = 0 → (bk_L_law_499 h0 L xs R23 K l1 l2 l3 l4 (1 : Int32) (xs ((l4 + (2 : Int32))).toNatClampNeg) (xs ((l4 + (1 : Int32))).toNatClampNeg) l2 r107 M108)))))
set_option maxRecDepth 100000 in
set_option maxHeartbeats 4000000 in
theorem zb_L_law_469 {X : Cx} {h0 L : Nat} {xs : Nat → Int32} {R23 : Option Nat → Option Nat → Option Nat → Int32 → Mm → Prop} {K : Int32 → Mm → Prop} (hX : Ok X cL_law RL room_1) (hQ : RqL X h0 K) (hnL : X.2.2.2.2.2.2.2.2.2.2.2.2.2.2 = 8) (hSc : Scr X h0 L xs) {cc0 ss0 : Nat} (hcs : cc0 + 295 ≤ 2407 ∧ ss0 + 2288 ≤ 28584) (hR23 : ∀ l1 l2 l3 l4 M, R23 l1 l2 l3 l4 M → Z X M (cc0 + 295) (ss0 + 2288) 23 [(0, va_rf (some h0)), (1, va_rf l1), (2, va_rf l2), (3, va_rf l3), (4, .int l4)] []) {l1 : Option Nat} {l2 : Option Nat} {l3 : Option Nat} {l4 : Int32} {s0 : Int32} {s1 : Int32} {s2 : Int32} {s3 : Option Nat} {M : Mm} (h : bk_L_law_469 h0 L xs R23 K l1 l2 l3 l4 s0 s1 s2 s3 M) : Z X M (cc0 + 0) (ss0 + 0) 469 [(0, va_rf (some h0)), (1, va_rf l1), (2, va_rf l2), (3, va_rf l3), (4, .int l4)] [.int s0, .int s1, .int s2, va_rf s3] := by
  unfold bk_L_law_469 at h
  obtain ⟨a109, ha110, h⟩ := h
  obtain ⟨hk111, h⟩ := h
  refine z_callVI (As := [.int s2, .int s1, .int s0]) (rest := []) (ci := 10) hX (ct_X10_idle h) mw_RL_69 rfl (by decide) rfl (by rw [ha110]; rfl) (by simp only [RoomC, room_1, rm_L_isIdle, rm_L_kept, rm_L_late, rm_L_out, rm_L_promise, rm_L_watermark, rm_X10_build, rm_X10_end, rm_X10_fault, rm_X10_feed, rm_X10_hold, rm_X10_idle, rm_X10_init, rm_X10_letter, rm_X10_mark, rm_X10_part, rm_X10_print, rm_X10_release, rm_X10_row, rm_X10_told, rm_X10_turn, rm_X11_build, rm_X11_end, rm_X11_fault_, rm_X11_feed, rm_X11_hold, rm_X11_idle, rm_X11_init, rm_X11_isIdle, rm_X11_kept, rm_X11_late_, rm_X11_letter, rm_X11_mark, rm_X11_out, rm_X11_part, rm_X11_print, rm_X11_promise, rm_X11_release, rm_X11_row, rm_X11_thrown, rm_X11_told, rm_X11_turn, rm_X11_watermark]; omega) (by decide) dL_law_469 hk111 (fun r107 M108 h => ?_)
  refine z_aload_n (r := l2) hX dL_law_472 rfl 2 rfl ?_
  refine z_aload_n (r := (some h0)) hX dL_law_473 rfl 0 rfl ?_
  refine z_iload hX dL_law_474 4 rfl ?_
  refine z_iconst (v := (1 : Int32)) hX dL_law_476 (by decide) ?_
  refine z_iadd hX dL_law_477 ?_
  obtain ⟨hc113, h⟩ := h
  refine z_sld hX hSc dL_law_478 hc113 ?_
  refine z_aload_n (r := (some h0)) hX dL_law_479 rfl 0 rfl ?_
  refine z_iload hX dL_law_480 4 rfl ?_
  refine z_iconst (v := (2 : Int32)) hX dL_law_482 (by decide) ?_
  refine z_iadd hX dL_law_483 ?_
  obtain ⟨hc114, h⟩ := h
  refine z_sld hX hSc dL_law_484 hc114 ?_
  refine z_aload_n (r := (some h0)) hX dL_law_485 rfl 0 rfl ?_
  refine z_iload hX dL_law_486 4 rfl ?_
  refine z_iconst (v := (3 : Int32)) hX dL_law_488 (by decide) ?_
  refine z_iadd hX dL_law_489 ?_
  obtain ⟨hc115, h⟩ := h
  refine z_sld hX hSc dL_law_490 hc115 ?_
  obtain ⟨h1, h2⟩ := h
  refine z_if_eq (tgt := 498) hX dL_law_491 (by decide) (fun hc => ?_) (fun hc => ?_)
  · have h := h1 hc
    refine z_iconst (v := (0 : Int32)) hX dL_law_498 (by decide) ?_
    refine z_widen (cc0 + 0) (ss0 + 0) (by first | omega | (simp only [rm_L_isIdle, rm_L_kept, rm_L_late, rm_L_out, rm_L_promise, rm_L_watermark, rm_X10_build, rm_X10_end, rm_X10_fault, rm_X10_feed, rm_X10_hold, rm_X10_idle, rm_X10_init, rm_X10_letter, rm_X10_mark, rm_X10_part, rm_X10_print, rm_X10_release, rm_X10_row, rm_X10_told, rm_X10_turn, rm_X11_build, rm_X11_end, rm_X11_fault_, rm_X11_feed, rm_X11_hold, rm_X11_idle, rm_X11_init, rm_X11_isIdle, rm_X11_kept, rm_X11_late_, rm_X11_letter, rm_X11_mark, rm_X11_out, rm_X11_part, rm_X11_print, rm_X11_promise, rm_X11_release, rm_X11_row, rm_X11_thrown, rm_X11_told, rm_X11_turn, rm_X11_watermark]; omega)) (by first | omega | (simp only [rm_L_isIdle, rm_L_kept, rm_L_late, rm_L_out, rm_L_promise, rm_L_watermark, rm_X10_build, rm_X10_end, rm_X10_fault, rm_X10_feed, rm_X10_hold, rm_X10_idle, rm_X10_init, rm_X10_letter, rm_X10_mark, rm_X10_part, rm_X10_print, rm_X10_release, rm_X10_row, rm_X10_told, rm_X10_turn, rm_X11_build, rm_X11_end, rm_X11_fault_, rm_X11_feed, rm_X11_hold, rm_X11_idle, rm_X11_init, rm_X11_isIdle, rm_X11_kept, rm_X11_late_, rm_X11_letter, rm_X11_mark, rm_X11_out, rm_X11_part, rm_X11_print, rm_X11_promise, rm_X11_release, rm_X11_row, rm_X11_thrown, rm_X11_told, rm_X11_turn, rm_X11_watermark]; omega)) ?_
    exact zb_L_law_499 hX hQ hnL hSc hcs hR23 h
  · have h := h2 hc
    refine z_iconst (v := (1 : Int32)) hX dL_law_494 (by decide) ?_
    refine z_goto (tgt := 499) hX dL_law_495 (by decide) ?_
    refine z_widen (cc0 + 0) (ss0 + 0) (by first | omega | (simp only [rm_L_isIdle, rm_L_kept, rm_L_late, rm_L_out, rm_L_promise, rm_L_watermark, rm_X10_build, rm_X10_end, rm_X10_fault, rm_X10_feed, rm_X10_hold, rm_X10_idle, rm_X10_init, rm_X10_letter, rm_X10_mark, rm_X10_part, rm_X10_print, rm_X10_release, rm_X10_row, rm_X10_told, rm_X10_turn, rm_X11_build, rm_X11_end, rm_X11_fault_, rm_X11_feed, rm_X11_hold, rm_X11_idle, rm_X11_init, rm_X11_isIdle, rm_X11_kept, rm_X11_late_, rm_X11_letter, rm_X11_mark, rm_X11_out, rm_X11_part, rm_X11_print, rm_X11_promise, rm_X11_release, rm_X11_row, rm_X11_thrown, rm_X11_told, rm_X11_turn, rm_X11_watermark]; omega)) (by first | omega | (simp only [rm_L_isIdle, rm_L_kept, rm_L_late, rm_L_out, rm_L_promise, rm_L_watermark, rm_X10_build, rm_X10_end, rm_X10_fault, rm_X10_feed, rm_X10_hold, rm_X10_idle, rm_X10_init, rm_X10_letter, rm_X10_mark, rm_X10_part, rm_X10_print, rm_X10_release, rm_X10_row, rm_X10_told, rm_X10_turn, rm_X11_build, rm_X11_end, rm_X11_fault_, rm_X11_feed, rm_X11_hold, rm_X11_idle, rm_X11_init, rm_X11_isIdle, rm_X11_kept, rm_X11_late_, rm_X11_letter, rm_X11_mark, rm_X11_out, rm_X11_part, rm_X11_print, rm_X11_promise, rm_X11_release, rm_X11_row, rm_X11_thrown, rm_X11_told, rm_X11_turn, rm_X11_watermark]; omega)) ?_
    exact zb_L_law_499 hX hQ hnL hSc hcs hR23 h
def bk_L_law_442 (h0 L : Nat) (xs : Nat → Int32) (R23 : Option Nat → Option Nat → Option Nat → Int32 → Mm → Prop) (K : Int32 → Mm → Prop) (l1 : Option Nat) (l2 : Option Nat) (l3 : Option Nat) (l4 : Int32) (M : Mm) : Prop := vp_in (l4 + (1 : Int32)) L ∧ vp_in (l4 + (2 : Int32)) L ∧ vp_in (l4 + (3 : Int32)) L ∧ (((xs ((l4 + (3 : Int32))).toNatClampNeg) = 0 → (bk_L_law_469 h0 L xs R23 K l1 l2 l3 l4 (0 : Int32) (xs ((l4 + (2 : Int32))).toNatClampNeg) (xs ((l4 + (1 : Int32))).toNatClampNeg) l1 M)) ∧ (¬ (xs ((l4 + (3 : Int32))).toNatClampNeg) = 0 → (bk_L_law_469 h0 L xs R23 K l1 l2 l3 l4 (1 : Int32) (xs ((l4 + (2 : Int32))).toNatClampNeg) (xs ((l4 + (1 : Int32))).toNatClampNeg) l1 M)))
set_option maxRecDepth 100000 in
set_option maxHeartbeats 4000000 in
theorem zb_L_law_442 {X : Cx} {h0 L : Nat} {xs : Nat → Int32} {R23 : Option Nat → Option Nat → Option Nat → Int32 → Mm → Prop} {K : Int32 → Mm → Prop} (hX : Ok X cL_law RL room_1) (hQ : RqL X h0 K) (hnL : X.2.2.2.2.2.2.2.2.2.2.2.2.2.2 = 8) (hSc : Scr X h0 L xs) {cc0 ss0 : Nat} (hcs : cc0 + 295 ≤ 2407 ∧ ss0 + 2288 ≤ 28584) (hR23 : ∀ l1 l2 l3 l4 M, R23 l1 l2 l3 l4 M → Z X M (cc0 + 295) (ss0 + 2288) 23 [(0, va_rf (some h0)), (1, va_rf l1), (2, va_rf l2), (3, va_rf l3), (4, .int l4)] []) {l1 : Option Nat} {l2 : Option Nat} {l3 : Option Nat} {l4 : Int32} {M : Mm} (h : bk_L_law_442 h0 L xs R23 K l1 l2 l3 l4 M) : Z X M (cc0 + 0) (ss0 + 0) 442 [(0, va_rf (some h0)), (1, va_rf l1), (2, va_rf l2), (3, va_rf l3), (4, .int l4)] [] := by
  unfold bk_L_law_442 at h
  refine z_aload_n (r := l1) hX dL_law_442 rfl 1 rfl ?_
  refine z_aload_n (r := (some h0)) hX dL_law_443 rfl 0 rfl ?_
  refine z_iload hX dL_law_444 4 rfl ?_
  refine z_iconst (v := (1 : Int32)) hX dL_law_446 (by decide) ?_
  refine z_iadd hX dL_law_447 ?_
  obtain ⟨hc116, h⟩ := h
  refine z_sld hX hSc dL_law_448 hc116 ?_
  refine z_aload_n (r := (some h0)) hX dL_law_449 rfl 0 rfl ?_
  refine z_iload hX dL_law_450 4 rfl ?_
  refine z_iconst (v := (2 : Int32)) hX dL_law_452 (by decide) ?_
  refine z_iadd hX dL_law_453 ?_
  obtain ⟨hc117, h⟩ := h
  refine z_sld hX hSc dL_law_454 hc117 ?_
  refine z_aload_n (r := (some h0)) hX dL_law_455 rfl 0 rfl ?_
  refine z_iload hX dL_law_456 4 rfl ?_
  refine z_iconst (v := (3 : Int32)) hX dL_law_458 (by decide) ?_
  refine z_iadd hX dL_law_459 ?_
  obtain ⟨hc118, h⟩ := h
  refine z_sld hX hSc dL_law_460 hc118 ?_
  obtain ⟨h1, h2⟩ := h
  refine z_if_eq (tgt := 468) hX dL_law_461 (by decide) (fun hc => ?_) (fun hc => ?_)
  · have h := h1 hc
    refine z_iconst (v := (0 : Int32)) hX dL_law_468 (by decide) ?_
    refine z_widen (cc0 + 0) (ss0 + 0) (by first | omega | (simp only [rm_L_isIdle, rm_L_kept, rm_L_late, rm_L_out, rm_L_promise, rm_L_watermark, rm_X10_build, rm_X10_end, rm_X10_fault, rm_X10_feed, rm_X10_hold, rm_X10_idle, rm_X10_init, rm_X10_letter, rm_X10_mark, rm_X10_part, rm_X10_print, rm_X10_release, rm_X10_row, rm_X10_told, rm_X10_turn, rm_X11_build, rm_X11_end, rm_X11_fault_, rm_X11_feed, rm_X11_hold, rm_X11_idle, rm_X11_init, rm_X11_isIdle, rm_X11_kept, rm_X11_late_, rm_X11_letter, rm_X11_mark, rm_X11_out, rm_X11_part, rm_X11_print, rm_X11_promise, rm_X11_release, rm_X11_row, rm_X11_thrown, rm_X11_told, rm_X11_turn, rm_X11_watermark]; omega)) (by first | omega | (simp only [rm_L_isIdle, rm_L_kept, rm_L_late, rm_L_out, rm_L_promise, rm_L_watermark, rm_X10_build, rm_X10_end, rm_X10_fault, rm_X10_feed, rm_X10_hold, rm_X10_idle, rm_X10_init, rm_X10_letter, rm_X10_mark, rm_X10_part, rm_X10_print, rm_X10_release, rm_X10_row, rm_X10_told, rm_X10_turn, rm_X11_build, rm_X11_end, rm_X11_fault_, rm_X11_feed, rm_X11_hold, rm_X11_idle, rm_X11_init, rm_X11_isIdle, rm_X11_kept, rm_X11_late_, rm_X11_letter, rm_X11_mark, rm_X11_out, rm_X11_part, rm_X11_print, rm_X11_promise, rm_X11_release, rm_X11_row, rm_X11_thrown, rm_X11_told, rm_X11_turn, rm_X11_watermark]; omega)) ?_
    exact zb_L_law_469 hX hQ hnL hSc hcs hR23 h
  · have h := h2 hc
    refine z_iconst (v := (1 : Int32)) hX dL_law_464 (by decide) ?_
    refine z_goto (tgt := 469) hX dL_law_465 (by decide) ?_
    refine z_widen (cc0 + 0) (ss0 + 0) (by first | omega | (simp only [rm_L_isIdle, rm_L_kept, rm_L_late, rm_L_out, rm_L_promise, rm_L_watermark, rm_X10_build, rm_X10_end, rm_X10_fault, rm_X10_feed, rm_X10_hold, rm_X10_idle, rm_X10_init, rm_X10_letter, rm_X10_mark, rm_X10_part, rm_X10_print, rm_X10_release, rm_X10_row, rm_X10_told, rm_X10_turn, rm_X11_build, rm_X11_end, rm_X11_fault_, rm_X11_feed, rm_X11_hold, rm_X11_idle, rm_X11_init, rm_X11_isIdle, rm_X11_kept, rm_X11_late_, rm_X11_letter, rm_X11_mark, rm_X11_out, rm_X11_part, rm_X11_print, rm_X11_promise, rm_X11_release, rm_X11_row, rm_X11_thrown, rm_X11_told, rm_X11_turn, rm_X11_watermark]; omega)) (by first | omega | (simp only [rm_L_isIdle, rm_L_kept, rm_L_late, rm_L_out, rm_L_promise, rm_L_watermark, rm_X10_build, rm_X10_end, rm_X10_fault, rm_X10_feed, rm_X10_hold, rm_X10_idle, rm_X10_init, rm_X10_letter, rm_X10_mark, rm_X10_part, rm_X10_print, rm_X10_release, rm_X10_row, rm_X10_told, rm_X10_turn, rm_X11_build, rm_X11_end, rm_X11_fault_, rm_X11_feed, rm_X11_hold, rm_X11_idle, rm_X11_init, rm_X11_isIdle, rm_X11_kept, rm_X11_late_, rm_X11_letter, rm_X11_mark, rm_X11_out, rm_X11_part, rm_X11_print, rm_X11_promise, rm_X11_release, rm_X11_row, rm_X11_thrown, rm_X11_told, rm_X11_turn, rm_X11_watermark]; omega)) ?_
    exact zb_L_law_469 hX hQ hnL hSc hcs hR23 h
def bk_L_law_507 (h0 L : Nat) (xs : Nat → Int32) (R23 : Option Nat → Option Nat → Option Nat → Int32 → Mm → Prop) (K : Int32 → Mm → Prop) (l1 : Option Nat) (l2 : Option Nat) (l3 : Option Nat) (l4 : Int32) (M : Mm) : Prop := vp_in (l4 + (1 : Int32)) L ∧ ∃ a122, l1 = some a122 ∧ mK M a122 = 11 ∧ (wp_X10_turn M a122 (xs ((l4 + (1 : Int32))).toNatClampNeg) (fun r120 M121 => vp_in (l4 + (1 : Int32)) L ∧ ∃ a129, l2 = some a129 ∧ mK M121 a129 = 12 ∧ (wp_X11_turn M121 a129 (xs ((l4 + (1 : Int32))).toNatClampNeg) (fun r127 M128 => ((r120 = r127 → (bk_L_law_1153 h0 L xs R23 K l1 l2 l3 l4 M128)) ∧ (¬ r120 = r127 → (K (0 : Int32) M128)))))))
set_option maxRecDepth 100000 in
set_option maxHeartbeats 4000000 in
theorem zb_L_law_507 {X : Cx} {h0 L : Nat} {xs : Nat → Int32} {R23 : Option Nat → Option Nat → Option Nat → Int32 → Mm → Prop} {K : Int32 → Mm → Prop} (hX : Ok X cL_law RL room_1) (hQ : RqL X h0 K) (hnL : X.2.2.2.2.2.2.2.2.2.2.2.2.2.2 = 8) (hSc : Scr X h0 L xs) {cc0 ss0 : Nat} (hcs : cc0 + 295 ≤ 2407 ∧ ss0 + 2288 ≤ 28584) (hR23 : ∀ l1 l2 l3 l4 M, R23 l1 l2 l3 l4 M → Z X M (cc0 + 295) (ss0 + 2288) 23 [(0, va_rf (some h0)), (1, va_rf l1), (2, va_rf l2), (3, va_rf l3), (4, .int l4)] []) {l1 : Option Nat} {l2 : Option Nat} {l3 : Option Nat} {l4 : Int32} {M : Mm} (h : bk_L_law_507 h0 L xs R23 K l1 l2 l3 l4 M) : Z X M (cc0 + 0) (ss0 + 0) 507 [(0, va_rf (some h0)), (1, va_rf l1), (2, va_rf l2), (3, va_rf l3), (4, .int l4)] [] := by
  unfold bk_L_law_507 at h
  refine z_aload_n (r := l1) hX dL_law_507 rfl 1 rfl ?_
  refine z_aload_n (r := (some h0)) hX dL_law_508 rfl 0 rfl ?_
  refine z_iload hX dL_law_509 4 rfl ?_
  refine z_iconst (v := (1 : Int32)) hX dL_law_511 (by decide) ?_
  refine z_iadd hX dL_law_512 ?_
  obtain ⟨hc119, h⟩ := h
  refine z_sld hX hSc dL_law_513 hc119 ?_
  obtain ⟨a122, ha123, h⟩ := h
  obtain ⟨hk124, h⟩ := h
  refine z_callVI (As := [.int (xs ((l4 + (1 : Int32))).toNatClampNeg)]) (rest := []) (ci := 10) hX (ct_X10_turn h) mw_RL_74 rfl (by decide) rfl (by rw [ha123]; rfl) (by simp only [RoomC, room_1, rm_L_isIdle, rm_L_kept, rm_L_late, rm_L_out, rm_L_promise, rm_L_watermark, rm_X10_build, rm_X10_end, rm_X10_fault, rm_X10_feed, rm_X10_hold, rm_X10_idle, rm_X10_init, rm_X10_letter, rm_X10_mark, rm_X10_part, rm_X10_print, rm_X10_release, rm_X10_row, rm_X10_told, rm_X10_turn, rm_X11_build, rm_X11_end, rm_X11_fault_, rm_X11_feed, rm_X11_hold, rm_X11_idle, rm_X11_init, rm_X11_isIdle, rm_X11_kept, rm_X11_late_, rm_X11_letter, rm_X11_mark, rm_X11_out, rm_X11_part, rm_X11_print, rm_X11_promise, rm_X11_release, rm_X11_row, rm_X11_thrown, rm_X11_told, rm_X11_turn, rm_X11_watermark]; omega) (by decide) dL_law_514 hk124 (fun r120 M121 h => ?_)
  refine z_aload_n (r := l2) hX dL_law_517 rfl 2 rfl ?_
  refine z_aload_n (r := (some h0)) hX dL_law_518 rfl 0 rfl ?_
  refine z_iload hX dL_law_519 4 rfl ?_
  refine z_iconst (v := (1 : Int32)) hX dL_law_521 (by decide) ?_
  refine z_iadd hX dL_law_522 ?_
  obtain ⟨hc126, h⟩ := h
  refine z_sld hX hSc dL_law_523 hc126 ?_
  obtain ⟨a129, ha130, h⟩ := h
  obtain ⟨hk131, h⟩ := h
  refine z_callVI (As := [.int (xs ((l4 + (1 : Int32))).toNatClampNeg)]) (rest := [.int r120]) (ci := 11) hX (ct_X11_turn h) mw_RL_78 rfl (by decide) rfl (by rw [ha130]; rfl) (by simp only [RoomC, room_1, rm_L_isIdle, rm_L_kept, rm_L_late, rm_L_out, rm_L_promise, rm_L_watermark, rm_X10_build, rm_X10_end, rm_X10_fault, rm_X10_feed, rm_X10_hold, rm_X10_idle, rm_X10_init, rm_X10_letter, rm_X10_mark, rm_X10_part, rm_X10_print, rm_X10_release, rm_X10_row, rm_X10_told, rm_X10_turn, rm_X11_build, rm_X11_end, rm_X11_fault_, rm_X11_feed, rm_X11_hold, rm_X11_idle, rm_X11_init, rm_X11_isIdle, rm_X11_kept, rm_X11_late_, rm_X11_letter, rm_X11_mark, rm_X11_out, rm_X11_part, rm_X11_print, rm_X11_promise, rm_X11_release, rm_X11_row, rm_X11_thrown, rm_X11_told, rm_X11_turn, rm_X11_watermark]; omega) (by simp only [List.map_cons, List.map_nil, List.sum_cons, List.sum_nil, cat_rf, cat_i, cat_j]; decide) dL_law_524 hk131 (fun r127 M128 h => ?_)
  obtain ⟨h1, h2⟩ := h
  refine z_icmp_eq (tgt := 1153) hX dL_law_527 (by decide) (fun hc => ?_) (fun hc => ?_)
  · have h := h1 hc
    refine z_widen (cc0 + 295) (ss0 + 2288) (by first | omega | (simp only [rm_L_isIdle, rm_L_kept, rm_L_late, rm_L_out, rm_L_promise, rm_L_watermark, rm_X10_build, rm_X10_end, rm_X10_fault, rm_X10_feed, rm_X10_hold, rm_X10_idle, rm_X10_init, rm_X10_letter, rm_X10_mark, rm_X10_part, rm_X10_print, rm_X10_release, rm_X10_row, rm_X10_told, rm_X10_turn, rm_X11_build, rm_X11_end, rm_X11_fault_, rm_X11_feed, rm_X11_hold, rm_X11_idle, rm_X11_init, rm_X11_isIdle, rm_X11_kept, rm_X11_late_, rm_X11_letter, rm_X11_mark, rm_X11_out, rm_X11_part, rm_X11_print, rm_X11_promise, rm_X11_release, rm_X11_row, rm_X11_thrown, rm_X11_told, rm_X11_turn, rm_X11_watermark]; omega)) (by first | omega | (simp only [rm_L_isIdle, rm_L_kept, rm_L_late, rm_L_out, rm_L_promise, rm_L_watermark, rm_X10_build, rm_X10_end, rm_X10_fault, rm_X10_feed, rm_X10_hold, rm_X10_idle, rm_X10_init, rm_X10_letter, rm_X10_mark, rm_X10_part, rm_X10_print, rm_X10_release, rm_X10_row, rm_X10_told, rm_X10_turn, rm_X11_build, rm_X11_end, rm_X11_fault_, rm_X11_feed, rm_X11_hold, rm_X11_idle, rm_X11_init, rm_X11_isIdle, rm_X11_kept, rm_X11_late_, rm_X11_letter, rm_X11_mark, rm_X11_out, rm_X11_part, rm_X11_print, rm_X11_promise, rm_X11_release, rm_X11_row, rm_X11_thrown, rm_X11_told, rm_X11_turn, rm_X11_watermark]; omega)) ?_
    exact zb_L_law_1153 hX hQ hnL hSc hcs hR23 h
  · have h := h2 hc
    refine z_iconst (v := (0 : Int32)) hX dL_law_530 (by decide) ?_
    refine z_widen 600002 7302232 (by first | omega | (simp only [rm_L_isIdle, rm_L_kept, rm_L_late, rm_L_out, rm_L_promise, rm_L_watermark, rm_X10_build, rm_X10_end, rm_X10_fault, rm_X10_feed, rm_X10_hold, rm_X10_idle, rm_X10_init, rm_X10_letter, rm_X10_mark, rm_X10_part, rm_X10_print, rm_X10_release, rm_X10_row, rm_X10_told, rm_X10_turn, rm_X11_build, rm_X11_end, rm_X11_fault_, rm_X11_feed, rm_X11_hold, rm_X11_idle, rm_X11_init, rm_X11_isIdle, rm_X11_kept, rm_X11_late_, rm_X11_letter, rm_X11_mark, rm_X11_out, rm_X11_part, rm_X11_print, rm_X11_promise, rm_X11_release, rm_X11_row, rm_X11_thrown, rm_X11_told, rm_X11_turn, rm_X11_watermark]; omega)) (by first | omega | (simp only [rm_L_isIdle, rm_L_kept, rm_L_late, rm_L_out, rm_L_promise, rm_L_watermark, rm_X10_build, rm_X10_end, rm_X10_fault, rm_X10_feed, rm_X10_hold, rm_X10_idle, rm_X10_init, rm_X10_letter, rm_X10_mark, rm_X10_part, rm_X10_print, rm_X10_release, rm_X10_row, rm_X10_told, rm_X10_turn, rm_X11_build, rm_X11_end, rm_X11_fault_, rm_X11_feed, rm_X11_hold, rm_X11_idle, rm_X11_init, rm_X11_isIdle, rm_X11_kept, rm_X11_late_, rm_X11_letter, rm_X11_mark, rm_X11_out, rm_X11_part, rm_X11_print, rm_X11_promise, rm_X11_release, rm_X11_row, rm_X11_thrown, rm_X11_told, rm_X11_turn, rm_X11_watermark]; omega)) ?_
    exact z_lwret hX hQ dL_law_531 h
def bk_L_law_532 (h0 L : Nat) (xs : Nat → Int32) (R23 : Option Nat → Option Nat → Option Nat → Int32 → Mm → Prop) (K : Int32 → Mm → Prop) (l1 : Option Nat) (l2 : Option Nat) (l3 : Option Nat) (l4 : Int32) (M : Mm) : Prop := vp_in (l4 + (1 : Int32)) L ∧ vp_in (l4 + (2 : Int32)) L ∧ vp_in (l4 + (3 : Int32)) L ∧ ∃ a138, l1 = some a138 ∧ mK M a138 = 11 ∧ (wp_X10_hold M a138 (xs ((l4 + (1 : Int32))).toNatClampNeg) (((((xs ((l4 + (2 : Int32))).toNatClampNeg)).toInt64) <<< (((32 : Int32)).toInt64 &&& 63)) ||| ((((xs ((l4 + (3 : Int32))).toNatClampNeg)).toInt64) &&& (4294967295 : Int64))) (fun r136 M137 => vp_in (l4 + (1 : Int32)) L ∧ vp_in (l4 + (2 : Int32)) L ∧ vp_in (l4 + (3 : Int32)) L ∧ ∃ a147, l2 = some a147 ∧ mK M137 a147 = 12 ∧ (wp_X11_hold M137 a147 (xs ((l4 + (1 : Int32))).toNatClampNeg) (((((xs ((l4 + (2 : Int32))).toNatClampNeg)).toInt64) <<< (((32 : Int32)).toInt64 &&& 63)) ||| ((((xs ((l4 + (3 : Int32))).toNatClampNeg)).toInt64) &&& (4294967295 : Int64))) (fun r145 M146 => ((r136 = r145 → (bk_L_law_1153 h0 L xs R23 K l1 l2 l3 l4 M146)) ∧ (¬ r136 = r145 → (K (0 : Int32) M146)))))))
set_option maxRecDepth 100000 in
set_option maxHeartbeats 4000000 in
theorem zb_L_law_532 {X : Cx} {h0 L : Nat} {xs : Nat → Int32} {R23 : Option Nat → Option Nat → Option Nat → Int32 → Mm → Prop} {K : Int32 → Mm → Prop} (hX : Ok X cL_law RL room_1) (hQ : RqL X h0 K) (hnL : X.2.2.2.2.2.2.2.2.2.2.2.2.2.2 = 8) (hSc : Scr X h0 L xs) {cc0 ss0 : Nat} (hcs : cc0 + 295 ≤ 2407 ∧ ss0 + 2288 ≤ 28584) (hR23 : ∀ l1 l2 l3 l4 M, R23 l1 l2 l3 l4 M → Z X M (cc0 + 295) (ss0 + 2288) 23 [(0, va_rf (some h0)), (1, va_rf l1), (2, va_rf l2), (3, va_rf l3), (4, .int l4)] []) {l1 : Option Nat} {l2 : Option Nat} {l3 : Option Nat} {l4 : Int32} {M : Mm} (h : bk_L_law_532 h0 L xs R23 K l1 l2 l3 l4 M) : Z X M (cc0 + 0) (ss0 + 0) 532 [(0, va_rf (some h0)), (1, va_rf l1), (2, va_rf l2), (3, va_rf l3), (4, .int l4)] [] := by
  unfold bk_L_law_532 at h
  refine z_aload_n (r := l1) hX dL_law_532 rfl 1 rfl ?_
  refine z_aload_n (r := (some h0)) hX dL_law_533 rfl 0 rfl ?_
  refine z_iload hX dL_law_534 4 rfl ?_
  refine z_iconst (v := (1 : Int32)) hX dL_law_536 (by decide) ?_
  refine z_iadd hX dL_law_537 ?_
  obtain ⟨hc133, h⟩ := h
  refine z_sld hX hSc dL_law_538 hc133 ?_
  refine z_aload_n (r := (some h0)) hX dL_law_539 rfl 0 rfl ?_
  refine z_iload hX dL_law_540 4 rfl ?_
  refine z_iconst (v := (2 : Int32)) hX dL_law_542 (by decide) ?_
  refine z_iadd hX dL_law_543 ?_
  obtain ⟨hc134, h⟩ := h
  refine z_sld hX hSc dL_law_544 hc134 ?_
  refine z_i2l hX dL_law_545 ?_
  refine z_bipush (v := (32 : Int32)) hX dL_law_546 (by decide) ?_
  refine z_lshl hX dL_law_548 ?_
  refine z_aload_n (r := (some h0)) hX dL_law_549 rfl 0 rfl ?_
  refine z_iload hX dL_law_550 4 rfl ?_
  refine z_iconst (v := (3 : Int32)) hX dL_law_552 (by decide) ?_
  refine z_iadd hX dL_law_553 ?_
  obtain ⟨hc135, h⟩ := h
  refine z_sld hX hSc dL_law_554 hc135 ?_
  refine z_i2l hX dL_law_555 ?_
  refine z_ldc2 (v := (4294967295 : Int64)) hX dL_law_556 kj_RL_39 ?_
  refine z_land hX dL_law_559 ?_
  refine z_lor hX dL_law_560 ?_
  obtain ⟨a138, ha139, h⟩ := h
  obtain ⟨hk140, h⟩ := h
  refine z_callVI (As := [.int (xs ((l4 + (1 : Int32))).toNatClampNeg), .long (((((xs ((l4 + (2 : Int32))).toNatClampNeg)).toInt64) <<< (((32 : Int32)).toInt64 &&& 63)) ||| ((((xs ((l4 + (3 : Int32))).toNatClampNeg)).toInt64) &&& (4294967295 : Int64)))]) (rest := []) (ci := 10) hX (ct_X10_hold h) mw_RL_79 rfl (by decide) rfl (by rw [ha139]; rfl) (by simp only [RoomC, room_1, rm_L_isIdle, rm_L_kept, rm_L_late, rm_L_out, rm_L_promise, rm_L_watermark, rm_X10_build, rm_X10_end, rm_X10_fault, rm_X10_feed, rm_X10_hold, rm_X10_idle, rm_X10_init, rm_X10_letter, rm_X10_mark, rm_X10_part, rm_X10_print, rm_X10_release, rm_X10_row, rm_X10_told, rm_X10_turn, rm_X11_build, rm_X11_end, rm_X11_fault_, rm_X11_feed, rm_X11_hold, rm_X11_idle, rm_X11_init, rm_X11_isIdle, rm_X11_kept, rm_X11_late_, rm_X11_letter, rm_X11_mark, rm_X11_out, rm_X11_part, rm_X11_print, rm_X11_promise, rm_X11_release, rm_X11_row, rm_X11_thrown, rm_X11_told, rm_X11_turn, rm_X11_watermark]; omega) (by decide) dL_law_561 hk140 (fun r136 M137 h => ?_)
  refine z_aload_n (r := l2) hX dL_law_564 rfl 2 rfl ?_
  refine z_aload_n (r := (some h0)) hX dL_law_565 rfl 0 rfl ?_
  refine z_iload hX dL_law_566 4 rfl ?_
  refine z_iconst (v := (1 : Int32)) hX dL_law_568 (by decide) ?_
  refine z_iadd hX dL_law_569 ?_
  obtain ⟨hc142, h⟩ := h
  refine z_sld hX hSc dL_law_570 hc142 ?_
  refine z_aload_n (r := (some h0)) hX dL_law_571 rfl 0 rfl ?_
  refine z_iload hX dL_law_572 4 rfl ?_
  refine z_iconst (v := (2 : Int32)) hX dL_law_574 (by decide) ?_
  refine z_iadd hX dL_law_575 ?_
  obtain ⟨hc143, h⟩ := h
  refine z_sld hX hSc dL_law_576 hc143 ?_
  refine z_i2l hX dL_law_577 ?_
  refine z_bipush (v := (32 : Int32)) hX dL_law_578 (by decide) ?_
  refine z_lshl hX dL_law_580 ?_
  refine z_aload_n (r := (some h0)) hX dL_law_581 rfl 0 rfl ?_
  refine z_iload hX dL_law_582 4 rfl ?_
  refine z_iconst (v := (3 : Int32)) hX dL_law_584 (by decide) ?_
  refine z_iadd hX dL_law_585 ?_
  obtain ⟨hc144, h⟩ := h
  refine z_sld hX hSc dL_law_586 hc144 ?_
  refine z_i2l hX dL_law_587 ?_
  refine z_ldc2 (v := (4294967295 : Int64)) hX dL_law_588 kj_RL_39 ?_
  refine z_land hX dL_law_591 ?_
  refine z_lor hX dL_law_592 ?_
  obtain ⟨a147, ha148, h⟩ := h
  obtain ⟨hk149, h⟩ := h
  refine z_callVI (As := [.int (xs ((l4 + (1 : Int32))).toNatClampNeg), .long (((((xs ((l4 + (2 : Int32))).toNatClampNeg)).toInt64) <<< (((32 : Int32)).toInt64 &&& 63)) ||| ((((xs ((l4 + (3 : Int32))).toNatClampNeg)).toInt64) &&& (4294967295 : Int64)))]) (rest := [.int r136]) (ci := 11) hX (ct_X11_hold h) mw_RL_83 rfl (by decide) rfl (by rw [ha148]; rfl) (by simp only [RoomC, room_1, rm_L_isIdle, rm_L_kept, rm_L_late, rm_L_out, rm_L_promise, rm_L_watermark, rm_X10_build, rm_X10_end, rm_X10_fault, rm_X10_feed, rm_X10_hold, rm_X10_idle, rm_X10_init, rm_X10_letter, rm_X10_mark, rm_X10_part, rm_X10_print, rm_X10_release, rm_X10_row, rm_X10_told, rm_X10_turn, rm_X11_build, rm_X11_end, rm_X11_fault_, rm_X11_feed, rm_X11_hold, rm_X11_idle, rm_X11_init, rm_X11_isIdle, rm_X11_kept, rm_X11_late_, rm_X11_letter, rm_X11_mark, rm_X11_out, rm_X11_part, rm_X11_print, rm_X11_promise, rm_X11_release, rm_X11_row, rm_X11_thrown, rm_X11_told, rm_X11_turn, rm_X11_watermark]; omega) (by simp only [List.map_cons, List.map_nil, List.sum_cons, List.sum_nil, cat_rf, cat_i, cat_j]; decide) dL_law_593 hk149 (fun r145 M146 h => ?_)
  obtain ⟨h1, h2⟩ := h
  refine z_icmp_eq (tgt := 1153) hX dL_law_596 (by decide) (fun hc => ?_) (fun hc => ?_)
  · have h := h1 hc
    refine z_widen (cc0 + 295) (ss0 + 2288) (by first | omega | (simp only [rm_L_isIdle, rm_L_kept, rm_L_late, rm_L_out, rm_L_promise, rm_L_watermark, rm_X10_build, rm_X10_end, rm_X10_fault, rm_X10_feed, rm_X10_hold, rm_X10_idle, rm_X10_init, rm_X10_letter, rm_X10_mark, rm_X10_part, rm_X10_print, rm_X10_release, rm_X10_row, rm_X10_told, rm_X10_turn, rm_X11_build, rm_X11_end, rm_X11_fault_, rm_X11_feed, rm_X11_hold, rm_X11_idle, rm_X11_init, rm_X11_isIdle, rm_X11_kept, rm_X11_late_, rm_X11_letter, rm_X11_mark, rm_X11_out, rm_X11_part, rm_X11_print, rm_X11_promise, rm_X11_release, rm_X11_row, rm_X11_thrown, rm_X11_told, rm_X11_turn, rm_X11_watermark]; omega)) (by first | omega | (simp only [rm_L_isIdle, rm_L_kept, rm_L_late, rm_L_out, rm_L_promise, rm_L_watermark, rm_X10_build, rm_X10_end, rm_X10_fault, rm_X10_feed, rm_X10_hold, rm_X10_idle, rm_X10_init, rm_X10_letter, rm_X10_mark, rm_X10_part, rm_X10_print, rm_X10_release, rm_X10_row, rm_X10_told, rm_X10_turn, rm_X11_build, rm_X11_end, rm_X11_fault_, rm_X11_feed, rm_X11_hold, rm_X11_idle, rm_X11_init, rm_X11_isIdle, rm_X11_kept, rm_X11_late_, rm_X11_letter, rm_X11_mark, rm_X11_out, rm_X11_part, rm_X11_print, rm_X11_promise, rm_X11_release, rm_X11_row, rm_X11_thrown, rm_X11_told, rm_X11_turn, rm_X11_watermark]; omega)) ?_
    exact zb_L_law_1153 hX hQ hnL hSc hcs hR23 h
  · have h := h2 hc
    refine z_iconst (v := (0 : Int32)) hX dL_law_599 (by decide) ?_
    refine z_widen 600002 7302232 (by first | omega | (simp only [rm_L_isIdle, rm_L_kept, rm_L_late, rm_L_out, rm_L_promise, rm_L_watermark, rm_X10_build, rm_X10_end, rm_X10_fault, rm_X10_feed, rm_X10_hold, rm_X10_idle, rm_X10_init, rm_X10_letter, rm_X10_mark, rm_X10_part, rm_X10_print, rm_X10_release, rm_X10_row, rm_X10_told, rm_X10_turn, rm_X11_build, rm_X11_end, rm_X11_fault_, rm_X11_feed, rm_X11_hold, rm_X11_idle, rm_X11_init, rm_X11_isIdle, rm_X11_kept, rm_X11_late_, rm_X11_letter, rm_X11_mark, rm_X11_out, rm_X11_part, rm_X11_print, rm_X11_promise, rm_X11_release, rm_X11_row, rm_X11_thrown, rm_X11_told, rm_X11_turn, rm_X11_watermark]; omega)) (by first | omega | (simp only [rm_L_isIdle, rm_L_kept, rm_L_late, rm_L_out, rm_L_promise, rm_L_watermark, rm_X10_build, rm_X10_end, rm_X10_fault, rm_X10_feed, rm_X10_hold, rm_X10_idle, rm_X10_init, rm_X10_letter, rm_X10_mark, rm_X10_part, rm_X10_print, rm_X10_release, rm_X10_row, rm_X10_told, rm_X10_turn, rm_X11_build, rm_X11_end, rm_X11_fault_, rm_X11_feed, rm_X11_hold, rm_X11_idle, rm_X11_init, rm_X11_isIdle, rm_X11_kept, rm_X11_late_, rm_X11_letter, rm_X11_mark, rm_X11_out, rm_X11_part, rm_X11_print, rm_X11_promise, rm_X11_release, rm_X11_row, rm_X11_thrown, rm_X11_told, rm_X11_turn, rm_X11_watermark]; omega)) ?_
    exact z_lwret hX hQ dL_law_600 h
def bk_L_law_652 (h0 L : Nat) (xs : Nat → Int32) (R23 : Option Nat → Option Nat → Option Nat → Int32 → Mm → Prop) (K : Int32 → Mm → Prop) (l1 : Option Nat) (l2 : Option Nat) (l3 : Option Nat) (l4 : Int32) (s0 : Int32) (s1 : Int32) (s2 : Option Nat) (s3 : Int32) (M : Mm) : Prop := vp_in (l4 + (3 : Int32)) L ∧ ∃ a154, s2 = some a154 ∧ mK M a154 = 12 ∧ (wp_X11_release M a154 s1 s0 (xs ((l4 + (3 : Int32))).toNatClampNeg) (fun r152 M153 => ((s3 = r152 → (bk_L_law_1153 h0 L xs R23 K l1 l2 l3 l4 M153)) ∧ (¬ s3 = r152 → (K (0 : Int32) M153)))))
set_option maxRecDepth 100000 in
set_option maxHeartbeats 4000000 in
theorem zb_L_law_652 {X : Cx} {h0 L : Nat} {xs : Nat → Int32} {R23 : Option Nat → Option Nat → Option Nat → Int32 → Mm → Prop} {K : Int32 → Mm → Prop} (hX : Ok X cL_law RL room_1) (hQ : RqL X h0 K) (hnL : X.2.2.2.2.2.2.2.2.2.2.2.2.2.2 = 8) (hSc : Scr X h0 L xs) {cc0 ss0 : Nat} (hcs : cc0 + 295 ≤ 2407 ∧ ss0 + 2288 ≤ 28584) (hR23 : ∀ l1 l2 l3 l4 M, R23 l1 l2 l3 l4 M → Z X M (cc0 + 295) (ss0 + 2288) 23 [(0, va_rf (some h0)), (1, va_rf l1), (2, va_rf l2), (3, va_rf l3), (4, .int l4)] []) {l1 : Option Nat} {l2 : Option Nat} {l3 : Option Nat} {l4 : Int32} {s0 : Int32} {s1 : Int32} {s2 : Option Nat} {s3 : Int32} {M : Mm} (h : bk_L_law_652 h0 L xs R23 K l1 l2 l3 l4 s0 s1 s2 s3 M) : Z X M (cc0 + 0) (ss0 + 0) 652 [(0, va_rf (some h0)), (1, va_rf l1), (2, va_rf l2), (3, va_rf l3), (4, .int l4)] [.int s0, .int s1, va_rf s2, .int s3] := by
  unfold bk_L_law_652 at h
  refine z_aload_n (r := (some h0)) hX dL_law_652 rfl 0 rfl ?_
  refine z_iload hX dL_law_653 4 rfl ?_
  refine z_iconst (v := (3 : Int32)) hX dL_law_655 (by decide) ?_
  refine z_iadd hX dL_law_656 ?_
  obtain ⟨hc151, h⟩ := h
  refine z_sld hX hSc dL_law_657 hc151 ?_
  obtain ⟨a154, ha155, h⟩ := h
  obtain ⟨hk156, h⟩ := h
  refine z_callVI (As := [.int s1, .int s0, .int (xs ((l4 + (3 : Int32))).toNatClampNeg)]) (rest := [.int s3]) (ci := 11) hX (ct_X11_release h) mw_RL_88 rfl (by decide) rfl (by rw [ha155]; rfl) (by simp only [RoomC, room_1, rm_L_isIdle, rm_L_kept, rm_L_late, rm_L_out, rm_L_promise, rm_L_watermark, rm_X10_build, rm_X10_end, rm_X10_fault, rm_X10_feed, rm_X10_hold, rm_X10_idle, rm_X10_init, rm_X10_letter, rm_X10_mark, rm_X10_part, rm_X10_print, rm_X10_release, rm_X10_row, rm_X10_told, rm_X10_turn, rm_X11_build, rm_X11_end, rm_X11_fault_, rm_X11_feed, rm_X11_hold, rm_X11_idle, rm_X11_init, rm_X11_isIdle, rm_X11_kept, rm_X11_late_, rm_X11_letter, rm_X11_mark, rm_X11_out, rm_X11_part, rm_X11_print, rm_X11_promise, rm_X11_release, rm_X11_row, rm_X11_thrown, rm_X11_told, rm_X11_turn, rm_X11_watermark]; omega) (by simp only [List.map_cons, List.map_nil, List.sum_cons, List.sum_nil, cat_rf, cat_i, cat_j]; decide) dL_law_658 hk156 (fun r152 M153 h => ?_)
  obtain ⟨h1, h2⟩ := h
  refine z_icmp_eq (tgt := 1153) hX dL_law_661 (by decide) (fun hc => ?_) (fun hc => ?_)
  · have h := h1 hc
    refine z_widen (cc0 + 295) (ss0 + 2288) (by first | omega | (simp only [rm_L_isIdle, rm_L_kept, rm_L_late, rm_L_out, rm_L_promise, rm_L_watermark, rm_X10_build, rm_X10_end, rm_X10_fault, rm_X10_feed, rm_X10_hold, rm_X10_idle, rm_X10_init, rm_X10_letter, rm_X10_mark, rm_X10_part, rm_X10_print, rm_X10_release, rm_X10_row, rm_X10_told, rm_X10_turn, rm_X11_build, rm_X11_end, rm_X11_fault_, rm_X11_feed, rm_X11_hold, rm_X11_idle, rm_X11_init, rm_X11_isIdle, rm_X11_kept, rm_X11_late_, rm_X11_letter, rm_X11_mark, rm_X11_out, rm_X11_part, rm_X11_print, rm_X11_promise, rm_X11_release, rm_X11_row, rm_X11_thrown, rm_X11_told, rm_X11_turn, rm_X11_watermark]; omega)) (by first | omega | (simp only [rm_L_isIdle, rm_L_kept, rm_L_late, rm_L_out, rm_L_promise, rm_L_watermark, rm_X10_build, rm_X10_end, rm_X10_fault, rm_X10_feed, rm_X10_hold, rm_X10_idle, rm_X10_init, rm_X10_letter, rm_X10_mark, rm_X10_part, rm_X10_print, rm_X10_release, rm_X10_row, rm_X10_told, rm_X10_turn, rm_X11_build, rm_X11_end, rm_X11_fault_, rm_X11_feed, rm_X11_hold, rm_X11_idle, rm_X11_init, rm_X11_isIdle, rm_X11_kept, rm_X11_late_, rm_X11_letter, rm_X11_mark, rm_X11_out, rm_X11_part, rm_X11_print, rm_X11_promise, rm_X11_release, rm_X11_row, rm_X11_thrown, rm_X11_told, rm_X11_turn, rm_X11_watermark]; omega)) ?_
    exact zb_L_law_1153 hX hQ hnL hSc hcs hR23 h
  · have h := h2 hc
    refine z_iconst (v := (0 : Int32)) hX dL_law_664 (by decide) ?_
    refine z_widen 600002 7302232 (by first | omega | (simp only [rm_L_isIdle, rm_L_kept, rm_L_late, rm_L_out, rm_L_promise, rm_L_watermark, rm_X10_build, rm_X10_end, rm_X10_fault, rm_X10_feed, rm_X10_hold, rm_X10_idle, rm_X10_init, rm_X10_letter, rm_X10_mark, rm_X10_part, rm_X10_print, rm_X10_release, rm_X10_row, rm_X10_told, rm_X10_turn, rm_X11_build, rm_X11_end, rm_X11_fault_, rm_X11_feed, rm_X11_hold, rm_X11_idle, rm_X11_init, rm_X11_isIdle, rm_X11_kept, rm_X11_late_, rm_X11_letter, rm_X11_mark, rm_X11_out, rm_X11_part, rm_X11_print, rm_X11_promise, rm_X11_release, rm_X11_row, rm_X11_thrown, rm_X11_told, rm_X11_turn, rm_X11_watermark]; omega)) (by first | omega | (simp only [rm_L_isIdle, rm_L_kept, rm_L_late, rm_L_out, rm_L_promise, rm_L_watermark, rm_X10_build, rm_X10_end, rm_X10_fault, rm_X10_feed, rm_X10_hold, rm_X10_idle, rm_X10_init, rm_X10_letter, rm_X10_mark, rm_X10_part, rm_X10_print, rm_X10_release, rm_X10_row, rm_X10_told, rm_X10_turn, rm_X11_build, rm_X11_end, rm_X11_fault_, rm_X11_feed, rm_X11_hold, rm_X11_idle, rm_X11_init, rm_X11_isIdle, rm_X11_kept, rm_X11_late_, rm_X11_letter, rm_X11_mark, rm_X11_out, rm_X11_part, rm_X11_print, rm_X11_promise, rm_X11_release, rm_X11_row, rm_X11_thrown, rm_X11_told, rm_X11_turn, rm_X11_watermark]; omega)) ?_
    exact z_lwret hX hQ dL_law_665 h
def bk_L_law_622 (h0 L : Nat) (xs : Nat → Int32) (R23 : Option Nat → Option Nat → Option Nat → Int32 → Mm → Prop) (K : Int32 → Mm → Prop) (l1 : Option Nat) (l2 : Option Nat) (l3 : Option Nat) (l4 : Int32) (s0 : Int32) (s1 : Int32) (s2 : Option Nat) (M : Mm) : Prop := vp_in (l4 + (3 : Int32)) L ∧ ∃ a161, s2 = some a161 ∧ mK M a161 = 11 ∧ (wp_X10_release M a161 s1 s0 (xs ((l4 + (3 : Int32))).toNatClampNeg) (fun r159 M160 => vp_in (l4 + (1 : Int32)) L ∧ vp_in (l4 + (2 : Int32)) L ∧ (((xs ((l4 + (2 : Int32))).toNatClampNeg) = 0 → (bk_L_law_652 h0 L xs R23 K l1 l2 l3 l4 (0 : Int32) (xs ((l4 + (1 : Int32))).toNatClampNeg) l2 r159 M160)) ∧ (¬ (xs ((l4 + (2 : Int32))).toNatClampNeg) = 0 → (bk_L_law_652 h0 L xs R23 K l1 l2 l3 l4 (1 : Int32) (xs ((l4 + (1 : Int32))).toNatClampNeg) l2 r159 M160)))))
set_option maxRecDepth 100000 in
set_option maxHeartbeats 4000000 in
theorem zb_L_law_622 {X : Cx} {h0 L : Nat} {xs : Nat → Int32} {R23 : Option Nat → Option Nat → Option Nat → Int32 → Mm → Prop} {K : Int32 → Mm → Prop} (hX : Ok X cL_law RL room_1) (hQ : RqL X h0 K) (hnL : X.2.2.2.2.2.2.2.2.2.2.2.2.2.2 = 8) (hSc : Scr X h0 L xs) {cc0 ss0 : Nat} (hcs : cc0 + 295 ≤ 2407 ∧ ss0 + 2288 ≤ 28584) (hR23 : ∀ l1 l2 l3 l4 M, R23 l1 l2 l3 l4 M → Z X M (cc0 + 295) (ss0 + 2288) 23 [(0, va_rf (some h0)), (1, va_rf l1), (2, va_rf l2), (3, va_rf l3), (4, .int l4)] []) {l1 : Option Nat} {l2 : Option Nat} {l3 : Option Nat} {l4 : Int32} {s0 : Int32} {s1 : Int32} {s2 : Option Nat} {M : Mm} (h : bk_L_law_622 h0 L xs R23 K l1 l2 l3 l4 s0 s1 s2 M) : Z X M (cc0 + 0) (ss0 + 0) 622 [(0, va_rf (some h0)), (1, va_rf l1), (2, va_rf l2), (3, va_rf l3), (4, .int l4)] [.int s0, .int s1, va_rf s2] := by
  unfold bk_L_law_622 at h
  refine z_aload_n (r := (some h0)) hX dL_law_622 rfl 0 rfl ?_
  refine z_iload hX dL_law_623 4 rfl ?_
  refine z_iconst (v := (3 : Int32)) hX dL_law_625 (by decide) ?_
  refine z_iadd hX dL_law_626 ?_
  obtain ⟨hc158, h⟩ := h
  refine z_sld hX hSc dL_law_627 hc158 ?_
  obtain ⟨a161, ha162, h⟩ := h
  obtain ⟨hk163, h⟩ := h
  refine z_callVI (As := [.int s1, .int s0, .int (xs ((l4 + (3 : Int32))).toNatClampNeg)]) (rest := []) (ci := 10) hX (ct_X10_release h) mw_RL_84 rfl (by decide) rfl (by rw [ha162]; rfl) (by simp only [RoomC, room_1, rm_L_isIdle, rm_L_kept, rm_L_late, rm_L_out, rm_L_promise, rm_L_watermark, rm_X10_build, rm_X10_end, rm_X10_fault, rm_X10_feed, rm_X10_hold, rm_X10_idle, rm_X10_init, rm_X10_letter, rm_X10_mark, rm_X10_part, rm_X10_print, rm_X10_release, rm_X10_row, rm_X10_told, rm_X10_turn, rm_X11_build, rm_X11_end, rm_X11_fault_, rm_X11_feed, rm_X11_hold, rm_X11_idle, rm_X11_init, rm_X11_isIdle, rm_X11_kept, rm_X11_late_, rm_X11_letter, rm_X11_mark, rm_X11_out, rm_X11_part, rm_X11_print, rm_X11_promise, rm_X11_release, rm_X11_row, rm_X11_thrown, rm_X11_told, rm_X11_turn, rm_X11_watermark]; omega) (by decide) dL_law_628 hk163 (fun r159 M160 h => ?_)
  refine z_aload_n (r := l2) hX dL_law_631 rfl 2 rfl ?_
  refine z_aload_n (r := (some h0)) hX dL_law_632 rfl 0 rfl ?_
  refine z_iload hX dL_law_633 4 rfl ?_
  refine z_iconst (v := (1 : Int32)) hX dL_law_635 (by decide) ?_
  refine z_iadd hX dL_law_636 ?_
  obtain ⟨hc165, h⟩ := h
  refine z_sld hX hSc dL_law_637 hc165 ?_
  refine z_aload_n (r := (some h0)) hX dL_law_638 rfl 0 rfl ?_
  refine z_iload hX dL_law_639 4 rfl ?_
  refine z_iconst (v := (2 : Int32)) hX dL_law_641 (by decide) ?_
  refine z_iadd hX dL_law_642 ?_
  obtain ⟨hc166, h⟩ := h
  refine z_sld hX hSc dL_law_643 hc166 ?_
  obtain ⟨h1, h2⟩ := h
  refine z_if_eq (tgt := 651) hX dL_law_644 (by decide) (fun hc => ?_) (fun hc => ?_)
  · have h := h1 hc
    refine z_iconst (v := (0 : Int32)) hX dL_law_651 (by decide) ?_
    refine z_widen (cc0 + 0) (ss0 + 0) (by first | omega | (simp only [rm_L_isIdle, rm_L_kept, rm_L_late, rm_L_out, rm_L_promise, rm_L_watermark, rm_X10_build, rm_X10_end, rm_X10_fault, rm_X10_feed, rm_X10_hold, rm_X10_idle, rm_X10_init, rm_X10_letter, rm_X10_mark, rm_X10_part, rm_X10_print, rm_X10_release, rm_X10_row, rm_X10_told, rm_X10_turn, rm_X11_build, rm_X11_end, rm_X11_fault_, rm_X11_feed, rm_X11_hold, rm_X11_idle, rm_X11_init, rm_X11_isIdle, rm_X11_kept, rm_X11_late_, rm_X11_letter, rm_X11_mark, rm_X11_out, rm_X11_part, rm_X11_print, rm_X11_promise, rm_X11_release, rm_X11_row, rm_X11_thrown, rm_X11_told, rm_X11_turn, rm_X11_watermark]; omega)) (by first | omega | (simp only [rm_L_isIdle, rm_L_kept, rm_L_late, rm_L_out, rm_L_promise, rm_L_watermark, rm_X10_build, rm_X10_end, rm_X10_fault, rm_X10_feed, rm_X10_hold, rm_X10_idle, rm_X10_init, rm_X10_letter, rm_X10_mark, rm_X10_part, rm_X10_print, rm_X10_release, rm_X10_row, rm_X10_told, rm_X10_turn, rm_X11_build, rm_X11_end, rm_X11_fault_, rm_X11_feed, rm_X11_hold, rm_X11_idle, rm_X11_init, rm_X11_isIdle, rm_X11_kept, rm_X11_late_, rm_X11_letter, rm_X11_mark, rm_X11_out, rm_X11_part, rm_X11_print, rm_X11_promise, rm_X11_release, rm_X11_row, rm_X11_thrown, rm_X11_told, rm_X11_turn, rm_X11_watermark]; omega)) ?_
    exact zb_L_law_652 hX hQ hnL hSc hcs hR23 h
  · have h := h2 hc
    refine z_iconst (v := (1 : Int32)) hX dL_law_647 (by decide) ?_
    refine z_goto (tgt := 652) hX dL_law_648 (by decide) ?_
    refine z_widen (cc0 + 0) (ss0 + 0) (by first | omega | (simp only [rm_L_isIdle, rm_L_kept, rm_L_late, rm_L_out, rm_L_promise, rm_L_watermark, rm_X10_build, rm_X10_end, rm_X10_fault, rm_X10_feed, rm_X10_hold, rm_X10_idle, rm_X10_init, rm_X10_letter, rm_X10_mark, rm_X10_part, rm_X10_print, rm_X10_release, rm_X10_row, rm_X10_told, rm_X10_turn, rm_X11_build, rm_X11_end, rm_X11_fault_, rm_X11_feed, rm_X11_hold, rm_X11_idle, rm_X11_init, rm_X11_isIdle, rm_X11_kept, rm_X11_late_, rm_X11_letter, rm_X11_mark, rm_X11_out, rm_X11_part, rm_X11_print, rm_X11_promise, rm_X11_release, rm_X11_row, rm_X11_thrown, rm_X11_told, rm_X11_turn, rm_X11_watermark]; omega)) (by first | omega | (simp only [rm_L_isIdle, rm_L_kept, rm_L_late, rm_L_out, rm_L_promise, rm_L_watermark, rm_X10_build, rm_X10_end, rm_X10_fault, rm_X10_feed, rm_X10_hold, rm_X10_idle, rm_X10_init, rm_X10_letter, rm_X10_mark, rm_X10_part, rm_X10_print, rm_X10_release, rm_X10_row, rm_X10_told, rm_X10_turn, rm_X11_build, rm_X11_end, rm_X11_fault_, rm_X11_feed, rm_X11_hold, rm_X11_idle, rm_X11_init, rm_X11_isIdle, rm_X11_kept, rm_X11_late_, rm_X11_letter, rm_X11_mark, rm_X11_out, rm_X11_part, rm_X11_print, rm_X11_promise, rm_X11_release, rm_X11_row, rm_X11_thrown, rm_X11_told, rm_X11_turn, rm_X11_watermark]; omega)) ?_
    exact zb_L_law_652 hX hQ hnL hSc hcs hR23 h
def bk_L_law_601 (h0 L : Nat) (xs : Nat → Int32) (R23 : Option Nat → Option Nat → Option Nat → Int32 → Mm → Prop) (K : Int32 → Mm → Prop) (l1 : Option Nat) (l2 : Option Nat) (l3 : Option Nat) (l4 : Int32) (M : Mm) : Prop := vp_in (l4 + (1 : Int32)) L ∧ vp_in (l4 + (2 : Int32)) L ∧ (((xs ((l4 + (2 : Int32))).toNatClampNeg) = 0 → (bk_L_law_622 h0 L xs R23 K l1 l2 l3 l4 (0 : Int32) (xs ((l4 + (1 : Int32))).toNatClampNeg) l1 M)) ∧ (¬ (xs ((l4 + (2 : Int32))).toNatClampNeg) = 0 → (bk_L_law_622 h0 L xs R23 K l1 l2 l3 l4 (1 : Int32) (xs ((l4 + (1 : Int32))).toNatClampNeg) l1 M)))
set_option maxRecDepth 100000 in
set_option maxHeartbeats 4000000 in
theorem zb_L_law_601 {X : Cx} {h0 L : Nat} {xs : Nat → Int32} {R23 : Option Nat → Option Nat → Option Nat → Int32 → Mm → Prop} {K : Int32 → Mm → Prop} (hX : Ok X cL_law RL room_1) (hQ : RqL X h0 K) (hnL : X.2.2.2.2.2.2.2.2.2.2.2.2.2.2 = 8) (hSc : Scr X h0 L xs) {cc0 ss0 : Nat} (hcs : cc0 + 295 ≤ 2407 ∧ ss0 + 2288 ≤ 28584) (hR23 : ∀ l1 l2 l3 l4 M, R23 l1 l2 l3 l4 M → Z X M (cc0 + 295) (ss0 + 2288) 23 [(0, va_rf (some h0)), (1, va_rf l1), (2, va_rf l2), (3, va_rf l3), (4, .int l4)] []) {l1 : Option Nat} {l2 : Option Nat} {l3 : Option Nat} {l4 : Int32} {M : Mm} (h : bk_L_law_601 h0 L xs R23 K l1 l2 l3 l4 M) : Z X M (cc0 + 0) (ss0 + 0) 601 [(0, va_rf (some h0)), (1, va_rf l1), (2, va_rf l2), (3, va_rf l3), (4, .int l4)] [] := by
  unfold bk_L_law_601 at h
  refine z_aload_n (r := l1) hX dL_law_601 rfl 1 rfl ?_
  refine z_aload_n (r := (some h0)) hX dL_law_602 rfl 0 rfl ?_
  refine z_iload hX dL_law_603 4 rfl ?_
  refine z_iconst (v := (1 : Int32)) hX dL_law_605 (by decide) ?_
  refine z_iadd hX dL_law_606 ?_
  obtain ⟨hc167, h⟩ := h
  refine z_sld hX hSc dL_law_607 hc167 ?_
  refine z_aload_n (r := (some h0)) hX dL_law_608 rfl 0 rfl ?_
  refine z_iload hX dL_law_609 4 rfl ?_
  refine z_iconst (v := (2 : Int32)) hX dL_law_611 (by decide) ?_
  refine z_iadd hX dL_law_612 ?_
  obtain ⟨hc168, h⟩ := h
  refine z_sld hX hSc dL_law_613 hc168 ?_
  obtain ⟨h1, h2⟩ := h
  refine z_if_eq (tgt := 621) hX dL_law_614 (by decide) (fun hc => ?_) (fun hc => ?_)
  · have h := h1 hc
    refine z_iconst (v := (0 : Int32)) hX dL_law_621 (by decide) ?_
    refine z_widen (cc0 + 0) (ss0 + 0) (by first | omega | (simp only [rm_L_isIdle, rm_L_kept, rm_L_late, rm_L_out, rm_L_promise, rm_L_watermark, rm_X10_build, rm_X10_end, rm_X10_fault, rm_X10_feed, rm_X10_hold, rm_X10_idle, rm_X10_init, rm_X10_letter, rm_X10_mark, rm_X10_part, rm_X10_print, rm_X10_release, rm_X10_row, rm_X10_told, rm_X10_turn, rm_X11_build, rm_X11_end, rm_X11_fault_, rm_X11_feed, rm_X11_hold, rm_X11_idle, rm_X11_init, rm_X11_isIdle, rm_X11_kept, rm_X11_late_, rm_X11_letter, rm_X11_mark, rm_X11_out, rm_X11_part, rm_X11_print, rm_X11_promise, rm_X11_release, rm_X11_row, rm_X11_thrown, rm_X11_told, rm_X11_turn, rm_X11_watermark]; omega)) (by first | omega | (simp only [rm_L_isIdle, rm_L_kept, rm_L_late, rm_L_out, rm_L_promise, rm_L_watermark, rm_X10_build, rm_X10_end, rm_X10_fault, rm_X10_feed, rm_X10_hold, rm_X10_idle, rm_X10_init, rm_X10_letter, rm_X10_mark, rm_X10_part, rm_X10_print, rm_X10_release, rm_X10_row, rm_X10_told, rm_X10_turn, rm_X11_build, rm_X11_end, rm_X11_fault_, rm_X11_feed, rm_X11_hold, rm_X11_idle, rm_X11_init, rm_X11_isIdle, rm_X11_kept, rm_X11_late_, rm_X11_letter, rm_X11_mark, rm_X11_out, rm_X11_part, rm_X11_print, rm_X11_promise, rm_X11_release, rm_X11_row, rm_X11_thrown, rm_X11_told, rm_X11_turn, rm_X11_watermark]; omega)) ?_
    exact zb_L_law_622 hX hQ hnL hSc hcs hR23 h
  · have h := h2 hc
    refine z_iconst (v := (1 : Int32)) hX dL_law_617 (by decide) ?_
    refine z_goto (tgt := 622) hX dL_law_618 (by decide) ?_
    refine z_widen (cc0 + 0) (ss0 + 0) (by first | omega | (simp only [rm_L_isIdle, rm_L_kept, rm_L_late, rm_L_out, rm_L_promise, rm_L_watermark, rm_X10_build, rm_X10_end, rm_X10_fault, rm_X10_feed, rm_X10_hold, rm_X10_idle, rm_X10_init, rm_X10_letter, rm_X10_mark, rm_X10_part, rm_X10_print, rm_X10_release, rm_X10_row, rm_X10_told, rm_X10_turn, rm_X11_build, rm_X11_end, rm_X11_fault_, rm_X11_feed, rm_X11_hold, rm_X11_idle, rm_X11_init, rm_X11_isIdle, rm_X11_kept, rm_X11_late_, rm_X11_letter, rm_X11_mark, rm_X11_out, rm_X11_part, rm_X11_print, rm_X11_promise, rm_X11_release, rm_X11_row, rm_X11_thrown, rm_X11_told, rm_X11_turn, rm_X11_watermark]; omega)) (by first | omega | (simp only [rm_L_isIdle, rm_L_kept, rm_L_late, rm_L_out, rm_L_promise, rm_L_watermark, rm_X10_build, rm_X10_end, rm_X10_fault, rm_X10_feed, rm_X10_hold, rm_X10_idle, rm_X10_init, rm_X10_letter, rm_X10_mark, rm_X10_part, rm_X10_print, rm_X10_release, rm_X10_row, rm_X10_told, rm_X10_turn, rm_X11_build, rm_X11_end, rm_X11_fault_, rm_X11_feed, rm_X11_hold, rm_X11_idle, rm_X11_init, rm_X11_isIdle, rm_X11_kept, rm_X11_late_, rm_X11_letter, rm_X11_mark, rm_X11_out, rm_X11_part, rm_X11_print, rm_X11_promise, rm_X11_release, rm_X11_row, rm_X11_thrown, rm_X11_told, rm_X11_turn, rm_X11_watermark]; omega)) ?_
    exact zb_L_law_622 hX hQ hnL hSc hcs hR23 h
def bk_L_law_718 (h0 L : Nat) (xs : Nat → Int32) (R23 : Option Nat → Option Nat → Option Nat → Int32 → Mm → Prop) (K : Int32 → Mm → Prop) (l1 : Option Nat) (l2 : Option Nat) (l3 : Option Nat) (l4 : Int32) (M : Mm) : Prop := (bk_L_law_1153 h0 L xs R23 K l1 l2 l3 l4 M)
set_option maxRecDepth 100000 in
set_option maxHeartbeats 4000000 in
theorem zb_L_law_718 {X : Cx} {h0 L : Nat} {xs : Nat → Int32} {R23 : Option Nat → Option Nat → Option Nat → Int32 → Mm → Prop} {K : Int32 → Mm → Prop} (hX : Ok X cL_law RL room_1) (hQ : RqL X h0 K) (hnL : X.2.2.2.2.2.2.2.2.2.2.2.2.2.2 = 8) (hSc : Scr X h0 L xs) {cc0 ss0 : Nat} (hcs : cc0 + 295 ≤ 2407 ∧ ss0 + 2288 ≤ 28584) (hR23 : ∀ l1 l2 l3 l4 M, R23 l1 l2 l3 l4 M → Z X M (cc0 + 295) (ss0 + 2288) 23 [(0, va_rf (some h0)), (1, va_rf l1), (2, va_rf l2), (3, va_rf l3), (4, .int l4)] []) {l1 : Option Nat} {l2 : Option Nat} {l3 : Option Nat} {l4 : Int32} {M : Mm} (h : bk_L_law_718 h0 L xs R23 K l1 l2 l3 l4 M) : Z X M (cc0 + 1) (ss0 + 6) 718 [(0, va_rf (some h0)), (1, va_rf l1), (2, va_rf l2), (3, va_rf l3), (4, .int l4)] [] := by
  unfold bk_L_law_718 at h
  refine z_goto (tgt := 1153) hX dL_law_718 (by decide) ?_
  refine z_widen (cc0 + 295) (ss0 + 2288) (by first | omega | (simp only [rm_L_isIdle, rm_L_kept, rm_L_late, rm_L_out, rm_L_promise, rm_L_watermark, rm_X10_build, rm_X10_end, rm_X10_fault, rm_X10_feed, rm_X10_hold, rm_X10_idle, rm_X10_init, rm_X10_letter, rm_X10_mark, rm_X10_part, rm_X10_print, rm_X10_release, rm_X10_row, rm_X10_told, rm_X10_turn, rm_X11_build, rm_X11_end, rm_X11_fault_, rm_X11_feed, rm_X11_hold, rm_X11_idle, rm_X11_init, rm_X11_isIdle, rm_X11_kept, rm_X11_late_, rm_X11_letter, rm_X11_mark, rm_X11_out, rm_X11_part, rm_X11_print, rm_X11_promise, rm_X11_release, rm_X11_row, rm_X11_thrown, rm_X11_told, rm_X11_turn, rm_X11_watermark]; omega)) (by first | omega | (simp only [rm_L_isIdle, rm_L_kept, rm_L_late, rm_L_out, rm_L_promise, rm_L_watermark, rm_X10_build, rm_X10_end, rm_X10_fault, rm_X10_feed, rm_X10_hold, rm_X10_idle, rm_X10_init, rm_X10_letter, rm_X10_mark, rm_X10_part, rm_X10_print, rm_X10_release, rm_X10_row, rm_X10_told, rm_X10_turn, rm_X11_build, rm_X11_end, rm_X11_fault_, rm_X11_feed, rm_X11_hold, rm_X11_idle, rm_X11_init, rm_X11_isIdle, rm_X11_kept, rm_X11_late_, rm_X11_letter, rm_X11_mark, rm_X11_out, rm_X11_part, rm_X11_print, rm_X11_promise, rm_X11_release, rm_X11_row, rm_X11_thrown, rm_X11_told, rm_X11_turn, rm_X11_watermark]; omega)) ?_
  exact zb_L_law_1153 hX hQ hnL hSc hcs hR23 h
def bk_L_law_666 (h0 L : Nat) (xs : Nat → Int32) (R23 : Option Nat → Option Nat → Option Nat → Int32 → Mm → Prop) (K : Int32 → Mm → Prop) (l1 : Option Nat) (l2 : Option Nat) (l3 : Option Nat) (l4 : Int32) (M : Mm) : Prop := vp_in (l4 + (1 : Int32)) L ∧ (wp_L_watermark M l1 (xs ((l4 + (1 : Int32))).toNatClampNeg) l3 (fun r170 M171 => vp_in (l4 + (1 : Int32)) L ∧ ∃ a176, l2 = some a176 ∧ mK M171 a176 = 12 ∧ (wp_X11_watermark M171 a176 (xs ((l4 + (1 : Int32))).toNatClampNeg) (fun r174 M175 => mK M175 a176 = 12 ∧ (wp_X11_thrown M175 a176 (fun r180 M181 => ((r180 = r170 → ((¬ r170 = 0 → (bk_L_law_718 h0 L xs R23 K l1 l2 l3 l4 M181)) ∧ (r170 = 0 → ∃ a184, l3 = some a184 ∧ isA M181 a184 2 ∧ vp_in (0 : Int32) (aN M181 a184) ∧ (((aJ M181 a184 ((0 : Int32)).toNatClampNeg) = r174 → (bk_L_law_718 h0 L xs R23 K l1 l2 l3 l4 M181)) ∧ (¬ (aJ M181 a184 ((0 : Int32)).toNatClampNeg) = r174 → (K (0 : Int32) M181)))))) ∧ (¬ r180 = r170 → (K (0 : Int32) M181)))))))))
set_option maxRecDepth 100000 in
set_option maxHeartbeats 4000000 in
theorem zb_L_law_666 {X : Cx} {h0 L : Nat} {xs : Nat → Int32} {R23 : Option Nat → Option Nat → Option Nat → Int32 → Mm → Prop} {K : Int32 → Mm → Prop} (hX : Ok X cL_law RL room_1) (hQ : RqL X h0 K) (hnL : X.2.2.2.2.2.2.2.2.2.2.2.2.2.2 = 8) (hSc : Scr X h0 L xs) {cc0 ss0 : Nat} (hcs : cc0 + 295 ≤ 2407 ∧ ss0 + 2288 ≤ 28584) (hR23 : ∀ l1 l2 l3 l4 M, R23 l1 l2 l3 l4 M → Z X M (cc0 + 295) (ss0 + 2288) 23 [(0, va_rf (some h0)), (1, va_rf l1), (2, va_rf l2), (3, va_rf l3), (4, .int l4)] []) {l1 : Option Nat} {l2 : Option Nat} {l3 : Option Nat} {l4 : Int32} {M : Mm} (h : bk_L_law_666 h0 L xs R23 K l1 l2 l3 l4 M) : Z X M (cc0 + 0) (ss0 + 0) 666 [(0, va_rf (some h0)), (1, va_rf l1), (2, va_rf l2), (3, va_rf l3), (4, .int l4)] [] := by
  unfold bk_L_law_666 at h
  refine z_aload_n (r := l1) hX dL_law_666 rfl 1 rfl ?_
  refine z_aload_n (r := (some h0)) hX dL_law_667 rfl 0 rfl ?_
  refine z_iload hX dL_law_668 4 rfl ?_
  refine z_iconst (v := (1 : Int32)) hX dL_law_670 (by decide) ?_
  refine z_iadd hX dL_law_671 ?_
  obtain ⟨hc169, h⟩ := h
  refine z_sld hX hSc dL_law_672 hc169 ?_
  refine z_aload_n (r := l3) hX dL_law_673 rfl 3 rfl ?_
  refine zw_callSI (As := [va_rf l1, .int (xs ((l4 + (1 : Int32))).toNatClampNeg), va_rf l3]) (rest := []) hX hQ (ct_L_watermark h) sw_RL_89 rfl (by rfl) (by simp only [RoomC, room_1, rm_L_isIdle, rm_L_kept, rm_L_late, rm_L_out, rm_L_promise, rm_L_watermark, rm_X10_build, rm_X10_end, rm_X10_fault, rm_X10_feed, rm_X10_hold, rm_X10_idle, rm_X10_init, rm_X10_letter, rm_X10_mark, rm_X10_part, rm_X10_print, rm_X10_release, rm_X10_row, rm_X10_told, rm_X10_turn, rm_X11_build, rm_X11_end, rm_X11_fault_, rm_X11_feed, rm_X11_hold, rm_X11_idle, rm_X11_init, rm_X11_isIdle, rm_X11_kept, rm_X11_late_, rm_X11_letter, rm_X11_mark, rm_X11_out, rm_X11_part, rm_X11_print, rm_X11_promise, rm_X11_release, rm_X11_row, rm_X11_thrown, rm_X11_told, rm_X11_turn, rm_X11_watermark]; omega) (by decide) dL_law_674 (fun r170 M171 h => ?_)
  refine z_istore hX [(5, .int r170), (0, va_rf (some h0)), (1, va_rf l1), (2, va_rf l2), (3, va_rf l3), (4, .int l4)] dL_law_677 (by rw [hnL]; decide) rfl ?_
  refine z_aload_n (r := l2) hX dL_law_679 rfl 3 rfl ?_
  refine z_aload_n (r := (some h0)) hX dL_law_680 rfl 1 rfl ?_
  refine z_iload hX dL_law_681 5 rfl ?_
  refine z_iconst (v := (1 : Int32)) hX dL_law_683 (by decide) ?_
  refine z_iadd hX dL_law_684 ?_
  obtain ⟨hc173, h⟩ := h
  refine z_sld hX hSc dL_law_685 hc173 ?_
  obtain ⟨a176, ha177, h⟩ := h
  obtain ⟨hk178, h⟩ := h
  refine z_callVJ (As := [.int (xs ((l4 + (1 : Int32))).toNatClampNeg)]) (rest := []) (ci := 11) hX (ct_X11_watermark h) mw_RL_94 rfl (by decide) rfl (by rw [ha177]; rfl) (by simp only [RoomC, room_1, rm_L_isIdle, rm_L_kept, rm_L_late, rm_L_out, rm_L_promise, rm_L_watermark, rm_X10_build, rm_X10_end, rm_X10_fault, rm_X10_feed, rm_X10_hold, rm_X10_idle, rm_X10_init, rm_X10_letter, rm_X10_mark, rm_X10_part, rm_X10_print, rm_X10_release, rm_X10_row, rm_X10_told, rm_X10_turn, rm_X11_build, rm_X11_end, rm_X11_fault_, rm_X11_feed, rm_X11_hold, rm_X11_idle, rm_X11_init, rm_X11_isIdle, rm_X11_kept, rm_X11_late_, rm_X11_letter, rm_X11_mark, rm_X11_out, rm_X11_part, rm_X11_print, rm_X11_promise, rm_X11_release, rm_X11_row, rm_X11_thrown, rm_X11_told, rm_X11_turn, rm_X11_watermark]; omega) (by decide) dL_law_686 hk178 (fun r174 M175 h => ?_)
  refine z_lstore hX [(6, .long r174), (5, .int r170), (0, va_rf (some h0)), (1, va_rf l1), (2, va_rf l2), (3, va_rf l3), (4, .int l4)] dL_law_689 (by rw [hnL]; decide) rfl ?_
  refine z_aload_n (r := l2) hX dL_law_691 rfl 4 rfl ?_
  obtain ⟨hk182, h⟩ := h
  refine z_callVI (As := []) (rest := []) (ci := 11) hX (ct_X11_thrown h) mw_RL_95 rfl (by decide) rfl (by rw [ha177]; rfl) (by simp only [RoomC, room_1, rm_L_isIdle, rm_L_kept, rm_L_late, rm_L_out, rm_L_promise, rm_L_watermark, rm_X10_build, rm_X10_end, rm_X10_fault, rm_X10_feed, rm_X10_hold, rm_X10_idle, rm_X10_init, rm_X10_letter, rm_X10_mark, rm_X10_part, rm_X10_print, rm_X10_release, rm_X10_row, rm_X10_told, rm_X10_turn, rm_X11_build, rm_X11_end, rm_X11_fault_, rm_X11_feed, rm_X11_hold, rm_X11_idle, rm_X11_init, rm_X11_isIdle, rm_X11_kept, rm_X11_late_, rm_X11_letter, rm_X11_mark, rm_X11_out, rm_X11_part, rm_X11_print, rm_X11_promise, rm_X11_release, rm_X11_row, rm_X11_thrown, rm_X11_told, rm_X11_turn, rm_X11_watermark]; omega) (by decide) dL_law_692 hk182 (fun r180 M181 h => ?_)
  refine z_iload hX dL_law_695 1 rfl ?_
  obtain ⟨h1, h2⟩ := h
  refine z_icmp_eq (tgt := 702) hX dL_law_697 (by decide) (fun hc => ?_) (fun hc => ?_)
  · have h := h1 hc
    refine z_iload hX dL_law_702 1 rfl ?_
    obtain ⟨h1, h2⟩ := h
    refine z_if_ne (tgt := 718) hX dL_law_704 (by decide) (fun hc => ?_) (fun hc => ?_)
    · have h := h1 hc
      refine z_loc [2, 3, 4, 5, 6] rfl ?_
      refine z_widen (cc0 + 1) (ss0 + 6) (by first | omega | (simp only [rm_L_isIdle, rm_L_kept, rm_L_late, rm_L_out, rm_L_promise, rm_L_watermark, rm_X10_build, rm_X10_end, rm_X10_fault, rm_X10_feed, rm_X10_hold, rm_X10_idle, rm_X10_init, rm_X10_letter, rm_X10_mark, rm_X10_part, rm_X10_print, rm_X10_release, rm_X10_row, rm_X10_told, rm_X10_turn, rm_X11_build, rm_X11_end, rm_X11_fault_, rm_X11_feed, rm_X11_hold, rm_X11_idle, rm_X11_init, rm_X11_isIdle, rm_X11_kept, rm_X11_late_, rm_X11_letter, rm_X11_mark, rm_X11_out, rm_X11_part, rm_X11_print, rm_X11_promise, rm_X11_release, rm_X11_row, rm_X11_thrown, rm_X11_told, rm_X11_turn, rm_X11_watermark]; omega)) (by first | omega | (simp only [rm_L_isIdle, rm_L_kept, rm_L_late, rm_L_out, rm_L_promise, rm_L_watermark, rm_X10_build, rm_X10_end, rm_X10_fault, rm_X10_feed, rm_X10_hold, rm_X10_idle, rm_X10_init, rm_X10_letter, rm_X10_mark, rm_X10_part, rm_X10_print, rm_X10_release, rm_X10_row, rm_X10_told, rm_X10_turn, rm_X11_build, rm_X11_end, rm_X11_fault_, rm_X11_feed, rm_X11_hold, rm_X11_idle, rm_X11_init, rm_X11_isIdle, rm_X11_kept, rm_X11_late_, rm_X11_letter, rm_X11_mark, rm_X11_out, rm_X11_part, rm_X11_print, rm_X11_promise, rm_X11_release, rm_X11_row, rm_X11_thrown, rm_X11_told, rm_X11_turn, rm_X11_watermark]; omega)) ?_
      exact zb_L_law_718 hX hQ hnL hSc hcs hR23 h
    · have h := h2 hc
      refine z_aload_n (r := l3) hX dL_law_707 rfl 5 rfl ?_
      refine z_iconst (v := (0 : Int32)) hX dL_law_708 (by decide) ?_
      obtain ⟨a184, ha185, h⟩ := h
      obtain ⟨hk186, h⟩ := h
      obtain ⟨hc187, h⟩ := h
      refine y_lald (r := l3) hX dL_law_709 ha185 hk186 hc187 ?_
      refine z_lload hX dL_law_710 0 rfl ?_
      refine z_lcmp hX dL_law_712 ?_
      obtain ⟨h1, h2⟩ := h
      refine z_if_eq (tgt := 718) hX dL_law_713 (by decide) (fun hc => ?_) (fun hc => ?_)
      · have h := h1 ((lg_cmp_eq _ _).mp hc)
        refine z_loc [2, 3, 4, 5, 6] rfl ?_
        refine z_widen (cc0 + 1) (ss0 + 6) (by first | omega | (simp only [rm_L_isIdle, rm_L_kept, rm_L_late, rm_L_out, rm_L_promise, rm_L_watermark, rm_X10_build, rm_X10_end, rm_X10_fault, rm_X10_feed, rm_X10_hold, rm_X10_idle, rm_X10_init, rm_X10_letter, rm_X10_mark, rm_X10_part, rm_X10_print, rm_X10_release, rm_X10_row, rm_X10_told, rm_X10_turn, rm_X11_build, rm_X11_end, rm_X11_fault_, rm_X11_feed, rm_X11_hold, rm_X11_idle, rm_X11_init, rm_X11_isIdle, rm_X11_kept, rm_X11_late_, rm_X11_letter, rm_X11_mark, rm_X11_out, rm_X11_part, rm_X11_print, rm_X11_promise, rm_X11_release, rm_X11_row, rm_X11_thrown, rm_X11_told, rm_X11_turn, rm_X11_watermark]; omega)) (by first | omega | (simp only [rm_L_isIdle, rm_L_kept, rm_L_late, rm_L_out, rm_L_promise, rm_L_watermark, rm_X10_build, rm_X10_end, rm_X10_fault, rm_X10_feed, rm_X10_hold, rm_X10_idle, rm_X10_init, rm_X10_letter, rm_X10_mark, rm_X10_part, rm_X10_print, rm_X10_release, rm_X10_row, rm_X10_told, rm_X10_turn, rm_X11_build, rm_X11_end, rm_X11_fault_, rm_X11_feed, rm_X11_hold, rm_X11_idle, rm_X11_init, rm_X11_isIdle, rm_X11_kept, rm_X11_late_, rm_X11_letter, rm_X11_mark, rm_X11_out, rm_X11_part, rm_X11_print, rm_X11_promise, rm_X11_release, rm_X11_row, rm_X11_thrown, rm_X11_told, rm_X11_turn, rm_X11_watermark]; omega)) ?_
        exact zb_L_law_718 hX hQ hnL hSc hcs hR23 h
      · have h := h2 (fun q => hc ((lg_cmp_eq _ _).mpr q))
        refine z_iconst (v := (0 : Int32)) hX dL_law_716 (by decide) ?_
        refine z_widen 600002 7302232 (by first | omega | (simp only [rm_L_isIdle, rm_L_kept, rm_L_late, rm_L_out, rm_L_promise, rm_L_watermark, rm_X10_build, rm_X10_end, rm_X10_fault, rm_X10_feed, rm_X10_hold, rm_X10_idle, rm_X10_init, rm_X10_letter, rm_X10_mark, rm_X10_part, rm_X10_print, rm_X10_release, rm_X10_row, rm_X10_told, rm_X10_turn, rm_X11_build, rm_X11_end, rm_X11_fault_, rm_X11_feed, rm_X11_hold, rm_X11_idle, rm_X11_init, rm_X11_isIdle, rm_X11_kept, rm_X11_late_, rm_X11_letter, rm_X11_mark, rm_X11_out, rm_X11_part, rm_X11_print, rm_X11_promise, rm_X11_release, rm_X11_row, rm_X11_thrown, rm_X11_told, rm_X11_turn, rm_X11_watermark]; omega)) (by first | omega | (simp only [rm_L_isIdle, rm_L_kept, rm_L_late, rm_L_out, rm_L_promise, rm_L_watermark, rm_X10_build, rm_X10_end, rm_X10_fault, rm_X10_feed, rm_X10_hold, rm_X10_idle, rm_X10_init, rm_X10_letter, rm_X10_mark, rm_X10_part, rm_X10_print, rm_X10_release, rm_X10_row, rm_X10_told, rm_X10_turn, rm_X11_build, rm_X11_end, rm_X11_fault_, rm_X11_feed, rm_X11_hold, rm_X11_idle, rm_X11_init, rm_X11_isIdle, rm_X11_kept, rm_X11_late_, rm_X11_letter, rm_X11_mark, rm_X11_out, rm_X11_part, rm_X11_print, rm_X11_promise, rm_X11_release, rm_X11_row, rm_X11_thrown, rm_X11_told, rm_X11_turn, rm_X11_watermark]; omega)) ?_
        exact z_lwret hX hQ dL_law_717 h
  · have h := h2 hc
    refine z_iconst (v := (0 : Int32)) hX dL_law_700 (by decide) ?_
    refine z_widen 600002 7302232 (by first | omega | (simp only [rm_L_isIdle, rm_L_kept, rm_L_late, rm_L_out, rm_L_promise, rm_L_watermark, rm_X10_build, rm_X10_end, rm_X10_fault, rm_X10_feed, rm_X10_hold, rm_X10_idle, rm_X10_init, rm_X10_letter, rm_X10_mark, rm_X10_part, rm_X10_print, rm_X10_release, rm_X10_row, rm_X10_told, rm_X10_turn, rm_X11_build, rm_X11_end, rm_X11_fault_, rm_X11_feed, rm_X11_hold, rm_X11_idle, rm_X11_init, rm_X11_isIdle, rm_X11_kept, rm_X11_late_, rm_X11_letter, rm_X11_mark, rm_X11_out, rm_X11_part, rm_X11_print, rm_X11_promise, rm_X11_release, rm_X11_row, rm_X11_thrown, rm_X11_told, rm_X11_turn, rm_X11_watermark]; omega)) (by first | omega | (simp only [rm_L_isIdle, rm_L_kept, rm_L_late, rm_L_out, rm_L_promise, rm_L_watermark, rm_X10_build, rm_X10_end, rm_X10_fault, rm_X10_feed, rm_X10_hold, rm_X10_idle, rm_X10_init, rm_X10_letter, rm_X10_mark, rm_X10_part, rm_X10_print, rm_X10_release, rm_X10_row, rm_X10_told, rm_X10_turn, rm_X11_build, rm_X11_end, rm_X11_fault_, rm_X11_feed, rm_X11_hold, rm_X11_idle, rm_X11_init, rm_X11_isIdle, rm_X11_kept, rm_X11_late_, rm_X11_letter, rm_X11_mark, rm_X11_out, rm_X11_part, rm_X11_print, rm_X11_promise, rm_X11_release, rm_X11_row, rm_X11_thrown, rm_X11_told, rm_X11_turn, rm_X11_watermark]; omega)) ?_
    exact z_lwret hX hQ dL_law_701 h
def bk_L_law_781 (h0 L : Nat) (xs : Nat → Int32) (R23 : Option Nat → Option Nat → Option Nat → Int32 → Mm → Prop) (K : Int32 → Mm → Prop) (l1 : Option Nat) (l2 : Option Nat) (l3 : Option Nat) (l4 : Int32) (M : Mm) : Prop := (bk_L_law_1153 h0 L xs R23 K l1 l2 l3 l4 M)
set_option maxRecDepth 100000 in
set_option maxHeartbeats 4000000 in
theorem zb_L_law_781 {X : Cx} {h0 L : Nat} {xs : Nat → Int32} {R23 : Option Nat → Option Nat → Option Nat → Int32 → Mm → Prop} {K : Int32 → Mm → Prop} (hX : Ok X cL_law RL room_1) (hQ : RqL X h0 K) (hnL : X.2.2.2.2.2.2.2.2.2.2.2.2.2.2 = 8) (hSc : Scr X h0 L xs) {cc0 ss0 : Nat} (hcs : cc0 + 295 ≤ 2407 ∧ ss0 + 2288 ≤ 28584) (hR23 : ∀ l1 l2 l3 l4 M, R23 l1 l2 l3 l4 M → Z X M (cc0 + 295) (ss0 + 2288) 23 [(0, va_rf (some h0)), (1, va_rf l1), (2, va_rf l2), (3, va_rf l3), (4, .int l4)] []) {l1 : Option Nat} {l2 : Option Nat} {l3 : Option Nat} {l4 : Int32} {M : Mm} (h : bk_L_law_781 h0 L xs R23 K l1 l2 l3 l4 M) : Z X M (cc0 + 1) (ss0 + 6) 781 [(0, va_rf (some h0)), (1, va_rf l1), (2, va_rf l2), (3, va_rf l3), (4, .int l4)] [] := by
  unfold bk_L_law_781 at h
  refine z_goto (tgt := 1153) hX dL_law_781 (by decide) ?_
  refine z_widen (cc0 + 295) (ss0 + 2288) (by first | omega | (simp only [rm_L_isIdle, rm_L_kept, rm_L_late, rm_L_out, rm_L_promise, rm_L_watermark, rm_X10_build, rm_X10_end, rm_X10_fault, rm_X10_feed, rm_X10_hold, rm_X10_idle, rm_X10_init, rm_X10_letter, rm_X10_mark, rm_X10_part, rm_X10_print, rm_X10_release, rm_X10_row, rm_X10_told, rm_X10_turn, rm_X11_build, rm_X11_end, rm_X11_fault_, rm_X11_feed, rm_X11_hold, rm_X11_idle, rm_X11_init, rm_X11_isIdle, rm_X11_kept, rm_X11_late_, rm_X11_letter, rm_X11_mark, rm_X11_out, rm_X11_part, rm_X11_print, rm_X11_promise, rm_X11_release, rm_X11_row, rm_X11_thrown, rm_X11_told, rm_X11_turn, rm_X11_watermark]; omega)) (by first | omega | (simp only [rm_L_isIdle, rm_L_kept, rm_L_late, rm_L_out, rm_L_promise, rm_L_watermark, rm_X10_build, rm_X10_end, rm_X10_fault, rm_X10_feed, rm_X10_hold, rm_X10_idle, rm_X10_init, rm_X10_letter, rm_X10_mark, rm_X10_part, rm_X10_print, rm_X10_release, rm_X10_row, rm_X10_told, rm_X10_turn, rm_X11_build, rm_X11_end, rm_X11_fault_, rm_X11_feed, rm_X11_hold, rm_X11_idle, rm_X11_init, rm_X11_isIdle, rm_X11_kept, rm_X11_late_, rm_X11_letter, rm_X11_mark, rm_X11_out, rm_X11_part, rm_X11_print, rm_X11_promise, rm_X11_release, rm_X11_row, rm_X11_thrown, rm_X11_told, rm_X11_turn, rm_X11_watermark]; omega)) ?_
  exact zb_L_law_1153 hX hQ hnL hSc hcs hR23 h
def bk_L_law_775 (h0 L : Nat) (xs : Nat → Int32) (R23 : Option Nat → Option Nat → Option Nat → Int32 → Mm → Prop) (K : Int32 → Mm → Prop) (l1 : Option Nat) (l2 : Option Nat) (l3 : Option Nat) (l4 : Int32) (s0 : Int64) (s1 : Int64) (M : Mm) : Prop := ((s1 = s0 → (bk_L_law_781 h0 L xs R23 K l1 l2 l3 l4 M)) ∧ (¬ s1 = s0 → (K (0 : Int32) M)))
set_option maxRecDepth 100000 in
set_option maxHeartbeats 4000000 in
theorem zb_L_law_775 {X : Cx} {h0 L : Nat} {xs : Nat → Int32} {R23 : Option Nat → Option Nat → Option Nat → Int32 → Mm → Prop} {K : Int32 → Mm → Prop} (hX : Ok X cL_law RL room_1) (hQ : RqL X h0 K) (hnL : X.2.2.2.2.2.2.2.2.2.2.2.2.2.2 = 8) (hSc : Scr X h0 L xs) {cc0 ss0 : Nat} (hcs : cc0 + 295 ≤ 2407 ∧ ss0 + 2288 ≤ 28584) (hR23 : ∀ l1 l2 l3 l4 M, R23 l1 l2 l3 l4 M → Z X M (cc0 + 295) (ss0 + 2288) 23 [(0, va_rf (some h0)), (1, va_rf l1), (2, va_rf l2), (3, va_rf l3), (4, .int l4)] []) {l1 : Option Nat} {l2 : Option Nat} {l3 : Option Nat} {l4 : Int32} {s0 : Int64} {s1 : Int64} {M : Mm} (h : bk_L_law_775 h0 L xs R23 K l1 l2 l3 l4 s0 s1 M) : Z X M (cc0 + 1) (ss0 + 6) 775 [(0, va_rf (some h0)), (1, va_rf l1), (2, va_rf l2), (3, va_rf l3), (4, .int l4)] [.long s0, .long s1] := by
  unfold bk_L_law_775 at h
  refine z_lcmp hX dL_law_775 ?_
  obtain ⟨h1, h2⟩ := h
  refine z_if_eq (tgt := 781) hX dL_law_776 (by decide) (fun hc => ?_) (fun hc => ?_)
  · have h := h1 ((lg_cmp_eq _ _).mp hc)
    refine z_widen (cc0 + 1) (ss0 + 6) (by first | omega | (simp only [rm_L_isIdle, rm_L_kept, rm_L_late, rm_L_out, rm_L_promise, rm_L_watermark, rm_X10_build, rm_X10_end, rm_X10_fault, rm_X10_feed, rm_X10_hold, rm_X10_idle, rm_X10_init, rm_X10_letter, rm_X10_mark, rm_X10_part, rm_X10_print, rm_X10_release, rm_X10_row, rm_X10_told, rm_X10_turn, rm_X11_build, rm_X11_end, rm_X11_fault_, rm_X11_feed, rm_X11_hold, rm_X11_idle, rm_X11_init, rm_X11_isIdle, rm_X11_kept, rm_X11_late_, rm_X11_letter, rm_X11_mark, rm_X11_out, rm_X11_part, rm_X11_print, rm_X11_promise, rm_X11_release, rm_X11_row, rm_X11_thrown, rm_X11_told, rm_X11_turn, rm_X11_watermark]; omega)) (by first | omega | (simp only [rm_L_isIdle, rm_L_kept, rm_L_late, rm_L_out, rm_L_promise, rm_L_watermark, rm_X10_build, rm_X10_end, rm_X10_fault, rm_X10_feed, rm_X10_hold, rm_X10_idle, rm_X10_init, rm_X10_letter, rm_X10_mark, rm_X10_part, rm_X10_print, rm_X10_release, rm_X10_row, rm_X10_told, rm_X10_turn, rm_X11_build, rm_X11_end, rm_X11_fault_, rm_X11_feed, rm_X11_hold, rm_X11_idle, rm_X11_init, rm_X11_isIdle, rm_X11_kept, rm_X11_late_, rm_X11_letter, rm_X11_mark, rm_X11_out, rm_X11_part, rm_X11_print, rm_X11_promise, rm_X11_release, rm_X11_row, rm_X11_thrown, rm_X11_told, rm_X11_turn, rm_X11_watermark]; omega)) ?_
    exact zb_L_law_781 hX hQ hnL hSc hcs hR23 h
  · have h := h2 (fun q => hc ((lg_cmp_eq _ _).mpr q))
    refine z_iconst (v := (0 : Int32)) hX dL_law_779 (by decide) ?_
    refine z_widen 600002 7302232 (by first | omega | (simp only [rm_L_isIdle, rm_L_kept, rm_L_late, rm_L_out, rm_L_promise, rm_L_watermark, rm_X10_build, rm_X10_end, rm_X10_fault, rm_X10_feed, rm_X10_hold, rm_X10_idle, rm_X10_init, rm_X10_letter, rm_X10_mark, rm_X10_part, rm_X10_print, rm_X10_release, rm_X10_row, rm_X10_told, rm_X10_turn, rm_X11_build, rm_X11_end, rm_X11_fault_, rm_X11_feed, rm_X11_hold, rm_X11_idle, rm_X11_init, rm_X11_isIdle, rm_X11_kept, rm_X11_late_, rm_X11_letter, rm_X11_mark, rm_X11_out, rm_X11_part, rm_X11_print, rm_X11_promise, rm_X11_release, rm_X11_row, rm_X11_thrown, rm_X11_told, rm_X11_turn, rm_X11_watermark]; omega)) (by first | omega | (simp only [rm_L_isIdle, rm_L_kept, rm_L_late, rm_L_out, rm_L_promise, rm_L_watermark, rm_X10_build, rm_X10_end, rm_X10_fault, rm_X10_feed, rm_X10_hold, rm_X10_idle, rm_X10_init, rm_X10_letter, rm_X10_mark, rm_X10_part, rm_X10_print, rm_X10_release, rm_X10_row, rm_X10_told, rm_X10_turn, rm_X11_build, rm_X11_end, rm_X11_fault_, rm_X11_feed, rm_X11_hold, rm_X11_idle, rm_X11_init, rm_X11_isIdle, rm_X11_kept, rm_X11_late_, rm_X11_letter, rm_X11_mark, rm_X11_out, rm_X11_part, rm_X11_print, rm_X11_promise, rm_X11_release, rm_X11_row, rm_X11_thrown, rm_X11_told, rm_X11_turn, rm_X11_watermark]; omega)) ?_
    exact z_lwret hX hQ dL_law_780 h
def bk_L_law_721 (h0 L : Nat) (xs : Nat → Int32) (R23 : Option Nat → Option Nat → Option Nat → Int32 → Mm → Prop) (K : Int32 → Mm → Prop) (l1 : Option Nat) (l2 : Option Nat) (l3 : Option Nat) (l4 : Int32) (M : Mm) : Prop := vp_in (l4 + (1 : Int32)) L ∧ (wp_L_isIdle M l1 (xs ((l4 + (1 : Int32))).toNatClampNeg) l3 (fun r189 M190 => vp_in (l4 + (1 : Int32)) L ∧ ∃ a195, l2 = some a195 ∧ mK M190 a195 = 12 ∧ (wp_X11_isIdle M190 a195 (xs ((l4 + (1 : Int32))).toNatClampNeg) (fun r193 M194 => mK M194 a195 = 12 ∧ (wp_X11_thrown M194 a195 (fun r199 M200 => ((r199 = r189 → ((¬ r189 = 0 → (bk_L_law_781 h0 L xs R23 K l1 l2 l3 l4 M200)) ∧ (r189 = 0 → ∃ a203, l3 = some a203 ∧ isA M200 a203 2 ∧ vp_in (0 : Int32) (aN M200 a203) ∧ ((r193 = 0 → (bk_L_law_775 h0 L xs R23 K l1 l2 l3 l4 (0 : Int64) (aJ M200 a203 ((0 : Int32)).toNatClampNeg) M200)) ∧ (¬ r193 = 0 → (bk_L_law_775 h0 L xs R23 K l1 l2 l3 l4 (1 : Int64) (aJ M200 a203 ((0 : Int32)).toNatClampNeg) M200)))))) ∧ (¬ r199 = r189 → (K (0 : Int32) M200)))))))))
set_option maxRecDepth 100000 in
set_option maxHeartbeats 4000000 in
theorem zb_L_law_721 {X : Cx} {h0 L : Nat} {xs : Nat → Int32} {R23 : Option Nat → Option Nat → Option Nat → Int32 → Mm → Prop} {K : Int32 → Mm → Prop} (hX : Ok X cL_law RL room_1) (hQ : RqL X h0 K) (hnL : X.2.2.2.2.2.2.2.2.2.2.2.2.2.2 = 8) (hSc : Scr X h0 L xs) {cc0 ss0 : Nat} (hcs : cc0 + 295 ≤ 2407 ∧ ss0 + 2288 ≤ 28584) (hR23 : ∀ l1 l2 l3 l4 M, R23 l1 l2 l3 l4 M → Z X M (cc0 + 295) (ss0 + 2288) 23 [(0, va_rf (some h0)), (1, va_rf l1), (2, va_rf l2), (3, va_rf l3), (4, .int l4)] []) {l1 : Option Nat} {l2 : Option Nat} {l3 : Option Nat} {l4 : Int32} {M : Mm} (h : bk_L_law_721 h0 L xs R23 K l1 l2 l3 l4 M) : Z X M (cc0 + 0) (ss0 + 0) 721 [(0, va_rf (some h0)), (1, va_rf l1), (2, va_rf l2), (3, va_rf l3), (4, .int l4)] [] := by
  unfold bk_L_law_721 at h
  refine z_aload_n (r := l1) hX dL_law_721 rfl 1 rfl ?_
  refine z_aload_n (r := (some h0)) hX dL_law_722 rfl 0 rfl ?_
  refine z_iload hX dL_law_723 4 rfl ?_
  refine z_iconst (v := (1 : Int32)) hX dL_law_725 (by decide) ?_
  refine z_iadd hX dL_law_726 ?_
  obtain ⟨hc188, h⟩ := h
  refine z_sld hX hSc dL_law_727 hc188 ?_
  refine z_aload_n (r := l3) hX dL_law_728 rfl 3 rfl ?_
  refine zw_callSI (As := [va_rf l1, .int (xs ((l4 + (1 : Int32))).toNatClampNeg), va_rf l3]) (rest := []) hX hQ (ct_L_isIdle h) sw_RL_98 rfl (by rfl) (by simp only [RoomC, room_1, rm_L_isIdle, rm_L_kept, rm_L_late, rm_L_out, rm_L_promise, rm_L_watermark, rm_X10_build, rm_X10_end, rm_X10_fault, rm_X10_feed, rm_X10_hold, rm_X10_idle, rm_X10_init, rm_X10_letter, rm_X10_mark, rm_X10_part, rm_X10_print, rm_X10_release, rm_X10_row, rm_X10_told, rm_X10_turn, rm_X11_build, rm_X11_end, rm_X11_fault_, rm_X11_feed, rm_X11_hold, rm_X11_idle, rm_X11_init, rm_X11_isIdle, rm_X11_kept, rm_X11_late_, rm_X11_letter, rm_X11_mark, rm_X11_out, rm_X11_part, rm_X11_print, rm_X11_promise, rm_X11_release, rm_X11_row, rm_X11_thrown, rm_X11_told, rm_X11_turn, rm_X11_watermark]; omega) (by decide) dL_law_729 (fun r189 M190 h => ?_)
  refine z_istore hX [(5, .int r189), (0, va_rf (some h0)), (1, va_rf l1), (2, va_rf l2), (3, va_rf l3), (4, .int l4)] dL_law_732 (by rw [hnL]; decide) rfl ?_
  refine z_aload_n (r := l2) hX dL_law_734 rfl 3 rfl ?_
  refine z_aload_n (r := (some h0)) hX dL_law_735 rfl 1 rfl ?_
  refine z_iload hX dL_law_736 5 rfl ?_
  refine z_iconst (v := (1 : Int32)) hX dL_law_738 (by decide) ?_
  refine z_iadd hX dL_law_739 ?_
  obtain ⟨hc192, h⟩ := h
  refine z_sld hX hSc dL_law_740 hc192 ?_
  obtain ⟨a195, ha196, h⟩ := h
  obtain ⟨hk197, h⟩ := h
  refine z_callVI (As := [.int (xs ((l4 + (1 : Int32))).toNatClampNeg)]) (rest := []) (ci := 11) hX (ct_X11_isIdle h) mw_RL_100 rfl (by decide) rfl (by rw [ha196]; rfl) (by simp only [RoomC, room_1, rm_L_isIdle, rm_L_kept, rm_L_late, rm_L_out, rm_L_promise, rm_L_watermark, rm_X10_build, rm_X10_end, rm_X10_fault, rm_X10_feed, rm_X10_hold, rm_X10_idle, rm_X10_init, rm_X10_letter, rm_X10_mark, rm_X10_part, rm_X10_print, rm_X10_release, rm_X10_row, rm_X10_told, rm_X10_turn, rm_X11_build, rm_X11_end, rm_X11_fault_, rm_X11_feed, rm_X11_hold, rm_X11_idle, rm_X11_init, rm_X11_isIdle, rm_X11_kept, rm_X11_late_, rm_X11_letter, rm_X11_mark, rm_X11_out, rm_X11_part, rm_X11_print, rm_X11_promise, rm_X11_release, rm_X11_row, rm_X11_thrown, rm_X11_told, rm_X11_turn, rm_X11_watermark]; omega) (by decide) dL_law_741 hk197 (fun r193 M194 h => ?_)
  refine z_istore hX [(6, .int r193), (5, .int r189), (0, va_rf (some h0)), (1, va_rf l1), (2, va_rf l2), (3, va_rf l3), (4, .int l4)] dL_law_744 (by rw [hnL]; decide) rfl ?_
  refine z_aload_n (r := l2) hX dL_law_746 rfl 4 rfl ?_
  obtain ⟨hk201, h⟩ := h
  refine z_callVI (As := []) (rest := []) (ci := 11) hX (ct_X11_thrown h) mw_RL_95 rfl (by decide) rfl (by rw [ha196]; rfl) (by simp only [RoomC, room_1, rm_L_isIdle, rm_L_kept, rm_L_late, rm_L_out, rm_L_promise, rm_L_watermark, rm_X10_build, rm_X10_end, rm_X10_fault, rm_X10_feed, rm_X10_hold, rm_X10_idle, rm_X10_init, rm_X10_letter, rm_X10_mark, rm_X10_part, rm_X10_print, rm_X10_release, rm_X10_row, rm_X10_told, rm_X10_turn, rm_X11_build, rm_X11_end, rm_X11_fault_, rm_X11_feed, rm_X11_hold, rm_X11_idle, rm_X11_init, rm_X11_isIdle, rm_X11_kept, rm_X11_late_, rm_X11_letter, rm_X11_mark, rm_X11_out, rm_X11_part, rm_X11_print, rm_X11_promise, rm_X11_release, rm_X11_row, rm_X11_thrown, rm_X11_told, rm_X11_turn, rm_X11_watermark]; omega) (by decide) dL_law_747 hk201 (fun r199 M200 h => ?_)
  refine z_iload hX dL_law_750 1 rfl ?_
  obtain ⟨h1, h2⟩ := h
  refine z_icmp_eq (tgt := 757) hX dL_law_752 (by decide) (fun hc => ?_) (fun hc => ?_)
  · have h := h1 hc
    refine z_iload hX dL_law_757 1 rfl ?_
    obtain ⟨h1, h2⟩ := h
    refine z_if_ne (tgt := 781) hX dL_law_759 (by decide) (fun hc => ?_) (fun hc => ?_)
    · have h := h1 hc
      refine z_loc [2, 3, 4, 5, 6] rfl ?_
      refine z_widen (cc0 + 1) (ss0 + 6) (by first | omega | (simp only [rm_L_isIdle, rm_L_kept, rm_L_late, rm_L_out, rm_L_promise, rm_L_watermark, rm_X10_build, rm_X10_end, rm_X10_fault, rm_X10_feed, rm_X10_hold, rm_X10_idle, rm_X10_init, rm_X10_letter, rm_X10_mark, rm_X10_part, rm_X10_print, rm_X10_release, rm_X10_row, rm_X10_told, rm_X10_turn, rm_X11_build, rm_X11_end, rm_X11_fault_, rm_X11_feed, rm_X11_hold, rm_X11_idle, rm_X11_init, rm_X11_isIdle, rm_X11_kept, rm_X11_late_, rm_X11_letter, rm_X11_mark, rm_X11_out, rm_X11_part, rm_X11_print, rm_X11_promise, rm_X11_release, rm_X11_row, rm_X11_thrown, rm_X11_told, rm_X11_turn, rm_X11_watermark]; omega)) (by first | omega | (simp only [rm_L_isIdle, rm_L_kept, rm_L_late, rm_L_out, rm_L_promise, rm_L_watermark, rm_X10_build, rm_X10_end, rm_X10_fault, rm_X10_feed, rm_X10_hold, rm_X10_idle, rm_X10_init, rm_X10_letter, rm_X10_mark, rm_X10_part, rm_X10_print, rm_X10_release, rm_X10_row, rm_X10_told, rm_X10_turn, rm_X11_build, rm_X11_end, rm_X11_fault_, rm_X11_feed, rm_X11_hold, rm_X11_idle, rm_X11_init, rm_X11_isIdle, rm_X11_kept, rm_X11_late_, rm_X11_letter, rm_X11_mark, rm_X11_out, rm_X11_part, rm_X11_print, rm_X11_promise, rm_X11_release, rm_X11_row, rm_X11_thrown, rm_X11_told, rm_X11_turn, rm_X11_watermark]; omega)) ?_
      exact zb_L_law_781 hX hQ hnL hSc hcs hR23 h
    · have h := h2 hc
      refine z_aload_n (r := l3) hX dL_law_762 rfl 5 rfl ?_
      refine z_iconst (v := (0 : Int32)) hX dL_law_763 (by decide) ?_
      obtain ⟨a203, ha204, h⟩ := h
      obtain ⟨hk205, h⟩ := h
      obtain ⟨hc206, h⟩ := h
      refine y_lald (r := l3) hX dL_law_764 ha204 hk205 hc206 ?_
      refine z_iload hX dL_law_765 0 rfl ?_
      obtain ⟨h1, h2⟩ := h
      refine z_if_eq (tgt := 774) hX dL_law_767 (by decide) (fun hc => ?_) (fun hc => ?_)
      · have h := h1 hc
        refine z_lconst (v := (0 : Int64)) hX dL_law_774 (by decide) ?_
        refine z_loc [2, 3, 4, 5, 6] rfl ?_
        refine z_widen (cc0 + 1) (ss0 + 6) (by first | omega | (simp only [rm_L_isIdle, rm_L_kept, rm_L_late, rm_L_out, rm_L_promise, rm_L_watermark, rm_X10_build, rm_X10_end, rm_X10_fault, rm_X10_feed, rm_X10_hold, rm_X10_idle, rm_X10_init, rm_X10_letter, rm_X10_mark, rm_X10_part, rm_X10_print, rm_X10_release, rm_X10_row, rm_X10_told, rm_X10_turn, rm_X11_build, rm_X11_end, rm_X11_fault_, rm_X11_feed, rm_X11_hold, rm_X11_idle, rm_X11_init, rm_X11_isIdle, rm_X11_kept, rm_X11_late_, rm_X11_letter, rm_X11_mark, rm_X11_out, rm_X11_part, rm_X11_print, rm_X11_promise, rm_X11_release, rm_X11_row, rm_X11_thrown, rm_X11_told, rm_X11_turn, rm_X11_watermark]; omega)) (by first | omega | (simp only [rm_L_isIdle, rm_L_kept, rm_L_late, rm_L_out, rm_L_promise, rm_L_watermark, rm_X10_build, rm_X10_end, rm_X10_fault, rm_X10_feed, rm_X10_hold, rm_X10_idle, rm_X10_init, rm_X10_letter, rm_X10_mark, rm_X10_part, rm_X10_print, rm_X10_release, rm_X10_row, rm_X10_told, rm_X10_turn, rm_X11_build, rm_X11_end, rm_X11_fault_, rm_X11_feed, rm_X11_hold, rm_X11_idle, rm_X11_init, rm_X11_isIdle, rm_X11_kept, rm_X11_late_, rm_X11_letter, rm_X11_mark, rm_X11_out, rm_X11_part, rm_X11_print, rm_X11_promise, rm_X11_release, rm_X11_row, rm_X11_thrown, rm_X11_told, rm_X11_turn, rm_X11_watermark]; omega)) ?_
        exact zb_L_law_775 hX hQ hnL hSc hcs hR23 h
      · have h := h2 hc
        refine z_lconst (v := (1 : Int64)) hX dL_law_770 (by decide) ?_
        refine z_goto (tgt := 775) hX dL_law_771 (by decide) ?_
        refine z_loc [2, 3, 4, 5, 6] rfl ?_
        refine z_widen (cc0 + 1) (ss0 + 6) (by first | omega | (simp only [rm_L_isIdle, rm_L_kept, rm_L_late, rm_L_out, rm_L_promise, rm_L_watermark, rm_X10_build, rm_X10_end, rm_X10_fault, rm_X10_feed, rm_X10_hold, rm_X10_idle, rm_X10_init, rm_X10_letter, rm_X10_mark, rm_X10_part, rm_X10_print, rm_X10_release, rm_X10_row, rm_X10_told, rm_X10_turn, rm_X11_build, rm_X11_end, rm_X11_fault_, rm_X11_feed, rm_X11_hold, rm_X11_idle, rm_X11_init, rm_X11_isIdle, rm_X11_kept, rm_X11_late_, rm_X11_letter, rm_X11_mark, rm_X11_out, rm_X11_part, rm_X11_print, rm_X11_promise, rm_X11_release, rm_X11_row, rm_X11_thrown, rm_X11_told, rm_X11_turn, rm_X11_watermark]; omega)) (by first | omega | (simp only [rm_L_isIdle, rm_L_kept, rm_L_late, rm_L_out, rm_L_promise, rm_L_watermark, rm_X10_build, rm_X10_end, rm_X10_fault, rm_X10_feed, rm_X10_hold, rm_X10_idle, rm_X10_init, rm_X10_letter, rm_X10_mark, rm_X10_part, rm_X10_print, rm_X10_release, rm_X10_row, rm_X10_told, rm_X10_turn, rm_X11_build, rm_X11_end, rm_X11_fault_, rm_X11_feed, rm_X11_hold, rm_X11_idle, rm_X11_init, rm_X11_isIdle, rm_X11_kept, rm_X11_late_, rm_X11_letter, rm_X11_mark, rm_X11_out, rm_X11_part, rm_X11_print, rm_X11_promise, rm_X11_release, rm_X11_row, rm_X11_thrown, rm_X11_told, rm_X11_turn, rm_X11_watermark]; omega)) ?_
        exact zb_L_law_775 hX hQ hnL hSc hcs hR23 h
  · have h := h2 hc
    refine z_iconst (v := (0 : Int32)) hX dL_law_755 (by decide) ?_
    refine z_widen 600002 7302232 (by first | omega | (simp only [rm_L_isIdle, rm_L_kept, rm_L_late, rm_L_out, rm_L_promise, rm_L_watermark, rm_X10_build, rm_X10_end, rm_X10_fault, rm_X10_feed, rm_X10_hold, rm_X10_idle, rm_X10_init, rm_X10_letter, rm_X10_mark, rm_X10_part, rm_X10_print, rm_X10_release, rm_X10_row, rm_X10_told, rm_X10_turn, rm_X11_build, rm_X11_end, rm_X11_fault_, rm_X11_feed, rm_X11_hold, rm_X11_idle, rm_X11_init, rm_X11_isIdle, rm_X11_kept, rm_X11_late_, rm_X11_letter, rm_X11_mark, rm_X11_out, rm_X11_part, rm_X11_print, rm_X11_promise, rm_X11_release, rm_X11_row, rm_X11_thrown, rm_X11_told, rm_X11_turn, rm_X11_watermark]; omega)) (by first | omega | (simp only [rm_L_isIdle, rm_L_kept, rm_L_late, rm_L_out, rm_L_promise, rm_L_watermark, rm_X10_build, rm_X10_end, rm_X10_fault, rm_X10_feed, rm_X10_hold, rm_X10_idle, rm_X10_init, rm_X10_letter, rm_X10_mark, rm_X10_part, rm_X10_print, rm_X10_release, rm_X10_row, rm_X10_told, rm_X10_turn, rm_X11_build, rm_X11_end, rm_X11_fault_, rm_X11_feed, rm_X11_hold, rm_X11_idle, rm_X11_init, rm_X11_isIdle, rm_X11_kept, rm_X11_late_, rm_X11_letter, rm_X11_mark, rm_X11_out, rm_X11_part, rm_X11_print, rm_X11_promise, rm_X11_release, rm_X11_row, rm_X11_thrown, rm_X11_told, rm_X11_turn, rm_X11_watermark]; omega)) ?_
    exact z_lwret hX hQ dL_law_756 h
def bk_L_law_848 (h0 L : Nat) (xs : Nat → Int32) (R23 : Option Nat → Option Nat → Option Nat → Int32 → Mm → Prop) (K : Int32 → Mm → Prop) (l1 : Option Nat) (l2 : Option Nat) (l3 : Option Nat) (l4 : Int32) (M : Mm) : Prop := (bk_L_law_1153 h0 L xs R23 K l1 l2 l3 l4 M)
set_option maxRecDepth 100000 in
set_option maxHeartbeats 4000000 in
theorem zb_L_law_848 {X : Cx} {h0 L : Nat} {xs : Nat → Int32} {R23 : Option Nat → Option Nat → Option Nat → Int32 → Mm → Prop} {K : Int32 → Mm → Prop} (hX : Ok X cL_law RL room_1) (hQ : RqL X h0 K) (hnL : X.2.2.2.2.2.2.2.2.2.2.2.2.2.2 = 8) (hSc : Scr X h0 L xs) {cc0 ss0 : Nat} (hcs : cc0 + 295 ≤ 2407 ∧ ss0 + 2288 ≤ 28584) (hR23 : ∀ l1 l2 l3 l4 M, R23 l1 l2 l3 l4 M → Z X M (cc0 + 295) (ss0 + 2288) 23 [(0, va_rf (some h0)), (1, va_rf l1), (2, va_rf l2), (3, va_rf l3), (4, .int l4)] []) {l1 : Option Nat} {l2 : Option Nat} {l3 : Option Nat} {l4 : Int32} {M : Mm} (h : bk_L_law_848 h0 L xs R23 K l1 l2 l3 l4 M) : Z X M (cc0 + 1) (ss0 + 6) 848 [(0, va_rf (some h0)), (1, va_rf l1), (2, va_rf l2), (3, va_rf l3), (4, .int l4)] [] := by
  unfold bk_L_law_848 at h
  refine z_goto (tgt := 1153) hX dL_law_848 (by decide) ?_
  refine z_widen (cc0 + 295) (ss0 + 2288) (by first | omega | (simp only [rm_L_isIdle, rm_L_kept, rm_L_late, rm_L_out, rm_L_promise, rm_L_watermark, rm_X10_build, rm_X10_end, rm_X10_fault, rm_X10_feed, rm_X10_hold, rm_X10_idle, rm_X10_init, rm_X10_letter, rm_X10_mark, rm_X10_part, rm_X10_print, rm_X10_release, rm_X10_row, rm_X10_told, rm_X10_turn, rm_X11_build, rm_X11_end, rm_X11_fault_, rm_X11_feed, rm_X11_hold, rm_X11_idle, rm_X11_init, rm_X11_isIdle, rm_X11_kept, rm_X11_late_, rm_X11_letter, rm_X11_mark, rm_X11_out, rm_X11_part, rm_X11_print, rm_X11_promise, rm_X11_release, rm_X11_row, rm_X11_thrown, rm_X11_told, rm_X11_turn, rm_X11_watermark]; omega)) (by first | omega | (simp only [rm_L_isIdle, rm_L_kept, rm_L_late, rm_L_out, rm_L_promise, rm_L_watermark, rm_X10_build, rm_X10_end, rm_X10_fault, rm_X10_feed, rm_X10_hold, rm_X10_idle, rm_X10_init, rm_X10_letter, rm_X10_mark, rm_X10_part, rm_X10_print, rm_X10_release, rm_X10_row, rm_X10_told, rm_X10_turn, rm_X11_build, rm_X11_end, rm_X11_fault_, rm_X11_feed, rm_X11_hold, rm_X11_idle, rm_X11_init, rm_X11_isIdle, rm_X11_kept, rm_X11_late_, rm_X11_letter, rm_X11_mark, rm_X11_out, rm_X11_part, rm_X11_print, rm_X11_promise, rm_X11_release, rm_X11_row, rm_X11_thrown, rm_X11_told, rm_X11_turn, rm_X11_watermark]; omega)) ?_
  exact zb_L_law_1153 hX hQ hnL hSc hcs hR23 h
def bk_L_law_784 (h0 L : Nat) (xs : Nat → Int32) (R23 : Option Nat → Option Nat → Option Nat → Int32 → Mm → Prop) (K : Int32 → Mm → Prop) (l1 : Option Nat) (l2 : Option Nat) (l3 : Option Nat) (l4 : Int32) (M : Mm) : Prop := vp_in (l4 + (1 : Int32)) L ∧ vp_in (l4 + (2 : Int32)) L ∧ (wp_L_promise M l1 (xs ((l4 + (1 : Int32))).toNatClampNeg) (xs ((l4 + (2 : Int32))).toNatClampNeg) l3 (fun r209 M210 => vp_in (l4 + (1 : Int32)) L ∧ vp_in (l4 + (2 : Int32)) L ∧ ∃ a216, l2 = some a216 ∧ mK M210 a216 = 12 ∧ (wp_X11_promise M210 a216 (xs ((l4 + (1 : Int32))).toNatClampNeg) (xs ((l4 + (2 : Int32))).toNatClampNeg) (fun r214 M215 => mK M215 a216 = 12 ∧ (wp_X11_thrown M215 a216 (fun r220 M221 => ((r220 = r209 → ((¬ r209 = 0 → (bk_L_law_848 h0 L xs R23 K l1 l2 l3 l4 M221)) ∧ (r209 = 0 → ∃ a224, l3 = some a224 ∧ isA M221 a224 2 ∧ vp_in (0 : Int32) (aN M221 a224) ∧ (((aJ M221 a224 ((0 : Int32)).toNatClampNeg) = r214 → (bk_L_law_848 h0 L xs R23 K l1 l2 l3 l4 M221)) ∧ (¬ (aJ M221 a224 ((0 : Int32)).toNatClampNeg) = r214 → (K (0 : Int32) M221)))))) ∧ (¬ r220 = r209 → (K (0 : Int32) M221)))))))))
set_option maxRecDepth 100000 in
set_option maxHeartbeats 4000000 in
theorem zb_L_law_784 {X : Cx} {h0 L : Nat} {xs : Nat → Int32} {R23 : Option Nat → Option Nat → Option Nat → Int32 → Mm → Prop} {K : Int32 → Mm → Prop} (hX : Ok X cL_law RL room_1) (hQ : RqL X h0 K) (hnL : X.2.2.2.2.2.2.2.2.2.2.2.2.2.2 = 8) (hSc : Scr X h0 L xs) {cc0 ss0 : Nat} (hcs : cc0 + 295 ≤ 2407 ∧ ss0 + 2288 ≤ 28584) (hR23 : ∀ l1 l2 l3 l4 M, R23 l1 l2 l3 l4 M → Z X M (cc0 + 295) (ss0 + 2288) 23 [(0, va_rf (some h0)), (1, va_rf l1), (2, va_rf l2), (3, va_rf l3), (4, .int l4)] []) {l1 : Option Nat} {l2 : Option Nat} {l3 : Option Nat} {l4 : Int32} {M : Mm} (h : bk_L_law_784 h0 L xs R23 K l1 l2 l3 l4 M) : Z X M (cc0 + 0) (ss0 + 0) 784 [(0, va_rf (some h0)), (1, va_rf l1), (2, va_rf l2), (3, va_rf l3), (4, .int l4)] [] := by
  unfold bk_L_law_784 at h
  refine z_aload_n (r := l1) hX dL_law_784 rfl 1 rfl ?_
  refine z_aload_n (r := (some h0)) hX dL_law_785 rfl 0 rfl ?_
  refine z_iload hX dL_law_786 4 rfl ?_
  refine z_iconst (v := (1 : Int32)) hX dL_law_788 (by decide) ?_
  refine z_iadd hX dL_law_789 ?_
  obtain ⟨hc207, h⟩ := h
  refine z_sld hX hSc dL_law_790 hc207 ?_
  refine z_aload_n (r := (some h0)) hX dL_law_791 rfl 0 rfl ?_
  refine z_iload hX dL_law_792 4 rfl ?_
  refine z_iconst (v := (2 : Int32)) hX dL_law_794 (by decide) ?_
  refine z_iadd hX dL_law_795 ?_
  obtain ⟨hc208, h⟩ := h
  refine z_sld hX hSc dL_law_796 hc208 ?_
  refine z_aload_n (r := l3) hX dL_law_797 rfl 3 rfl ?_
  refine zw_callSI (As := [va_rf l1, .int (xs ((l4 + (1 : Int32))).toNatClampNeg), .int (xs ((l4 + (2 : Int32))).toNatClampNeg), va_rf l3]) (rest := []) hX hQ (ct_L_promise h) sw_RL_101 rfl (by rfl) (by simp only [RoomC, room_1, rm_L_isIdle, rm_L_kept, rm_L_late, rm_L_out, rm_L_promise, rm_L_watermark, rm_X10_build, rm_X10_end, rm_X10_fault, rm_X10_feed, rm_X10_hold, rm_X10_idle, rm_X10_init, rm_X10_letter, rm_X10_mark, rm_X10_part, rm_X10_print, rm_X10_release, rm_X10_row, rm_X10_told, rm_X10_turn, rm_X11_build, rm_X11_end, rm_X11_fault_, rm_X11_feed, rm_X11_hold, rm_X11_idle, rm_X11_init, rm_X11_isIdle, rm_X11_kept, rm_X11_late_, rm_X11_letter, rm_X11_mark, rm_X11_out, rm_X11_part, rm_X11_print, rm_X11_promise, rm_X11_release, rm_X11_row, rm_X11_thrown, rm_X11_told, rm_X11_turn, rm_X11_watermark]; omega) (by decide) dL_law_798 (fun r209 M210 h => ?_)
  refine z_istore hX [(5, .int r209), (0, va_rf (some h0)), (1, va_rf l1), (2, va_rf l2), (3, va_rf l3), (4, .int l4)] dL_law_801 (by rw [hnL]; decide) rfl ?_
  refine z_aload_n (r := l2) hX dL_law_803 rfl 3 rfl ?_
  refine z_aload_n (r := (some h0)) hX dL_law_804 rfl 1 rfl ?_
  refine z_iload hX dL_law_805 5 rfl ?_
  refine z_iconst (v := (1 : Int32)) hX dL_law_807 (by decide) ?_
  refine z_iadd hX dL_law_808 ?_
  obtain ⟨hc212, h⟩ := h
  refine z_sld hX hSc dL_law_809 hc212 ?_
  refine z_aload_n (r := (some h0)) hX dL_law_810 rfl 1 rfl ?_
  refine z_iload hX dL_law_811 5 rfl ?_
  refine z_iconst (v := (2 : Int32)) hX dL_law_813 (by decide) ?_
  refine z_iadd hX dL_law_814 ?_
  obtain ⟨hc213, h⟩ := h
  refine z_sld hX hSc dL_law_815 hc213 ?_
  obtain ⟨a216, ha217, h⟩ := h
  obtain ⟨hk218, h⟩ := h
  refine z_callVJ (As := [.int (xs ((l4 + (1 : Int32))).toNatClampNeg), .int (xs ((l4 + (2 : Int32))).toNatClampNeg)]) (rest := []) (ci := 11) hX (ct_X11_promise h) mw_RL_104 rfl (by decide) rfl (by rw [ha217]; rfl) (by simp only [RoomC, room_1, rm_L_isIdle, rm_L_kept, rm_L_late, rm_L_out, rm_L_promise, rm_L_watermark, rm_X10_build, rm_X10_end, rm_X10_fault, rm_X10_feed, rm_X10_hold, rm_X10_idle, rm_X10_init, rm_X10_letter, rm_X10_mark, rm_X10_part, rm_X10_print, rm_X10_release, rm_X10_row, rm_X10_told, rm_X10_turn, rm_X11_build, rm_X11_end, rm_X11_fault_, rm_X11_feed, rm_X11_hold, rm_X11_idle, rm_X11_init, rm_X11_isIdle, rm_X11_kept, rm_X11_late_, rm_X11_letter, rm_X11_mark, rm_X11_out, rm_X11_part, rm_X11_print, rm_X11_promise, rm_X11_release, rm_X11_row, rm_X11_thrown, rm_X11_told, rm_X11_turn, rm_X11_watermark]; omega) (by decide) dL_law_816 hk218 (fun r214 M215 h => ?_)
  refine z_lstore hX [(6, .long r214), (5, .int r209), (0, va_rf (some h0)), (1, va_rf l1), (2, va_rf l2), (3, va_rf l3), (4, .int l4)] dL_law_819 (by rw [hnL]; decide) rfl ?_
  refine z_aload_n (r := l2) hX dL_law_821 rfl 4 rfl ?_
  obtain ⟨hk222, h⟩ := h
  refine z_callVI (As := []) (rest := []) (ci := 11) hX (ct_X11_thrown h) mw_RL_95 rfl (by decide) rfl (by rw [ha217]; rfl) (by simp only [RoomC, room_1, rm_L_isIdle, rm_L_kept, rm_L_late, rm_L_out, rm_L_promise, rm_L_watermark, rm_X10_build, rm_X10_end, rm_X10_fault, rm_X10_feed, rm_X10_hold, rm_X10_idle, rm_X10_init, rm_X10_letter, rm_X10_mark, rm_X10_part, rm_X10_print, rm_X10_release, rm_X10_row, rm_X10_told, rm_X10_turn, rm_X11_build, rm_X11_end, rm_X11_fault_, rm_X11_feed, rm_X11_hold, rm_X11_idle, rm_X11_init, rm_X11_isIdle, rm_X11_kept, rm_X11_late_, rm_X11_letter, rm_X11_mark, rm_X11_out, rm_X11_part, rm_X11_print, rm_X11_promise, rm_X11_release, rm_X11_row, rm_X11_thrown, rm_X11_told, rm_X11_turn, rm_X11_watermark]; omega) (by decide) dL_law_822 hk222 (fun r220 M221 h => ?_)
  refine z_iload hX dL_law_825 1 rfl ?_
  obtain ⟨h1, h2⟩ := h
  refine z_icmp_eq (tgt := 832) hX dL_law_827 (by decide) (fun hc => ?_) (fun hc => ?_)
  · have h := h1 hc
    refine z_iload hX dL_law_832 1 rfl ?_
    obtain ⟨h1, h2⟩ := h
    refine z_if_ne (tgt := 848) hX dL_law_834 (by decide) (fun hc => ?_) (fun hc => ?_)
    · have h := h1 hc
      refine z_loc [2, 3, 4, 5, 6] rfl ?_
      refine z_widen (cc0 + 1) (ss0 + 6) (by first | omega | (simp only [rm_L_isIdle, rm_L_kept, rm_L_late, rm_L_out, rm_L_promise, rm_L_watermark, rm_X10_build, rm_X10_end, rm_X10_fault, rm_X10_feed, rm_X10_hold, rm_X10_idle, rm_X10_init, rm_X10_letter, rm_X10_mark, rm_X10_part, rm_X10_print, rm_X10_release, rm_X10_row, rm_X10_told, rm_X10_turn, rm_X11_build, rm_X11_end, rm_X11_fault_, rm_X11_feed, rm_X11_hold, rm_X11_idle, rm_X11_init, rm_X11_isIdle, rm_X11_kept, rm_X11_late_, rm_X11_letter, rm_X11_mark, rm_X11_out, rm_X11_part, rm_X11_print, rm_X11_promise, rm_X11_release, rm_X11_row, rm_X11_thrown, rm_X11_told, rm_X11_turn, rm_X11_watermark]; omega)) (by first | omega | (simp only [rm_L_isIdle, rm_L_kept, rm_L_late, rm_L_out, rm_L_promise, rm_L_watermark, rm_X10_build, rm_X10_end, rm_X10_fault, rm_X10_feed, rm_X10_hold, rm_X10_idle, rm_X10_init, rm_X10_letter, rm_X10_mark, rm_X10_part, rm_X10_print, rm_X10_release, rm_X10_row, rm_X10_told, rm_X10_turn, rm_X11_build, rm_X11_end, rm_X11_fault_, rm_X11_feed, rm_X11_hold, rm_X11_idle, rm_X11_init, rm_X11_isIdle, rm_X11_kept, rm_X11_late_, rm_X11_letter, rm_X11_mark, rm_X11_out, rm_X11_part, rm_X11_print, rm_X11_promise, rm_X11_release, rm_X11_row, rm_X11_thrown, rm_X11_told, rm_X11_turn, rm_X11_watermark]; omega)) ?_
      exact zb_L_law_848 hX hQ hnL hSc hcs hR23 h
    · have h := h2 hc
      refine z_aload_n (r := l3) hX dL_law_837 rfl 5 rfl ?_
      refine z_iconst (v := (0 : Int32)) hX dL_law_838 (by decide) ?_
      obtain ⟨a224, ha225, h⟩ := h
      obtain ⟨hk226, h⟩ := h
      obtain ⟨hc227, h⟩ := h
      refine y_lald (r := l3) hX dL_law_839 ha225 hk226 hc227 ?_
      refine z_lload hX dL_law_840 0 rfl ?_
      refine z_lcmp hX dL_law_842 ?_
      obtain ⟨h1, h2⟩ := h
      refine z_if_eq (tgt := 848) hX dL_law_843 (by decide) (fun hc => ?_) (fun hc => ?_)
      · have h := h1 ((lg_cmp_eq _ _).mp hc)
        refine z_loc [2, 3, 4, 5, 6] rfl ?_
        refine z_widen (cc0 + 1) (ss0 + 6) (by first | omega | (simp only [rm_L_isIdle, rm_L_kept, rm_L_late, rm_L_out, rm_L_promise, rm_L_watermark, rm_X10_build, rm_X10_end, rm_X10_fault, rm_X10_feed, rm_X10_hold, rm_X10_idle, rm_X10_init, rm_X10_letter, rm_X10_mark, rm_X10_part, rm_X10_print, rm_X10_release, rm_X10_row, rm_X10_told, rm_X10_turn, rm_X11_build, rm_X11_end, rm_X11_fault_, rm_X11_feed, rm_X11_hold, rm_X11_idle, rm_X11_init, rm_X11_isIdle, rm_X11_kept, rm_X11_late_, rm_X11_letter, rm_X11_mark, rm_X11_out, rm_X11_part, rm_X11_print, rm_X11_promise, rm_X11_release, rm_X11_row, rm_X11_thrown, rm_X11_told, rm_X11_turn, rm_X11_watermark]; omega)) (by first | omega | (simp only [rm_L_isIdle, rm_L_kept, rm_L_late, rm_L_out, rm_L_promise, rm_L_watermark, rm_X10_build, rm_X10_end, rm_X10_fault, rm_X10_feed, rm_X10_hold, rm_X10_idle, rm_X10_init, rm_X10_letter, rm_X10_mark, rm_X10_part, rm_X10_print, rm_X10_release, rm_X10_row, rm_X10_told, rm_X10_turn, rm_X11_build, rm_X11_end, rm_X11_fault_, rm_X11_feed, rm_X11_hold, rm_X11_idle, rm_X11_init, rm_X11_isIdle, rm_X11_kept, rm_X11_late_, rm_X11_letter, rm_X11_mark, rm_X11_out, rm_X11_part, rm_X11_print, rm_X11_promise, rm_X11_release, rm_X11_row, rm_X11_thrown, rm_X11_told, rm_X11_turn, rm_X11_watermark]; omega)) ?_
        exact zb_L_law_848 hX hQ hnL hSc hcs hR23 h
      · have h := h2 (fun q => hc ((lg_cmp_eq _ _).mpr q))
        refine z_iconst (v := (0 : Int32)) hX dL_law_846 (by decide) ?_
        refine z_widen 600002 7302232 (by first | omega | (simp only [rm_L_isIdle, rm_L_kept, rm_L_late, rm_L_out, rm_L_promise, rm_L_watermark, rm_X10_build, rm_X10_end, rm_X10_fault, rm_X10_feed, rm_X10_hold, rm_X10_idle, rm_X10_init, rm_X10_letter, rm_X10_mark, rm_X10_part, rm_X10_print, rm_X10_release, rm_X10_row, rm_X10_told, rm_X10_turn, rm_X11_build, rm_X11_end, rm_X11_fault_, rm_X11_feed, rm_X11_hold, rm_X11_idle, rm_X11_init, rm_X11_isIdle, rm_X11_kept, rm_X11_late_, rm_X11_letter, rm_X11_mark, rm_X11_out, rm_X11_part, rm_X11_print, rm_X11_promise, rm_X11_release, rm_X11_row, rm_X11_thrown, rm_X11_told, rm_X11_turn, rm_X11_watermark]; omega)) (by first | omega | (simp only [rm_L_isIdle, rm_L_kept, rm_L_late, rm_L_out, rm_L_promise, rm_L_watermark, rm_X10_build, rm_X10_end, rm_X10_fault, rm_X10_feed, rm_X10_hold, rm_X10_idle, rm_X10_init, rm_X10_letter, rm_X10_mark, rm_X10_part, rm_X10_print, rm_X10_release, rm_X10_row, rm_X10_told, rm_X10_turn, rm_X11_build, rm_X11_end, rm_X11_fault_, rm_X11_feed, rm_X11_hold, rm_X11_idle, rm_X11_init, rm_X11_isIdle, rm_X11_kept, rm_X11_late_, rm_X11_letter, rm_X11_mark, rm_X11_out, rm_X11_part, rm_X11_print, rm_X11_promise, rm_X11_release, rm_X11_row, rm_X11_thrown, rm_X11_told, rm_X11_turn, rm_X11_watermark]; omega)) ?_
        exact z_lwret hX hQ dL_law_847 h
  · have h := h2 hc
    refine z_iconst (v := (0 : Int32)) hX dL_law_830 (by decide) ?_
    refine z_widen 600002 7302232 (by first | omega | (simp only [rm_L_isIdle, rm_L_kept, rm_L_late, rm_L_out, rm_L_promise, rm_L_watermark, rm_X10_build, rm_X10_end, rm_X10_fault, rm_X10_feed, rm_X10_hold, rm_X10_idle, rm_X10_init, rm_X10_letter, rm_X10_mark, rm_X10_part, rm_X10_print, rm_X10_release, rm_X10_row, rm_X10_told, rm_X10_turn, rm_X11_build, rm_X11_end, rm_X11_fault_, rm_X11_feed, rm_X11_hold, rm_X11_idle, rm_X11_init, rm_X11_isIdle, rm_X11_kept, rm_X11_late_, rm_X11_letter, rm_X11_mark, rm_X11_out, rm_X11_part, rm_X11_print, rm_X11_promise, rm_X11_release, rm_X11_row, rm_X11_thrown, rm_X11_told, rm_X11_turn, rm_X11_watermark]; omega)) (by first | omega | (simp only [rm_L_isIdle, rm_L_kept, rm_L_late, rm_L_out, rm_L_promise, rm_L_watermark, rm_X10_build, rm_X10_end, rm_X10_fault, rm_X10_feed, rm_X10_hold, rm_X10_idle, rm_X10_init, rm_X10_letter, rm_X10_mark, rm_X10_part, rm_X10_print, rm_X10_release, rm_X10_row, rm_X10_told, rm_X10_turn, rm_X11_build, rm_X11_end, rm_X11_fault_, rm_X11_feed, rm_X11_hold, rm_X11_idle, rm_X11_init, rm_X11_isIdle, rm_X11_kept, rm_X11_late_, rm_X11_letter, rm_X11_mark, rm_X11_out, rm_X11_part, rm_X11_print, rm_X11_promise, rm_X11_release, rm_X11_row, rm_X11_thrown, rm_X11_told, rm_X11_turn, rm_X11_watermark]; omega)) ?_
    exact z_lwret hX hQ dL_law_831 h
def bk_L_law_851 (h0 L : Nat) (xs : Nat → Int32) (R23 : Option Nat → Option Nat → Option Nat → Int32 → Mm → Prop) (K : Int32 → Mm → Prop) (l1 : Option Nat) (l2 : Option Nat) (l3 : Option Nat) (l4 : Int32) (M : Mm) : Prop := vp_in (l4 + (1 : Int32)) L ∧ vp_in (l4 + (2 : Int32)) L ∧ ∃ a232, l1 = some a232 ∧ mK M a232 = 11 ∧ (wp_X10_part M a232 (xs ((l4 + (1 : Int32))).toNatClampNeg) (xs ((l4 + (2 : Int32))).toNatClampNeg) (fun r230 M231 => vp_in (l4 + (1 : Int32)) L ∧ vp_in (l4 + (2 : Int32)) L ∧ ∃ a240, l2 = some a240 ∧ mK M231 a240 = 12 ∧ (wp_X11_part M231 a240 (xs ((l4 + (1 : Int32))).toNatClampNeg) (xs ((l4 + (2 : Int32))).toNatClampNeg) (fun r238 M239 => ((r230 = r238 → (bk_L_law_1153 h0 L xs R23 K l1 l2 l3 l4 M239)) ∧ (¬ r230 = r238 → (K (0 : Int32) M239)))))))
set_option maxRecDepth 100000 in
set_option maxHeartbeats 4000000 in
theorem zb_L_law_851 {X : Cx} {h0 L : Nat} {xs : Nat → Int32} {R23 : Option Nat → Option Nat → Option Nat → Int32 → Mm → Prop} {K : Int32 → Mm → Prop} (hX : Ok X cL_law RL room_1) (hQ : RqL X h0 K) (hnL : X.2.2.2.2.2.2.2.2.2.2.2.2.2.2 = 8) (hSc : Scr X h0 L xs) {cc0 ss0 : Nat} (hcs : cc0 + 295 ≤ 2407 ∧ ss0 + 2288 ≤ 28584) (hR23 : ∀ l1 l2 l3 l4 M, R23 l1 l2 l3 l4 M → Z X M (cc0 + 295) (ss0 + 2288) 23 [(0, va_rf (some h0)), (1, va_rf l1), (2, va_rf l2), (3, va_rf l3), (4, .int l4)] []) {l1 : Option Nat} {l2 : Option Nat} {l3 : Option Nat} {l4 : Int32} {M : Mm} (h : bk_L_law_851 h0 L xs R23 K l1 l2 l3 l4 M) : Z X M (cc0 + 0) (ss0 + 0) 851 [(0, va_rf (some h0)), (1, va_rf l1), (2, va_rf l2), (3, va_rf l3), (4, .int l4)] [] := by
  unfold bk_L_law_851 at h
  refine z_aload_n (r := l1) hX dL_law_851 rfl 1 rfl ?_
  refine z_aload_n (r := (some h0)) hX dL_law_852 rfl 0 rfl ?_
  refine z_iload hX dL_law_853 4 rfl ?_
  refine z_iconst (v := (1 : Int32)) hX dL_law_855 (by decide) ?_
  refine z_iadd hX dL_law_856 ?_
  obtain ⟨hc228, h⟩ := h
  refine z_sld hX hSc dL_law_857 hc228 ?_
  refine z_aload_n (r := (some h0)) hX dL_law_858 rfl 0 rfl ?_
  refine z_iload hX dL_law_859 4 rfl ?_
  refine z_iconst (v := (2 : Int32)) hX dL_law_861 (by decide) ?_
  refine z_iadd hX dL_law_862 ?_
  obtain ⟨hc229, h⟩ := h
  refine z_sld hX hSc dL_law_863 hc229 ?_
  obtain ⟨a232, ha233, h⟩ := h
  obtain ⟨hk234, h⟩ := h
  refine z_callVI (As := [.int (xs ((l4 + (1 : Int32))).toNatClampNeg), .int (xs ((l4 + (2 : Int32))).toNatClampNeg)]) (rest := []) (ci := 10) hX (ct_X10_part h) mw_RL_105 rfl (by decide) rfl (by rw [ha233]; rfl) (by simp only [RoomC, room_1, rm_L_isIdle, rm_L_kept, rm_L_late, rm_L_out, rm_L_promise, rm_L_watermark, rm_X10_build, rm_X10_end, rm_X10_fault, rm_X10_feed, rm_X10_hold, rm_X10_idle, rm_X10_init, rm_X10_letter, rm_X10_mark, rm_X10_part, rm_X10_print, rm_X10_release, rm_X10_row, rm_X10_told, rm_X10_turn, rm_X11_build, rm_X11_end, rm_X11_fault_, rm_X11_feed, rm_X11_hold, rm_X11_idle, rm_X11_init, rm_X11_isIdle, rm_X11_kept, rm_X11_late_, rm_X11_letter, rm_X11_mark, rm_X11_out, rm_X11_part, rm_X11_print, rm_X11_promise, rm_X11_release, rm_X11_row, rm_X11_thrown, rm_X11_told, rm_X11_turn, rm_X11_watermark]; omega) (by decide) dL_law_864 hk234 (fun r230 M231 h => ?_)
  refine z_aload_n (r := l2) hX dL_law_867 rfl 2 rfl ?_
  refine z_aload_n (r := (some h0)) hX dL_law_868 rfl 0 rfl ?_
  refine z_iload hX dL_law_869 4 rfl ?_
  refine z_iconst (v := (1 : Int32)) hX dL_law_871 (by decide) ?_
  refine z_iadd hX dL_law_872 ?_
  obtain ⟨hc236, h⟩ := h
  refine z_sld hX hSc dL_law_873 hc236 ?_
  refine z_aload_n (r := (some h0)) hX dL_law_874 rfl 0 rfl ?_
  refine z_iload hX dL_law_875 4 rfl ?_
  refine z_iconst (v := (2 : Int32)) hX dL_law_877 (by decide) ?_
  refine z_iadd hX dL_law_878 ?_
  obtain ⟨hc237, h⟩ := h
  refine z_sld hX hSc dL_law_879 hc237 ?_
  obtain ⟨a240, ha241, h⟩ := h
  obtain ⟨hk242, h⟩ := h
  refine z_callVI (As := [.int (xs ((l4 + (1 : Int32))).toNatClampNeg), .int (xs ((l4 + (2 : Int32))).toNatClampNeg)]) (rest := [.int r230]) (ci := 11) hX (ct_X11_part h) mw_RL_108 rfl (by decide) rfl (by rw [ha241]; rfl) (by simp only [RoomC, room_1, rm_L_isIdle, rm_L_kept, rm_L_late, rm_L_out, rm_L_promise, rm_L_watermark, rm_X10_build, rm_X10_end, rm_X10_fault, rm_X10_feed, rm_X10_hold, rm_X10_idle, rm_X10_init, rm_X10_letter, rm_X10_mark, rm_X10_part, rm_X10_print, rm_X10_release, rm_X10_row, rm_X10_told, rm_X10_turn, rm_X11_build, rm_X11_end, rm_X11_fault_, rm_X11_feed, rm_X11_hold, rm_X11_idle, rm_X11_init, rm_X11_isIdle, rm_X11_kept, rm_X11_late_, rm_X11_letter, rm_X11_mark, rm_X11_out, rm_X11_part, rm_X11_print, rm_X11_promise, rm_X11_release, rm_X11_row, rm_X11_thrown, rm_X11_told, rm_X11_turn, rm_X11_watermark]; omega) (by simp only [List.map_cons, List.map_nil, List.sum_cons, List.sum_nil, cat_rf, cat_i, cat_j]; decide) dL_law_880 hk242 (fun r238 M239 h => ?_)
  obtain ⟨h1, h2⟩ := h
  refine z_icmp_eq (tgt := 1153) hX dL_law_883 (by decide) (fun hc => ?_) (fun hc => ?_)
  · have h := h1 hc
    refine z_widen (cc0 + 295) (ss0 + 2288) (by first | omega | (simp only [rm_L_isIdle, rm_L_kept, rm_L_late, rm_L_out, rm_L_promise, rm_L_watermark, rm_X10_build, rm_X10_end, rm_X10_fault, rm_X10_feed, rm_X10_hold, rm_X10_idle, rm_X10_init, rm_X10_letter, rm_X10_mark, rm_X10_part, rm_X10_print, rm_X10_release, rm_X10_row, rm_X10_told, rm_X10_turn, rm_X11_build, rm_X11_end, rm_X11_fault_, rm_X11_feed, rm_X11_hold, rm_X11_idle, rm_X11_init, rm_X11_isIdle, rm_X11_kept, rm_X11_late_, rm_X11_letter, rm_X11_mark, rm_X11_out, rm_X11_part, rm_X11_print, rm_X11_promise, rm_X11_release, rm_X11_row, rm_X11_thrown, rm_X11_told, rm_X11_turn, rm_X11_watermark]; omega)) (by first | omega | (simp only [rm_L_isIdle, rm_L_kept, rm_L_late, rm_L_out, rm_L_promise, rm_L_watermark, rm_X10_build, rm_X10_end, rm_X10_fault, rm_X10_feed, rm_X10_hold, rm_X10_idle, rm_X10_init, rm_X10_letter, rm_X10_mark, rm_X10_part, rm_X10_print, rm_X10_release, rm_X10_row, rm_X10_told, rm_X10_turn, rm_X11_build, rm_X11_end, rm_X11_fault_, rm_X11_feed, rm_X11_hold, rm_X11_idle, rm_X11_init, rm_X11_isIdle, rm_X11_kept, rm_X11_late_, rm_X11_letter, rm_X11_mark, rm_X11_out, rm_X11_part, rm_X11_print, rm_X11_promise, rm_X11_release, rm_X11_row, rm_X11_thrown, rm_X11_told, rm_X11_turn, rm_X11_watermark]; omega)) ?_
    exact zb_L_law_1153 hX hQ hnL hSc hcs hR23 h
  · have h := h2 hc
    refine z_iconst (v := (0 : Int32)) hX dL_law_886 (by decide) ?_
    refine z_widen 600002 7302232 (by first | omega | (simp only [rm_L_isIdle, rm_L_kept, rm_L_late, rm_L_out, rm_L_promise, rm_L_watermark, rm_X10_build, rm_X10_end, rm_X10_fault, rm_X10_feed, rm_X10_hold, rm_X10_idle, rm_X10_init, rm_X10_letter, rm_X10_mark, rm_X10_part, rm_X10_print, rm_X10_release, rm_X10_row, rm_X10_told, rm_X10_turn, rm_X11_build, rm_X11_end, rm_X11_fault_, rm_X11_feed, rm_X11_hold, rm_X11_idle, rm_X11_init, rm_X11_isIdle, rm_X11_kept, rm_X11_late_, rm_X11_letter, rm_X11_mark, rm_X11_out, rm_X11_part, rm_X11_print, rm_X11_promise, rm_X11_release, rm_X11_row, rm_X11_thrown, rm_X11_told, rm_X11_turn, rm_X11_watermark]; omega)) (by first | omega | (simp only [rm_L_isIdle, rm_L_kept, rm_L_late, rm_L_out, rm_L_promise, rm_L_watermark, rm_X10_build, rm_X10_end, rm_X10_fault, rm_X10_feed, rm_X10_hold, rm_X10_idle, rm_X10_init, rm_X10_letter, rm_X10_mark, rm_X10_part, rm_X10_print, rm_X10_release, rm_X10_row, rm_X10_told, rm_X10_turn, rm_X11_build, rm_X11_end, rm_X11_fault_, rm_X11_feed, rm_X11_hold, rm_X11_idle, rm_X11_init, rm_X11_isIdle, rm_X11_kept, rm_X11_late_, rm_X11_letter, rm_X11_mark, rm_X11_out, rm_X11_part, rm_X11_print, rm_X11_promise, rm_X11_release, rm_X11_row, rm_X11_thrown, rm_X11_told, rm_X11_turn, rm_X11_watermark]; omega)) ?_
    exact z_lwret hX hQ dL_law_887 h
def bk_L_law_953 (h0 L : Nat) (xs : Nat → Int32) (R23 : Option Nat → Option Nat → Option Nat → Int32 → Mm → Prop) (K : Int32 → Mm → Prop) (l1 : Option Nat) (l2 : Option Nat) (l3 : Option Nat) (l4 : Int32) (M : Mm) : Prop := (bk_L_law_1153 h0 L xs R23 K l1 l2 l3 l4 M)
set_option maxRecDepth 100000 in
set_option maxHeartbeats 4000000 in
theorem zb_L_law_953 {X : Cx} {h0 L : Nat} {xs : Nat → Int32} {R23 : Option Nat → Option Nat → Option Nat → Int32 → Mm → Prop} {K : Int32 → Mm → Prop} (hX : Ok X cL_law RL room_1) (hQ : RqL X h0 K) (hnL : X.2.2.2.2.2.2.2.2.2.2.2.2.2.2 = 8) (hSc : Scr X h0 L xs) {cc0 ss0 : Nat} (hcs : cc0 + 295 ≤ 2407 ∧ ss0 + 2288 ≤ 28584) (hR23 : ∀ l1 l2 l3 l4 M, R23 l1 l2 l3 l4 M → Z X M (cc0 + 295) (ss0 + 2288) 23 [(0, va_rf (some h0)), (1, va_rf l1), (2, va_rf l2), (3, va_rf l3), (4, .int l4)] []) {l1 : Option Nat} {l2 : Option Nat} {l3 : Option Nat} {l4 : Int32} {M : Mm} (h : bk_L_law_953 h0 L xs R23 K l1 l2 l3 l4 M) : Z X M (cc0 + 2) (ss0 + 12) 953 [(0, va_rf (some h0)), (1, va_rf l1), (2, va_rf l2), (3, va_rf l3), (4, .int l4)] [] := by
  unfold bk_L_law_953 at h
  refine z_goto (tgt := 1153) hX dL_law_953 (by decide) ?_
  refine z_widen (cc0 + 295) (ss0 + 2288) (by first | omega | (simp only [rm_L_isIdle, rm_L_kept, rm_L_late, rm_L_out, rm_L_promise, rm_L_watermark, rm_X10_build, rm_X10_end, rm_X10_fault, rm_X10_feed, rm_X10_hold, rm_X10_idle, rm_X10_init, rm_X10_letter, rm_X10_mark, rm_X10_part, rm_X10_print, rm_X10_release, rm_X10_row, rm_X10_told, rm_X10_turn, rm_X11_build, rm_X11_end, rm_X11_fault_, rm_X11_feed, rm_X11_hold, rm_X11_idle, rm_X11_init, rm_X11_isIdle, rm_X11_kept, rm_X11_late_, rm_X11_letter, rm_X11_mark, rm_X11_out, rm_X11_part, rm_X11_print, rm_X11_promise, rm_X11_release, rm_X11_row, rm_X11_thrown, rm_X11_told, rm_X11_turn, rm_X11_watermark]; omega)) (by first | omega | (simp only [rm_L_isIdle, rm_L_kept, rm_L_late, rm_L_out, rm_L_promise, rm_L_watermark, rm_X10_build, rm_X10_end, rm_X10_fault, rm_X10_feed, rm_X10_hold, rm_X10_idle, rm_X10_init, rm_X10_letter, rm_X10_mark, rm_X10_part, rm_X10_print, rm_X10_release, rm_X10_row, rm_X10_told, rm_X10_turn, rm_X11_build, rm_X11_end, rm_X11_fault_, rm_X11_feed, rm_X11_hold, rm_X11_idle, rm_X11_init, rm_X11_isIdle, rm_X11_kept, rm_X11_late_, rm_X11_letter, rm_X11_mark, rm_X11_out, rm_X11_part, rm_X11_print, rm_X11_promise, rm_X11_release, rm_X11_row, rm_X11_thrown, rm_X11_told, rm_X11_turn, rm_X11_watermark]; omega)) ?_
  exact zb_L_law_1153 hX hQ hnL hSc hcs hR23 h
def bk_L_law_888 (h0 L : Nat) (xs : Nat → Int32) (R23 : Option Nat → Option Nat → Option Nat → Int32 → Mm → Prop) (K : Int32 → Mm → Prop) (l1 : Option Nat) (l2 : Option Nat) (l3 : Option Nat) (l4 : Int32) (M : Mm) : Prop := vp_in (l4 + (1 : Int32)) L ∧ vp_in (l4 + (2 : Int32)) L ∧ (wp_L_kept M l1 (xs ((l4 + (1 : Int32))).toNatClampNeg) (xs ((l4 + (2 : Int32))).toNatClampNeg) l3 (fun r246 M247 => vp_in (l4 + (1 : Int32)) L ∧ vp_in (l4 + (2 : Int32)) L ∧ ∃ a253, l2 = some a253 ∧ mK M247 a253 = 12 ∧ (wp_X11_kept M247 a253 (xs ((l4 + (1 : Int32))).toNatClampNeg) (xs ((l4 + (2 : Int32))).toNatClampNeg) (fun r251 M252 => mK M252 a253 = 12 ∧ (wp_X11_thrown M252 a253 (fun r257 M258 => ((r257 = r246 → ((¬ r246 = 0 → (bk_L_law_953 h0 L xs R23 K l1 l2 l3 l4 M258)) ∧ (r246 = 0 → ∃ a261, l3 = some a261 ∧ isA M258 a261 2 ∧ vp_in (0 : Int32) (aN M258 a261) ∧ (((aJ M258 a261 ((0 : Int32)).toNatClampNeg) = ((r251).toInt64) → (bk_L_law_953 h0 L xs R23 K l1 l2 l3 l4 M258)) ∧ (¬ (aJ M258 a261 ((0 : Int32)).toNatClampNeg) = ((r251).toInt64) → (K (0 : Int32) M258)))))) ∧ (¬ r257 = r246 → (K (0 : Int32) M258)))))))))
set_option maxRecDepth 100000 in
set_option maxHeartbeats 4000000 in
theorem zb_L_law_888 {X : Cx} {h0 L : Nat} {xs : Nat → Int32} {R23 : Option Nat → Option Nat → Option Nat → Int32 → Mm → Prop} {K : Int32 → Mm → Prop} (hX : Ok X cL_law RL room_1) (hQ : RqL X h0 K) (hnL : X.2.2.2.2.2.2.2.2.2.2.2.2.2.2 = 8) (hSc : Scr X h0 L xs) {cc0 ss0 : Nat} (hcs : cc0 + 295 ≤ 2407 ∧ ss0 + 2288 ≤ 28584) (hR23 : ∀ l1 l2 l3 l4 M, R23 l1 l2 l3 l4 M → Z X M (cc0 + 295) (ss0 + 2288) 23 [(0, va_rf (some h0)), (1, va_rf l1), (2, va_rf l2), (3, va_rf l3), (4, .int l4)] []) {l1 : Option Nat} {l2 : Option Nat} {l3 : Option Nat} {l4 : Int32} {M : Mm} (h : bk_L_law_888 h0 L xs R23 K l1 l2 l3 l4 M) : Z X M (cc0 + 0) (ss0 + 0) 888 [(0, va_rf (some h0)), (1, va_rf l1), (2, va_rf l2), (3, va_rf l3), (4, .int l4)] [] := by
  unfold bk_L_law_888 at h
  refine z_aload_n (r := l1) hX dL_law_888 rfl 1 rfl ?_
  refine z_aload_n (r := (some h0)) hX dL_law_889 rfl 0 rfl ?_
  refine z_iload hX dL_law_890 4 rfl ?_
  refine z_iconst (v := (1 : Int32)) hX dL_law_892 (by decide) ?_
  refine z_iadd hX dL_law_893 ?_
  obtain ⟨hc244, h⟩ := h
  refine z_sld hX hSc dL_law_894 hc244 ?_
  refine z_aload_n (r := (some h0)) hX dL_law_895 rfl 0 rfl ?_
  refine z_iload hX dL_law_896 4 rfl ?_
  refine z_iconst (v := (2 : Int32)) hX dL_law_898 (by decide) ?_
  refine z_iadd hX dL_law_899 ?_
  obtain ⟨hc245, h⟩ := h
  refine z_sld hX hSc dL_law_900 hc245 ?_
  refine z_aload_n (r := l3) hX dL_law_901 rfl 3 rfl ?_
  refine zw_callSI (As := [va_rf l1, .int (xs ((l4 + (1 : Int32))).toNatClampNeg), .int (xs ((l4 + (2 : Int32))).toNatClampNeg), va_rf l3]) (rest := []) hX hQ (ct_L_kept h) sw_RL_109 rfl (by rfl) (by simp only [RoomC, room_1, rm_L_isIdle, rm_L_kept, rm_L_late, rm_L_out, rm_L_promise, rm_L_watermark, rm_X10_build, rm_X10_end, rm_X10_fault, rm_X10_feed, rm_X10_hold, rm_X10_idle, rm_X10_init, rm_X10_letter, rm_X10_mark, rm_X10_part, rm_X10_print, rm_X10_release, rm_X10_row, rm_X10_told, rm_X10_turn, rm_X11_build, rm_X11_end, rm_X11_fault_, rm_X11_feed, rm_X11_hold, rm_X11_idle, rm_X11_init, rm_X11_isIdle, rm_X11_kept, rm_X11_late_, rm_X11_letter, rm_X11_mark, rm_X11_out, rm_X11_part, rm_X11_print, rm_X11_promise, rm_X11_release, rm_X11_row, rm_X11_thrown, rm_X11_told, rm_X11_turn, rm_X11_watermark]; omega) (by decide) dL_law_902 (fun r246 M247 h => ?_)
  refine z_istore hX [(5, .int r246), (0, va_rf (some h0)), (1, va_rf l1), (2, va_rf l2), (3, va_rf l3), (4, .int l4)] dL_law_905 (by rw [hnL]; decide) rfl ?_
  refine z_aload_n (r := l2) hX dL_law_907 rfl 3 rfl ?_
  refine z_aload_n (r := (some h0)) hX dL_law_908 rfl 1 rfl ?_
  refine z_iload hX dL_law_909 5 rfl ?_
  refine z_iconst (v := (1 : Int32)) hX dL_law_911 (by decide) ?_
  refine z_iadd hX dL_law_912 ?_
  obtain ⟨hc249, h⟩ := h
  refine z_sld hX hSc dL_law_913 hc249 ?_
  refine z_aload_n (r := (some h0)) hX dL_law_914 rfl 1 rfl ?_
  refine z_iload hX dL_law_915 5 rfl ?_
  refine z_iconst (v := (2 : Int32)) hX dL_law_917 (by decide) ?_
  refine z_iadd hX dL_law_918 ?_
  obtain ⟨hc250, h⟩ := h
  refine z_sld hX hSc dL_law_919 hc250 ?_
  obtain ⟨a253, ha254, h⟩ := h
  obtain ⟨hk255, h⟩ := h
  refine z_callVI (As := [.int (xs ((l4 + (1 : Int32))).toNatClampNeg), .int (xs ((l4 + (2 : Int32))).toNatClampNeg)]) (rest := []) (ci := 11) hX (ct_X11_kept h) mw_RL_111 rfl (by decide) rfl (by rw [ha254]; rfl) (by simp only [RoomC, room_1, rm_L_isIdle, rm_L_kept, rm_L_late, rm_L_out, rm_L_promise, rm_L_watermark, rm_X10_build, rm_X10_end, rm_X10_fault, rm_X10_feed, rm_X10_hold, rm_X10_idle, rm_X10_init, rm_X10_letter, rm_X10_mark, rm_X10_part, rm_X10_print, rm_X10_release, rm_X10_row, rm_X10_told, rm_X10_turn, rm_X11_build, rm_X11_end, rm_X11_fault_, rm_X11_feed, rm_X11_hold, rm_X11_idle, rm_X11_init, rm_X11_isIdle, rm_X11_kept, rm_X11_late_, rm_X11_letter, rm_X11_mark, rm_X11_out, rm_X11_part, rm_X11_print, rm_X11_promise, rm_X11_release, rm_X11_row, rm_X11_thrown, rm_X11_told, rm_X11_turn, rm_X11_watermark]; omega) (by decide) dL_law_920 hk255 (fun r251 M252 h => ?_)
  refine z_istore hX [(6, .int r251), (5, .int r246), (0, va_rf (some h0)), (1, va_rf l1), (2, va_rf l2), (3, va_rf l3), (4, .int l4)] dL_law_923 (by rw [hnL]; decide) rfl ?_
  refine z_aload_n (r := l2) hX dL_law_925 rfl 4 rfl ?_
  obtain ⟨hk259, h⟩ := h
  refine z_callVI (As := []) (rest := []) (ci := 11) hX (ct_X11_thrown h) mw_RL_95 rfl (by decide) rfl (by rw [ha254]; rfl) (by simp only [RoomC, room_1, rm_L_isIdle, rm_L_kept, rm_L_late, rm_L_out, rm_L_promise, rm_L_watermark, rm_X10_build, rm_X10_end, rm_X10_fault, rm_X10_feed, rm_X10_hold, rm_X10_idle, rm_X10_init, rm_X10_letter, rm_X10_mark, rm_X10_part, rm_X10_print, rm_X10_release, rm_X10_row, rm_X10_told, rm_X10_turn, rm_X11_build, rm_X11_end, rm_X11_fault_, rm_X11_feed, rm_X11_hold, rm_X11_idle, rm_X11_init, rm_X11_isIdle, rm_X11_kept, rm_X11_late_, rm_X11_letter, rm_X11_mark, rm_X11_out, rm_X11_part, rm_X11_print, rm_X11_promise, rm_X11_release, rm_X11_row, rm_X11_thrown, rm_X11_told, rm_X11_turn, rm_X11_watermark]; omega) (by decide) dL_law_926 hk259 (fun r257 M258 h => ?_)
  refine z_iload hX dL_law_929 1 rfl ?_
  obtain ⟨h1, h2⟩ := h
  refine z_icmp_eq (tgt := 936) hX dL_law_931 (by decide) (fun hc => ?_) (fun hc => ?_)
  · have h := h1 hc
    refine z_iload hX dL_law_936 1 rfl ?_
    obtain ⟨h1, h2⟩ := h
    refine z_if_ne (tgt := 953) hX dL_law_938 (by decide) (fun hc => ?_) (fun hc => ?_)
    · have h := h1 hc
      refine z_loc [2, 3, 4, 5, 6] rfl ?_
      refine z_widen (cc0 + 2) (ss0 + 12) (by first | omega | (simp only [rm_L_isIdle, rm_L_kept, rm_L_late, rm_L_out, rm_L_promise, rm_L_watermark, rm_X10_build, rm_X10_end, rm_X10_fault, rm_X10_feed, rm_X10_hold, rm_X10_idle, rm_X10_init, rm_X10_letter, rm_X10_mark, rm_X10_part, rm_X10_print, rm_X10_release, rm_X10_row, rm_X10_told, rm_X10_turn, rm_X11_build, rm_X11_end, rm_X11_fault_, rm_X11_feed, rm_X11_hold, rm_X11_idle, rm_X11_init, rm_X11_isIdle, rm_X11_kept, rm_X11_late_, rm_X11_letter, rm_X11_mark, rm_X11_out, rm_X11_part, rm_X11_print, rm_X11_promise, rm_X11_release, rm_X11_row, rm_X11_thrown, rm_X11_told, rm_X11_turn, rm_X11_watermark]; omega)) (by first | omega | (simp only [rm_L_isIdle, rm_L_kept, rm_L_late, rm_L_out, rm_L_promise, rm_L_watermark, rm_X10_build, rm_X10_end, rm_X10_fault, rm_X10_feed, rm_X10_hold, rm_X10_idle, rm_X10_init, rm_X10_letter, rm_X10_mark, rm_X10_part, rm_X10_print, rm_X10_release, rm_X10_row, rm_X10_told, rm_X10_turn, rm_X11_build, rm_X11_end, rm_X11_fault_, rm_X11_feed, rm_X11_hold, rm_X11_idle, rm_X11_init, rm_X11_isIdle, rm_X11_kept, rm_X11_late_, rm_X11_letter, rm_X11_mark, rm_X11_out, rm_X11_part, rm_X11_print, rm_X11_promise, rm_X11_release, rm_X11_row, rm_X11_thrown, rm_X11_told, rm_X11_turn, rm_X11_watermark]; omega)) ?_
      exact zb_L_law_953 hX hQ hnL hSc hcs hR23 h
    · have h := h2 hc
      refine z_aload_n (r := l3) hX dL_law_941 rfl 5 rfl ?_
      refine z_iconst (v := (0 : Int32)) hX dL_law_942 (by decide) ?_
      obtain ⟨a261, ha262, h⟩ := h
      obtain ⟨hk263, h⟩ := h
      obtain ⟨hc264, h⟩ := h
      refine y_lald (r := l3) hX dL_law_943 ha262 hk263 hc264 ?_
      refine z_iload hX dL_law_944 0 rfl ?_
      refine z_i2l hX dL_law_946 ?_
      refine z_lcmp hX dL_law_947 ?_
      obtain ⟨h1, h2⟩ := h
      refine z_if_eq (tgt := 953) hX dL_law_948 (by decide) (fun hc => ?_) (fun hc => ?_)
      · have h := h1 ((lg_cmp_eq _ _).mp hc)
        refine z_loc [2, 3, 4, 5, 6] rfl ?_
        refine z_widen (cc0 + 2) (ss0 + 12) (by first | omega | (simp only [rm_L_isIdle, rm_L_kept, rm_L_late, rm_L_out, rm_L_promise, rm_L_watermark, rm_X10_build, rm_X10_end, rm_X10_fault, rm_X10_feed, rm_X10_hold, rm_X10_idle, rm_X10_init, rm_X10_letter, rm_X10_mark, rm_X10_part, rm_X10_print, rm_X10_release, rm_X10_row, rm_X10_told, rm_X10_turn, rm_X11_build, rm_X11_end, rm_X11_fault_, rm_X11_feed, rm_X11_hold, rm_X11_idle, rm_X11_init, rm_X11_isIdle, rm_X11_kept, rm_X11_late_, rm_X11_letter, rm_X11_mark, rm_X11_out, rm_X11_part, rm_X11_print, rm_X11_promise, rm_X11_release, rm_X11_row, rm_X11_thrown, rm_X11_told, rm_X11_turn, rm_X11_watermark]; omega)) (by first | omega | (simp only [rm_L_isIdle, rm_L_kept, rm_L_late, rm_L_out, rm_L_promise, rm_L_watermark, rm_X10_build, rm_X10_end, rm_X10_fault, rm_X10_feed, rm_X10_hold, rm_X10_idle, rm_X10_init, rm_X10_letter, rm_X10_mark, rm_X10_part, rm_X10_print, rm_X10_release, rm_X10_row, rm_X10_told, rm_X10_turn, rm_X11_build, rm_X11_end, rm_X11_fault_, rm_X11_feed, rm_X11_hold, rm_X11_idle, rm_X11_init, rm_X11_isIdle, rm_X11_kept, rm_X11_late_, rm_X11_letter, rm_X11_mark, rm_X11_out, rm_X11_part, rm_X11_print, rm_X11_promise, rm_X11_release, rm_X11_row, rm_X11_thrown, rm_X11_told, rm_X11_turn, rm_X11_watermark]; omega)) ?_
        exact zb_L_law_953 hX hQ hnL hSc hcs hR23 h
      · have h := h2 (fun q => hc ((lg_cmp_eq _ _).mpr q))
        refine z_iconst (v := (0 : Int32)) hX dL_law_951 (by decide) ?_
        refine z_widen 600002 7302232 (by first | omega | (simp only [rm_L_isIdle, rm_L_kept, rm_L_late, rm_L_out, rm_L_promise, rm_L_watermark, rm_X10_build, rm_X10_end, rm_X10_fault, rm_X10_feed, rm_X10_hold, rm_X10_idle, rm_X10_init, rm_X10_letter, rm_X10_mark, rm_X10_part, rm_X10_print, rm_X10_release, rm_X10_row, rm_X10_told, rm_X10_turn, rm_X11_build, rm_X11_end, rm_X11_fault_, rm_X11_feed, rm_X11_hold, rm_X11_idle, rm_X11_init, rm_X11_isIdle, rm_X11_kept, rm_X11_late_, rm_X11_letter, rm_X11_mark, rm_X11_out, rm_X11_part, rm_X11_print, rm_X11_promise, rm_X11_release, rm_X11_row, rm_X11_thrown, rm_X11_told, rm_X11_turn, rm_X11_watermark]; omega)) (by first | omega | (simp only [rm_L_isIdle, rm_L_kept, rm_L_late, rm_L_out, rm_L_promise, rm_L_watermark, rm_X10_build, rm_X10_end, rm_X10_fault, rm_X10_feed, rm_X10_hold, rm_X10_idle, rm_X10_init, rm_X10_letter, rm_X10_mark, rm_X10_part, rm_X10_print, rm_X10_release, rm_X10_row, rm_X10_told, rm_X10_turn, rm_X11_build, rm_X11_end, rm_X11_fault_, rm_X11_feed, rm_X11_hold, rm_X11_idle, rm_X11_init, rm_X11_isIdle, rm_X11_kept, rm_X11_late_, rm_X11_letter, rm_X11_mark, rm_X11_out, rm_X11_part, rm_X11_print, rm_X11_promise, rm_X11_release, rm_X11_row, rm_X11_thrown, rm_X11_told, rm_X11_turn, rm_X11_watermark]; omega)) ?_
        exact z_lwret hX hQ dL_law_952 h
  · have h := h2 hc
    refine z_iconst (v := (0 : Int32)) hX dL_law_934 (by decide) ?_
    refine z_widen 600002 7302232 (by first | omega | (simp only [rm_L_isIdle, rm_L_kept, rm_L_late, rm_L_out, rm_L_promise, rm_L_watermark, rm_X10_build, rm_X10_end, rm_X10_fault, rm_X10_feed, rm_X10_hold, rm_X10_idle, rm_X10_init, rm_X10_letter, rm_X10_mark, rm_X10_part, rm_X10_print, rm_X10_release, rm_X10_row, rm_X10_told, rm_X10_turn, rm_X11_build, rm_X11_end, rm_X11_fault_, rm_X11_feed, rm_X11_hold, rm_X11_idle, rm_X11_init, rm_X11_isIdle, rm_X11_kept, rm_X11_late_, rm_X11_letter, rm_X11_mark, rm_X11_out, rm_X11_part, rm_X11_print, rm_X11_promise, rm_X11_release, rm_X11_row, rm_X11_thrown, rm_X11_told, rm_X11_turn, rm_X11_watermark]; omega)) (by first | omega | (simp only [rm_L_isIdle, rm_L_kept, rm_L_late, rm_L_out, rm_L_promise, rm_L_watermark, rm_X10_build, rm_X10_end, rm_X10_fault, rm_X10_feed, rm_X10_hold, rm_X10_idle, rm_X10_init, rm_X10_letter, rm_X10_mark, rm_X10_part, rm_X10_print, rm_X10_release, rm_X10_row, rm_X10_told, rm_X10_turn, rm_X11_build, rm_X11_end, rm_X11_fault_, rm_X11_feed, rm_X11_hold, rm_X11_idle, rm_X11_init, rm_X11_isIdle, rm_X11_kept, rm_X11_late_, rm_X11_letter, rm_X11_mark, rm_X11_out, rm_X11_part, rm_X11_print, rm_X11_promise, rm_X11_release, rm_X11_row, rm_X11_thrown, rm_X11_told, rm_X11_turn, rm_X11_watermark]; omega)) ?_
    exact z_lwret hX hQ dL_law_935 h
def bk_L_law_1020 (h0 L : Nat) (xs : Nat → Int32) (R23 : Option Nat → Option Nat → Option Nat → Int32 → Mm → Prop) (K : Int32 → Mm → Prop) (l1 : Option Nat) (l2 : Option Nat) (l3 : Option Nat) (l4 : Int32) (M : Mm) : Prop := (bk_L_law_1153 h0 L xs R23 K l1 l2 l3 l4 M)
set_option maxRecDepth 100000 in
set_option maxHeartbeats 4000000 in
theorem zb_L_law_1020 {X : Cx} {h0 L : Nat} {xs : Nat → Int32} {R23 : Option Nat → Option Nat → Option Nat → Int32 → Mm → Prop} {K : Int32 → Mm → Prop} (hX : Ok X cL_law RL room_1) (hQ : RqL X h0 K) (hnL : X.2.2.2.2.2.2.2.2.2.2.2.2.2.2 = 8) (hSc : Scr X h0 L xs) {cc0 ss0 : Nat} (hcs : cc0 + 295 ≤ 2407 ∧ ss0 + 2288 ≤ 28584) (hR23 : ∀ l1 l2 l3 l4 M, R23 l1 l2 l3 l4 M → Z X M (cc0 + 295) (ss0 + 2288) 23 [(0, va_rf (some h0)), (1, va_rf l1), (2, va_rf l2), (3, va_rf l3), (4, .int l4)] []) {l1 : Option Nat} {l2 : Option Nat} {l3 : Option Nat} {l4 : Int32} {M : Mm} (h : bk_L_law_1020 h0 L xs R23 K l1 l2 l3 l4 M) : Z X M (cc0 + 1) (ss0 + 6) 1020 [(0, va_rf (some h0)), (1, va_rf l1), (2, va_rf l2), (3, va_rf l3), (4, .int l4)] [] := by
  unfold bk_L_law_1020 at h
  refine z_goto (tgt := 1153) hX dL_law_1020 (by decide) ?_
  refine z_widen (cc0 + 295) (ss0 + 2288) (by first | omega | (simp only [rm_L_isIdle, rm_L_kept, rm_L_late, rm_L_out, rm_L_promise, rm_L_watermark, rm_X10_build, rm_X10_end, rm_X10_fault, rm_X10_feed, rm_X10_hold, rm_X10_idle, rm_X10_init, rm_X10_letter, rm_X10_mark, rm_X10_part, rm_X10_print, rm_X10_release, rm_X10_row, rm_X10_told, rm_X10_turn, rm_X11_build, rm_X11_end, rm_X11_fault_, rm_X11_feed, rm_X11_hold, rm_X11_idle, rm_X11_init, rm_X11_isIdle, rm_X11_kept, rm_X11_late_, rm_X11_letter, rm_X11_mark, rm_X11_out, rm_X11_part, rm_X11_print, rm_X11_promise, rm_X11_release, rm_X11_row, rm_X11_thrown, rm_X11_told, rm_X11_turn, rm_X11_watermark]; omega)) (by first | omega | (simp only [rm_L_isIdle, rm_L_kept, rm_L_late, rm_L_out, rm_L_promise, rm_L_watermark, rm_X10_build, rm_X10_end, rm_X10_fault, rm_X10_feed, rm_X10_hold, rm_X10_idle, rm_X10_init, rm_X10_letter, rm_X10_mark, rm_X10_part, rm_X10_print, rm_X10_release, rm_X10_row, rm_X10_told, rm_X10_turn, rm_X11_build, rm_X11_end, rm_X11_fault_, rm_X11_feed, rm_X11_hold, rm_X11_idle, rm_X11_init, rm_X11_isIdle, rm_X11_kept, rm_X11_late_, rm_X11_letter, rm_X11_mark, rm_X11_out, rm_X11_part, rm_X11_print, rm_X11_promise, rm_X11_release, rm_X11_row, rm_X11_thrown, rm_X11_told, rm_X11_turn, rm_X11_watermark]; omega)) ?_
  exact zb_L_law_1153 hX hQ hnL hSc hcs hR23 h
def bk_L_law_956 (h0 L : Nat) (xs : Nat → Int32) (R23 : Option Nat → Option Nat → Option Nat → Int32 → Mm → Prop) (K : Int32 → Mm → Prop) (l1 : Option Nat) (l2 : Option Nat) (l3 : Option Nat) (l4 : Int32) (M : Mm) : Prop := vp_in (l4 + (1 : Int32)) L ∧ vp_in (l4 + (2 : Int32)) L ∧ (wp_L_out M l1 (xs ((l4 + (1 : Int32))).toNatClampNeg) (xs ((l4 + (2 : Int32))).toNatClampNeg) l3 (fun r267 M268 => vp_in (l4 + (1 : Int32)) L ∧ vp_in (l4 + (2 : Int32)) L ∧ ∃ a274, l2 = some a274 ∧ mK M268 a274 = 12 ∧ (wp_X11_out M268 a274 (xs ((l4 + (1 : Int32))).toNatClampNeg) (xs ((l4 + (2 : Int32))).toNatClampNeg) (fun r272 M273 => mK M273 a274 = 12 ∧ (wp_X11_thrown M273 a274 (fun r278 M279 => ((r278 = r267 → ((¬ r267 = 0 → (bk_L_law_1020 h0 L xs R23 K l1 l2 l3 l4 M279)) ∧ (r267 = 0 → ∃ a282, l3 = some a282 ∧ isA M279 a282 2 ∧ vp_in (0 : Int32) (aN M279 a282) ∧ (((aJ M279 a282 ((0 : Int32)).toNatClampNeg) = r272 → (bk_L_law_1020 h0 L xs R23 K l1 l2 l3 l4 M279)) ∧ (¬ (aJ M279 a282 ((0 : Int32)).toNatClampNeg) = r272 → (K (0 : Int32) M279)))))) ∧ (¬ r278 = r267 → (K (0 : Int32) M279)))))))))
set_option maxRecDepth 100000 in
set_option maxHeartbeats 4000000 in
theorem zb_L_law_956 {X : Cx} {h0 L : Nat} {xs : Nat → Int32} {R23 : Option Nat → Option Nat → Option Nat → Int32 → Mm → Prop} {K : Int32 → Mm → Prop} (hX : Ok X cL_law RL room_1) (hQ : RqL X h0 K) (hnL : X.2.2.2.2.2.2.2.2.2.2.2.2.2.2 = 8) (hSc : Scr X h0 L xs) {cc0 ss0 : Nat} (hcs : cc0 + 295 ≤ 2407 ∧ ss0 + 2288 ≤ 28584) (hR23 : ∀ l1 l2 l3 l4 M, R23 l1 l2 l3 l4 M → Z X M (cc0 + 295) (ss0 + 2288) 23 [(0, va_rf (some h0)), (1, va_rf l1), (2, va_rf l2), (3, va_rf l3), (4, .int l4)] []) {l1 : Option Nat} {l2 : Option Nat} {l3 : Option Nat} {l4 : Int32} {M : Mm} (h : bk_L_law_956 h0 L xs R23 K l1 l2 l3 l4 M) : Z X M (cc0 + 0) (ss0 + 0) 956 [(0, va_rf (some h0)), (1, va_rf l1), (2, va_rf l2), (3, va_rf l3), (4, .int l4)] [] := by
  unfold bk_L_law_956 at h
  refine z_aload_n (r := l1) hX dL_law_956 rfl 1 rfl ?_
  refine z_aload_n (r := (some h0)) hX dL_law_957 rfl 0 rfl ?_
  refine z_iload hX dL_law_958 4 rfl ?_
  refine z_iconst (v := (1 : Int32)) hX dL_law_960 (by decide) ?_
  refine z_iadd hX dL_law_961 ?_
  obtain ⟨hc265, h⟩ := h
  refine z_sld hX hSc dL_law_962 hc265 ?_
  refine z_aload_n (r := (some h0)) hX dL_law_963 rfl 0 rfl ?_
  refine z_iload hX dL_law_964 4 rfl ?_
  refine z_iconst (v := (2 : Int32)) hX dL_law_966 (by decide) ?_
  refine z_iadd hX dL_law_967 ?_
  obtain ⟨hc266, h⟩ := h
  refine z_sld hX hSc dL_law_968 hc266 ?_
  refine z_aload_n (r := l3) hX dL_law_969 rfl 3 rfl ?_
  refine zw_callSI (As := [va_rf l1, .int (xs ((l4 + (1 : Int32))).toNatClampNeg), .int (xs ((l4 + (2 : Int32))).toNatClampNeg), va_rf l3]) (rest := []) hX hQ (ct_L_out h) sw_RL_112 rfl (by rfl) (by simp only [RoomC, room_1, rm_L_isIdle, rm_L_kept, rm_L_late, rm_L_out, rm_L_promise, rm_L_watermark, rm_X10_build, rm_X10_end, rm_X10_fault, rm_X10_feed, rm_X10_hold, rm_X10_idle, rm_X10_init, rm_X10_letter, rm_X10_mark, rm_X10_part, rm_X10_print, rm_X10_release, rm_X10_row, rm_X10_told, rm_X10_turn, rm_X11_build, rm_X11_end, rm_X11_fault_, rm_X11_feed, rm_X11_hold, rm_X11_idle, rm_X11_init, rm_X11_isIdle, rm_X11_kept, rm_X11_late_, rm_X11_letter, rm_X11_mark, rm_X11_out, rm_X11_part, rm_X11_print, rm_X11_promise, rm_X11_release, rm_X11_row, rm_X11_thrown, rm_X11_told, rm_X11_turn, rm_X11_watermark]; omega) (by decide) dL_law_970 (fun r267 M268 h => ?_)
  refine z_istore hX [(5, .int r267), (0, va_rf (some h0)), (1, va_rf l1), (2, va_rf l2), (3, va_rf l3), (4, .int l4)] dL_law_973 (by rw [hnL]; decide) rfl ?_
  refine z_aload_n (r := l2) hX dL_law_975 rfl 3 rfl ?_
  refine z_aload_n (r := (some h0)) hX dL_law_976 rfl 1 rfl ?_
  refine z_iload hX dL_law_977 5 rfl ?_
  refine z_iconst (v := (1 : Int32)) hX dL_law_979 (by decide) ?_
  refine z_iadd hX dL_law_980 ?_
  obtain ⟨hc270, h⟩ := h
  refine z_sld hX hSc dL_law_981 hc270 ?_
  refine z_aload_n (r := (some h0)) hX dL_law_982 rfl 1 rfl ?_
  refine z_iload hX dL_law_983 5 rfl ?_
  refine z_iconst (v := (2 : Int32)) hX dL_law_985 (by decide) ?_
  refine z_iadd hX dL_law_986 ?_
  obtain ⟨hc271, h⟩ := h
  refine z_sld hX hSc dL_law_987 hc271 ?_
  obtain ⟨a274, ha275, h⟩ := h
  obtain ⟨hk276, h⟩ := h
  refine z_callVJ (As := [.int (xs ((l4 + (1 : Int32))).toNatClampNeg), .int (xs ((l4 + (2 : Int32))).toNatClampNeg)]) (rest := []) (ci := 11) hX (ct_X11_out h) mw_RL_114 rfl (by decide) rfl (by rw [ha275]; rfl) (by simp only [RoomC, room_1, rm_L_isIdle, rm_L_kept, rm_L_late, rm_L_out, rm_L_promise, rm_L_watermark, rm_X10_build, rm_X10_end, rm_X10_fault, rm_X10_feed, rm_X10_hold, rm_X10_idle, rm_X10_init, rm_X10_letter, rm_X10_mark, rm_X10_part, rm_X10_print, rm_X10_release, rm_X10_row, rm_X10_told, rm_X10_turn, rm_X11_build, rm_X11_end, rm_X11_fault_, rm_X11_feed, rm_X11_hold, rm_X11_idle, rm_X11_init, rm_X11_isIdle, rm_X11_kept, rm_X11_late_, rm_X11_letter, rm_X11_mark, rm_X11_out, rm_X11_part, rm_X11_print, rm_X11_promise, rm_X11_release, rm_X11_row, rm_X11_thrown, rm_X11_told, rm_X11_turn, rm_X11_watermark]; omega) (by decide) dL_law_988 hk276 (fun r272 M273 h => ?_)
  refine z_lstore hX [(6, .long r272), (5, .int r267), (0, va_rf (some h0)), (1, va_rf l1), (2, va_rf l2), (3, va_rf l3), (4, .int l4)] dL_law_991 (by rw [hnL]; decide) rfl ?_
  refine z_aload_n (r := l2) hX dL_law_993 rfl 4 rfl ?_
  obtain ⟨hk280, h⟩ := h
  refine z_callVI (As := []) (rest := []) (ci := 11) hX (ct_X11_thrown h) mw_RL_95 rfl (by decide) rfl (by rw [ha275]; rfl) (by simp only [RoomC, room_1, rm_L_isIdle, rm_L_kept, rm_L_late, rm_L_out, rm_L_promise, rm_L_watermark, rm_X10_build, rm_X10_end, rm_X10_fault, rm_X10_feed, rm_X10_hold, rm_X10_idle, rm_X10_init, rm_X10_letter, rm_X10_mark, rm_X10_part, rm_X10_print, rm_X10_release, rm_X10_row, rm_X10_told, rm_X10_turn, rm_X11_build, rm_X11_end, rm_X11_fault_, rm_X11_feed, rm_X11_hold, rm_X11_idle, rm_X11_init, rm_X11_isIdle, rm_X11_kept, rm_X11_late_, rm_X11_letter, rm_X11_mark, rm_X11_out, rm_X11_part, rm_X11_print, rm_X11_promise, rm_X11_release, rm_X11_row, rm_X11_thrown, rm_X11_told, rm_X11_turn, rm_X11_watermark]; omega) (by decide) dL_law_994 hk280 (fun r278 M279 h => ?_)
  refine z_iload hX dL_law_997 1 rfl ?_
  obtain ⟨h1, h2⟩ := h
  refine z_icmp_eq (tgt := 1004) hX dL_law_999 (by decide) (fun hc => ?_) (fun hc => ?_)
  · have h := h1 hc
    refine z_iload hX dL_law_1004 1 rfl ?_
    obtain ⟨h1, h2⟩ := h
    refine z_if_ne (tgt := 1020) hX dL_law_1006 (by decide) (fun hc => ?_) (fun hc => ?_)
    · have h := h1 hc
      refine z_loc [2, 3, 4, 5, 6] rfl ?_
      refine z_widen (cc0 + 1) (ss0 + 6) (by first | omega | (simp only [rm_L_isIdle, rm_L_kept, rm_L_late, rm_L_out, rm_L_promise, rm_L_watermark, rm_X10_build, rm_X10_end, rm_X10_fault, rm_X10_feed, rm_X10_hold, rm_X10_idle, rm_X10_init, rm_X10_letter, rm_X10_mark, rm_X10_part, rm_X10_print, rm_X10_release, rm_X10_row, rm_X10_told, rm_X10_turn, rm_X11_build, rm_X11_end, rm_X11_fault_, rm_X11_feed, rm_X11_hold, rm_X11_idle, rm_X11_init, rm_X11_isIdle, rm_X11_kept, rm_X11_late_, rm_X11_letter, rm_X11_mark, rm_X11_out, rm_X11_part, rm_X11_print, rm_X11_promise, rm_X11_release, rm_X11_row, rm_X11_thrown, rm_X11_told, rm_X11_turn, rm_X11_watermark]; omega)) (by first | omega | (simp only [rm_L_isIdle, rm_L_kept, rm_L_late, rm_L_out, rm_L_promise, rm_L_watermark, rm_X10_build, rm_X10_end, rm_X10_fault, rm_X10_feed, rm_X10_hold, rm_X10_idle, rm_X10_init, rm_X10_letter, rm_X10_mark, rm_X10_part, rm_X10_print, rm_X10_release, rm_X10_row, rm_X10_told, rm_X10_turn, rm_X11_build, rm_X11_end, rm_X11_fault_, rm_X11_feed, rm_X11_hold, rm_X11_idle, rm_X11_init, rm_X11_isIdle, rm_X11_kept, rm_X11_late_, rm_X11_letter, rm_X11_mark, rm_X11_out, rm_X11_part, rm_X11_print, rm_X11_promise, rm_X11_release, rm_X11_row, rm_X11_thrown, rm_X11_told, rm_X11_turn, rm_X11_watermark]; omega)) ?_
      exact zb_L_law_1020 hX hQ hnL hSc hcs hR23 h
    · have h := h2 hc
      refine z_aload_n (r := l3) hX dL_law_1009 rfl 5 rfl ?_
      refine z_iconst (v := (0 : Int32)) hX dL_law_1010 (by decide) ?_
      obtain ⟨a282, ha283, h⟩ := h
      obtain ⟨hk284, h⟩ := h
      obtain ⟨hc285, h⟩ := h
      refine y_lald (r := l3) hX dL_law_1011 ha283 hk284 hc285 ?_
      refine z_lload hX dL_law_1012 0 rfl ?_
      refine z_lcmp hX dL_law_1014 ?_
      obtain ⟨h1, h2⟩ := h
      refine z_if_eq (tgt := 1020) hX dL_law_1015 (by decide) (fun hc => ?_) (fun hc => ?_)
      · have h := h1 ((lg_cmp_eq _ _).mp hc)
        refine z_loc [2, 3, 4, 5, 6] rfl ?_
        refine z_widen (cc0 + 1) (ss0 + 6) (by first | omega | (simp only [rm_L_isIdle, rm_L_kept, rm_L_late, rm_L_out, rm_L_promise, rm_L_watermark, rm_X10_build, rm_X10_end, rm_X10_fault, rm_X10_feed, rm_X10_hold, rm_X10_idle, rm_X10_init, rm_X10_letter, rm_X10_mark, rm_X10_part, rm_X10_print, rm_X10_release, rm_X10_row, rm_X10_told, rm_X10_turn, rm_X11_build, rm_X11_end, rm_X11_fault_, rm_X11_feed, rm_X11_hold, rm_X11_idle, rm_X11_init, rm_X11_isIdle, rm_X11_kept, rm_X11_late_, rm_X11_letter, rm_X11_mark, rm_X11_out, rm_X11_part, rm_X11_print, rm_X11_promise, rm_X11_release, rm_X11_row, rm_X11_thrown, rm_X11_told, rm_X11_turn, rm_X11_watermark]; omega)) (by first | omega | (simp only [rm_L_isIdle, rm_L_kept, rm_L_late, rm_L_out, rm_L_promise, rm_L_watermark, rm_X10_build, rm_X10_end, rm_X10_fault, rm_X10_feed, rm_X10_hold, rm_X10_idle, rm_X10_init, rm_X10_letter, rm_X10_mark, rm_X10_part, rm_X10_print, rm_X10_release, rm_X10_row, rm_X10_told, rm_X10_turn, rm_X11_build, rm_X11_end, rm_X11_fault_, rm_X11_feed, rm_X11_hold, rm_X11_idle, rm_X11_init, rm_X11_isIdle, rm_X11_kept, rm_X11_late_, rm_X11_letter, rm_X11_mark, rm_X11_out, rm_X11_part, rm_X11_print, rm_X11_promise, rm_X11_release, rm_X11_row, rm_X11_thrown, rm_X11_told, rm_X11_turn, rm_X11_watermark]; omega)) ?_
        exact zb_L_law_1020 hX hQ hnL hSc hcs hR23 h
      · have h := h2 (fun q => hc ((lg_cmp_eq _ _).mpr q))
        refine z_iconst (v := (0 : Int32)) hX dL_law_1018 (by decide) ?_
        refine z_widen 600002 7302232 (by first | omega | (simp only [rm_L_isIdle, rm_L_kept, rm_L_late, rm_L_out, rm_L_promise, rm_L_watermark, rm_X10_build, rm_X10_end, rm_X10_fault, rm_X10_feed, rm_X10_hold, rm_X10_idle, rm_X10_init, rm_X10_letter, rm_X10_mark, rm_X10_part, rm_X10_print, rm_X10_release, rm_X10_row, rm_X10_told, rm_X10_turn, rm_X11_build, rm_X11_end, rm_X11_fault_, rm_X11_feed, rm_X11_hold, rm_X11_idle, rm_X11_init, rm_X11_isIdle, rm_X11_kept, rm_X11_late_, rm_X11_letter, rm_X11_mark, rm_X11_out, rm_X11_part, rm_X11_print, rm_X11_promise, rm_X11_release, rm_X11_row, rm_X11_thrown, rm_X11_told, rm_X11_turn, rm_X11_watermark]; omega)) (by first | omega | (simp only [rm_L_isIdle, rm_L_kept, rm_L_late, rm_L_out, rm_L_promise, rm_L_watermark, rm_X10_build, rm_X10_end, rm_X10_fault, rm_X10_feed, rm_X10_hold, rm_X10_idle, rm_X10_init, rm_X10_letter, rm_X10_mark, rm_X10_part, rm_X10_print, rm_X10_release, rm_X10_row, rm_X10_told, rm_X10_turn, rm_X11_build, rm_X11_end, rm_X11_fault_, rm_X11_feed, rm_X11_hold, rm_X11_idle, rm_X11_init, rm_X11_isIdle, rm_X11_kept, rm_X11_late_, rm_X11_letter, rm_X11_mark, rm_X11_out, rm_X11_part, rm_X11_print, rm_X11_promise, rm_X11_release, rm_X11_row, rm_X11_thrown, rm_X11_told, rm_X11_turn, rm_X11_watermark]; omega)) ?_
        exact z_lwret hX hQ dL_law_1019 h
  · have h := h2 hc
    refine z_iconst (v := (0 : Int32)) hX dL_law_1002 (by decide) ?_
    refine z_widen 600002 7302232 (by first | omega | (simp only [rm_L_isIdle, rm_L_kept, rm_L_late, rm_L_out, rm_L_promise, rm_L_watermark, rm_X10_build, rm_X10_end, rm_X10_fault, rm_X10_feed, rm_X10_hold, rm_X10_idle, rm_X10_init, rm_X10_letter, rm_X10_mark, rm_X10_part, rm_X10_print, rm_X10_release, rm_X10_row, rm_X10_told, rm_X10_turn, rm_X11_build, rm_X11_end, rm_X11_fault_, rm_X11_feed, rm_X11_hold, rm_X11_idle, rm_X11_init, rm_X11_isIdle, rm_X11_kept, rm_X11_late_, rm_X11_letter, rm_X11_mark, rm_X11_out, rm_X11_part, rm_X11_print, rm_X11_promise, rm_X11_release, rm_X11_row, rm_X11_thrown, rm_X11_told, rm_X11_turn, rm_X11_watermark]; omega)) (by first | omega | (simp only [rm_L_isIdle, rm_L_kept, rm_L_late, rm_L_out, rm_L_promise, rm_L_watermark, rm_X10_build, rm_X10_end, rm_X10_fault, rm_X10_feed, rm_X10_hold, rm_X10_idle, rm_X10_init, rm_X10_letter, rm_X10_mark, rm_X10_part, rm_X10_print, rm_X10_release, rm_X10_row, rm_X10_told, rm_X10_turn, rm_X11_build, rm_X11_end, rm_X11_fault_, rm_X11_feed, rm_X11_hold, rm_X11_idle, rm_X11_init, rm_X11_isIdle, rm_X11_kept, rm_X11_late_, rm_X11_letter, rm_X11_mark, rm_X11_out, rm_X11_part, rm_X11_print, rm_X11_promise, rm_X11_release, rm_X11_row, rm_X11_thrown, rm_X11_told, rm_X11_turn, rm_X11_watermark]; omega)) ?_
    exact z_lwret hX hQ dL_law_1003 h
def bk_L_law_1087 (h0 L : Nat) (xs : Nat → Int32) (R23 : Option Nat → Option Nat → Option Nat → Int32 → Mm → Prop) (K : Int32 → Mm → Prop) (l1 : Option Nat) (l2 : Option Nat) (l3 : Option Nat) (l4 : Int32) (M : Mm) : Prop := (bk_L_law_1153 h0 L xs R23 K l1 l2 l3 l4 M)
set_option maxRecDepth 100000 in
set_option maxHeartbeats 4000000 in
theorem zb_L_law_1087 {X : Cx} {h0 L : Nat} {xs : Nat → Int32} {R23 : Option Nat → Option Nat → Option Nat → Int32 → Mm → Prop} {K : Int32 → Mm → Prop} (hX : Ok X cL_law RL room_1) (hQ : RqL X h0 K) (hnL : X.2.2.2.2.2.2.2.2.2.2.2.2.2.2 = 8) (hSc : Scr X h0 L xs) {cc0 ss0 : Nat} (hcs : cc0 + 295 ≤ 2407 ∧ ss0 + 2288 ≤ 28584) (hR23 : ∀ l1 l2 l3 l4 M, R23 l1 l2 l3 l4 M → Z X M (cc0 + 295) (ss0 + 2288) 23 [(0, va_rf (some h0)), (1, va_rf l1), (2, va_rf l2), (3, va_rf l3), (4, .int l4)] []) {l1 : Option Nat} {l2 : Option Nat} {l3 : Option Nat} {l4 : Int32} {M : Mm} (h : bk_L_law_1087 h0 L xs R23 K l1 l2 l3 l4 M) : Z X M (cc0 + 1) (ss0 + 6) 1087 [(0, va_rf (some h0)), (1, va_rf l1), (2, va_rf l2), (3, va_rf l3), (4, .int l4)] [] := by
  unfold bk_L_law_1087 at h
  refine z_goto (tgt := 1153) hX dL_law_1087 (by decide) ?_
  refine z_widen (cc0 + 295) (ss0 + 2288) (by first | omega | (simp only [rm_L_isIdle, rm_L_kept, rm_L_late, rm_L_out, rm_L_promise, rm_L_watermark, rm_X10_build, rm_X10_end, rm_X10_fault, rm_X10_feed, rm_X10_hold, rm_X10_idle, rm_X10_init, rm_X10_letter, rm_X10_mark, rm_X10_part, rm_X10_print, rm_X10_release, rm_X10_row, rm_X10_told, rm_X10_turn, rm_X11_build, rm_X11_end, rm_X11_fault_, rm_X11_feed, rm_X11_hold, rm_X11_idle, rm_X11_init, rm_X11_isIdle, rm_X11_kept, rm_X11_late_, rm_X11_letter, rm_X11_mark, rm_X11_out, rm_X11_part, rm_X11_print, rm_X11_promise, rm_X11_release, rm_X11_row, rm_X11_thrown, rm_X11_told, rm_X11_turn, rm_X11_watermark]; omega)) (by first | omega | (simp only [rm_L_isIdle, rm_L_kept, rm_L_late, rm_L_out, rm_L_promise, rm_L_watermark, rm_X10_build, rm_X10_end, rm_X10_fault, rm_X10_feed, rm_X10_hold, rm_X10_idle, rm_X10_init, rm_X10_letter, rm_X10_mark, rm_X10_part, rm_X10_print, rm_X10_release, rm_X10_row, rm_X10_told, rm_X10_turn, rm_X11_build, rm_X11_end, rm_X11_fault_, rm_X11_feed, rm_X11_hold, rm_X11_idle, rm_X11_init, rm_X11_isIdle, rm_X11_kept, rm_X11_late_, rm_X11_letter, rm_X11_mark, rm_X11_out, rm_X11_part, rm_X11_print, rm_X11_promise, rm_X11_release, rm_X11_row, rm_X11_thrown, rm_X11_told, rm_X11_turn, rm_X11_watermark]; omega)) ?_
  exact zb_L_law_1153 hX hQ hnL hSc hcs hR23 h
def bk_L_law_1023 (h0 L : Nat) (xs : Nat → Int32) (R23 : Option Nat → Option Nat → Option Nat → Int32 → Mm → Prop) (K : Int32 → Mm → Prop) (l1 : Option Nat) (l2 : Option Nat) (l3 : Option Nat) (l4 : Int32) (M : Mm) : Prop := vp_in (l4 + (1 : Int32)) L ∧ vp_in (l4 + (2 : Int32)) L ∧ (wp_L_late M l1 (xs ((l4 + (1 : Int32))).toNatClampNeg) (xs ((l4 + (2 : Int32))).toNatClampNeg) l3 (fun r288 M289 => vp_in (l4 + (1 : Int32)) L ∧ vp_in (l4 + (2 : Int32)) L ∧ ∃ a295, l2 = some a295 ∧ mK M289 a295 = 12 ∧ (wp_X11_late_ M289 a295 (xs ((l4 + (1 : Int32))).toNatClampNeg) (xs ((l4 + (2 : Int32))).toNatClampNeg) (fun r293 M294 => mK M294 a295 = 12 ∧ (wp_X11_thrown M294 a295 (fun r299 M300 => ((r299 = r288 → ((¬ r288 = 0 → (bk_L_law_1087 h0 L xs R23 K l1 l2 l3 l4 M300)) ∧ (r288 = 0 → ∃ a303, l3 = some a303 ∧ isA M300 a303 2 ∧ vp_in (0 : Int32) (aN M300 a303) ∧ (((aJ M300 a303 ((0 : Int32)).toNatClampNeg) = r293 → (bk_L_law_1087 h0 L xs R23 K l1 l2 l3 l4 M300)) ∧ (¬ (aJ M300 a303 ((0 : Int32)).toNatClampNeg) = r293 → (K (0 : Int32) M300)))))) ∧ (¬ r299 = r288 → (K (0 : Int32) M300)))))))))
set_option maxRecDepth 100000 in
set_option maxHeartbeats 4000000 in
theorem zb_L_law_1023 {X : Cx} {h0 L : Nat} {xs : Nat → Int32} {R23 : Option Nat → Option Nat → Option Nat → Int32 → Mm → Prop} {K : Int32 → Mm → Prop} (hX : Ok X cL_law RL room_1) (hQ : RqL X h0 K) (hnL : X.2.2.2.2.2.2.2.2.2.2.2.2.2.2 = 8) (hSc : Scr X h0 L xs) {cc0 ss0 : Nat} (hcs : cc0 + 295 ≤ 2407 ∧ ss0 + 2288 ≤ 28584) (hR23 : ∀ l1 l2 l3 l4 M, R23 l1 l2 l3 l4 M → Z X M (cc0 + 295) (ss0 + 2288) 23 [(0, va_rf (some h0)), (1, va_rf l1), (2, va_rf l2), (3, va_rf l3), (4, .int l4)] []) {l1 : Option Nat} {l2 : Option Nat} {l3 : Option Nat} {l4 : Int32} {M : Mm} (h : bk_L_law_1023 h0 L xs R23 K l1 l2 l3 l4 M) : Z X M (cc0 + 0) (ss0 + 0) 1023 [(0, va_rf (some h0)), (1, va_rf l1), (2, va_rf l2), (3, va_rf l3), (4, .int l4)] [] := by
  unfold bk_L_law_1023 at h
  refine z_aload_n (r := l1) hX dL_law_1023 rfl 1 rfl ?_
  refine z_aload_n (r := (some h0)) hX dL_law_1024 rfl 0 rfl ?_
  refine z_iload hX dL_law_1025 4 rfl ?_
  refine z_iconst (v := (1 : Int32)) hX dL_law_1027 (by decide) ?_
  refine z_iadd hX dL_law_1028 ?_
  obtain ⟨hc286, h⟩ := h
  refine z_sld hX hSc dL_law_1029 hc286 ?_
  refine z_aload_n (r := (some h0)) hX dL_law_1030 rfl 0 rfl ?_
  refine z_iload hX dL_law_1031 4 rfl ?_
  refine z_iconst (v := (2 : Int32)) hX dL_law_1033 (by decide) ?_
  refine z_iadd hX dL_law_1034 ?_
  obtain ⟨hc287, h⟩ := h
  refine z_sld hX hSc dL_law_1035 hc287 ?_
  refine z_aload_n (r := l3) hX dL_law_1036 rfl 3 rfl ?_
  refine zw_callSI (As := [va_rf l1, .int (xs ((l4 + (1 : Int32))).toNatClampNeg), .int (xs ((l4 + (2 : Int32))).toNatClampNeg), va_rf l3]) (rest := []) hX hQ (ct_L_late h) sw_RL_115 rfl (by rfl) (by simp only [RoomC, room_1, rm_L_isIdle, rm_L_kept, rm_L_late, rm_L_out, rm_L_promise, rm_L_watermark, rm_X10_build, rm_X10_end, rm_X10_fault, rm_X10_feed, rm_X10_hold, rm_X10_idle, rm_X10_init, rm_X10_letter, rm_X10_mark, rm_X10_part, rm_X10_print, rm_X10_release, rm_X10_row, rm_X10_told, rm_X10_turn, rm_X11_build, rm_X11_end, rm_X11_fault_, rm_X11_feed, rm_X11_hold, rm_X11_idle, rm_X11_init, rm_X11_isIdle, rm_X11_kept, rm_X11_late_, rm_X11_letter, rm_X11_mark, rm_X11_out, rm_X11_part, rm_X11_print, rm_X11_promise, rm_X11_release, rm_X11_row, rm_X11_thrown, rm_X11_told, rm_X11_turn, rm_X11_watermark]; omega) (by decide) dL_law_1037 (fun r288 M289 h => ?_)
  refine z_istore hX [(5, .int r288), (0, va_rf (some h0)), (1, va_rf l1), (2, va_rf l2), (3, va_rf l3), (4, .int l4)] dL_law_1040 (by rw [hnL]; decide) rfl ?_
  refine z_aload_n (r := l2) hX dL_law_1042 rfl 3 rfl ?_
  refine z_aload_n (r := (some h0)) hX dL_law_1043 rfl 1 rfl ?_
  refine z_iload hX dL_law_1044 5 rfl ?_
  refine z_iconst (v := (1 : Int32)) hX dL_law_1046 (by decide) ?_
  refine z_iadd hX dL_law_1047 ?_
  obtain ⟨hc291, h⟩ := h
  refine z_sld hX hSc dL_law_1048 hc291 ?_
  refine z_aload_n (r := (some h0)) hX dL_law_1049 rfl 1 rfl ?_
  refine z_iload hX dL_law_1050 5 rfl ?_
  refine z_iconst (v := (2 : Int32)) hX dL_law_1052 (by decide) ?_
  refine z_iadd hX dL_law_1053 ?_
  obtain ⟨hc292, h⟩ := h
  refine z_sld hX hSc dL_law_1054 hc292 ?_
  obtain ⟨a295, ha296, h⟩ := h
  obtain ⟨hk297, h⟩ := h
  refine z_callVJ (As := [.int (xs ((l4 + (1 : Int32))).toNatClampNeg), .int (xs ((l4 + (2 : Int32))).toNatClampNeg)]) (rest := []) (ci := 11) hX (ct_X11_late_ h) mw_RL_117 rfl (by decide) rfl (by rw [ha296]; rfl) (by simp only [RoomC, room_1, rm_L_isIdle, rm_L_kept, rm_L_late, rm_L_out, rm_L_promise, rm_L_watermark, rm_X10_build, rm_X10_end, rm_X10_fault, rm_X10_feed, rm_X10_hold, rm_X10_idle, rm_X10_init, rm_X10_letter, rm_X10_mark, rm_X10_part, rm_X10_print, rm_X10_release, rm_X10_row, rm_X10_told, rm_X10_turn, rm_X11_build, rm_X11_end, rm_X11_fault_, rm_X11_feed, rm_X11_hold, rm_X11_idle, rm_X11_init, rm_X11_isIdle, rm_X11_kept, rm_X11_late_, rm_X11_letter, rm_X11_mark, rm_X11_out, rm_X11_part, rm_X11_print, rm_X11_promise, rm_X11_release, rm_X11_row, rm_X11_thrown, rm_X11_told, rm_X11_turn, rm_X11_watermark]; omega) (by decide) dL_law_1055 hk297 (fun r293 M294 h => ?_)
  refine z_lstore hX [(6, .long r293), (5, .int r288), (0, va_rf (some h0)), (1, va_rf l1), (2, va_rf l2), (3, va_rf l3), (4, .int l4)] dL_law_1058 (by rw [hnL]; decide) rfl ?_
  refine z_aload_n (r := l2) hX dL_law_1060 rfl 4 rfl ?_
  obtain ⟨hk301, h⟩ := h
  refine z_callVI (As := []) (rest := []) (ci := 11) hX (ct_X11_thrown h) mw_RL_95 rfl (by decide) rfl (by rw [ha296]; rfl) (by simp only [RoomC, room_1, rm_L_isIdle, rm_L_kept, rm_L_late, rm_L_out, rm_L_promise, rm_L_watermark, rm_X10_build, rm_X10_end, rm_X10_fault, rm_X10_feed, rm_X10_hold, rm_X10_idle, rm_X10_init, rm_X10_letter, rm_X10_mark, rm_X10_part, rm_X10_print, rm_X10_release, rm_X10_row, rm_X10_told, rm_X10_turn, rm_X11_build, rm_X11_end, rm_X11_fault_, rm_X11_feed, rm_X11_hold, rm_X11_idle, rm_X11_init, rm_X11_isIdle, rm_X11_kept, rm_X11_late_, rm_X11_letter, rm_X11_mark, rm_X11_out, rm_X11_part, rm_X11_print, rm_X11_promise, rm_X11_release, rm_X11_row, rm_X11_thrown, rm_X11_told, rm_X11_turn, rm_X11_watermark]; omega) (by decide) dL_law_1061 hk301 (fun r299 M300 h => ?_)
  refine z_iload hX dL_law_1064 1 rfl ?_
  obtain ⟨h1, h2⟩ := h
  refine z_icmp_eq (tgt := 1071) hX dL_law_1066 (by decide) (fun hc => ?_) (fun hc => ?_)
  · have h := h1 hc
    refine z_iload hX dL_law_1071 1 rfl ?_
    obtain ⟨h1, h2⟩ := h
    refine z_if_ne (tgt := 1087) hX dL_law_1073 (by decide) (fun hc => ?_) (fun hc => ?_)
    · have h := h1 hc
      refine z_loc [2, 3, 4, 5, 6] rfl ?_
      refine z_widen (cc0 + 1) (ss0 + 6) (by first | omega | (simp only [rm_L_isIdle, rm_L_kept, rm_L_late, rm_L_out, rm_L_promise, rm_L_watermark, rm_X10_build, rm_X10_end, rm_X10_fault, rm_X10_feed, rm_X10_hold, rm_X10_idle, rm_X10_init, rm_X10_letter, rm_X10_mark, rm_X10_part, rm_X10_print, rm_X10_release, rm_X10_row, rm_X10_told, rm_X10_turn, rm_X11_build, rm_X11_end, rm_X11_fault_, rm_X11_feed, rm_X11_hold, rm_X11_idle, rm_X11_init, rm_X11_isIdle, rm_X11_kept, rm_X11_late_, rm_X11_letter, rm_X11_mark, rm_X11_out, rm_X11_part, rm_X11_print, rm_X11_promise, rm_X11_release, rm_X11_row, rm_X11_thrown, rm_X11_told, rm_X11_turn, rm_X11_watermark]; omega)) (by first | omega | (simp only [rm_L_isIdle, rm_L_kept, rm_L_late, rm_L_out, rm_L_promise, rm_L_watermark, rm_X10_build, rm_X10_end, rm_X10_fault, rm_X10_feed, rm_X10_hold, rm_X10_idle, rm_X10_init, rm_X10_letter, rm_X10_mark, rm_X10_part, rm_X10_print, rm_X10_release, rm_X10_row, rm_X10_told, rm_X10_turn, rm_X11_build, rm_X11_end, rm_X11_fault_, rm_X11_feed, rm_X11_hold, rm_X11_idle, rm_X11_init, rm_X11_isIdle, rm_X11_kept, rm_X11_late_, rm_X11_letter, rm_X11_mark, rm_X11_out, rm_X11_part, rm_X11_print, rm_X11_promise, rm_X11_release, rm_X11_row, rm_X11_thrown, rm_X11_told, rm_X11_turn, rm_X11_watermark]; omega)) ?_
      exact zb_L_law_1087 hX hQ hnL hSc hcs hR23 h
    · have h := h2 hc
      refine z_aload_n (r := l3) hX dL_law_1076 rfl 5 rfl ?_
      refine z_iconst (v := (0 : Int32)) hX dL_law_1077 (by decide) ?_
      obtain ⟨a303, ha304, h⟩ := h
      obtain ⟨hk305, h⟩ := h
      obtain ⟨hc306, h⟩ := h
      refine y_lald (r := l3) hX dL_law_1078 ha304 hk305 hc306 ?_
      refine z_lload hX dL_law_1079 0 rfl ?_
      refine z_lcmp hX dL_law_1081 ?_
      obtain ⟨h1, h2⟩ := h
      refine z_if_eq (tgt := 1087) hX dL_law_1082 (by decide) (fun hc => ?_) (fun hc => ?_)
      · have h := h1 ((lg_cmp_eq _ _).mp hc)
        refine z_loc [2, 3, 4, 5, 6] rfl ?_
        refine z_widen (cc0 + 1) (ss0 + 6) (by first | omega | (simp only [rm_L_isIdle, rm_L_kept, rm_L_late, rm_L_out, rm_L_promise, rm_L_watermark, rm_X10_build, rm_X10_end, rm_X10_fault, rm_X10_feed, rm_X10_hold, rm_X10_idle, rm_X10_init, rm_X10_letter, rm_X10_mark, rm_X10_part, rm_X10_print, rm_X10_release, rm_X10_row, rm_X10_told, rm_X10_turn, rm_X11_build, rm_X11_end, rm_X11_fault_, rm_X11_feed, rm_X11_hold, rm_X11_idle, rm_X11_init, rm_X11_isIdle, rm_X11_kept, rm_X11_late_, rm_X11_letter, rm_X11_mark, rm_X11_out, rm_X11_part, rm_X11_print, rm_X11_promise, rm_X11_release, rm_X11_row, rm_X11_thrown, rm_X11_told, rm_X11_turn, rm_X11_watermark]; omega)) (by first | omega | (simp only [rm_L_isIdle, rm_L_kept, rm_L_late, rm_L_out, rm_L_promise, rm_L_watermark, rm_X10_build, rm_X10_end, rm_X10_fault, rm_X10_feed, rm_X10_hold, rm_X10_idle, rm_X10_init, rm_X10_letter, rm_X10_mark, rm_X10_part, rm_X10_print, rm_X10_release, rm_X10_row, rm_X10_told, rm_X10_turn, rm_X11_build, rm_X11_end, rm_X11_fault_, rm_X11_feed, rm_X11_hold, rm_X11_idle, rm_X11_init, rm_X11_isIdle, rm_X11_kept, rm_X11_late_, rm_X11_letter, rm_X11_mark, rm_X11_out, rm_X11_part, rm_X11_print, rm_X11_promise, rm_X11_release, rm_X11_row, rm_X11_thrown, rm_X11_told, rm_X11_turn, rm_X11_watermark]; omega)) ?_
        exact zb_L_law_1087 hX hQ hnL hSc hcs hR23 h
      · have h := h2 (fun q => hc ((lg_cmp_eq _ _).mpr q))
        refine z_iconst (v := (0 : Int32)) hX dL_law_1085 (by decide) ?_
        refine z_widen 600002 7302232 (by first | omega | (simp only [rm_L_isIdle, rm_L_kept, rm_L_late, rm_L_out, rm_L_promise, rm_L_watermark, rm_X10_build, rm_X10_end, rm_X10_fault, rm_X10_feed, rm_X10_hold, rm_X10_idle, rm_X10_init, rm_X10_letter, rm_X10_mark, rm_X10_part, rm_X10_print, rm_X10_release, rm_X10_row, rm_X10_told, rm_X10_turn, rm_X11_build, rm_X11_end, rm_X11_fault_, rm_X11_feed, rm_X11_hold, rm_X11_idle, rm_X11_init, rm_X11_isIdle, rm_X11_kept, rm_X11_late_, rm_X11_letter, rm_X11_mark, rm_X11_out, rm_X11_part, rm_X11_print, rm_X11_promise, rm_X11_release, rm_X11_row, rm_X11_thrown, rm_X11_told, rm_X11_turn, rm_X11_watermark]; omega)) (by first | omega | (simp only [rm_L_isIdle, rm_L_kept, rm_L_late, rm_L_out, rm_L_promise, rm_L_watermark, rm_X10_build, rm_X10_end, rm_X10_fault, rm_X10_feed, rm_X10_hold, rm_X10_idle, rm_X10_init, rm_X10_letter, rm_X10_mark, rm_X10_part, rm_X10_print, rm_X10_release, rm_X10_row, rm_X10_told, rm_X10_turn, rm_X11_build, rm_X11_end, rm_X11_fault_, rm_X11_feed, rm_X11_hold, rm_X11_idle, rm_X11_init, rm_X11_isIdle, rm_X11_kept, rm_X11_late_, rm_X11_letter, rm_X11_mark, rm_X11_out, rm_X11_part, rm_X11_print, rm_X11_promise, rm_X11_release, rm_X11_row, rm_X11_thrown, rm_X11_told, rm_X11_turn, rm_X11_watermark]; omega)) ?_
        exact z_lwret hX hQ dL_law_1086 h
  · have h := h2 hc
    refine z_iconst (v := (0 : Int32)) hX dL_law_1069 (by decide) ?_
    refine z_widen 600002 7302232 (by first | omega | (simp only [rm_L_isIdle, rm_L_kept, rm_L_late, rm_L_out, rm_L_promise, rm_L_watermark, rm_X10_build, rm_X10_end, rm_X10_fault, rm_X10_feed, rm_X10_hold, rm_X10_idle, rm_X10_init, rm_X10_letter, rm_X10_mark, rm_X10_part, rm_X10_print, rm_X10_release, rm_X10_row, rm_X10_told, rm_X10_turn, rm_X11_build, rm_X11_end, rm_X11_fault_, rm_X11_feed, rm_X11_hold, rm_X11_idle, rm_X11_init, rm_X11_isIdle, rm_X11_kept, rm_X11_late_, rm_X11_letter, rm_X11_mark, rm_X11_out, rm_X11_part, rm_X11_print, rm_X11_promise, rm_X11_release, rm_X11_row, rm_X11_thrown, rm_X11_told, rm_X11_turn, rm_X11_watermark]; omega)) (by first | omega | (simp only [rm_L_isIdle, rm_L_kept, rm_L_late, rm_L_out, rm_L_promise, rm_L_watermark, rm_X10_build, rm_X10_end, rm_X10_fault, rm_X10_feed, rm_X10_hold, rm_X10_idle, rm_X10_init, rm_X10_letter, rm_X10_mark, rm_X10_part, rm_X10_print, rm_X10_release, rm_X10_row, rm_X10_told, rm_X10_turn, rm_X11_build, rm_X11_end, rm_X11_fault_, rm_X11_feed, rm_X11_hold, rm_X11_idle, rm_X11_init, rm_X11_isIdle, rm_X11_kept, rm_X11_late_, rm_X11_letter, rm_X11_mark, rm_X11_out, rm_X11_part, rm_X11_print, rm_X11_promise, rm_X11_release, rm_X11_row, rm_X11_thrown, rm_X11_told, rm_X11_turn, rm_X11_watermark]; omega)) ?_
    exact z_lwret hX hQ dL_law_1070 h
def bk_L_law_1090 (h0 L : Nat) (xs : Nat → Int32) (R23 : Option Nat → Option Nat → Option Nat → Int32 → Mm → Prop) (K : Int32 → Mm → Prop) (l1 : Option Nat) (l2 : Option Nat) (l3 : Option Nat) (l4 : Int32) (M : Mm) : Prop := vp_in (l4 + (1 : Int32)) L ∧ ∃ a310, l1 = some a310 ∧ mK M a310 = 11 ∧ (wp_X10_told M a310 (xs ((l4 + (1 : Int32))).toNatClampNeg) (fun r308 M309 => vp_in (l4 + (1 : Int32)) L ∧ ∃ a317, l2 = some a317 ∧ mK M309 a317 = 12 ∧ (wp_X11_told M309 a317 (xs ((l4 + (1 : Int32))).toNatClampNeg) (fun r315 M316 => ((r308 = r315 → (bk_L_law_1153 h0 L xs R23 K l1 l2 l3 l4 M316)) ∧ (¬ r308 = r315 → (K (0 : Int32) M316)))))))
set_option maxRecDepth 100000 in
set_option maxHeartbeats 4000000 in
theorem zb_L_law_1090 {X : Cx} {h0 L : Nat} {xs : Nat → Int32} {R23 : Option Nat → Option Nat → Option Nat → Int32 → Mm → Prop} {K : Int32 → Mm → Prop} (hX : Ok X cL_law RL room_1) (hQ : RqL X h0 K) (hnL : X.2.2.2.2.2.2.2.2.2.2.2.2.2.2 = 8) (hSc : Scr X h0 L xs) {cc0 ss0 : Nat} (hcs : cc0 + 295 ≤ 2407 ∧ ss0 + 2288 ≤ 28584) (hR23 : ∀ l1 l2 l3 l4 M, R23 l1 l2 l3 l4 M → Z X M (cc0 + 295) (ss0 + 2288) 23 [(0, va_rf (some h0)), (1, va_rf l1), (2, va_rf l2), (3, va_rf l3), (4, .int l4)] []) {l1 : Option Nat} {l2 : Option Nat} {l3 : Option Nat} {l4 : Int32} {M : Mm} (h : bk_L_law_1090 h0 L xs R23 K l1 l2 l3 l4 M) : Z X M (cc0 + 0) (ss0 + 0) 1090 [(0, va_rf (some h0)), (1, va_rf l1), (2, va_rf l2), (3, va_rf l3), (4, .int l4)] [] := by
  unfold bk_L_law_1090 at h
  refine z_aload_n (r := l1) hX dL_law_1090 rfl 1 rfl ?_
  refine z_aload_n (r := (some h0)) hX dL_law_1091 rfl 0 rfl ?_
  refine z_iload hX dL_law_1092 4 rfl ?_
  refine z_iconst (v := (1 : Int32)) hX dL_law_1094 (by decide) ?_
  refine z_iadd hX dL_law_1095 ?_
  obtain ⟨hc307, h⟩ := h
  refine z_sld hX hSc dL_law_1096 hc307 ?_
  obtain ⟨a310, ha311, h⟩ := h
  obtain ⟨hk312, h⟩ := h
  refine z_callVI (As := [.int (xs ((l4 + (1 : Int32))).toNatClampNeg)]) (rest := []) (ci := 10) hX (ct_X10_told h) mw_RL_118 rfl (by decide) rfl (by rw [ha311]; rfl) (by simp only [RoomC, room_1, rm_L_isIdle, rm_L_kept, rm_L_late, rm_L_out, rm_L_promise, rm_L_watermark, rm_X10_build, rm_X10_end, rm_X10_fault, rm_X10_feed, rm_X10_hold, rm_X10_idle, rm_X10_init, rm_X10_letter, rm_X10_mark, rm_X10_part, rm_X10_print, rm_X10_release, rm_X10_row, rm_X10_told, rm_X10_turn, rm_X11_build, rm_X11_end, rm_X11_fault_, rm_X11_feed, rm_X11_hold, rm_X11_idle, rm_X11_init, rm_X11_isIdle, rm_X11_kept, rm_X11_late_, rm_X11_letter, rm_X11_mark, rm_X11_out, rm_X11_part, rm_X11_print, rm_X11_promise, rm_X11_release, rm_X11_row, rm_X11_thrown, rm_X11_told, rm_X11_turn, rm_X11_watermark]; omega) (by decide) dL_law_1097 hk312 (fun r308 M309 h => ?_)
  refine z_aload_n (r := l2) hX dL_law_1100 rfl 2 rfl ?_
  refine z_aload_n (r := (some h0)) hX dL_law_1101 rfl 0 rfl ?_
  refine z_iload hX dL_law_1102 4 rfl ?_
  refine z_iconst (v := (1 : Int32)) hX dL_law_1104 (by decide) ?_
  refine z_iadd hX dL_law_1105 ?_
  obtain ⟨hc314, h⟩ := h
  refine z_sld hX hSc dL_law_1106 hc314 ?_
  obtain ⟨a317, ha318, h⟩ := h
  obtain ⟨hk319, h⟩ := h
  refine z_callVI (As := [.int (xs ((l4 + (1 : Int32))).toNatClampNeg)]) (rest := [.int r308]) (ci := 11) hX (ct_X11_told h) mw_RL_121 rfl (by decide) rfl (by rw [ha318]; rfl) (by simp only [RoomC, room_1, rm_L_isIdle, rm_L_kept, rm_L_late, rm_L_out, rm_L_promise, rm_L_watermark, rm_X10_build, rm_X10_end, rm_X10_fault, rm_X10_feed, rm_X10_hold, rm_X10_idle, rm_X10_init, rm_X10_letter, rm_X10_mark, rm_X10_part, rm_X10_print, rm_X10_release, rm_X10_row, rm_X10_told, rm_X10_turn, rm_X11_build, rm_X11_end, rm_X11_fault_, rm_X11_feed, rm_X11_hold, rm_X11_idle, rm_X11_init, rm_X11_isIdle, rm_X11_kept, rm_X11_late_, rm_X11_letter, rm_X11_mark, rm_X11_out, rm_X11_part, rm_X11_print, rm_X11_promise, rm_X11_release, rm_X11_row, rm_X11_thrown, rm_X11_told, rm_X11_turn, rm_X11_watermark]; omega) (by simp only [List.map_cons, List.map_nil, List.sum_cons, List.sum_nil, cat_rf, cat_i, cat_j]; decide) dL_law_1107 hk319 (fun r315 M316 h => ?_)
  obtain ⟨h1, h2⟩ := h
  refine z_icmp_eq (tgt := 1153) hX dL_law_1110 (by decide) (fun hc => ?_) (fun hc => ?_)
  · have h := h1 hc
    refine z_widen (cc0 + 295) (ss0 + 2288) (by first | omega | (simp only [rm_L_isIdle, rm_L_kept, rm_L_late, rm_L_out, rm_L_promise, rm_L_watermark, rm_X10_build, rm_X10_end, rm_X10_fault, rm_X10_feed, rm_X10_hold, rm_X10_idle, rm_X10_init, rm_X10_letter, rm_X10_mark, rm_X10_part, rm_X10_print, rm_X10_release, rm_X10_row, rm_X10_told, rm_X10_turn, rm_X11_build, rm_X11_end, rm_X11_fault_, rm_X11_feed, rm_X11_hold, rm_X11_idle, rm_X11_init, rm_X11_isIdle, rm_X11_kept, rm_X11_late_, rm_X11_letter, rm_X11_mark, rm_X11_out, rm_X11_part, rm_X11_print, rm_X11_promise, rm_X11_release, rm_X11_row, rm_X11_thrown, rm_X11_told, rm_X11_turn, rm_X11_watermark]; omega)) (by first | omega | (simp only [rm_L_isIdle, rm_L_kept, rm_L_late, rm_L_out, rm_L_promise, rm_L_watermark, rm_X10_build, rm_X10_end, rm_X10_fault, rm_X10_feed, rm_X10_hold, rm_X10_idle, rm_X10_init, rm_X10_letter, rm_X10_mark, rm_X10_part, rm_X10_print, rm_X10_release, rm_X10_row, rm_X10_told, rm_X10_turn, rm_X11_build, rm_X11_end, rm_X11_fault_, rm_X11_feed, rm_X11_hold, rm_X11_idle, rm_X11_init, rm_X11_isIdle, rm_X11_kept, rm_X11_late_, rm_X11_letter, rm_X11_mark, rm_X11_out, rm_X11_part, rm_X11_print, rm_X11_promise, rm_X11_release, rm_X11_row, rm_X11_thrown, rm_X11_told, rm_X11_turn, rm_X11_watermark]; omega)) ?_
    exact zb_L_law_1153 hX hQ hnL hSc hcs hR23 h
  · have h := h2 hc
    refine z_iconst (v := (0 : Int32)) hX dL_law_1113 (by decide) ?_
    refine z_widen 600002 7302232 (by first | omega | (simp only [rm_L_isIdle, rm_L_kept, rm_L_late, rm_L_out, rm_L_promise, rm_L_watermark, rm_X10_build, rm_X10_end, rm_X10_fault, rm_X10_feed, rm_X10_hold, rm_X10_idle, rm_X10_init, rm_X10_letter, rm_X10_mark, rm_X10_part, rm_X10_print, rm_X10_release, rm_X10_row, rm_X10_told, rm_X10_turn, rm_X11_build, rm_X11_end, rm_X11_fault_, rm_X11_feed, rm_X11_hold, rm_X11_idle, rm_X11_init, rm_X11_isIdle, rm_X11_kept, rm_X11_late_, rm_X11_letter, rm_X11_mark, rm_X11_out, rm_X11_part, rm_X11_print, rm_X11_promise, rm_X11_release, rm_X11_row, rm_X11_thrown, rm_X11_told, rm_X11_turn, rm_X11_watermark]; omega)) (by first | omega | (simp only [rm_L_isIdle, rm_L_kept, rm_L_late, rm_L_out, rm_L_promise, rm_L_watermark, rm_X10_build, rm_X10_end, rm_X10_fault, rm_X10_feed, rm_X10_hold, rm_X10_idle, rm_X10_init, rm_X10_letter, rm_X10_mark, rm_X10_part, rm_X10_print, rm_X10_release, rm_X10_row, rm_X10_told, rm_X10_turn, rm_X11_build, rm_X11_end, rm_X11_fault_, rm_X11_feed, rm_X11_hold, rm_X11_idle, rm_X11_init, rm_X11_isIdle, rm_X11_kept, rm_X11_late_, rm_X11_letter, rm_X11_mark, rm_X11_out, rm_X11_part, rm_X11_print, rm_X11_promise, rm_X11_release, rm_X11_row, rm_X11_thrown, rm_X11_told, rm_X11_turn, rm_X11_watermark]; omega)) ?_
    exact z_lwret hX hQ dL_law_1114 h
def bk_L_law_1115 (h0 L : Nat) (xs : Nat → Int32) (R23 : Option Nat → Option Nat → Option Nat → Int32 → Mm → Prop) (K : Int32 → Mm → Prop) (l1 : Option Nat) (l2 : Option Nat) (l3 : Option Nat) (l4 : Int32) (M : Mm) : Prop := ∃ a323, l1 = some a323 ∧ mK M a323 = 11 ∧ (wp_X10_print M a323 (fun r321 M322 => ∃ a329, l2 = some a329 ∧ mK M322 a329 = 12 ∧ (wp_X11_print M322 a329 (fun r327 M328 => ((r321 = r327 → (bk_L_law_1153 h0 L xs R23 K l1 l2 l3 l4 M328)) ∧ (¬ r321 = r327 → (K (0 : Int32) M328)))))))
set_option maxRecDepth 100000 in
set_option maxHeartbeats 4000000 in
theorem zb_L_law_1115 {X : Cx} {h0 L : Nat} {xs : Nat → Int32} {R23 : Option Nat → Option Nat → Option Nat → Int32 → Mm → Prop} {K : Int32 → Mm → Prop} (hX : Ok X cL_law RL room_1) (hQ : RqL X h0 K) (hnL : X.2.2.2.2.2.2.2.2.2.2.2.2.2.2 = 8) (hSc : Scr X h0 L xs) {cc0 ss0 : Nat} (hcs : cc0 + 295 ≤ 2407 ∧ ss0 + 2288 ≤ 28584) (hR23 : ∀ l1 l2 l3 l4 M, R23 l1 l2 l3 l4 M → Z X M (cc0 + 295) (ss0 + 2288) 23 [(0, va_rf (some h0)), (1, va_rf l1), (2, va_rf l2), (3, va_rf l3), (4, .int l4)] []) {l1 : Option Nat} {l2 : Option Nat} {l3 : Option Nat} {l4 : Int32} {M : Mm} (h : bk_L_law_1115 h0 L xs R23 K l1 l2 l3 l4 M) : Z X M (cc0 + 0) (ss0 + 0) 1115 [(0, va_rf (some h0)), (1, va_rf l1), (2, va_rf l2), (3, va_rf l3), (4, .int l4)] [] := by
  unfold bk_L_law_1115 at h
  refine z_aload_n (r := l1) hX dL_law_1115 rfl 1 rfl ?_
  obtain ⟨a323, ha324, h⟩ := h
  obtain ⟨hk325, h⟩ := h
  refine z_callVI (As := []) (rest := []) (ci := 10) hX (ct_X10_print h) mw_RL_122 rfl (by decide) rfl (by rw [ha324]; rfl) (by simp only [RoomC, room_1, rm_L_isIdle, rm_L_kept, rm_L_late, rm_L_out, rm_L_promise, rm_L_watermark, rm_X10_build, rm_X10_end, rm_X10_fault, rm_X10_feed, rm_X10_hold, rm_X10_idle, rm_X10_init, rm_X10_letter, rm_X10_mark, rm_X10_part, rm_X10_print, rm_X10_release, rm_X10_row, rm_X10_told, rm_X10_turn, rm_X11_build, rm_X11_end, rm_X11_fault_, rm_X11_feed, rm_X11_hold, rm_X11_idle, rm_X11_init, rm_X11_isIdle, rm_X11_kept, rm_X11_late_, rm_X11_letter, rm_X11_mark, rm_X11_out, rm_X11_part, rm_X11_print, rm_X11_promise, rm_X11_release, rm_X11_row, rm_X11_thrown, rm_X11_told, rm_X11_turn, rm_X11_watermark]; omega) (by decide) dL_law_1116 hk325 (fun r321 M322 h => ?_)
  refine z_aload_n (r := l2) hX dL_law_1119 rfl 2 rfl ?_
  obtain ⟨a329, ha330, h⟩ := h
  obtain ⟨hk331, h⟩ := h
  refine z_callVI (As := []) (rest := [.int r321]) (ci := 11) hX (ct_X11_print h) mw_RL_125 rfl (by decide) rfl (by rw [ha330]; rfl) (by simp only [RoomC, room_1, rm_L_isIdle, rm_L_kept, rm_L_late, rm_L_out, rm_L_promise, rm_L_watermark, rm_X10_build, rm_X10_end, rm_X10_fault, rm_X10_feed, rm_X10_hold, rm_X10_idle, rm_X10_init, rm_X10_letter, rm_X10_mark, rm_X10_part, rm_X10_print, rm_X10_release, rm_X10_row, rm_X10_told, rm_X10_turn, rm_X11_build, rm_X11_end, rm_X11_fault_, rm_X11_feed, rm_X11_hold, rm_X11_idle, rm_X11_init, rm_X11_isIdle, rm_X11_kept, rm_X11_late_, rm_X11_letter, rm_X11_mark, rm_X11_out, rm_X11_part, rm_X11_print, rm_X11_promise, rm_X11_release, rm_X11_row, rm_X11_thrown, rm_X11_told, rm_X11_turn, rm_X11_watermark]; omega) (by simp only [List.map_cons, List.map_nil, List.sum_cons, List.sum_nil, cat_rf, cat_i, cat_j]; decide) dL_law_1120 hk331 (fun r327 M328 h => ?_)
  obtain ⟨h1, h2⟩ := h
  refine z_icmp_eq (tgt := 1153) hX dL_law_1123 (by decide) (fun hc => ?_) (fun hc => ?_)
  · have h := h1 hc
    refine z_widen (cc0 + 295) (ss0 + 2288) (by first | omega | (simp only [rm_L_isIdle, rm_L_kept, rm_L_late, rm_L_out, rm_L_promise, rm_L_watermark, rm_X10_build, rm_X10_end, rm_X10_fault, rm_X10_feed, rm_X10_hold, rm_X10_idle, rm_X10_init, rm_X10_letter, rm_X10_mark, rm_X10_part, rm_X10_print, rm_X10_release, rm_X10_row, rm_X10_told, rm_X10_turn, rm_X11_build, rm_X11_end, rm_X11_fault_, rm_X11_feed, rm_X11_hold, rm_X11_idle, rm_X11_init, rm_X11_isIdle, rm_X11_kept, rm_X11_late_, rm_X11_letter, rm_X11_mark, rm_X11_out, rm_X11_part, rm_X11_print, rm_X11_promise, rm_X11_release, rm_X11_row, rm_X11_thrown, rm_X11_told, rm_X11_turn, rm_X11_watermark]; omega)) (by first | omega | (simp only [rm_L_isIdle, rm_L_kept, rm_L_late, rm_L_out, rm_L_promise, rm_L_watermark, rm_X10_build, rm_X10_end, rm_X10_fault, rm_X10_feed, rm_X10_hold, rm_X10_idle, rm_X10_init, rm_X10_letter, rm_X10_mark, rm_X10_part, rm_X10_print, rm_X10_release, rm_X10_row, rm_X10_told, rm_X10_turn, rm_X11_build, rm_X11_end, rm_X11_fault_, rm_X11_feed, rm_X11_hold, rm_X11_idle, rm_X11_init, rm_X11_isIdle, rm_X11_kept, rm_X11_late_, rm_X11_letter, rm_X11_mark, rm_X11_out, rm_X11_part, rm_X11_print, rm_X11_promise, rm_X11_release, rm_X11_row, rm_X11_thrown, rm_X11_told, rm_X11_turn, rm_X11_watermark]; omega)) ?_
    exact zb_L_law_1153 hX hQ hnL hSc hcs hR23 h
  · have h := h2 hc
    refine z_iconst (v := (0 : Int32)) hX dL_law_1126 (by decide) ?_
    refine z_widen 600002 7302232 (by first | omega | (simp only [rm_L_isIdle, rm_L_kept, rm_L_late, rm_L_out, rm_L_promise, rm_L_watermark, rm_X10_build, rm_X10_end, rm_X10_fault, rm_X10_feed, rm_X10_hold, rm_X10_idle, rm_X10_init, rm_X10_letter, rm_X10_mark, rm_X10_part, rm_X10_print, rm_X10_release, rm_X10_row, rm_X10_told, rm_X10_turn, rm_X11_build, rm_X11_end, rm_X11_fault_, rm_X11_feed, rm_X11_hold, rm_X11_idle, rm_X11_init, rm_X11_isIdle, rm_X11_kept, rm_X11_late_, rm_X11_letter, rm_X11_mark, rm_X11_out, rm_X11_part, rm_X11_print, rm_X11_promise, rm_X11_release, rm_X11_row, rm_X11_thrown, rm_X11_told, rm_X11_turn, rm_X11_watermark]; omega)) (by first | omega | (simp only [rm_L_isIdle, rm_L_kept, rm_L_late, rm_L_out, rm_L_promise, rm_L_watermark, rm_X10_build, rm_X10_end, rm_X10_fault, rm_X10_feed, rm_X10_hold, rm_X10_idle, rm_X10_init, rm_X10_letter, rm_X10_mark, rm_X10_part, rm_X10_print, rm_X10_release, rm_X10_row, rm_X10_told, rm_X10_turn, rm_X11_build, rm_X11_end, rm_X11_fault_, rm_X11_feed, rm_X11_hold, rm_X11_idle, rm_X11_init, rm_X11_isIdle, rm_X11_kept, rm_X11_late_, rm_X11_letter, rm_X11_mark, rm_X11_out, rm_X11_part, rm_X11_print, rm_X11_promise, rm_X11_release, rm_X11_row, rm_X11_thrown, rm_X11_told, rm_X11_turn, rm_X11_watermark]; omega)) ?_
    exact z_lwret hX hQ dL_law_1127 h
def bk_L_law_1128 (h0 L : Nat) (xs : Nat → Int32) (R23 : Option Nat → Option Nat → Option Nat → Int32 → Mm → Prop) (K : Int32 → Mm → Prop) (l1 : Option Nat) (l2 : Option Nat) (l3 : Option Nat) (l4 : Int32) (M : Mm) : Prop := vp_in (l4 + (1 : Int32)) L ∧ ∃ a336, l1 = some a336 ∧ mK M a336 = 11 ∧ (wp_X10_letter M a336 (xs ((l4 + (1 : Int32))).toNatClampNeg) (fun r334 M335 => vp_in (l4 + (1 : Int32)) L ∧ ∃ a343, l2 = some a343 ∧ mK M335 a343 = 12 ∧ (wp_X11_letter M335 a343 (xs ((l4 + (1 : Int32))).toNatClampNeg) (fun r341 M342 => ((r334 = r341 → (bk_L_law_1153 h0 L xs R23 K l1 l2 l3 l4 M342)) ∧ (¬ r334 = r341 → (K (0 : Int32) M342)))))))
set_option maxRecDepth 100000 in
set_option maxHeartbeats 4000000 in
theorem zb_L_law_1128 {X : Cx} {h0 L : Nat} {xs : Nat → Int32} {R23 : Option Nat → Option Nat → Option Nat → Int32 → Mm → Prop} {K : Int32 → Mm → Prop} (hX : Ok X cL_law RL room_1) (hQ : RqL X h0 K) (hnL : X.2.2.2.2.2.2.2.2.2.2.2.2.2.2 = 8) (hSc : Scr X h0 L xs) {cc0 ss0 : Nat} (hcs : cc0 + 295 ≤ 2407 ∧ ss0 + 2288 ≤ 28584) (hR23 : ∀ l1 l2 l3 l4 M, R23 l1 l2 l3 l4 M → Z X M (cc0 + 295) (ss0 + 2288) 23 [(0, va_rf (some h0)), (1, va_rf l1), (2, va_rf l2), (3, va_rf l3), (4, .int l4)] []) {l1 : Option Nat} {l2 : Option Nat} {l3 : Option Nat} {l4 : Int32} {M : Mm} (h : bk_L_law_1128 h0 L xs R23 K l1 l2 l3 l4 M) : Z X M (cc0 + 0) (ss0 + 0) 1128 [(0, va_rf (some h0)), (1, va_rf l1), (2, va_rf l2), (3, va_rf l3), (4, .int l4)] [] := by
  unfold bk_L_law_1128 at h
  refine z_aload_n (r := l1) hX dL_law_1128 rfl 1 rfl ?_
  refine z_aload_n (r := (some h0)) hX dL_law_1129 rfl 0 rfl ?_
  refine z_iload hX dL_law_1130 4 rfl ?_
  refine z_iconst (v := (1 : Int32)) hX dL_law_1132 (by decide) ?_
  refine z_iadd hX dL_law_1133 ?_
  obtain ⟨hc333, h⟩ := h
  refine z_sld hX hSc dL_law_1134 hc333 ?_
  obtain ⟨a336, ha337, h⟩ := h
  obtain ⟨hk338, h⟩ := h
  refine z_callVI (As := [.int (xs ((l4 + (1 : Int32))).toNatClampNeg)]) (rest := []) (ci := 10) hX (ct_X10_letter h) mw_RL_126 rfl (by decide) rfl (by rw [ha337]; rfl) (by simp only [RoomC, room_1, rm_L_isIdle, rm_L_kept, rm_L_late, rm_L_out, rm_L_promise, rm_L_watermark, rm_X10_build, rm_X10_end, rm_X10_fault, rm_X10_feed, rm_X10_hold, rm_X10_idle, rm_X10_init, rm_X10_letter, rm_X10_mark, rm_X10_part, rm_X10_print, rm_X10_release, rm_X10_row, rm_X10_told, rm_X10_turn, rm_X11_build, rm_X11_end, rm_X11_fault_, rm_X11_feed, rm_X11_hold, rm_X11_idle, rm_X11_init, rm_X11_isIdle, rm_X11_kept, rm_X11_late_, rm_X11_letter, rm_X11_mark, rm_X11_out, rm_X11_part, rm_X11_print, rm_X11_promise, rm_X11_release, rm_X11_row, rm_X11_thrown, rm_X11_told, rm_X11_turn, rm_X11_watermark]; omega) (by decide) dL_law_1135 hk338 (fun r334 M335 h => ?_)
  refine z_aload_n (r := l2) hX dL_law_1138 rfl 2 rfl ?_
  refine z_aload_n (r := (some h0)) hX dL_law_1139 rfl 0 rfl ?_
  refine z_iload hX dL_law_1140 4 rfl ?_
  refine z_iconst (v := (1 : Int32)) hX dL_law_1142 (by decide) ?_
  refine z_iadd hX dL_law_1143 ?_
  obtain ⟨hc340, h⟩ := h
  refine z_sld hX hSc dL_law_1144 hc340 ?_
  obtain ⟨a343, ha344, h⟩ := h
  obtain ⟨hk345, h⟩ := h
  refine z_callVI (As := [.int (xs ((l4 + (1 : Int32))).toNatClampNeg)]) (rest := [.int r334]) (ci := 11) hX (ct_X11_letter h) mw_RL_129 rfl (by decide) rfl (by rw [ha344]; rfl) (by simp only [RoomC, room_1, rm_L_isIdle, rm_L_kept, rm_L_late, rm_L_out, rm_L_promise, rm_L_watermark, rm_X10_build, rm_X10_end, rm_X10_fault, rm_X10_feed, rm_X10_hold, rm_X10_idle, rm_X10_init, rm_X10_letter, rm_X10_mark, rm_X10_part, rm_X10_print, rm_X10_release, rm_X10_row, rm_X10_told, rm_X10_turn, rm_X11_build, rm_X11_end, rm_X11_fault_, rm_X11_feed, rm_X11_hold, rm_X11_idle, rm_X11_init, rm_X11_isIdle, rm_X11_kept, rm_X11_late_, rm_X11_letter, rm_X11_mark, rm_X11_out, rm_X11_part, rm_X11_print, rm_X11_promise, rm_X11_release, rm_X11_row, rm_X11_thrown, rm_X11_told, rm_X11_turn, rm_X11_watermark]; omega) (by simp only [List.map_cons, List.map_nil, List.sum_cons, List.sum_nil, cat_rf, cat_i, cat_j]; decide) dL_law_1145 hk345 (fun r341 M342 h => ?_)
  obtain ⟨h1, h2⟩ := h
  refine z_icmp_eq (tgt := 1153) hX dL_law_1148 (by decide) (fun hc => ?_) (fun hc => ?_)
  · have h := h1 hc
    refine z_widen (cc0 + 295) (ss0 + 2288) (by first | omega | (simp only [rm_L_isIdle, rm_L_kept, rm_L_late, rm_L_out, rm_L_promise, rm_L_watermark, rm_X10_build, rm_X10_end, rm_X10_fault, rm_X10_feed, rm_X10_hold, rm_X10_idle, rm_X10_init, rm_X10_letter, rm_X10_mark, rm_X10_part, rm_X10_print, rm_X10_release, rm_X10_row, rm_X10_told, rm_X10_turn, rm_X11_build, rm_X11_end, rm_X11_fault_, rm_X11_feed, rm_X11_hold, rm_X11_idle, rm_X11_init, rm_X11_isIdle, rm_X11_kept, rm_X11_late_, rm_X11_letter, rm_X11_mark, rm_X11_out, rm_X11_part, rm_X11_print, rm_X11_promise, rm_X11_release, rm_X11_row, rm_X11_thrown, rm_X11_told, rm_X11_turn, rm_X11_watermark]; omega)) (by first | omega | (simp only [rm_L_isIdle, rm_L_kept, rm_L_late, rm_L_out, rm_L_promise, rm_L_watermark, rm_X10_build, rm_X10_end, rm_X10_fault, rm_X10_feed, rm_X10_hold, rm_X10_idle, rm_X10_init, rm_X10_letter, rm_X10_mark, rm_X10_part, rm_X10_print, rm_X10_release, rm_X10_row, rm_X10_told, rm_X10_turn, rm_X11_build, rm_X11_end, rm_X11_fault_, rm_X11_feed, rm_X11_hold, rm_X11_idle, rm_X11_init, rm_X11_isIdle, rm_X11_kept, rm_X11_late_, rm_X11_letter, rm_X11_mark, rm_X11_out, rm_X11_part, rm_X11_print, rm_X11_promise, rm_X11_release, rm_X11_row, rm_X11_thrown, rm_X11_told, rm_X11_turn, rm_X11_watermark]; omega)) ?_
    exact zb_L_law_1153 hX hQ hnL hSc hcs hR23 h
  · have h := h2 hc
    refine z_iconst (v := (0 : Int32)) hX dL_law_1151 (by decide) ?_
    refine z_widen 600002 7302232 (by first | omega | (simp only [rm_L_isIdle, rm_L_kept, rm_L_late, rm_L_out, rm_L_promise, rm_L_watermark, rm_X10_build, rm_X10_end, rm_X10_fault, rm_X10_feed, rm_X10_hold, rm_X10_idle, rm_X10_init, rm_X10_letter, rm_X10_mark, rm_X10_part, rm_X10_print, rm_X10_release, rm_X10_row, rm_X10_told, rm_X10_turn, rm_X11_build, rm_X11_end, rm_X11_fault_, rm_X11_feed, rm_X11_hold, rm_X11_idle, rm_X11_init, rm_X11_isIdle, rm_X11_kept, rm_X11_late_, rm_X11_letter, rm_X11_mark, rm_X11_out, rm_X11_part, rm_X11_print, rm_X11_promise, rm_X11_release, rm_X11_row, rm_X11_thrown, rm_X11_told, rm_X11_turn, rm_X11_watermark]; omega)) (by first | omega | (simp only [rm_L_isIdle, rm_L_kept, rm_L_late, rm_L_out, rm_L_promise, rm_L_watermark, rm_X10_build, rm_X10_end, rm_X10_fault, rm_X10_feed, rm_X10_hold, rm_X10_idle, rm_X10_init, rm_X10_letter, rm_X10_mark, rm_X10_part, rm_X10_print, rm_X10_release, rm_X10_row, rm_X10_told, rm_X10_turn, rm_X11_build, rm_X11_end, rm_X11_fault_, rm_X11_feed, rm_X11_hold, rm_X11_idle, rm_X11_init, rm_X11_isIdle, rm_X11_kept, rm_X11_late_, rm_X11_letter, rm_X11_mark, rm_X11_out, rm_X11_part, rm_X11_print, rm_X11_promise, rm_X11_release, rm_X11_row, rm_X11_thrown, rm_X11_told, rm_X11_turn, rm_X11_watermark]; omega)) ?_
    exact z_lwret hX hQ dL_law_1152 h
def lp_L_law_23 (h0 L : Nat) (xs : Nat → Int32) (K : Int32 → Mm → Prop) : Nat → Option Nat → Option Nat → Option Nat → Int32 → Mm → Prop
  | 0, _, _, _, _, _ => False
  | n + 1, l1, l2, l3, l4, M => ((((nI L) - (6 : Int32)) < l4 → (K (1 : Int32) M)) ∧ (¬ ((nI L) - (6 : Int32)) < l4 → vp_in l4 L ∧ (((((xs (l4).toNatClampNeg) &&& (31 : Int32))).toInt < 0 ∨ 19 < (((xs (l4).toNatClampNeg) &&& (31 : Int32))).toInt → (bk_L_law_1153 h0 L xs (lp_L_law_23 h0 L xs K n) K l1 l2 l3 l4 M)) ∧ (((xs (l4).toNatClampNeg) &&& (31 : Int32)) = 0 → (bk_L_law_136 h0 L xs (lp_L_law_23 h0 L xs K n) K l1 l2 l3 l4 M)) ∧ (((xs (l4).toNatClampNeg) &&& (31 : Int32)) = 1 → (bk_L_law_205 h0 L xs (lp_L_law_23 h0 L xs K n) K l1 l2 l3 l4 M)) ∧ (((xs (l4).toNatClampNeg) &&& (31 : Int32)) = 2 → (bk_L_law_218 h0 L xs (lp_L_law_23 h0 L xs K n) K l1 l2 l3 l4 M)) ∧ (((xs (l4).toNatClampNeg) &&& (31 : Int32)) = 3 → (bk_L_law_231 h0 L xs (lp_L_law_23 h0 L xs K n) K l1 l2 l3 l4 M)) ∧ (((xs (l4).toNatClampNeg) &&& (31 : Int32)) = 4 → (bk_L_law_324 h0 L xs (lp_L_law_23 h0 L xs K n) K l1 l2 l3 l4 M)) ∧ (((xs (l4).toNatClampNeg) &&& (31 : Int32)) = 5 → (bk_L_law_405 h0 L xs (lp_L_law_23 h0 L xs K n) K l1 l2 l3 l4 M)) ∧ (((xs (l4).toNatClampNeg) &&& (31 : Int32)) = 6 → (bk_L_law_442 h0 L xs (lp_L_law_23 h0 L xs K n) K l1 l2 l3 l4 M)) ∧ (((xs (l4).toNatClampNeg) &&& (31 : Int32)) = 7 → (bk_L_law_507 h0 L xs (lp_L_law_23 h0 L xs K n) K l1 l2 l3 l4 M)) ∧ (((xs (l4).toNatClampNeg) &&& (31 : Int32)) = 8 → (bk_L_law_532 h0 L xs (lp_L_law_23 h0 L xs K n) K l1 l2 l3 l4 M)) ∧ (((xs (l4).toNatClampNeg) &&& (31 : Int32)) = 9 → (bk_L_law_601 h0 L xs (lp_L_law_23 h0 L xs K n) K l1 l2 l3 l4 M)) ∧ (((xs (l4).toNatClampNeg) &&& (31 : Int32)) = 10 → (bk_L_law_666 h0 L xs (lp_L_law_23 h0 L xs K n) K l1 l2 l3 l4 M)) ∧ (((xs (l4).toNatClampNeg) &&& (31 : Int32)) = 11 → (bk_L_law_721 h0 L xs (lp_L_law_23 h0 L xs K n) K l1 l2 l3 l4 M)) ∧ (((xs (l4).toNatClampNeg) &&& (31 : Int32)) = 12 → (bk_L_law_784 h0 L xs (lp_L_law_23 h0 L xs K n) K l1 l2 l3 l4 M)) ∧ (((xs (l4).toNatClampNeg) &&& (31 : Int32)) = 13 → (bk_L_law_851 h0 L xs (lp_L_law_23 h0 L xs K n) K l1 l2 l3 l4 M)) ∧ (((xs (l4).toNatClampNeg) &&& (31 : Int32)) = 14 → (bk_L_law_888 h0 L xs (lp_L_law_23 h0 L xs K n) K l1 l2 l3 l4 M)) ∧ (((xs (l4).toNatClampNeg) &&& (31 : Int32)) = 15 → (bk_L_law_956 h0 L xs (lp_L_law_23 h0 L xs K n) K l1 l2 l3 l4 M)) ∧ (((xs (l4).toNatClampNeg) &&& (31 : Int32)) = 16 → (bk_L_law_1023 h0 L xs (lp_L_law_23 h0 L xs K n) K l1 l2 l3 l4 M)) ∧ (((xs (l4).toNatClampNeg) &&& (31 : Int32)) = 17 → (bk_L_law_1090 h0 L xs (lp_L_law_23 h0 L xs K n) K l1 l2 l3 l4 M)) ∧ (((xs (l4).toNatClampNeg) &&& (31 : Int32)) = 18 → (bk_L_law_1115 h0 L xs (lp_L_law_23 h0 L xs K n) K l1 l2 l3 l4 M)) ∧ (((xs (l4).toNatClampNeg) &&& (31 : Int32)) = 19 → (bk_L_law_1128 h0 L xs (lp_L_law_23 h0 L xs K n) K l1 l2 l3 l4 M)))))
set_option maxRecDepth 100000 in
set_option maxHeartbeats 4000000 in
theorem zl_L_law_23 {X : Cx} {h0 L : Nat} {xs : Nat → Int32} {K : Int32 → Mm → Prop} (hX : Ok X cL_law RL room_1) (hQ : RqL X h0 K) (hnL : X.2.2.2.2.2.2.2.2.2.2.2.2.2.2 = 8) (hSc : Scr X h0 L xs) : ∀ (n : Nat), n ≤ 8 → ∀ (l1 : Option Nat) (l2 : Option Nat) (l3 : Option Nat) (l4 : Int32)  (M : Mm), lp_L_law_23 h0 L xs K n l1 l2 l3 l4 M → Z X M (47 + (8 - n) * 295) (10280 + (8 - n) * 2288) 23 [(0, va_rf (some h0)), (1, va_rf l1), (2, va_rf l2), (3, va_rf l3), (4, .int l4)] [] := by
  intro n
  induction n with
  | zero =>
    intro _ l1 l2 l3 l4 M h
    exact False.elim h
  | succ n ih =>
    intro hn l1 l2 l3 l4 M h
    obtain ⟨cc0, hc0⟩ : ∃ cc0, cc0 = 47 + (8 - (n + 1)) * 295 := ⟨_, rfl⟩
    obtain ⟨ss0, hs0⟩ : ∃ ss0, ss0 = 10280 + (8 - (n + 1)) * 2288 := ⟨_, rfl⟩
    have hcs : cc0 + 295 ≤ 2407 ∧ ss0 + 2288 ≤ 28584 := by constructor <;> omega
    have hR23 : ∀ l1 l2 l3 l4 M, lp_L_law_23 h0 L xs K n l1 l2 l3 l4 M → Z X M (cc0 + 295) (ss0 + 2288) 23 [(0, va_rf (some h0)), (1, va_rf l1), (2, va_rf l2), (3, va_rf l3), (4, .int l4)] [] := fun l1 l2 l3 l4 M h => by
      have q := ih (by omega) l1 l2 l3 l4 M h
      rw [show 47 + (8 - n) * 295 = cc0 + 295 by omega, show 10280 + (8 - n) * 2288 = ss0 + 2288 by omega] at q
      exact q
    rw [← hc0, ← hs0]
    refine z_iload hX dL_law_23 4 rfl ?_
    refine z_aload_n (r := (some h0)) hX dL_law_25 rfl 0 rfl ?_
    refine z_slen hX hSc dL_law_26 ?_
    refine z_bipush (v := (6 : Int32)) hX dL_law_27 (by decide) ?_
    refine z_isub hX dL_law_29 ?_
    obtain ⟨h1, h2⟩ := h
    refine z_icmp_gt (tgt := 1159) hX dL_law_30 (by decide) (fun hc => ?_) (fun hc => ?_)
    · have h := h1 hc
      refine z_iconst (v := (1 : Int32)) hX dL_law_1159 (by decide) ?_
      refine z_widen 600002 7302232 (by first | omega | (simp only [rm_L_isIdle, rm_L_kept, rm_L_late, rm_L_out, rm_L_promise, rm_L_watermark, rm_X10_build, rm_X10_end, rm_X10_fault, rm_X10_feed, rm_X10_hold, rm_X10_idle, rm_X10_init, rm_X10_letter, rm_X10_mark, rm_X10_part, rm_X10_print, rm_X10_release, rm_X10_row, rm_X10_told, rm_X10_turn, rm_X11_build, rm_X11_end, rm_X11_fault_, rm_X11_feed, rm_X11_hold, rm_X11_idle, rm_X11_init, rm_X11_isIdle, rm_X11_kept, rm_X11_late_, rm_X11_letter, rm_X11_mark, rm_X11_out, rm_X11_part, rm_X11_print, rm_X11_promise, rm_X11_release, rm_X11_row, rm_X11_thrown, rm_X11_told, rm_X11_turn, rm_X11_watermark]; omega)) (by first | omega | (simp only [rm_L_isIdle, rm_L_kept, rm_L_late, rm_L_out, rm_L_promise, rm_L_watermark, rm_X10_build, rm_X10_end, rm_X10_fault, rm_X10_feed, rm_X10_hold, rm_X10_idle, rm_X10_init, rm_X10_letter, rm_X10_mark, rm_X10_part, rm_X10_print, rm_X10_release, rm_X10_row, rm_X10_told, rm_X10_turn, rm_X11_build, rm_X11_end, rm_X11_fault_, rm_X11_feed, rm_X11_hold, rm_X11_idle, rm_X11_init, rm_X11_isIdle, rm_X11_kept, rm_X11_late_, rm_X11_letter, rm_X11_mark, rm_X11_out, rm_X11_part, rm_X11_print, rm_X11_promise, rm_X11_release, rm_X11_row, rm_X11_thrown, rm_X11_told, rm_X11_turn, rm_X11_watermark]; omega)) ?_
      exact z_lwret hX hQ dL_law_1160 h
    · have h := h2 hc
      refine z_aload_n (r := (some h0)) hX dL_law_33 rfl 0 rfl ?_
      refine z_iload hX dL_law_34 4 rfl ?_
      obtain ⟨hc347, h⟩ := h
      refine z_sld hX hSc dL_law_36 hc347 ?_
      refine z_bipush (v := (31 : Int32)) hX dL_law_37 (by decide) ?_
      refine z_iand hX dL_law_39 ?_
      obtain ⟨hD, h1, h2, h3, h4, h5, h6, h7, h8, h9, h10, h11, h12, h13, h14, h15, h16, h17, h18, h19, h20⟩ := h
      by_cases hlo : (((xs (l4).toNatClampNeg) &&& (31 : Int32))).toInt < 0 ∨ 19 < (((xs (l4).toNatClampNeg) &&& (31 : Int32))).toInt
      · have h := hD hlo
        refine z_tswD (tgt := 1153) hX dL_law_40 hlo (by decide) ?_
        refine z_widen (cc0 + 295) (ss0 + 2288) (by first | omega | (simp only [rm_L_isIdle, rm_L_kept, rm_L_late, rm_L_out, rm_L_promise, rm_L_watermark, rm_X10_build, rm_X10_end, rm_X10_fault, rm_X10_feed, rm_X10_hold, rm_X10_idle, rm_X10_init, rm_X10_letter, rm_X10_mark, rm_X10_part, rm_X10_print, rm_X10_release, rm_X10_row, rm_X10_told, rm_X10_turn, rm_X11_build, rm_X11_end, rm_X11_fault_, rm_X11_feed, rm_X11_hold, rm_X11_idle, rm_X11_init, rm_X11_isIdle, rm_X11_kept, rm_X11_late_, rm_X11_letter, rm_X11_mark, rm_X11_out, rm_X11_part, rm_X11_print, rm_X11_promise, rm_X11_release, rm_X11_row, rm_X11_thrown, rm_X11_told, rm_X11_turn, rm_X11_watermark]; omega)) (by first | omega | (simp only [rm_L_isIdle, rm_L_kept, rm_L_late, rm_L_out, rm_L_promise, rm_L_watermark, rm_X10_build, rm_X10_end, rm_X10_fault, rm_X10_feed, rm_X10_hold, rm_X10_idle, rm_X10_init, rm_X10_letter, rm_X10_mark, rm_X10_part, rm_X10_print, rm_X10_release, rm_X10_row, rm_X10_told, rm_X10_turn, rm_X11_build, rm_X11_end, rm_X11_fault_, rm_X11_feed, rm_X11_hold, rm_X11_idle, rm_X11_init, rm_X11_isIdle, rm_X11_kept, rm_X11_late_, rm_X11_letter, rm_X11_mark, rm_X11_out, rm_X11_part, rm_X11_print, rm_X11_promise, rm_X11_release, rm_X11_row, rm_X11_thrown, rm_X11_told, rm_X11_turn, rm_X11_watermark]; omega)) ?_
        exact zb_L_law_1153 hX hQ hnL hSc hcs hR23 h
      · rcases (show (((xs (l4).toNatClampNeg) &&& (31 : Int32))).toInt = 0 ∨ (((xs (l4).toNatClampNeg) &&& (31 : Int32))).toInt = 1 ∨ (((xs (l4).toNatClampNeg) &&& (31 : Int32))).toInt = 2 ∨ (((xs (l4).toNatClampNeg) &&& (31 : Int32))).toInt = 3 ∨ (((xs (l4).toNatClampNeg) &&& (31 : Int32))).toInt = 4 ∨ (((xs (l4).toNatClampNeg) &&& (31 : Int32))).toInt = 5 ∨ (((xs (l4).toNatClampNeg) &&& (31 : Int32))).toInt = 6 ∨ (((xs (l4).toNatClampNeg) &&& (31 : Int32))).toInt = 7 ∨ (((xs (l4).toNatClampNeg) &&& (31 : Int32))).toInt = 8 ∨ (((xs (l4).toNatClampNeg) &&& (31 : Int32))).toInt = 9 ∨ (((xs (l4).toNatClampNeg) &&& (31 : Int32))).toInt = 10 ∨ (((xs (l4).toNatClampNeg) &&& (31 : Int32))).toInt = 11 ∨ (((xs (l4).toNatClampNeg) &&& (31 : Int32))).toInt = 12 ∨ (((xs (l4).toNatClampNeg) &&& (31 : Int32))).toInt = 13 ∨ (((xs (l4).toNatClampNeg) &&& (31 : Int32))).toInt = 14 ∨ (((xs (l4).toNatClampNeg) &&& (31 : Int32))).toInt = 15 ∨ (((xs (l4).toNatClampNeg) &&& (31 : Int32))).toInt = 16 ∨ (((xs (l4).toNatClampNeg) &&& (31 : Int32))).toInt = 17 ∨ (((xs (l4).toNatClampNeg) &&& (31 : Int32))).toInt = 18 ∨ (((xs (l4).toNatClampNeg) &&& (31 : Int32))).toInt = 19 by omega) with hj | hj | hj | hj | hj | hj | hj | hj | hj | hj | hj | hj | hj | hj | hj | hj | hj | hj | hj | hj
        · have hx9 : ((xs (l4).toNatClampNeg) &&& (31 : Int32)) = 0 := Int32.toInt_inj.mp (by rw [hj]; rfl)
          have h := h1 hx9
          refine z_tswI (off := 96) (tgt := 136) hX dL_law_40 (by rw [hx9]; decide) (by rw [hx9]; decide) (by rw [hx9]; rfl) (by decide) ?_
          refine z_widen (cc0 + 0) (ss0 + 0) (by first | omega | (simp only [rm_L_isIdle, rm_L_kept, rm_L_late, rm_L_out, rm_L_promise, rm_L_watermark, rm_X10_build, rm_X10_end, rm_X10_fault, rm_X10_feed, rm_X10_hold, rm_X10_idle, rm_X10_init, rm_X10_letter, rm_X10_mark, rm_X10_part, rm_X10_print, rm_X10_release, rm_X10_row, rm_X10_told, rm_X10_turn, rm_X11_build, rm_X11_end, rm_X11_fault_, rm_X11_feed, rm_X11_hold, rm_X11_idle, rm_X11_init, rm_X11_isIdle, rm_X11_kept, rm_X11_late_, rm_X11_letter, rm_X11_mark, rm_X11_out, rm_X11_part, rm_X11_print, rm_X11_promise, rm_X11_release, rm_X11_row, rm_X11_thrown, rm_X11_told, rm_X11_turn, rm_X11_watermark]; omega)) (by first | omega | (simp only [rm_L_isIdle, rm_L_kept, rm_L_late, rm_L_out, rm_L_promise, rm_L_watermark, rm_X10_build, rm_X10_end, rm_X10_fault, rm_X10_feed, rm_X10_hold, rm_X10_idle, rm_X10_init, rm_X10_letter, rm_X10_mark, rm_X10_part, rm_X10_print, rm_X10_release, rm_X10_row, rm_X10_told, rm_X10_turn, rm_X11_build, rm_X11_end, rm_X11_fault_, rm_X11_feed, rm_X11_hold, rm_X11_idle, rm_X11_init, rm_X11_isIdle, rm_X11_kept, rm_X11_late_, rm_X11_letter, rm_X11_mark, rm_X11_out, rm_X11_part, rm_X11_print, rm_X11_promise, rm_X11_release, rm_X11_row, rm_X11_thrown, rm_X11_told, rm_X11_turn, rm_X11_watermark]; omega)) ?_
          exact zb_L_law_136 hX hQ hnL hSc hcs hR23 h
        · have hx9 : ((xs (l4).toNatClampNeg) &&& (31 : Int32)) = 1 := Int32.toInt_inj.mp (by rw [hj]; rfl)
          have h := h2 hx9
          refine z_tswI (off := 165) (tgt := 205) hX dL_law_40 (by rw [hx9]; decide) (by rw [hx9]; decide) (by rw [hx9]; rfl) (by decide) ?_
          refine z_widen (cc0 + 0) (ss0 + 0) (by first | omega | (simp only [rm_L_isIdle, rm_L_kept, rm_L_late, rm_L_out, rm_L_promise, rm_L_watermark, rm_X10_build, rm_X10_end, rm_X10_fault, rm_X10_feed, rm_X10_hold, rm_X10_idle, rm_X10_init, rm_X10_letter, rm_X10_mark, rm_X10_part, rm_X10_print, rm_X10_release, rm_X10_row, rm_X10_told, rm_X10_turn, rm_X11_build, rm_X11_end, rm_X11_fault_, rm_X11_feed, rm_X11_hold, rm_X11_idle, rm_X11_init, rm_X11_isIdle, rm_X11_kept, rm_X11_late_, rm_X11_letter, rm_X11_mark, rm_X11_out, rm_X11_part, rm_X11_print, rm_X11_promise, rm_X11_release, rm_X11_row, rm_X11_thrown, rm_X11_told, rm_X11_turn, rm_X11_watermark]; omega)) (by first | omega | (simp only [rm_L_isIdle, rm_L_kept, rm_L_late, rm_L_out, rm_L_promise, rm_L_watermark, rm_X10_build, rm_X10_end, rm_X10_fault, rm_X10_feed, rm_X10_hold, rm_X10_idle, rm_X10_init, rm_X10_letter, rm_X10_mark, rm_X10_part, rm_X10_print, rm_X10_release, rm_X10_row, rm_X10_told, rm_X10_turn, rm_X11_build, rm_X11_end, rm_X11_fault_, rm_X11_feed, rm_X11_hold, rm_X11_idle, rm_X11_init, rm_X11_isIdle, rm_X11_kept, rm_X11_late_, rm_X11_letter, rm_X11_mark, rm_X11_out, rm_X11_part, rm_X11_print, rm_X11_promise, rm_X11_release, rm_X11_row, rm_X11_thrown, rm_X11_told, rm_X11_turn, rm_X11_watermark]; omega)) ?_
          exact zb_L_law_205 hX hQ hnL hSc hcs hR23 h
        · have hx9 : ((xs (l4).toNatClampNeg) &&& (31 : Int32)) = 2 := Int32.toInt_inj.mp (by rw [hj]; rfl)
          have h := h3 hx9
          refine z_tswI (off := 178) (tgt := 218) hX dL_law_40 (by rw [hx9]; decide) (by rw [hx9]; decide) (by rw [hx9]; rfl) (by decide) ?_
          refine z_widen (cc0 + 0) (ss0 + 0) (by first | omega | (simp only [rm_L_isIdle, rm_L_kept, rm_L_late, rm_L_out, rm_L_promise, rm_L_watermark, rm_X10_build, rm_X10_end, rm_X10_fault, rm_X10_feed, rm_X10_hold, rm_X10_idle, rm_X10_init, rm_X10_letter, rm_X10_mark, rm_X10_part, rm_X10_print, rm_X10_release, rm_X10_row, rm_X10_told, rm_X10_turn, rm_X11_build, rm_X11_end, rm_X11_fault_, rm_X11_feed, rm_X11_hold, rm_X11_idle, rm_X11_init, rm_X11_isIdle, rm_X11_kept, rm_X11_late_, rm_X11_letter, rm_X11_mark, rm_X11_out, rm_X11_part, rm_X11_print, rm_X11_promise, rm_X11_release, rm_X11_row, rm_X11_thrown, rm_X11_told, rm_X11_turn, rm_X11_watermark]; omega)) (by first | omega | (simp only [rm_L_isIdle, rm_L_kept, rm_L_late, rm_L_out, rm_L_promise, rm_L_watermark, rm_X10_build, rm_X10_end, rm_X10_fault, rm_X10_feed, rm_X10_hold, rm_X10_idle, rm_X10_init, rm_X10_letter, rm_X10_mark, rm_X10_part, rm_X10_print, rm_X10_release, rm_X10_row, rm_X10_told, rm_X10_turn, rm_X11_build, rm_X11_end, rm_X11_fault_, rm_X11_feed, rm_X11_hold, rm_X11_idle, rm_X11_init, rm_X11_isIdle, rm_X11_kept, rm_X11_late_, rm_X11_letter, rm_X11_mark, rm_X11_out, rm_X11_part, rm_X11_print, rm_X11_promise, rm_X11_release, rm_X11_row, rm_X11_thrown, rm_X11_told, rm_X11_turn, rm_X11_watermark]; omega)) ?_
          exact zb_L_law_218 hX hQ hnL hSc hcs hR23 h
        · have hx9 : ((xs (l4).toNatClampNeg) &&& (31 : Int32)) = 3 := Int32.toInt_inj.mp (by rw [hj]; rfl)
          have h := h4 hx9
          refine z_tswI (off := 191) (tgt := 231) hX dL_law_40 (by rw [hx9]; decide) (by rw [hx9]; decide) (by rw [hx9]; rfl) (by decide) ?_
          refine z_widen (cc0 + 0) (ss0 + 0) (by first | omega | (simp only [rm_L_isIdle, rm_L_kept, rm_L_late, rm_L_out, rm_L_promise, rm_L_watermark, rm_X10_build, rm_X10_end, rm_X10_fault, rm_X10_feed, rm_X10_hold, rm_X10_idle, rm_X10_init, rm_X10_letter, rm_X10_mark, rm_X10_part, rm_X10_print, rm_X10_release, rm_X10_row, rm_X10_told, rm_X10_turn, rm_X11_build, rm_X11_end, rm_X11_fault_, rm_X11_feed, rm_X11_hold, rm_X11_idle, rm_X11_init, rm_X11_isIdle, rm_X11_kept, rm_X11_late_, rm_X11_letter, rm_X11_mark, rm_X11_out, rm_X11_part, rm_X11_print, rm_X11_promise, rm_X11_release, rm_X11_row, rm_X11_thrown, rm_X11_told, rm_X11_turn, rm_X11_watermark]; omega)) (by first | omega | (simp only [rm_L_isIdle, rm_L_kept, rm_L_late, rm_L_out, rm_L_promise, rm_L_watermark, rm_X10_build, rm_X10_end, rm_X10_fault, rm_X10_feed, rm_X10_hold, rm_X10_idle, rm_X10_init, rm_X10_letter, rm_X10_mark, rm_X10_part, rm_X10_print, rm_X10_release, rm_X10_row, rm_X10_told, rm_X10_turn, rm_X11_build, rm_X11_end, rm_X11_fault_, rm_X11_feed, rm_X11_hold, rm_X11_idle, rm_X11_init, rm_X11_isIdle, rm_X11_kept, rm_X11_late_, rm_X11_letter, rm_X11_mark, rm_X11_out, rm_X11_part, rm_X11_print, rm_X11_promise, rm_X11_release, rm_X11_row, rm_X11_thrown, rm_X11_told, rm_X11_turn, rm_X11_watermark]; omega)) ?_
          exact zb_L_law_231 hX hQ hnL hSc hcs hR23 h
        · have hx9 : ((xs (l4).toNatClampNeg) &&& (31 : Int32)) = 4 := Int32.toInt_inj.mp (by rw [hj]; rfl)
          have h := h5 hx9
          refine z_tswI (off := 284) (tgt := 324) hX dL_law_40 (by rw [hx9]; decide) (by rw [hx9]; decide) (by rw [hx9]; rfl) (by decide) ?_
          refine z_widen (cc0 + 0) (ss0 + 0) (by first | omega | (simp only [rm_L_isIdle, rm_L_kept, rm_L_late, rm_L_out, rm_L_promise, rm_L_watermark, rm_X10_build, rm_X10_end, rm_X10_fault, rm_X10_feed, rm_X10_hold, rm_X10_idle, rm_X10_init, rm_X10_letter, rm_X10_mark, rm_X10_part, rm_X10_print, rm_X10_release, rm_X10_row, rm_X10_told, rm_X10_turn, rm_X11_build, rm_X11_end, rm_X11_fault_, rm_X11_feed, rm_X11_hold, rm_X11_idle, rm_X11_init, rm_X11_isIdle, rm_X11_kept, rm_X11_late_, rm_X11_letter, rm_X11_mark, rm_X11_out, rm_X11_part, rm_X11_print, rm_X11_promise, rm_X11_release, rm_X11_row, rm_X11_thrown, rm_X11_told, rm_X11_turn, rm_X11_watermark]; omega)) (by first | omega | (simp only [rm_L_isIdle, rm_L_kept, rm_L_late, rm_L_out, rm_L_promise, rm_L_watermark, rm_X10_build, rm_X10_end, rm_X10_fault, rm_X10_feed, rm_X10_hold, rm_X10_idle, rm_X10_init, rm_X10_letter, rm_X10_mark, rm_X10_part, rm_X10_print, rm_X10_release, rm_X10_row, rm_X10_told, rm_X10_turn, rm_X11_build, rm_X11_end, rm_X11_fault_, rm_X11_feed, rm_X11_hold, rm_X11_idle, rm_X11_init, rm_X11_isIdle, rm_X11_kept, rm_X11_late_, rm_X11_letter, rm_X11_mark, rm_X11_out, rm_X11_part, rm_X11_print, rm_X11_promise, rm_X11_release, rm_X11_row, rm_X11_thrown, rm_X11_told, rm_X11_turn, rm_X11_watermark]; omega)) ?_
          exact zb_L_law_324 hX hQ hnL hSc hcs hR23 h
        · have hx9 : ((xs (l4).toNatClampNeg) &&& (31 : Int32)) = 5 := Int32.toInt_inj.mp (by rw [hj]; rfl)
          have h := h6 hx9
          refine z_tswI (off := 365) (tgt := 405) hX dL_law_40 (by rw [hx9]; decide) (by rw [hx9]; decide) (by rw [hx9]; rfl) (by decide) ?_
          refine z_widen (cc0 + 0) (ss0 + 0) (by first | omega | (simp only [rm_L_isIdle, rm_L_kept, rm_L_late, rm_L_out, rm_L_promise, rm_L_watermark, rm_X10_build, rm_X10_end, rm_X10_fault, rm_X10_feed, rm_X10_hold, rm_X10_idle, rm_X10_init, rm_X10_letter, rm_X10_mark, rm_X10_part, rm_X10_print, rm_X10_release, rm_X10_row, rm_X10_told, rm_X10_turn, rm_X11_build, rm_X11_end, rm_X11_fault_, rm_X11_feed, rm_X11_hold, rm_X11_idle, rm_X11_init, rm_X11_isIdle, rm_X11_kept, rm_X11_late_, rm_X11_letter, rm_X11_mark, rm_X11_out, rm_X11_part, rm_X11_print, rm_X11_promise, rm_X11_release, rm_X11_row, rm_X11_thrown, rm_X11_told, rm_X11_turn, rm_X11_watermark]; omega)) (by first | omega | (simp only [rm_L_isIdle, rm_L_kept, rm_L_late, rm_L_out, rm_L_promise, rm_L_watermark, rm_X10_build, rm_X10_end, rm_X10_fault, rm_X10_feed, rm_X10_hold, rm_X10_idle, rm_X10_init, rm_X10_letter, rm_X10_mark, rm_X10_part, rm_X10_print, rm_X10_release, rm_X10_row, rm_X10_told, rm_X10_turn, rm_X11_build, rm_X11_end, rm_X11_fault_, rm_X11_feed, rm_X11_hold, rm_X11_idle, rm_X11_init, rm_X11_isIdle, rm_X11_kept, rm_X11_late_, rm_X11_letter, rm_X11_mark, rm_X11_out, rm_X11_part, rm_X11_print, rm_X11_promise, rm_X11_release, rm_X11_row, rm_X11_thrown, rm_X11_told, rm_X11_turn, rm_X11_watermark]; omega)) ?_
          exact zb_L_law_405 hX hQ hnL hSc hcs hR23 h
        · have hx9 : ((xs (l4).toNatClampNeg) &&& (31 : Int32)) = 6 := Int32.toInt_inj.mp (by rw [hj]; rfl)
          have h := h7 hx9
          refine z_tswI (off := 402) (tgt := 442) hX dL_law_40 (by rw [hx9]; decide) (by rw [hx9]; decide) (by rw [hx9]; rfl) (by decide) ?_
          refine z_widen (cc0 + 0) (ss0 + 0) (by first | omega | (simp only [rm_L_isIdle, rm_L_kept, rm_L_late, rm_L_out, rm_L_promise, rm_L_watermark, rm_X10_build, rm_X10_end, rm_X10_fault, rm_X10_feed, rm_X10_hold, rm_X10_idle, rm_X10_init, rm_X10_letter, rm_X10_mark, rm_X10_part, rm_X10_print, rm_X10_release, rm_X10_row, rm_X10_told, rm_X10_turn, rm_X11_build, rm_X11_end, rm_X11_fault_, rm_X11_feed, rm_X11_hold, rm_X11_idle, rm_X11_init, rm_X11_isIdle, rm_X11_kept, rm_X11_late_, rm_X11_letter, rm_X11_mark, rm_X11_out, rm_X11_part, rm_X11_print, rm_X11_promise, rm_X11_release, rm_X11_row, rm_X11_thrown, rm_X11_told, rm_X11_turn, rm_X11_watermark]; omega)) (by first | omega | (simp only [rm_L_isIdle, rm_L_kept, rm_L_late, rm_L_out, rm_L_promise, rm_L_watermark, rm_X10_build, rm_X10_end, rm_X10_fault, rm_X10_feed, rm_X10_hold, rm_X10_idle, rm_X10_init, rm_X10_letter, rm_X10_mark, rm_X10_part, rm_X10_print, rm_X10_release, rm_X10_row, rm_X10_told, rm_X10_turn, rm_X11_build, rm_X11_end, rm_X11_fault_, rm_X11_feed, rm_X11_hold, rm_X11_idle, rm_X11_init, rm_X11_isIdle, rm_X11_kept, rm_X11_late_, rm_X11_letter, rm_X11_mark, rm_X11_out, rm_X11_part, rm_X11_print, rm_X11_promise, rm_X11_release, rm_X11_row, rm_X11_thrown, rm_X11_told, rm_X11_turn, rm_X11_watermark]; omega)) ?_
          exact zb_L_law_442 hX hQ hnL hSc hcs hR23 h
        · have hx9 : ((xs (l4).toNatClampNeg) &&& (31 : Int32)) = 7 := Int32.toInt_inj.mp (by rw [hj]; rfl)
          have h := h8 hx9
          refine z_tswI (off := 467) (tgt := 507) hX dL_law_40 (by rw [hx9]; decide) (by rw [hx9]; decide) (by rw [hx9]; rfl) (by decide) ?_
          refine z_widen (cc0 + 0) (ss0 + 0) (by first | omega | (simp only [rm_L_isIdle, rm_L_kept, rm_L_late, rm_L_out, rm_L_promise, rm_L_watermark, rm_X10_build, rm_X10_end, rm_X10_fault, rm_X10_feed, rm_X10_hold, rm_X10_idle, rm_X10_init, rm_X10_letter, rm_X10_mark, rm_X10_part, rm_X10_print, rm_X10_release, rm_X10_row, rm_X10_told, rm_X10_turn, rm_X11_build, rm_X11_end, rm_X11_fault_, rm_X11_feed, rm_X11_hold, rm_X11_idle, rm_X11_init, rm_X11_isIdle, rm_X11_kept, rm_X11_late_, rm_X11_letter, rm_X11_mark, rm_X11_out, rm_X11_part, rm_X11_print, rm_X11_promise, rm_X11_release, rm_X11_row, rm_X11_thrown, rm_X11_told, rm_X11_turn, rm_X11_watermark]; omega)) (by first | omega | (simp only [rm_L_isIdle, rm_L_kept, rm_L_late, rm_L_out, rm_L_promise, rm_L_watermark, rm_X10_build, rm_X10_end, rm_X10_fault, rm_X10_feed, rm_X10_hold, rm_X10_idle, rm_X10_init, rm_X10_letter, rm_X10_mark, rm_X10_part, rm_X10_print, rm_X10_release, rm_X10_row, rm_X10_told, rm_X10_turn, rm_X11_build, rm_X11_end, rm_X11_fault_, rm_X11_feed, rm_X11_hold, rm_X11_idle, rm_X11_init, rm_X11_isIdle, rm_X11_kept, rm_X11_late_, rm_X11_letter, rm_X11_mark, rm_X11_out, rm_X11_part, rm_X11_print, rm_X11_promise, rm_X11_release, rm_X11_row, rm_X11_thrown, rm_X11_told, rm_X11_turn, rm_X11_watermark]; omega)) ?_
          exact zb_L_law_507 hX hQ hnL hSc hcs hR23 h
        · have hx9 : ((xs (l4).toNatClampNeg) &&& (31 : Int32)) = 8 := Int32.toInt_inj.mp (by rw [hj]; rfl)
          have h := h9 hx9
          refine z_tswI (off := 492) (tgt := 532) hX dL_law_40 (by rw [hx9]; decide) (by rw [hx9]; decide) (by rw [hx9]; rfl) (by decide) ?_
          refine z_widen (cc0 + 0) (ss0 + 0) (by first | omega | (simp only [rm_L_isIdle, rm_L_kept, rm_L_late, rm_L_out, rm_L_promise, rm_L_watermark, rm_X10_build, rm_X10_end, rm_X10_fault, rm_X10_feed, rm_X10_hold, rm_X10_idle, rm_X10_init, rm_X10_letter, rm_X10_mark, rm_X10_part, rm_X10_print, rm_X10_release, rm_X10_row, rm_X10_told, rm_X10_turn, rm_X11_build, rm_X11_end, rm_X11_fault_, rm_X11_feed, rm_X11_hold, rm_X11_idle, rm_X11_init, rm_X11_isIdle, rm_X11_kept, rm_X11_late_, rm_X11_letter, rm_X11_mark, rm_X11_out, rm_X11_part, rm_X11_print, rm_X11_promise, rm_X11_release, rm_X11_row, rm_X11_thrown, rm_X11_told, rm_X11_turn, rm_X11_watermark]; omega)) (by first | omega | (simp only [rm_L_isIdle, rm_L_kept, rm_L_late, rm_L_out, rm_L_promise, rm_L_watermark, rm_X10_build, rm_X10_end, rm_X10_fault, rm_X10_feed, rm_X10_hold, rm_X10_idle, rm_X10_init, rm_X10_letter, rm_X10_mark, rm_X10_part, rm_X10_print, rm_X10_release, rm_X10_row, rm_X10_told, rm_X10_turn, rm_X11_build, rm_X11_end, rm_X11_fault_, rm_X11_feed, rm_X11_hold, rm_X11_idle, rm_X11_init, rm_X11_isIdle, rm_X11_kept, rm_X11_late_, rm_X11_letter, rm_X11_mark, rm_X11_out, rm_X11_part, rm_X11_print, rm_X11_promise, rm_X11_release, rm_X11_row, rm_X11_thrown, rm_X11_told, rm_X11_turn, rm_X11_watermark]; omega)) ?_
          exact zb_L_law_532 hX hQ hnL hSc hcs hR23 h
        · have hx9 : ((xs (l4).toNatClampNeg) &&& (31 : Int32)) = 9 := Int32.toInt_inj.mp (by rw [hj]; rfl)
          have h := h10 hx9
          refine z_tswI (off := 561) (tgt := 601) hX dL_law_40 (by rw [hx9]; decide) (by rw [hx9]; decide) (by rw [hx9]; rfl) (by decide) ?_
          refine z_widen (cc0 + 0) (ss0 + 0) (by first | omega | (simp only [rm_L_isIdle, rm_L_kept, rm_L_late, rm_L_out, rm_L_promise, rm_L_watermark, rm_X10_build, rm_X10_end, rm_X10_fault, rm_X10_feed, rm_X10_hold, rm_X10_idle, rm_X10_init, rm_X10_letter, rm_X10_mark, rm_X10_part, rm_X10_print, rm_X10_release, rm_X10_row, rm_X10_told, rm_X10_turn, rm_X11_build, rm_X11_end, rm_X11_fault_, rm_X11_feed, rm_X11_hold, rm_X11_idle, rm_X11_init, rm_X11_isIdle, rm_X11_kept, rm_X11_late_, rm_X11_letter, rm_X11_mark, rm_X11_out, rm_X11_part, rm_X11_print, rm_X11_promise, rm_X11_release, rm_X11_row, rm_X11_thrown, rm_X11_told, rm_X11_turn, rm_X11_watermark]; omega)) (by first | omega | (simp only [rm_L_isIdle, rm_L_kept, rm_L_late, rm_L_out, rm_L_promise, rm_L_watermark, rm_X10_build, rm_X10_end, rm_X10_fault, rm_X10_feed, rm_X10_hold, rm_X10_idle, rm_X10_init, rm_X10_letter, rm_X10_mark, rm_X10_part, rm_X10_print, rm_X10_release, rm_X10_row, rm_X10_told, rm_X10_turn, rm_X11_build, rm_X11_end, rm_X11_fault_, rm_X11_feed, rm_X11_hold, rm_X11_idle, rm_X11_init, rm_X11_isIdle, rm_X11_kept, rm_X11_late_, rm_X11_letter, rm_X11_mark, rm_X11_out, rm_X11_part, rm_X11_print, rm_X11_promise, rm_X11_release, rm_X11_row, rm_X11_thrown, rm_X11_told, rm_X11_turn, rm_X11_watermark]; omega)) ?_
          exact zb_L_law_601 hX hQ hnL hSc hcs hR23 h
        · have hx9 : ((xs (l4).toNatClampNeg) &&& (31 : Int32)) = 10 := Int32.toInt_inj.mp (by rw [hj]; rfl)
          have h := h11 hx9
          refine z_tswI (off := 626) (tgt := 666) hX dL_law_40 (by rw [hx9]; decide) (by rw [hx9]; decide) (by rw [hx9]; rfl) (by decide) ?_
          refine z_widen (cc0 + 0) (ss0 + 0) (by first | omega | (simp only [rm_L_isIdle, rm_L_kept, rm_L_late, rm_L_out, rm_L_promise, rm_L_watermark, rm_X10_build, rm_X10_end, rm_X10_fault, rm_X10_feed, rm_X10_hold, rm_X10_idle, rm_X10_init, rm_X10_letter, rm_X10_mark, rm_X10_part, rm_X10_print, rm_X10_release, rm_X10_row, rm_X10_told, rm_X10_turn, rm_X11_build, rm_X11_end, rm_X11_fault_, rm_X11_feed, rm_X11_hold, rm_X11_idle, rm_X11_init, rm_X11_isIdle, rm_X11_kept, rm_X11_late_, rm_X11_letter, rm_X11_mark, rm_X11_out, rm_X11_part, rm_X11_print, rm_X11_promise, rm_X11_release, rm_X11_row, rm_X11_thrown, rm_X11_told, rm_X11_turn, rm_X11_watermark]; omega)) (by first | omega | (simp only [rm_L_isIdle, rm_L_kept, rm_L_late, rm_L_out, rm_L_promise, rm_L_watermark, rm_X10_build, rm_X10_end, rm_X10_fault, rm_X10_feed, rm_X10_hold, rm_X10_idle, rm_X10_init, rm_X10_letter, rm_X10_mark, rm_X10_part, rm_X10_print, rm_X10_release, rm_X10_row, rm_X10_told, rm_X10_turn, rm_X11_build, rm_X11_end, rm_X11_fault_, rm_X11_feed, rm_X11_hold, rm_X11_idle, rm_X11_init, rm_X11_isIdle, rm_X11_kept, rm_X11_late_, rm_X11_letter, rm_X11_mark, rm_X11_out, rm_X11_part, rm_X11_print, rm_X11_promise, rm_X11_release, rm_X11_row, rm_X11_thrown, rm_X11_told, rm_X11_turn, rm_X11_watermark]; omega)) ?_
          exact zb_L_law_666 hX hQ hnL hSc hcs hR23 h
        · have hx9 : ((xs (l4).toNatClampNeg) &&& (31 : Int32)) = 11 := Int32.toInt_inj.mp (by rw [hj]; rfl)
          have h := h12 hx9
          refine z_tswI (off := 681) (tgt := 721) hX dL_law_40 (by rw [hx9]; decide) (by rw [hx9]; decide) (by rw [hx9]; rfl) (by decide) ?_
          refine z_widen (cc0 + 0) (ss0 + 0) (by first | omega | (simp only [rm_L_isIdle, rm_L_kept, rm_L_late, rm_L_out, rm_L_promise, rm_L_watermark, rm_X10_build, rm_X10_end, rm_X10_fault, rm_X10_feed, rm_X10_hold, rm_X10_idle, rm_X10_init, rm_X10_letter, rm_X10_mark, rm_X10_part, rm_X10_print, rm_X10_release, rm_X10_row, rm_X10_told, rm_X10_turn, rm_X11_build, rm_X11_end, rm_X11_fault_, rm_X11_feed, rm_X11_hold, rm_X11_idle, rm_X11_init, rm_X11_isIdle, rm_X11_kept, rm_X11_late_, rm_X11_letter, rm_X11_mark, rm_X11_out, rm_X11_part, rm_X11_print, rm_X11_promise, rm_X11_release, rm_X11_row, rm_X11_thrown, rm_X11_told, rm_X11_turn, rm_X11_watermark]; omega)) (by first | omega | (simp only [rm_L_isIdle, rm_L_kept, rm_L_late, rm_L_out, rm_L_promise, rm_L_watermark, rm_X10_build, rm_X10_end, rm_X10_fault, rm_X10_feed, rm_X10_hold, rm_X10_idle, rm_X10_init, rm_X10_letter, rm_X10_mark, rm_X10_part, rm_X10_print, rm_X10_release, rm_X10_row, rm_X10_told, rm_X10_turn, rm_X11_build, rm_X11_end, rm_X11_fault_, rm_X11_feed, rm_X11_hold, rm_X11_idle, rm_X11_init, rm_X11_isIdle, rm_X11_kept, rm_X11_late_, rm_X11_letter, rm_X11_mark, rm_X11_out, rm_X11_part, rm_X11_print, rm_X11_promise, rm_X11_release, rm_X11_row, rm_X11_thrown, rm_X11_told, rm_X11_turn, rm_X11_watermark]; omega)) ?_
          exact zb_L_law_721 hX hQ hnL hSc hcs hR23 h
        · have hx9 : ((xs (l4).toNatClampNeg) &&& (31 : Int32)) = 12 := Int32.toInt_inj.mp (by rw [hj]; rfl)
          have h := h13 hx9
          refine z_tswI (off := 744) (tgt := 784) hX dL_law_40 (by rw [hx9]; decide) (by rw [hx9]; decide) (by rw [hx9]; rfl) (by decide) ?_
          refine z_widen (cc0 + 0) (ss0 + 0) (by first | omega | (simp only [rm_L_isIdle, rm_L_kept, rm_L_late, rm_L_out, rm_L_promise, rm_L_watermark, rm_X10_build, rm_X10_end, rm_X10_fault, rm_X10_feed, rm_X10_hold, rm_X10_idle, rm_X10_init, rm_X10_letter, rm_X10_mark, rm_X10_part, rm_X10_print, rm_X10_release, rm_X10_row, rm_X10_told, rm_X10_turn, rm_X11_build, rm_X11_end, rm_X11_fault_, rm_X11_feed, rm_X11_hold, rm_X11_idle, rm_X11_init, rm_X11_isIdle, rm_X11_kept, rm_X11_late_, rm_X11_letter, rm_X11_mark, rm_X11_out, rm_X11_part, rm_X11_print, rm_X11_promise, rm_X11_release, rm_X11_row, rm_X11_thrown, rm_X11_told, rm_X11_turn, rm_X11_watermark]; omega)) (by first | omega | (simp only [rm_L_isIdle, rm_L_kept, rm_L_late, rm_L_out, rm_L_promise, rm_L_watermark, rm_X10_build, rm_X10_end, rm_X10_fault, rm_X10_feed, rm_X10_hold, rm_X10_idle, rm_X10_init, rm_X10_letter, rm_X10_mark, rm_X10_part, rm_X10_print, rm_X10_release, rm_X10_row, rm_X10_told, rm_X10_turn, rm_X11_build, rm_X11_end, rm_X11_fault_, rm_X11_feed, rm_X11_hold, rm_X11_idle, rm_X11_init, rm_X11_isIdle, rm_X11_kept, rm_X11_late_, rm_X11_letter, rm_X11_mark, rm_X11_out, rm_X11_part, rm_X11_print, rm_X11_promise, rm_X11_release, rm_X11_row, rm_X11_thrown, rm_X11_told, rm_X11_turn, rm_X11_watermark]; omega)) ?_
          exact zb_L_law_784 hX hQ hnL hSc hcs hR23 h
        · have hx9 : ((xs (l4).toNatClampNeg) &&& (31 : Int32)) = 13 := Int32.toInt_inj.mp (by rw [hj]; rfl)
          have h := h14 hx9
          refine z_tswI (off := 811) (tgt := 851) hX dL_law_40 (by rw [hx9]; decide) (by rw [hx9]; decide) (by rw [hx9]; rfl) (by decide) ?_
          refine z_widen (cc0 + 0) (ss0 + 0) (by first | omega | (simp only [rm_L_isIdle, rm_L_kept, rm_L_late, rm_L_out, rm_L_promise, rm_L_watermark, rm_X10_build, rm_X10_end, rm_X10_fault, rm_X10_feed, rm_X10_hold, rm_X10_idle, rm_X10_init, rm_X10_letter, rm_X10_mark, rm_X10_part, rm_X10_print, rm_X10_release, rm_X10_row, rm_X10_told, rm_X10_turn, rm_X11_build, rm_X11_end, rm_X11_fault_, rm_X11_feed, rm_X11_hold, rm_X11_idle, rm_X11_init, rm_X11_isIdle, rm_X11_kept, rm_X11_late_, rm_X11_letter, rm_X11_mark, rm_X11_out, rm_X11_part, rm_X11_print, rm_X11_promise, rm_X11_release, rm_X11_row, rm_X11_thrown, rm_X11_told, rm_X11_turn, rm_X11_watermark]; omega)) (by first | omega | (simp only [rm_L_isIdle, rm_L_kept, rm_L_late, rm_L_out, rm_L_promise, rm_L_watermark, rm_X10_build, rm_X10_end, rm_X10_fault, rm_X10_feed, rm_X10_hold, rm_X10_idle, rm_X10_init, rm_X10_letter, rm_X10_mark, rm_X10_part, rm_X10_print, rm_X10_release, rm_X10_row, rm_X10_told, rm_X10_turn, rm_X11_build, rm_X11_end, rm_X11_fault_, rm_X11_feed, rm_X11_hold, rm_X11_idle, rm_X11_init, rm_X11_isIdle, rm_X11_kept, rm_X11_late_, rm_X11_letter, rm_X11_mark, rm_X11_out, rm_X11_part, rm_X11_print, rm_X11_promise, rm_X11_release, rm_X11_row, rm_X11_thrown, rm_X11_told, rm_X11_turn, rm_X11_watermark]; omega)) ?_
          exact zb_L_law_851 hX hQ hnL hSc hcs hR23 h
        · have hx9 : ((xs (l4).toNatClampNeg) &&& (31 : Int32)) = 14 := Int32.toInt_inj.mp (by rw [hj]; rfl)
          have h := h15 hx9
          refine z_tswI (off := 848) (tgt := 888) hX dL_law_40 (by rw [hx9]; decide) (by rw [hx9]; decide) (by rw [hx9]; rfl) (by decide) ?_
          refine z_widen (cc0 + 0) (ss0 + 0) (by first | omega | (simp only [rm_L_isIdle, rm_L_kept, rm_L_late, rm_L_out, rm_L_promise, rm_L_watermark, rm_X10_build, rm_X10_end, rm_X10_fault, rm_X10_feed, rm_X10_hold, rm_X10_idle, rm_X10_init, rm_X10_letter, rm_X10_mark, rm_X10_part, rm_X10_print, rm_X10_release, rm_X10_row, rm_X10_told, rm_X10_turn, rm_X11_build, rm_X11_end, rm_X11_fault_, rm_X11_feed, rm_X11_hold, rm_X11_idle, rm_X11_init, rm_X11_isIdle, rm_X11_kept, rm_X11_late_, rm_X11_letter, rm_X11_mark, rm_X11_out, rm_X11_part, rm_X11_print, rm_X11_promise, rm_X11_release, rm_X11_row, rm_X11_thrown, rm_X11_told, rm_X11_turn, rm_X11_watermark]; omega)) (by first | omega | (simp only [rm_L_isIdle, rm_L_kept, rm_L_late, rm_L_out, rm_L_promise, rm_L_watermark, rm_X10_build, rm_X10_end, rm_X10_fault, rm_X10_feed, rm_X10_hold, rm_X10_idle, rm_X10_init, rm_X10_letter, rm_X10_mark, rm_X10_part, rm_X10_print, rm_X10_release, rm_X10_row, rm_X10_told, rm_X10_turn, rm_X11_build, rm_X11_end, rm_X11_fault_, rm_X11_feed, rm_X11_hold, rm_X11_idle, rm_X11_init, rm_X11_isIdle, rm_X11_kept, rm_X11_late_, rm_X11_letter, rm_X11_mark, rm_X11_out, rm_X11_part, rm_X11_print, rm_X11_promise, rm_X11_release, rm_X11_row, rm_X11_thrown, rm_X11_told, rm_X11_turn, rm_X11_watermark]; omega)) ?_
          exact zb_L_law_888 hX hQ hnL hSc hcs hR23 h
        · have hx9 : ((xs (l4).toNatClampNeg) &&& (31 : Int32)) = 15 := Int32.toInt_inj.mp (by rw [hj]; rfl)
          have h := h16 hx9
          refine z_tswI (off := 916) (tgt := 956) hX dL_law_40 (by rw [hx9]; decide) (by rw [hx9]; decide) (by rw [hx9]; rfl) (by decide) ?_
          refine z_widen (cc0 + 0) (ss0 + 0) (by first | omega | (simp only [rm_L_isIdle, rm_L_kept, rm_L_late, rm_L_out, rm_L_promise, rm_L_watermark, rm_X10_build, rm_X10_end, rm_X10_fault, rm_X10_feed, rm_X10_hold, rm_X10_idle, rm_X10_init, rm_X10_letter, rm_X10_mark, rm_X10_part, rm_X10_print, rm_X10_release, rm_X10_row, rm_X10_told, rm_X10_turn, rm_X11_build, rm_X11_end, rm_X11_fault_, rm_X11_feed, rm_X11_hold, rm_X11_idle, rm_X11_init, rm_X11_isIdle, rm_X11_kept, rm_X11_late_, rm_X11_letter, rm_X11_mark, rm_X11_out, rm_X11_part, rm_X11_print, rm_X11_promise, rm_X11_release, rm_X11_row, rm_X11_thrown, rm_X11_told, rm_X11_turn, rm_X11_watermark]; omega)) (by first | omega | (simp only [rm_L_isIdle, rm_L_kept, rm_L_late, rm_L_out, rm_L_promise, rm_L_watermark, rm_X10_build, rm_X10_end, rm_X10_fault, rm_X10_feed, rm_X10_hold, rm_X10_idle, rm_X10_init, rm_X10_letter, rm_X10_mark, rm_X10_part, rm_X10_print, rm_X10_release, rm_X10_row, rm_X10_told, rm_X10_turn, rm_X11_build, rm_X11_end, rm_X11_fault_, rm_X11_feed, rm_X11_hold, rm_X11_idle, rm_X11_init, rm_X11_isIdle, rm_X11_kept, rm_X11_late_, rm_X11_letter, rm_X11_mark, rm_X11_out, rm_X11_part, rm_X11_print, rm_X11_promise, rm_X11_release, rm_X11_row, rm_X11_thrown, rm_X11_told, rm_X11_turn, rm_X11_watermark]; omega)) ?_
          exact zb_L_law_956 hX hQ hnL hSc hcs hR23 h
        · have hx9 : ((xs (l4).toNatClampNeg) &&& (31 : Int32)) = 16 := Int32.toInt_inj.mp (by rw [hj]; rfl)
          have h := h17 hx9
          refine z_tswI (off := 983) (tgt := 1023) hX dL_law_40 (by rw [hx9]; decide) (by rw [hx9]; decide) (by rw [hx9]; rfl) (by decide) ?_
          refine z_widen (cc0 + 0) (ss0 + 0) (by first | omega | (simp only [rm_L_isIdle, rm_L_kept, rm_L_late, rm_L_out, rm_L_promise, rm_L_watermark, rm_X10_build, rm_X10_end, rm_X10_fault, rm_X10_feed, rm_X10_hold, rm_X10_idle, rm_X10_init, rm_X10_letter, rm_X10_mark, rm_X10_part, rm_X10_print, rm_X10_release, rm_X10_row, rm_X10_told, rm_X10_turn, rm_X11_build, rm_X11_end, rm_X11_fault_, rm_X11_feed, rm_X11_hold, rm_X11_idle, rm_X11_init, rm_X11_isIdle, rm_X11_kept, rm_X11_late_, rm_X11_letter, rm_X11_mark, rm_X11_out, rm_X11_part, rm_X11_print, rm_X11_promise, rm_X11_release, rm_X11_row, rm_X11_thrown, rm_X11_told, rm_X11_turn, rm_X11_watermark]; omega)) (by first | omega | (simp only [rm_L_isIdle, rm_L_kept, rm_L_late, rm_L_out, rm_L_promise, rm_L_watermark, rm_X10_build, rm_X10_end, rm_X10_fault, rm_X10_feed, rm_X10_hold, rm_X10_idle, rm_X10_init, rm_X10_letter, rm_X10_mark, rm_X10_part, rm_X10_print, rm_X10_release, rm_X10_row, rm_X10_told, rm_X10_turn, rm_X11_build, rm_X11_end, rm_X11_fault_, rm_X11_feed, rm_X11_hold, rm_X11_idle, rm_X11_init, rm_X11_isIdle, rm_X11_kept, rm_X11_late_, rm_X11_letter, rm_X11_mark, rm_X11_out, rm_X11_part, rm_X11_print, rm_X11_promise, rm_X11_release, rm_X11_row, rm_X11_thrown, rm_X11_told, rm_X11_turn, rm_X11_watermark]; omega)) ?_
          exact zb_L_law_1023 hX hQ hnL hSc hcs hR23 h
        · have hx9 : ((xs (l4).toNatClampNeg) &&& (31 : Int32)) = 17 := Int32.toInt_inj.mp (by rw [hj]; rfl)
          have h := h18 hx9
          refine z_tswI (off := 1050) (tgt := 1090) hX dL_law_40 (by rw [hx9]; decide) (by rw [hx9]; decide) (by rw [hx9]; rfl) (by decide) ?_
          refine z_widen (cc0 + 0) (ss0 + 0) (by first | omega | (simp only [rm_L_isIdle, rm_L_kept, rm_L_late, rm_L_out, rm_L_promise, rm_L_watermark, rm_X10_build, rm_X10_end, rm_X10_fault, rm_X10_feed, rm_X10_hold, rm_X10_idle, rm_X10_init, rm_X10_letter, rm_X10_mark, rm_X10_part, rm_X10_print, rm_X10_release, rm_X10_row, rm_X10_told, rm_X10_turn, rm_X11_build, rm_X11_end, rm_X11_fault_, rm_X11_feed, rm_X11_hold, rm_X11_idle, rm_X11_init, rm_X11_isIdle, rm_X11_kept, rm_X11_late_, rm_X11_letter, rm_X11_mark, rm_X11_out, rm_X11_part, rm_X11_print, rm_X11_promise, rm_X11_release, rm_X11_row, rm_X11_thrown, rm_X11_told, rm_X11_turn, rm_X11_watermark]; omega)) (by first | omega | (simp only [rm_L_isIdle, rm_L_kept, rm_L_late, rm_L_out, rm_L_promise, rm_L_watermark, rm_X10_build, rm_X10_end, rm_X10_fault, rm_X10_feed, rm_X10_hold, rm_X10_idle, rm_X10_init, rm_X10_letter, rm_X10_mark, rm_X10_part, rm_X10_print, rm_X10_release, rm_X10_row, rm_X10_told, rm_X10_turn, rm_X11_build, rm_X11_end, rm_X11_fault_, rm_X11_feed, rm_X11_hold, rm_X11_idle, rm_X11_init, rm_X11_isIdle, rm_X11_kept, rm_X11_late_, rm_X11_letter, rm_X11_mark, rm_X11_out, rm_X11_part, rm_X11_print, rm_X11_promise, rm_X11_release, rm_X11_row, rm_X11_thrown, rm_X11_told, rm_X11_turn, rm_X11_watermark]; omega)) ?_
          exact zb_L_law_1090 hX hQ hnL hSc hcs hR23 h
        · have hx9 : ((xs (l4).toNatClampNeg) &&& (31 : Int32)) = 18 := Int32.toInt_inj.mp (by rw [hj]; rfl)
          have h := h19 hx9
          refine z_tswI (off := 1075) (tgt := 1115) hX dL_law_40 (by rw [hx9]; decide) (by rw [hx9]; decide) (by rw [hx9]; rfl) (by decide) ?_
          refine z_widen (cc0 + 0) (ss0 + 0) (by first | omega | (simp only [rm_L_isIdle, rm_L_kept, rm_L_late, rm_L_out, rm_L_promise, rm_L_watermark, rm_X10_build, rm_X10_end, rm_X10_fault, rm_X10_feed, rm_X10_hold, rm_X10_idle, rm_X10_init, rm_X10_letter, rm_X10_mark, rm_X10_part, rm_X10_print, rm_X10_release, rm_X10_row, rm_X10_told, rm_X10_turn, rm_X11_build, rm_X11_end, rm_X11_fault_, rm_X11_feed, rm_X11_hold, rm_X11_idle, rm_X11_init, rm_X11_isIdle, rm_X11_kept, rm_X11_late_, rm_X11_letter, rm_X11_mark, rm_X11_out, rm_X11_part, rm_X11_print, rm_X11_promise, rm_X11_release, rm_X11_row, rm_X11_thrown, rm_X11_told, rm_X11_turn, rm_X11_watermark]; omega)) (by first | omega | (simp only [rm_L_isIdle, rm_L_kept, rm_L_late, rm_L_out, rm_L_promise, rm_L_watermark, rm_X10_build, rm_X10_end, rm_X10_fault, rm_X10_feed, rm_X10_hold, rm_X10_idle, rm_X10_init, rm_X10_letter, rm_X10_mark, rm_X10_part, rm_X10_print, rm_X10_release, rm_X10_row, rm_X10_told, rm_X10_turn, rm_X11_build, rm_X11_end, rm_X11_fault_, rm_X11_feed, rm_X11_hold, rm_X11_idle, rm_X11_init, rm_X11_isIdle, rm_X11_kept, rm_X11_late_, rm_X11_letter, rm_X11_mark, rm_X11_out, rm_X11_part, rm_X11_print, rm_X11_promise, rm_X11_release, rm_X11_row, rm_X11_thrown, rm_X11_told, rm_X11_turn, rm_X11_watermark]; omega)) ?_
          exact zb_L_law_1115 hX hQ hnL hSc hcs hR23 h
        · have hx9 : ((xs (l4).toNatClampNeg) &&& (31 : Int32)) = 19 := Int32.toInt_inj.mp (by rw [hj]; rfl)
          have h := h20 hx9
          refine z_tswI (off := 1088) (tgt := 1128) hX dL_law_40 (by rw [hx9]; decide) (by rw [hx9]; decide) (by rw [hx9]; rfl) (by decide) ?_
          refine z_widen (cc0 + 0) (ss0 + 0) (by first | omega | (simp only [rm_L_isIdle, rm_L_kept, rm_L_late, rm_L_out, rm_L_promise, rm_L_watermark, rm_X10_build, rm_X10_end, rm_X10_fault, rm_X10_feed, rm_X10_hold, rm_X10_idle, rm_X10_init, rm_X10_letter, rm_X10_mark, rm_X10_part, rm_X10_print, rm_X10_release, rm_X10_row, rm_X10_told, rm_X10_turn, rm_X11_build, rm_X11_end, rm_X11_fault_, rm_X11_feed, rm_X11_hold, rm_X11_idle, rm_X11_init, rm_X11_isIdle, rm_X11_kept, rm_X11_late_, rm_X11_letter, rm_X11_mark, rm_X11_out, rm_X11_part, rm_X11_print, rm_X11_promise, rm_X11_release, rm_X11_row, rm_X11_thrown, rm_X11_told, rm_X11_turn, rm_X11_watermark]; omega)) (by first | omega | (simp only [rm_L_isIdle, rm_L_kept, rm_L_late, rm_L_out, rm_L_promise, rm_L_watermark, rm_X10_build, rm_X10_end, rm_X10_fault, rm_X10_feed, rm_X10_hold, rm_X10_idle, rm_X10_init, rm_X10_letter, rm_X10_mark, rm_X10_part, rm_X10_print, rm_X10_release, rm_X10_row, rm_X10_told, rm_X10_turn, rm_X11_build, rm_X11_end, rm_X11_fault_, rm_X11_feed, rm_X11_hold, rm_X11_idle, rm_X11_init, rm_X11_isIdle, rm_X11_kept, rm_X11_late_, rm_X11_letter, rm_X11_mark, rm_X11_out, rm_X11_part, rm_X11_print, rm_X11_promise, rm_X11_release, rm_X11_row, rm_X11_thrown, rm_X11_told, rm_X11_turn, rm_X11_watermark]; omega)) ?_
          exact zb_L_law_1128 hX hQ hnL hSc hcs hR23 h
def wp_L_law (M : Mm) (h0 L : Nat) (xs : Nat → Int32) (K : Int32 → Mm → Prop) : Prop := (∀ q348, mK M q348 = 0 → (wp_X10_init (nw M q348 11) q348 (fun M352 => (∀ q354, mK M352 q354 = 0 → (wp_X11_init (nw M352 q354 12) q354 (fun M358 => (∀ q360, mK M358 q360 = 0 → (lp_L_law_23 h0 L xs K 8 (some q348) (some q354) (some q360) (0 : Int32) (na M358 q360 426 1)))))))))
set_option maxRecDepth 100000 in
set_option maxHeartbeats 4000000 in
theorem zlaw_start {X : Cx} {h0 L : Nat} {xs : Nat → Int32} {K : Int32 → Mm → Prop} (hX : Ok X cL_law RL room_1) (hQ : RqL X h0 K) (hnL : X.2.2.2.2.2.2.2.2.2.2.2.2.2.2 = 8) (hSc : Scr X h0 L xs) {M : Mm} (h : wp_L_law M h0 L xs K) : Z X M 0 0 0 [(0, va_rf (some h0))] [] := by
  unfold wp_L_law at h
  refine nq_RL_8 hX dL_law_0 (by decide) (by decide) (fun q348 hq349 => ?_)
  have h := h q348 hq349
  refine z_dup hX dL_law_3 (cat_rf _) ?_
  refine z_callIV (As := []) (rest := [va_rf (some q348)]) hX (ct_X10_init h) mw_RL_35 rfl (by rfl) (by simp only [RoomC, room_1, rm_L_isIdle, rm_L_kept, rm_L_late, rm_L_out, rm_L_promise, rm_L_watermark, rm_X10_build, rm_X10_end, rm_X10_fault, rm_X10_feed, rm_X10_hold, rm_X10_idle, rm_X10_init, rm_X10_letter, rm_X10_mark, rm_X10_part, rm_X10_print, rm_X10_release, rm_X10_row, rm_X10_told, rm_X10_turn, rm_X11_build, rm_X11_end, rm_X11_fault_, rm_X11_feed, rm_X11_hold, rm_X11_idle, rm_X11_init, rm_X11_isIdle, rm_X11_kept, rm_X11_late_, rm_X11_letter, rm_X11_mark, rm_X11_out, rm_X11_part, rm_X11_print, rm_X11_promise, rm_X11_release, rm_X11_row, rm_X11_thrown, rm_X11_told, rm_X11_turn, rm_X11_watermark]; omega) (by simp only [List.map_cons, List.map_nil, List.sum_cons, List.sum_nil, cat_rf, cat_i, cat_j]; decide) dL_law_4 (fun M352 h => ?_)
  refine z_astore_n (r := (some q348)) hX [(1, va_rf (some q348)), (0, va_rf (some h0))] dL_law_7 rfl (by rw [hnL]; decide) rfl ?_
  refine nq_RL_36 hX dL_law_8 (by decide) (by decide) (fun q354 hq355 => ?_)
  have h := h q354 hq355
  refine z_dup hX dL_law_11 (cat_rf _) ?_
  refine z_callIV (As := []) (rest := [va_rf (some q354)]) hX (ct_X11_init h) mw_RL_38 rfl (by rfl) (by simp only [RoomC, room_1, rm_L_isIdle, rm_L_kept, rm_L_late, rm_L_out, rm_L_promise, rm_L_watermark, rm_X10_build, rm_X10_end, rm_X10_fault, rm_X10_feed, rm_X10_hold, rm_X10_idle, rm_X10_init, rm_X10_letter, rm_X10_mark, rm_X10_part, rm_X10_print, rm_X10_release, rm_X10_row, rm_X10_told, rm_X10_turn, rm_X11_build, rm_X11_end, rm_X11_fault_, rm_X11_feed, rm_X11_hold, rm_X11_idle, rm_X11_init, rm_X11_isIdle, rm_X11_kept, rm_X11_late_, rm_X11_letter, rm_X11_mark, rm_X11_out, rm_X11_part, rm_X11_print, rm_X11_promise, rm_X11_release, rm_X11_row, rm_X11_thrown, rm_X11_told, rm_X11_turn, rm_X11_watermark]; omega) (by simp only [List.map_cons, List.map_nil, List.sum_cons, List.sum_nil, cat_rf, cat_i, cat_j]; decide) dL_law_12 (fun M358 h => ?_)
  refine z_astore_n (r := (some q354)) hX [(2, va_rf (some q354)), (1, va_rf (some q348)), (0, va_rf (some h0))] dL_law_15 rfl (by rw [hnL]; decide) rfl ?_
  refine z_iconst (v := (1 : Int32)) hX dL_law_16 (by decide) ?_
  refine y_newa_long (n := 1) hX 426 (by decide) (by decide) (by decide) (by decide) (by decide) dL_law_17 (by decide) (by decide) (fun q360 hq361 => ?_)
  have h := h q360 hq361
  refine z_astore_n (r := (some q360)) hX [(3, va_rf (some q360)), (2, va_rf (some q354)), (1, va_rf (some q348)), (0, va_rf (some h0))] dL_law_19 rfl (by rw [hnL]; decide) rfl ?_
  refine z_iconst (v := (0 : Int32)) hX dL_law_20 (by decide) ?_
  refine z_istore hX [(4, .int (0 : Int32)), (3, va_rf (some q360)), (2, va_rf (some q354)), (1, va_rf (some q348)), (0, va_rf (some h0))] dL_law_21 (by rw [hnL]; decide) rfl ?_
  refine z_loc [4, 3, 2, 1, 0] rfl ?_
  refine z_widen 47 10280 (by first | omega | (simp only [rm_L_isIdle, rm_L_kept, rm_L_late, rm_L_out, rm_L_promise, rm_L_watermark, rm_X10_build, rm_X10_end, rm_X10_fault, rm_X10_feed, rm_X10_hold, rm_X10_idle, rm_X10_init, rm_X10_letter, rm_X10_mark, rm_X10_part, rm_X10_print, rm_X10_release, rm_X10_row, rm_X10_told, rm_X10_turn, rm_X11_build, rm_X11_end, rm_X11_fault_, rm_X11_feed, rm_X11_hold, rm_X11_idle, rm_X11_init, rm_X11_isIdle, rm_X11_kept, rm_X11_late_, rm_X11_letter, rm_X11_mark, rm_X11_out, rm_X11_part, rm_X11_print, rm_X11_promise, rm_X11_release, rm_X11_row, rm_X11_thrown, rm_X11_told, rm_X11_turn, rm_X11_watermark]; omega)) (by first | omega | (simp only [rm_L_isIdle, rm_L_kept, rm_L_late, rm_L_out, rm_L_promise, rm_L_watermark, rm_X10_build, rm_X10_end, rm_X10_fault, rm_X10_feed, rm_X10_hold, rm_X10_idle, rm_X10_init, rm_X10_letter, rm_X10_mark, rm_X10_part, rm_X10_print, rm_X10_release, rm_X10_row, rm_X10_told, rm_X10_turn, rm_X11_build, rm_X11_end, rm_X11_fault_, rm_X11_feed, rm_X11_hold, rm_X11_idle, rm_X11_init, rm_X11_isIdle, rm_X11_kept, rm_X11_late_, rm_X11_letter, rm_X11_mark, rm_X11_out, rm_X11_part, rm_X11_print, rm_X11_promise, rm_X11_release, rm_X11_row, rm_X11_thrown, rm_X11_told, rm_X11_turn, rm_X11_watermark]; omega)) ?_
  exact zl_L_law_23 hX hQ hnL hSc 8 (by decide) _ _ _ _ _ h
