set_option maxRecDepth 100000 in
theorem lk_13 : Cond.classLink RL 13 "java/lang/IllegalStateException" ∈ wjU := wjU_i 922 rfl rfl
set_option maxRecDepth 100000 in
theorem lk_15 : Cond.classLink RL 15 "java/lang/IndexOutOfBoundsException" ∈ wjU := wjU_i 923 rfl rfl
def rm_L_watermark : Room := { frames := 8, cells := 1, slots := 6, locals := 143 }
def wp_L_watermark (M : Mm) (p1 : Option Nat) (p2 : Int32) (p3 : Option Nat) (K : Int32 → Mm → Prop) : Prop := ∃ a3, p1 = some a3 ∧ mK M a3 = 11 ∧ (wp_X10_watermark M (fun E M10x => (E = "java/lang/IllegalStateException" ∧ (K (1 : Int32) M10x)) ∨ (E = "java/lang/IndexOutOfBoundsException" ∧ (K (2 : Int32) M10x))) a3 p2 (fun r1 M2 => ∃ a7, p3 = some a7 ∧ isA M2 a7 2 ∧ vp_in (0 : Int32) (aN M2 a7) ∧ (K (0 : Int32) (tJ M2 a7 ((0 : Int32)).toNatClampNeg r1))))
set_option maxRecDepth 100000 in
set_option maxHeartbeats 4000000 in
theorem ct_L_watermark {M : Mm} {p1 : Option Nat} {p2 : Int32} {p3 : Option Nat} {K : Int32 → Mm → Prop} (h : wp_L_watermark M p1 p2 p3 K) : CwI yL_watermark cL_watermark 4 [(0, 8, 11, 13), (0, 8, 14, 15)] rm_L_watermark [va_rf p1, .int p2, va_rf p3] M K := by
  refine ctw_any (by decide) (by cases p1 <;> cases p3 <;> exact Nat.le_of_ble_eq_true rfl) (fun X hX hQ hW9 hnL hnm => ?_)
  rw [show lv_args 0 [va_rf p1, .int p2, va_rf p3] = [(0, va_rf p1), (1, .int p2), (2, va_rf p3)] by cases p1 <;> cases p3 <;> rfl]
  have hX : Ok X cL_watermark RL rm_L_watermark := hX
  unfold wp_L_watermark at h
  refine z_aload_n (r := p3) hX dL_watermark_0 rfl 2 rfl ?_
  refine z_iconst (v := (0 : Int32)) hX dL_watermark_1 (by decide) ?_
  refine z_aload_n (r := p1) hX dL_watermark_2 rfl 0 rfl ?_
  refine z_iload_n hX dL_watermark_3 rfl 1 rfl ?_
  obtain ⟨a3, ha4, h⟩ := h
  obtain ⟨hk5, h⟩ := h
  refine zw_callVJ (As := [.int p2]) (rest := [.int (0 : Int32), va_rf p3]) (ci := 10) hX hW9 (ct_X10_watermark h) mw_RL_7 rfl (by decide) rfl (by rw [ha4]; rfl) (by unfold RoomC; decide) (by simp only [List.map_cons, List.map_nil, List.sum_cons, List.sum_nil, cat_rf, cat_i, cat_j]; decide) dL_watermark_4 hk5 (fun E M10x hE => ?_) (fun r1 M2 h => ?_)
  · rcases hE with ⟨rfl, h⟩ | ⟨rfl, h⟩
    · refine ⟨[], [⟨0, 8, 14, 15⟩], ⟨0, 8, 11, 13⟩, rfl, (fun z hz => by cases hz), by decide, by decide, lk_13, Or.inl rfl, fun q9 => ?_⟩
      show Z X M10x _ _ 11 [(0, va_rf p1), (1, .int p2), (2, va_rf p3)] [va_rf (some q9)]
      refine z_astore_n (r := (some q9)) (i := 3) hX [(3, va_rf (some q9)), (0, va_rf p1), (1, .int p2), (2, va_rf p3)] dL_watermark_11 rfl (by rw [hnL]; decide) (by simp [cat_rf]) ?_
      refine z_iconst (v := (1 : Int32)) hX dL_watermark_12 (by decide) ?_
      refine z_widen 1 6 (by decide) (by decide) ?_
      exact z_iret hX hQ dL_watermark_13 h
    · refine ⟨[⟨0, 8, 11, 13⟩], [], ⟨0, 8, 14, 15⟩, rfl, (fun z hz => by
        rcases List.mem_singleton.mp hz with rfl
        exact ⟨by decide, lk_13, rfl⟩), by decide, by decide, lk_15, Or.inr rfl, fun q9 => ?_⟩
      show Z X M10x _ _ 14 [(0, va_rf p1), (1, .int p2), (2, va_rf p3)] [va_rf (some q9)]
      refine z_astore_n (r := (some q9)) (i := 3) hX [(3, va_rf (some q9)), (0, va_rf p1), (1, .int p2), (2, va_rf p3)] dL_watermark_14 rfl (by rw [hnL]; decide) (by simp [cat_rf]) ?_
      refine z_iconst (v := (2 : Int32)) hX dL_watermark_15 (by decide) ?_
      refine z_widen 1 6 (by decide) (by decide) ?_
      exact z_iret hX hQ dL_watermark_16 h
  · skip
    obtain ⟨a7, ha8, h⟩ := h
    obtain ⟨hk9, h⟩ := h
    obtain ⟨hc10, h⟩ := h
    refine y_last (r := p3) hX dL_watermark_7 ha8 hk9 hc10 ?_
    refine z_goto (tgt := 17) hX dL_watermark_8 (by decide) ?_
    refine z_iconst (v := (0 : Int32)) hX dL_watermark_17 (by decide) ?_
    refine z_widen 1 6 (by decide) (by decide) ?_
    exact z_iret hX hQ dL_watermark_18 h
def rm_L_isIdle : Room := { frames := 8, cells := 1, slots := 6, locals := 143 }
def bk_L_isIdle_15 (K : Int32 → Mm → Prop) (s0 : Int64) (s1 : Int32) (s2 : Option Nat) (M : Mm) : Prop := ∃ a1, s2 = some a1 ∧ isA M a1 2 ∧ vp_in s1 (aN M a1) ∧ (K (0 : Int32) (tJ M a1 (s1).toNatClampNeg s0))
set_option maxRecDepth 100000 in
set_option maxHeartbeats 4000000 in
theorem zb_L_isIdle_15 {X : Cx} {K : Int32 → Mm → Prop} (hX : Ok X cL_isIdle RL rm_L_isIdle) (hQ : Rq X rm_L_isIdle (some .int) (QI K)) (hnL : X.2.2.2.2.2.2.2.2.2.2.2.2.2.2 = 4) (hW9 : RqW X [(0, 16, 19, 13), (0, 16, 22, 15)]) {s0 : Int64} {s1 : Int32} {s2 : Option Nat} {M : Mm} (h : bk_L_isIdle_15 K s0 s1 s2 M) : Z X M 1 6 15 [] [.long s0, .int s1, va_rf s2] := by
  unfold bk_L_isIdle_15 at h
  obtain ⟨a1, ha2, h⟩ := h
  obtain ⟨hk3, h⟩ := h
  obtain ⟨hc4, h⟩ := h
  refine y_last (r := s2) hX dL_isIdle_15 ha2 hk3 hc4 ?_
  refine z_goto (tgt := 25) hX dL_isIdle_16 (by decide) ?_
  refine z_iconst (v := (0 : Int32)) hX dL_isIdle_25 (by decide) ?_
  refine z_widen 1 6 (by decide) (by decide) ?_
  exact z_iret hX hQ dL_isIdle_26 h
def wp_L_isIdle (M : Mm) (p1 : Option Nat) (p2 : Int32) (p3 : Option Nat) (K : Int32 → Mm → Prop) : Prop := ∃ a7, p1 = some a7 ∧ mK M a7 = 11 ∧ (wp_X10_isIdle M (fun E M10x => (E = "java/lang/IllegalStateException" ∧ (K (1 : Int32) M10x)) ∨ (E = "java/lang/IndexOutOfBoundsException" ∧ (K (2 : Int32) M10x))) a7 p2 (fun r5 M6 => ((r5 = 0 → (bk_L_isIdle_15 K (0 : Int64) (0 : Int32) p3 M6)) ∧ (¬ r5 = 0 → (bk_L_isIdle_15 K (1 : Int64) (0 : Int32) p3 M6)))))
set_option maxRecDepth 100000 in
set_option maxHeartbeats 4000000 in
theorem ct_L_isIdle {M : Mm} {p1 : Option Nat} {p2 : Int32} {p3 : Option Nat} {K : Int32 → Mm → Prop} (h : wp_L_isIdle M p1 p2 p3 K) : CwI yL_isIdle cL_isIdle 4 [(0, 16, 19, 13), (0, 16, 22, 15)] rm_L_isIdle [va_rf p1, .int p2, va_rf p3] M K := by
  refine ctw_any (by decide) (by cases p1 <;> cases p3 <;> exact Nat.le_of_ble_eq_true rfl) (fun X hX hQ hW9 hnL hnm => ?_)
  rw [show lv_args 0 [va_rf p1, .int p2, va_rf p3] = [(0, va_rf p1), (1, .int p2), (2, va_rf p3)] by cases p1 <;> cases p3 <;> rfl]
  have hX : Ok X cL_isIdle RL rm_L_isIdle := hX
  unfold wp_L_isIdle at h
  refine z_aload_n (r := p3) hX dL_isIdle_0 rfl 2 rfl ?_
  refine z_iconst (v := (0 : Int32)) hX dL_isIdle_1 (by decide) ?_
  refine z_aload_n (r := p1) hX dL_isIdle_2 rfl 0 rfl ?_
  refine z_iload_n hX dL_isIdle_3 rfl 1 rfl ?_
  obtain ⟨a7, ha8, h⟩ := h
  obtain ⟨hk9, h⟩ := h
  refine zw_callVI (As := [.int p2]) (rest := [.int (0 : Int32), va_rf p3]) (ci := 10) hX hW9 (ct_X10_isIdle h) mw_RL_17 rfl (by decide) rfl (by rw [ha8]; rfl) (by unfold RoomC; decide) (by simp only [List.map_cons, List.map_nil, List.sum_cons, List.sum_nil, cat_rf, cat_i, cat_j]; decide) dL_isIdle_4 hk9 (fun E M10x hE => ?_) (fun r5 M6 h => ?_)
  · rcases hE with ⟨rfl, h⟩ | ⟨rfl, h⟩
    · refine ⟨[], [⟨0, 16, 22, 15⟩], ⟨0, 16, 19, 13⟩, rfl, (fun z hz => by cases hz), by decide, by decide, lk_13, Or.inl rfl, fun q9 => ?_⟩
      show Z X M10x _ _ 19 [(0, va_rf p1), (1, .int p2), (2, va_rf p3)] [va_rf (some q9)]
      refine z_astore_n (r := (some q9)) (i := 3) hX [(3, va_rf (some q9)), (0, va_rf p1), (1, .int p2), (2, va_rf p3)] dL_isIdle_19 rfl (by rw [hnL]; decide) (by simp [cat_rf]) ?_
      refine z_iconst (v := (1 : Int32)) hX dL_isIdle_20 (by decide) ?_
      refine z_widen 1 6 (by decide) (by decide) ?_
      exact z_iret hX hQ dL_isIdle_21 h
    · refine ⟨[⟨0, 16, 19, 13⟩], [], ⟨0, 16, 22, 15⟩, rfl, (fun z hz => by
        rcases List.mem_singleton.mp hz with rfl
        exact ⟨by decide, lk_13, rfl⟩), by decide, by decide, lk_15, Or.inr rfl, fun q9 => ?_⟩
      show Z X M10x _ _ 22 [(0, va_rf p1), (1, .int p2), (2, va_rf p3)] [va_rf (some q9)]
      refine z_astore_n (r := (some q9)) (i := 3) hX [(3, va_rf (some q9)), (0, va_rf p1), (1, .int p2), (2, va_rf p3)] dL_isIdle_22 rfl (by rw [hnL]; decide) (by simp [cat_rf]) ?_
      refine z_iconst (v := (2 : Int32)) hX dL_isIdle_23 (by decide) ?_
      refine z_widen 1 6 (by decide) (by decide) ?_
      exact z_iret hX hQ dL_isIdle_24 h
  · skip
    obtain ⟨h1, h2⟩ := h
    refine z_if_eq (tgt := 14) hX dL_isIdle_7 (by decide) (fun hc => ?_) (fun hc => ?_)
    · have h := h1 hc
      refine z_lconst (v := (0 : Int64)) hX dL_isIdle_14 (by decide) ?_
      refine z_loc [] rfl ?_
      refine z_widen 1 6 (by decide) (by decide) ?_
      exact zb_L_isIdle_15 hX hQ hnL hW9 h
    · have h := h2 hc
      refine z_lconst (v := (1 : Int64)) hX dL_isIdle_10 (by decide) ?_
      refine z_goto (tgt := 15) hX dL_isIdle_11 (by decide) ?_
      refine z_loc [] rfl ?_
      refine z_widen 1 6 (by decide) (by decide) ?_
      exact zb_L_isIdle_15 hX hQ hnL hW9 h
def rm_L_promise : Room := { frames := 7, cells := 1, slots := 6, locals := 123 }
def wp_L_promise (M : Mm) (p1 : Option Nat) (p2 : Int32) (p3 : Int32) (p4 : Option Nat) (K : Int32 → Mm → Prop) : Prop := ∃ a3, p1 = some a3 ∧ mK M a3 = 11 ∧ (wp_X10_promise M (fun E M10x => (E = "java/lang/IllegalStateException" ∧ (K (1 : Int32) M10x)) ∨ (E = "java/lang/IndexOutOfBoundsException" ∧ (K (2 : Int32) M10x))) a3 p2 p3 (fun r1 M2 => ∃ a7, p4 = some a7 ∧ isA M2 a7 2 ∧ vp_in (0 : Int32) (aN M2 a7) ∧ (K (0 : Int32) (tJ M2 a7 ((0 : Int32)).toNatClampNeg r1))))
set_option maxRecDepth 100000 in
set_option maxHeartbeats 4000000 in
theorem ct_L_promise {M : Mm} {p1 : Option Nat} {p2 : Int32} {p3 : Int32} {p4 : Option Nat} {K : Int32 → Mm → Prop} (h : wp_L_promise M p1 p2 p3 p4 K) : CwI yL_promise cL_promise 5 [(0, 9, 12, 13), (0, 9, 16, 15)] rm_L_promise [va_rf p1, .int p2, .int p3, va_rf p4] M K := by
  refine ctw_any (by decide) (by cases p1 <;> cases p4 <;> exact Nat.le_of_ble_eq_true rfl) (fun X hX hQ hW9 hnL hnm => ?_)
  rw [show lv_args 0 [va_rf p1, .int p2, .int p3, va_rf p4] = [(0, va_rf p1), (1, .int p2), (2, .int p3), (3, va_rf p4)] by cases p1 <;> cases p4 <;> rfl]
  have hX : Ok X cL_promise RL rm_L_promise := hX
  unfold wp_L_promise at h
  refine z_aload_n (r := p4) hX dL_promise_0 rfl 3 rfl ?_
  refine z_iconst (v := (0 : Int32)) hX dL_promise_1 (by decide) ?_
  refine z_aload_n (r := p1) hX dL_promise_2 rfl 0 rfl ?_
  refine z_iload_n hX dL_promise_3 rfl 1 rfl ?_
  refine z_iload_n hX dL_promise_4 rfl 2 rfl ?_
  obtain ⟨a3, ha4, h⟩ := h
  obtain ⟨hk5, h⟩ := h
  refine zw_callVJ (As := [.int p2, .int p3]) (rest := [.int (0 : Int32), va_rf p4]) (ci := 10) hX hW9 (ct_X10_promise h) mw_RL_21 rfl (by decide) rfl (by rw [ha4]; rfl) (by unfold RoomC; decide) (by simp only [List.map_cons, List.map_nil, List.sum_cons, List.sum_nil, cat_rf, cat_i, cat_j]; decide) dL_promise_5 hk5 (fun E M10x hE => ?_) (fun r1 M2 h => ?_)
  · rcases hE with ⟨rfl, h⟩ | ⟨rfl, h⟩
    · refine ⟨[], [⟨0, 9, 16, 15⟩], ⟨0, 9, 12, 13⟩, rfl, (fun z hz => by cases hz), by decide, by decide, lk_13, Or.inl rfl, fun q9 => ?_⟩
      show Z X M10x _ _ 12 [(0, va_rf p1), (1, .int p2), (2, .int p3), (3, va_rf p4)] [va_rf (some q9)]
      refine z_astore (r := (some q9)) (i := 4) hX [(4, va_rf (some q9)), (0, va_rf p1), (1, .int p2), (2, .int p3), (3, va_rf p4)] dL_promise_12 (by rw [hnL]; decide) (by simp [cat_rf]) ?_
      refine z_iconst (v := (1 : Int32)) hX dL_promise_14 (by decide) ?_
      refine z_widen 1 6 (by decide) (by decide) ?_
      exact z_iret hX hQ dL_promise_15 h
    · refine ⟨[⟨0, 9, 12, 13⟩], [], ⟨0, 9, 16, 15⟩, rfl, (fun z hz => by
        rcases List.mem_singleton.mp hz with rfl
        exact ⟨by decide, lk_13, rfl⟩), by decide, by decide, lk_15, Or.inr rfl, fun q9 => ?_⟩
      show Z X M10x _ _ 16 [(0, va_rf p1), (1, .int p2), (2, .int p3), (3, va_rf p4)] [va_rf (some q9)]
      refine z_astore (r := (some q9)) (i := 4) hX [(4, va_rf (some q9)), (0, va_rf p1), (1, .int p2), (2, .int p3), (3, va_rf p4)] dL_promise_16 (by rw [hnL]; decide) (by simp [cat_rf]) ?_
      refine z_iconst (v := (2 : Int32)) hX dL_promise_18 (by decide) ?_
      refine z_widen 1 6 (by decide) (by decide) ?_
      exact z_iret hX hQ dL_promise_19 h
  · skip
    obtain ⟨a7, ha8, h⟩ := h
    obtain ⟨hk9, h⟩ := h
    obtain ⟨hc10, h⟩ := h
    refine y_last (r := p4) hX dL_promise_8 ha8 hk9 hc10 ?_
    refine z_goto (tgt := 20) hX dL_promise_9 (by decide) ?_
    refine z_iconst (v := (0 : Int32)) hX dL_promise_20 (by decide) ?_
    refine z_widen 1 6 (by decide) (by decide) ?_
    exact z_iret hX hQ dL_promise_21 h
def rm_L_kept : Room := { frames := 8, cells := 2, slots := 12, locals := 145 }
def wp_L_kept (M : Mm) (p1 : Option Nat) (p2 : Int32) (p3 : Int32) (p4 : Option Nat) (K : Int32 → Mm → Prop) : Prop := ∃ a3, p1 = some a3 ∧ mK M a3 = 11 ∧ (wp_X10_kept M (fun E M10x => (E = "java/lang/IllegalStateException" ∧ (K (1 : Int32) M10x)) ∨ (E = "java/lang/IndexOutOfBoundsException" ∧ (K (2 : Int32) M10x))) a3 p2 p3 (fun r1 M2 => ∃ a7, p4 = some a7 ∧ isA M2 a7 2 ∧ vp_in (0 : Int32) (aN M2 a7) ∧ (K (0 : Int32) (tJ M2 a7 ((0 : Int32)).toNatClampNeg ((r1).toInt64)))))
set_option maxRecDepth 100000 in
set_option maxHeartbeats 4000000 in
theorem ct_L_kept {M : Mm} {p1 : Option Nat} {p2 : Int32} {p3 : Int32} {p4 : Option Nat} {K : Int32 → Mm → Prop} (h : wp_L_kept M p1 p2 p3 p4 K) : CwI yL_kept cL_kept 5 [(0, 10, 13, 13), (0, 10, 17, 15)] rm_L_kept [va_rf p1, .int p2, .int p3, va_rf p4] M K := by
  refine ctw_any (by decide) (by cases p1 <;> cases p4 <;> exact Nat.le_of_ble_eq_true rfl) (fun X hX hQ hW9 hnL hnm => ?_)
  rw [show lv_args 0 [va_rf p1, .int p2, .int p3, va_rf p4] = [(0, va_rf p1), (1, .int p2), (2, .int p3), (3, va_rf p4)] by cases p1 <;> cases p4 <;> rfl]
  have hX : Ok X cL_kept RL rm_L_kept := hX
  unfold wp_L_kept at h
  refine z_aload_n (r := p4) hX dL_kept_0 rfl 3 rfl ?_
  refine z_iconst (v := (0 : Int32)) hX dL_kept_1 (by decide) ?_
  refine z_aload_n (r := p1) hX dL_kept_2 rfl 0 rfl ?_
  refine z_iload_n hX dL_kept_3 rfl 1 rfl ?_
  refine z_iload_n hX dL_kept_4 rfl 2 rfl ?_
  obtain ⟨a3, ha4, h⟩ := h
  obtain ⟨hk5, h⟩ := h
  refine zw_callVI (As := [.int p2, .int p3]) (rest := [.int (0 : Int32), va_rf p4]) (ci := 10) hX hW9 (ct_X10_kept h) mw_RL_25 rfl (by decide) rfl (by rw [ha4]; rfl) (by unfold RoomC; decide) (by simp only [List.map_cons, List.map_nil, List.sum_cons, List.sum_nil, cat_rf, cat_i, cat_j]; decide) dL_kept_5 hk5 (fun E M10x hE => ?_) (fun r1 M2 h => ?_)
  · rcases hE with ⟨rfl, h⟩ | ⟨rfl, h⟩
    · refine ⟨[], [⟨0, 10, 17, 15⟩], ⟨0, 10, 13, 13⟩, rfl, (fun z hz => by cases hz), by decide, by decide, lk_13, Or.inl rfl, fun q9 => ?_⟩
      show Z X M10x _ _ 13 [(0, va_rf p1), (1, .int p2), (2, .int p3), (3, va_rf p4)] [va_rf (some q9)]
      refine z_astore (r := (some q9)) (i := 4) hX [(4, va_rf (some q9)), (0, va_rf p1), (1, .int p2), (2, .int p3), (3, va_rf p4)] dL_kept_13 (by rw [hnL]; decide) (by simp [cat_rf]) ?_
      refine z_iconst (v := (1 : Int32)) hX dL_kept_15 (by decide) ?_
      refine z_widen 2 12 (by decide) (by decide) ?_
      exact z_iret hX hQ dL_kept_16 h
    · refine ⟨[⟨0, 10, 13, 13⟩], [], ⟨0, 10, 17, 15⟩, rfl, (fun z hz => by
        rcases List.mem_singleton.mp hz with rfl
        exact ⟨by decide, lk_13, rfl⟩), by decide, by decide, lk_15, Or.inr rfl, fun q9 => ?_⟩
      show Z X M10x _ _ 17 [(0, va_rf p1), (1, .int p2), (2, .int p3), (3, va_rf p4)] [va_rf (some q9)]
      refine z_astore (r := (some q9)) (i := 4) hX [(4, va_rf (some q9)), (0, va_rf p1), (1, .int p2), (2, .int p3), (3, va_rf p4)] dL_kept_17 (by rw [hnL]; decide) (by simp [cat_rf]) ?_
      refine z_iconst (v := (2 : Int32)) hX dL_kept_19 (by decide) ?_
      refine z_widen 2 12 (by decide) (by decide) ?_
      exact z_iret hX hQ dL_kept_20 h
  · skip
    refine z_i2l hX dL_kept_8 ?_
    obtain ⟨a7, ha8, h⟩ := h
    obtain ⟨hk9, h⟩ := h
    obtain ⟨hc10, h⟩ := h
    refine y_last (r := p4) hX dL_kept_9 ha8 hk9 hc10 ?_
    refine z_goto (tgt := 21) hX dL_kept_10 (by decide) ?_
    refine z_iconst (v := (0 : Int32)) hX dL_kept_21 (by decide) ?_
    refine z_widen 2 12 (by decide) (by decide) ?_
    exact z_iret hX hQ dL_kept_22 h
def rm_L_out : Room := { frames := 7, cells := 1, slots := 6, locals := 122 }
def wp_L_out (M : Mm) (p1 : Option Nat) (p2 : Int32) (p3 : Int32) (p4 : Option Nat) (K : Int32 → Mm → Prop) : Prop := ∃ a3, p1 = some a3 ∧ mK M a3 = 11 ∧ (wp_X10_out M (fun E M10x => (E = "java/lang/IndexOutOfBoundsException" ∧ (K (1 : Int32) M10x))) a3 p2 p3 (fun r1 M2 => ∃ a7, p4 = some a7 ∧ isA M2 a7 2 ∧ vp_in (0 : Int32) (aN M2 a7) ∧ (K (0 : Int32) (tJ M2 a7 ((0 : Int32)).toNatClampNeg r1))))
set_option maxRecDepth 100000 in
set_option maxHeartbeats 4000000 in
theorem ct_L_out {M : Mm} {p1 : Option Nat} {p2 : Int32} {p3 : Int32} {p4 : Option Nat} {K : Int32 → Mm → Prop} (h : wp_L_out M p1 p2 p3 p4 K) : CwI yL_out cL_out 5 [(0, 9, 12, 15)] rm_L_out [va_rf p1, .int p2, .int p3, va_rf p4] M K := by
  refine ctw_any (by decide) (by cases p1 <;> cases p4 <;> exact Nat.le_of_ble_eq_true rfl) (fun X hX hQ hW9 hnL hnm => ?_)
  rw [show lv_args 0 [va_rf p1, .int p2, .int p3, va_rf p4] = [(0, va_rf p1), (1, .int p2), (2, .int p3), (3, va_rf p4)] by cases p1 <;> cases p4 <;> rfl]
  have hX : Ok X cL_out RL rm_L_out := hX
  unfold wp_L_out at h
  refine z_aload_n (r := p4) hX dL_out_0 rfl 3 rfl ?_
  refine z_iconst (v := (0 : Int32)) hX dL_out_1 (by decide) ?_
  refine z_aload_n (r := p1) hX dL_out_2 rfl 0 rfl ?_
  refine z_iload_n hX dL_out_3 rfl 1 rfl ?_
  refine z_iload_n hX dL_out_4 rfl 2 rfl ?_
  obtain ⟨a3, ha4, h⟩ := h
  obtain ⟨hk5, h⟩ := h
  refine zw_callVJ (As := [.int p2, .int p3]) (rest := [.int (0 : Int32), va_rf p4]) (ci := 10) hX hW9 (ct_X10_out h) mw_RL_29 rfl (by decide) rfl (by rw [ha4]; rfl) (by unfold RoomC; decide) (by simp only [List.map_cons, List.map_nil, List.sum_cons, List.sum_nil, cat_rf, cat_i, cat_j]; decide) dL_out_5 hk5 (fun E M10x hE => ?_) (fun r1 M2 h => ?_)
  · obtain ⟨rfl, h⟩ := hE
    refine ⟨[], [], ⟨0, 9, 12, 15⟩, rfl, (fun z hz => by cases hz), by decide, by decide, lk_15, Or.inr rfl, fun q9 => ?_⟩
    show Z X M10x _ _ 12 [(0, va_rf p1), (1, .int p2), (2, .int p3), (3, va_rf p4)] [va_rf (some q9)]
    refine z_astore (r := (some q9)) (i := 4) hX [(4, va_rf (some q9)), (0, va_rf p1), (1, .int p2), (2, .int p3), (3, va_rf p4)] dL_out_12 (by rw [hnL]; decide) (by simp [cat_rf]) ?_
    refine z_iconst (v := (1 : Int32)) hX dL_out_14 (by decide) ?_
    refine z_widen 1 6 (by decide) (by decide) ?_
    exact z_iret hX hQ dL_out_15 h
  · skip
    obtain ⟨a7, ha8, h⟩ := h
    obtain ⟨hk9, h⟩ := h
    obtain ⟨hc10, h⟩ := h
    refine y_last (r := p4) hX dL_out_8 ha8 hk9 hc10 ?_
    refine z_goto (tgt := 16) hX dL_out_9 (by decide) ?_
    refine z_iconst (v := (0 : Int32)) hX dL_out_16 (by decide) ?_
    refine z_widen 1 6 (by decide) (by decide) ?_
    exact z_iret hX hQ dL_out_17 h
def rm_L_late : Room := { frames := 7, cells := 1, slots := 6, locals := 122 }
def wp_L_late (M : Mm) (p1 : Option Nat) (p2 : Int32) (p3 : Int32) (p4 : Option Nat) (K : Int32 → Mm → Prop) : Prop := ∃ a3, p1 = some a3 ∧ mK M a3 = 11 ∧ (wp_X10_late M (fun E M10x => (E = "java/lang/IndexOutOfBoundsException" ∧ (K (1 : Int32) M10x))) a3 p2 p3 (fun r1 M2 => ∃ a7, p4 = some a7 ∧ isA M2 a7 2 ∧ vp_in (0 : Int32) (aN M2 a7) ∧ (K (0 : Int32) (tJ M2 a7 ((0 : Int32)).toNatClampNeg r1))))
set_option maxRecDepth 100000 in
set_option maxHeartbeats 4000000 in
theorem ct_L_late {M : Mm} {p1 : Option Nat} {p2 : Int32} {p3 : Int32} {p4 : Option Nat} {K : Int32 → Mm → Prop} (h : wp_L_late M p1 p2 p3 p4 K) : CwI yL_late cL_late 5 [(0, 9, 12, 15)] rm_L_late [va_rf p1, .int p2, .int p3, va_rf p4] M K := by
  refine ctw_any (by decide) (by cases p1 <;> cases p4 <;> exact Nat.le_of_ble_eq_true rfl) (fun X hX hQ hW9 hnL hnm => ?_)
  rw [show lv_args 0 [va_rf p1, .int p2, .int p3, va_rf p4] = [(0, va_rf p1), (1, .int p2), (2, .int p3), (3, va_rf p4)] by cases p1 <;> cases p4 <;> rfl]
  have hX : Ok X cL_late RL rm_L_late := hX
  unfold wp_L_late at h
  refine z_aload_n (r := p4) hX dL_late_0 rfl 3 rfl ?_
  refine z_iconst (v := (0 : Int32)) hX dL_late_1 (by decide) ?_
  refine z_aload_n (r := p1) hX dL_late_2 rfl 0 rfl ?_
  refine z_iload_n hX dL_late_3 rfl 1 rfl ?_
  refine z_iload_n hX dL_late_4 rfl 2 rfl ?_
  obtain ⟨a3, ha4, h⟩ := h
  obtain ⟨hk5, h⟩ := h
  refine zw_callVJ (As := [.int p2, .int p3]) (rest := [.int (0 : Int32), va_rf p4]) (ci := 10) hX hW9 (ct_X10_late h) mw_RL_32 rfl (by decide) rfl (by rw [ha4]; rfl) (by unfold RoomC; decide) (by simp only [List.map_cons, List.map_nil, List.sum_cons, List.sum_nil, cat_rf, cat_i, cat_j]; decide) dL_late_5 hk5 (fun E M10x hE => ?_) (fun r1 M2 h => ?_)
  · obtain ⟨rfl, h⟩ := hE
    refine ⟨[], [], ⟨0, 9, 12, 15⟩, rfl, (fun z hz => by cases hz), by decide, by decide, lk_15, Or.inr rfl, fun q9 => ?_⟩
    show Z X M10x _ _ 12 [(0, va_rf p1), (1, .int p2), (2, .int p3), (3, va_rf p4)] [va_rf (some q9)]
    refine z_astore (r := (some q9)) (i := 4) hX [(4, va_rf (some q9)), (0, va_rf p1), (1, .int p2), (2, .int p3), (3, va_rf p4)] dL_late_12 (by rw [hnL]; decide) (by simp [cat_rf]) ?_
    refine z_iconst (v := (1 : Int32)) hX dL_late_14 (by decide) ?_
    refine z_widen 1 6 (by decide) (by decide) ?_
    exact z_iret hX hQ dL_late_15 h
  · skip
    obtain ⟨a7, ha8, h⟩ := h
    obtain ⟨hk9, h⟩ := h
    obtain ⟨hc10, h⟩ := h
    refine y_last (r := p4) hX dL_late_8 ha8 hk9 hc10 ?_
    refine z_goto (tgt := 16) hX dL_late_9 (by decide) ?_
    refine z_iconst (v := (0 : Int32)) hX dL_late_16 (by decide) ?_
    refine z_widen 1 6 (by decide) (by decide) ?_
    exact z_iret hX hQ dL_late_17 h
