def rm_X10_streamOrThrow : Room := { frames := 6, cells := 1, slots := 6, locals := 100 }
def wp_X10_streamOrThrow (M : Mm) (KX : String → Mm → Prop) (h0 : Nat) (p1 : Int32) (K : Option Nat → Mm → Prop) : Prop := mK M h0 = 11 ∧ (((mR M 644 h0) = none → (KX "java/lang/IllegalStateException" M)) ∧ (∀ a2, (mR M 644 h0) = some a2 → (wp_X10_streamOrNull M h0 p1 (fun r4 M5 => ((r4 = none → (KX "java/lang/IndexOutOfBoundsException" M5)) ∧ (∀ a7, r4 = some a7 → (K r4 M5)))))))
set_option maxRecDepth 100000 in
set_option maxHeartbeats 4000000 in
theorem ct_X10_streamOrThrow {M : Mm} {KX : String → Mm → Prop} {h0 : Nat} {p1 : Int32} {K : Option Nat → Mm → Prop} (h : wp_X10_streamOrThrow M KX h0 p1 K) : CxG (QR K) yX10_streamOrThrow cX10_streamOrThrow 3 (some (.object "WatermarkJoin$Stream")) rm_X10_streamOrThrow [.ref h0, .int p1] M KX := by
  refine ctx_any (QR K) (by decide) (by exact Nat.le_of_ble_eq_true rfl) (fun X hX hQ hnL hnm => ?_)
  rw [show lv_args 0 [.ref h0, .int p1] = [(0, va_rf (some h0)), (1, .int p1)] by rfl]
  have hX : Ok X cX10_streamOrThrow RX10 rm_X10_streamOrThrow := hX
  unfold wp_X10_streamOrThrow at h
  refine z_aload_n (r := (some h0)) hX dX10_streamOrThrow_0 rfl 0 rfl ?_
  obtain ⟨hk1, h⟩ := h
  refine gf_RX10_31 (r := (some h0)) hX dX10_streamOrThrow_1 rfl hk1 ?_
  obtain ⟨h1, h2⟩ := h
  refine z_ifnonnull (r := (mR M 644 h0)) (tgt := 17) hX dX10_streamOrThrow_4 (by decide) (fun a2 ha3 => ?_) (fun hc => ?_)
  · have h := h2 a2 ha3
    refine z_aload_n (r := (some h0)) hX dX10_streamOrThrow_17 rfl 0 rfl ?_
    refine z_iload_n hX dX10_streamOrThrow_18 rfl 1 rfl ?_
    refine z_callVR (As := [.int p1]) (rest := []) (ci := 10) hX (ct_X10_streamOrNull h) mw_RX10_129 rfl (by decide) rfl (by rfl) (by unfold RoomC; decide) (by decide) dX10_streamOrThrow_19 hk1 (fun r4 M5 h => ?_)
    refine z_astore_n (r := r4) hX [(2, va_rf r4), (0, va_rf (some h0)), (1, .int p1)] dX10_streamOrThrow_22 rfl (by rw [hnL]; decide) rfl ?_
    refine z_aload_n (r := r4) hX dX10_streamOrThrow_23 rfl 0 rfl ?_
    obtain ⟨h1, h2⟩ := h
    refine z_ifnonnull (r := r4) (tgt := 37) hX dX10_streamOrThrow_24 (by decide) (fun a7 ha8 => ?_) (fun hc => ?_)
    · have h := h2 a7 ha8
      refine z_aload_n (r := r4) hX dX10_streamOrThrow_37 rfl 0 rfl ?_
      refine z_widen 1 6 (by decide) (by decide) ?_
      exact x_aret hX hQ dX10_streamOrThrow_38 h
    · have h := h1 hc
      exact z_throwS (names := ["java/lang/RuntimeException", "java/lang/Exception"]) (text := "no such stream") hX hQ (by decide) (by decide) tk_179.1 tk_179.2 (fun U h => h.2.1) tg_183 tb_183 to_183 dX10_streamOrThrow_27 dX10_streamOrThrow_30 dX10_streamOrThrow_31 dX10_streamOrThrow_33 dX10_streamOrThrow_36 (by decide) (by decide) (by decide) (by decide) h
  · have h := h1 hc
    exact z_throwS (names := ["java/lang/RuntimeException", "java/lang/Exception"]) (text := "nothing was built") hX hQ (by decide) (by decide) tk_172.1 tk_172.2 (fun U h => h.1) tg_176 tb_176 to_176 dX10_streamOrThrow_7 dX10_streamOrThrow_10 dX10_streamOrThrow_11 dX10_streamOrThrow_13 dX10_streamOrThrow_16 (by decide) (by decide) (by decide) (by decide) h
def rm_X10_watermark : Room := { frames := 7, cells := 1, slots := 6, locals := 122 }
def wp_X10_watermark (M : Mm) (KX : String → Mm → Prop) (h0 : Nat) (p1 : Int32) (K : Int64 → Mm → Prop) : Prop := mK M h0 = 11 ∧ (wp_X10_streamOrThrow M KX h0 p1 (fun r1 M2 => ∃ a5, r1 = some a5 ∧ mK M2 a5 = 7 ∧ (K (mJ M2 390 a5) M2)))
set_option maxRecDepth 100000 in
set_option maxHeartbeats 4000000 in
theorem ct_X10_watermark {M : Mm} {KX : String → Mm → Prop} {h0 : Nat} {p1 : Int32} {K : Int64 → Mm → Prop} (h : wp_X10_watermark M KX h0 p1 K) : CxG (QJ K) yX10_watermark cX10_watermark 2 (some .long) rm_X10_watermark [.ref h0, .int p1] M KX := by
  refine ctx_any (QJ K) (by decide) (by exact Nat.le_of_ble_eq_true rfl) (fun X hX hQ hnL hnm => ?_)
  rw [show lv_args 0 [.ref h0, .int p1] = [(0, va_rf (some h0)), (1, .int p1)] by rfl]
  have hX : Ok X cX10_watermark RX10 rm_X10_watermark := hX
  unfold wp_X10_watermark at h
  refine z_aload_n (r := (some h0)) hX dX10_watermark_0 rfl 0 rfl ?_
  refine z_iload_n hX dX10_watermark_1 rfl 1 rfl ?_
  obtain ⟨hk3, h⟩ := h
  refine zx_callVR (As := [.int p1]) (rest := []) (ci := 10) hX hQ (ct_X10_streamOrThrow h) mw_RX10_165 rfl (by decide) rfl (by rfl) (by unfold RoomC; decide) (by decide) dX10_watermark_2 hk3 (fun r1 M2 h => ?_)
  obtain ⟨a5, ha6, h⟩ := h
  obtain ⟨hk7, h⟩ := h
  refine gf_RX10_148 (r := r1) hX dX10_watermark_5 ha6 hk7 ?_
  refine z_widen 1 6 (by decide) (by decide) ?_
  exact x_lret hX hQ dX10_watermark_8 h
def rm_X10_isIdle : Room := { frames := 7, cells := 1, slots := 6, locals := 122 }
def wp_X10_isIdle (M : Mm) (KX : String → Mm → Prop) (h0 : Nat) (p1 : Int32) (K : Int32 → Mm → Prop) : Prop := mK M h0 = 11 ∧ (wp_X10_streamOrThrow M KX h0 p1 (fun r1 M2 => ∃ a5, r1 = some a5 ∧ mK M2 a5 = 7 ∧ (bz (mI M2 391 a5) ∧ K (mI M2 391 a5) M2)))
set_option maxRecDepth 100000 in
set_option maxHeartbeats 4000000 in
theorem ct_X10_isIdle {M : Mm} {KX : String → Mm → Prop} {h0 : Nat} {p1 : Int32} {K : Int32 → Mm → Prop} (h : wp_X10_isIdle M KX h0 p1 K) : CxG (QI K) yX10_isIdle cX10_isIdle 2 (some .boolean) rm_X10_isIdle [.ref h0, .int p1] M KX := by
  refine ctx_any (QI K) (by decide) (by exact Nat.le_of_ble_eq_true rfl) (fun X hX hQ hnL hnm => ?_)
  rw [show lv_args 0 [.ref h0, .int p1] = [(0, va_rf (some h0)), (1, .int p1)] by rfl]
  have hX : Ok X cX10_isIdle RX10 rm_X10_isIdle := hX
  unfold wp_X10_isIdle at h
  refine z_aload_n (r := (some h0)) hX dX10_isIdle_0 rfl 0 rfl ?_
  refine z_iload_n hX dX10_isIdle_1 rfl 1 rfl ?_
  obtain ⟨hk3, h⟩ := h
  refine zx_callVR (As := [.int p1]) (rest := []) (ci := 10) hX hQ (ct_X10_streamOrThrow h) mw_RX10_165 rfl (by decide) rfl (by rfl) (by unfold RoomC; decide) (by decide) dX10_isIdle_2 hk3 (fun r1 M2 h => ?_)
  obtain ⟨a5, ha6, h⟩ := h
  obtain ⟨hk7, h⟩ := h
  refine gf_RX10_168 (r := r1) hX dX10_isIdle_5 ha6 hk7 ?_
  refine z_widen 1 6 (by decide) (by decide) ?_
  exact x_zret hX hQ dX10_isIdle_8 h.1 h.2
def rm_X10_promise : Room := { frames := 6, cells := 1, slots := 6, locals := 100 }
def wp_X10_promise (M : Mm) (KX : String → Mm → Prop) (h0 : Nat) (p1 : Int32) (p2 : Int32) (K : Int64 → Mm → Prop) : Prop := mK M h0 = 11 ∧ (((mR M 644 h0) = none → (KX "java/lang/IllegalStateException" M)) ∧ (∀ a2, (mR M 644 h0) = some a2 → (wp_X10_sourceWith M h0 p1 p2 (fun r4 M5 => ((r4 = none → (KX "java/lang/IndexOutOfBoundsException" M5)) ∧ (∀ a7, r4 = some a7 → mK M5 a7 = 7 ∧ ∃ a10, (mR M5 393 a7) = some a10 ∧ mK M5 a10 = 6 ∧ ∃ a13, (mR M5 325 a10) = some a13 ∧ isA M5 a13 2 ∧ vp_in p2 (aN M5 a13) ∧ (K (aJ M5 a13 (p2).toNatClampNeg) M5)))))))
set_option maxRecDepth 100000 in
set_option maxHeartbeats 4000000 in
theorem ct_X10_promise {M : Mm} {KX : String → Mm → Prop} {h0 : Nat} {p1 : Int32} {p2 : Int32} {K : Int64 → Mm → Prop} (h : wp_X10_promise M KX h0 p1 p2 K) : CxG (QJ K) yX10_promise cX10_promise 4 (some .long) rm_X10_promise [.ref h0, .int p1, .int p2] M KX := by
  refine ctx_any (QJ K) (by decide) (by exact Nat.le_of_ble_eq_true rfl) (fun X hX hQ hnL hnm => ?_)
  rw [show lv_args 0 [.ref h0, .int p1, .int p2] = [(0, va_rf (some h0)), (1, .int p1), (2, .int p2)] by rfl]
  have hX : Ok X cX10_promise RX10 rm_X10_promise := hX
  unfold wp_X10_promise at h
  refine z_aload_n (r := (some h0)) hX dX10_promise_0 rfl 0 rfl ?_
  obtain ⟨hk1, h⟩ := h
  refine gf_RX10_31 (r := (some h0)) hX dX10_promise_1 rfl hk1 ?_
  obtain ⟨h1, h2⟩ := h
  refine z_ifnonnull (r := (mR M 644 h0)) (tgt := 17) hX dX10_promise_4 (by decide) (fun a2 ha3 => ?_) (fun hc => ?_)
  · have h := h2 a2 ha3
    refine z_aload_n (r := (some h0)) hX dX10_promise_17 rfl 0 rfl ?_
    refine z_iload_n hX dX10_promise_18 rfl 1 rfl ?_
    refine z_iload_n hX dX10_promise_19 rfl 2 rfl ?_
    refine z_callVR (As := [.int p1, .int p2]) (rest := []) (ci := 10) hX (ct_X10_sourceWith h) mw_RX10_76 rfl (by decide) rfl (by rfl) (by unfold RoomC; decide) (by decide) dX10_promise_20 hk1 (fun r4 M5 h => ?_)
    refine z_astore_n (r := r4) hX [(3, va_rf r4), (0, va_rf (some h0)), (1, .int p1), (2, .int p2)] dX10_promise_23 rfl (by rw [hnL]; decide) rfl ?_
    refine z_aload_n (r := r4) hX dX10_promise_24 rfl 0 rfl ?_
    obtain ⟨h1, h2⟩ := h
    refine z_ifnonnull (r := r4) (tgt := 38) hX dX10_promise_25 (by decide) (fun a7 ha8 => ?_) (fun hc => ?_)
    · have h := h2 a7 ha8
      refine z_aload_n (r := r4) hX dX10_promise_38 rfl 0 rfl ?_
      obtain ⟨hk9, h⟩ := h
      refine gf_RX10_88 (r := r4) hX dX10_promise_39 ha8 hk9 ?_
      obtain ⟨a10, ha11, h⟩ := h
      obtain ⟨hk12, h⟩ := h
      refine gf_RX10_184 (r := (mR M5 393 a7)) hX dX10_promise_42 ha11 hk12 ?_
      refine z_iload_n hX dX10_promise_45 rfl 3 rfl ?_
      obtain ⟨a13, ha14, h⟩ := h
      obtain ⟨hk15, h⟩ := h
      obtain ⟨hc16, h⟩ := h
      refine y_lald (r := (mR M5 325 a10)) hX dX10_promise_46 ha14 hk15 hc16 ?_
      refine z_widen 1 6 (by decide) (by decide) ?_
      exact x_lret hX hQ dX10_promise_47 h
    · have h := h1 hc
      exact z_throwS (names := ["java/lang/RuntimeException", "java/lang/Exception"]) (text := "no such part of a source") hX hQ (by decide) (by decide) tk_179.1 tk_179.2 (fun U h => h.2.2.1) tg_183 tb_183 to_183 dX10_promise_28 dX10_promise_31 dX10_promise_32 dX10_promise_34 dX10_promise_37 (by decide) (by decide) (by decide) (by decide) h
  · have h := h1 hc
    exact z_throwS (names := ["java/lang/RuntimeException", "java/lang/Exception"]) (text := "nothing was built") hX hQ (by decide) (by decide) tk_172.1 tk_172.2 (fun U h => h.1) tg_176 tb_176 to_176 dX10_promise_7 dX10_promise_10 dX10_promise_11 dX10_promise_13 dX10_promise_16 (by decide) (by decide) (by decide) (by decide) h
def rm_X10_kept : Room := { frames := 7, cells := 2, slots := 12, locals := 122 }
def bk_X10_kept_25 (KX : String → Mm → Prop) (h0 : Nat) (K : Int32 → Mm → Prop) (l1 : Int32) (l2 : Int32) (l3 : Option Nat) (M : Mm) : Prop := ∃ a1, l3 = some a1 ∧ mK M a1 = 7 ∧ (((mR M 394 a1) = none → ((¬ l2 = (1 : Int32) → (((mR M 395 a1) = none → mK M h0 = 11 ∧ ∃ a9, (mR M 644 h0) = some a9 ∧ mK M a9 = 2 ∧ ∃ a14, (mR M 68 a9) = some a14 ∧ mK M a14 = 9 ∧ (wp_X8_countIn M a14 l1 (fun r12 M13 => (K r12 M13)))) ∧ (∀ a6, (mR M 395 a1) = some a6 → mK M a6 = 10 ∧ (K (mI M 581 a6) M)))) ∧ (l2 = (1 : Int32) → (K (0 : Int32) M)))) ∧ (∀ a4, (mR M 394 a1) = some a4 → mK M a4 = 3 ∧ ∃ a20, (mR M 132 a4) = some a20 ∧ isA M a20 1 ∧ vp_in l2 (aN M a20) ∧ (K (aI M a20 (l2).toNatClampNeg) M)))
set_option maxRecDepth 100000 in
set_option maxHeartbeats 4000000 in
theorem zb_X10_kept_25 {X : Cx} {KX : String → Mm → Prop} {h0 : Nat} {K : Int32 → Mm → Prop} (hX : Ok X cX10_kept RX10 rm_X10_kept) (hQ : RqX X rm_X10_kept (some .int) (QI K) KX) (hnL : X.2.2.2.2.2.2.2.2.2.2.2.2.2.2 = 4) {l1 : Int32} {l2 : Int32} {l3 : Option Nat} {M : Mm} (h : bk_X10_kept_25 KX h0 K l1 l2 l3 M) : Z X M 1 6 25 [(0, va_rf (some h0)), (1, .int l1), (2, .int l2), (3, va_rf l3)] [] := by
  unfold bk_X10_kept_25 at h
  refine z_aload_n (r := l3) hX dX10_kept_25 rfl 3 rfl ?_
  obtain ⟨a1, ha2, h⟩ := h
  obtain ⟨hk3, h⟩ := h
  refine gf_RX10_194 (r := l3) hX dX10_kept_26 ha2 hk3 ?_
  obtain ⟨h1, h2⟩ := h
  refine z_ifnull (r := (mR M 394 a1)) (tgt := 42) hX dX10_kept_29 (by decide) (fun hc => ?_) (fun a4 ha5 => ?_)
  · have h := h1 hc
    refine z_iload_n hX dX10_kept_42 rfl 2 rfl ?_
    refine z_iconst (v := (1 : Int32)) hX dX10_kept_43 (by decide) ?_
    obtain ⟨h1, h2⟩ := h
    refine z_icmp_ne (tgt := 49) hX dX10_kept_44 (by decide) (fun hc => ?_) (fun hc => ?_)
    · have h := h1 hc
      refine z_aload_n (r := l3) hX dX10_kept_49 rfl 3 rfl ?_
      refine gf_RX10_203 (r := l3) hX dX10_kept_50 ha2 hk3 ?_
      obtain ⟨h1, h2⟩ := h
      refine z_ifnull (r := (mR M 395 a1)) (tgt := 64) hX dX10_kept_53 (by decide) (fun hc => ?_) (fun a6 ha7 => ?_)
      · have h := h1 hc
        refine z_aload_n (r := (some h0)) hX dX10_kept_64 rfl 0 rfl ?_
        obtain ⟨hk8, h⟩ := h
        refine gf_RX10_31 (r := (some h0)) hX dX10_kept_65 rfl hk8 ?_
        obtain ⟨a9, ha10, h⟩ := h
        obtain ⟨hk11, h⟩ := h
        refine gf_RX10_139 (r := (mR M 644 h0)) hX dX10_kept_68 ha10 hk11 ?_
        refine z_iload_n hX dX10_kept_71 rfl 1 rfl ?_
        obtain ⟨a14, ha15, h⟩ := h
        obtain ⟨hk16, h⟩ := h
        refine z_callVI (As := [.int l1]) (rest := []) (ci := 8) hX (ct_X8_countIn h) mw_RX10_210 rfl (by decide) rfl (by rw [ha15]; rfl) (by unfold RoomC; decide) (by decide) dX10_kept_72 hk16 (fun r12 M13 h => ?_)
        refine z_widen 2 12 (by decide) (by decide) ?_
        exact x_iret hX hQ dX10_kept_75 h
      · have h := h2 a6 ha7
        refine z_aload_n (r := l3) hX dX10_kept_56 rfl 3 rfl ?_
        refine gf_RX10_203 (r := l3) hX dX10_kept_57 ha2 hk3 ?_
        obtain ⟨hk18, h⟩ := h
        refine gf_RX10_207 (r := (mR M 395 a1)) hX dX10_kept_60 ha7 hk18 ?_
        refine z_widen 2 12 (by decide) (by decide) ?_
        exact x_iret hX hQ dX10_kept_63 h
    · have h := h2 hc
      refine z_iconst (v := (0 : Int32)) hX dX10_kept_47 (by decide) ?_
      refine z_widen 2 12 (by decide) (by decide) ?_
      exact x_iret hX hQ dX10_kept_48 h
  · have h := h2 a4 ha5
    refine z_aload_n (r := l3) hX dX10_kept_32 rfl 3 rfl ?_
    refine gf_RX10_194 (r := l3) hX dX10_kept_33 ha2 hk3 ?_
    obtain ⟨hk19, h⟩ := h
    refine gf_RX10_198 (r := (mR M 394 a1)) hX dX10_kept_36 ha5 hk19 ?_
    refine z_iload_n hX dX10_kept_39 rfl 2 rfl ?_
    obtain ⟨a20, ha21, h⟩ := h
    obtain ⟨hk22, h⟩ := h
    obtain ⟨hc23, h⟩ := h
    refine y_iald (r := (mR M 132 a4)) hX dX10_kept_40 ha21 hk22 hc23 ?_
    refine z_widen 2 12 (by decide) (by decide) ?_
    exact x_iret hX hQ dX10_kept_41 h
def wp_X10_kept (M : Mm) (KX : String → Mm → Prop) (h0 : Nat) (p1 : Int32) (p2 : Int32) (K : Int32 → Mm → Prop) : Prop := mK M h0 = 11 ∧ (wp_X10_streamOrThrow M KX h0 p1 (fun r24 M25 => ((p2 = 0 → (bk_X10_kept_25 KX h0 K p1 p2 r24 M25)) ∧ (¬ p2 = 0 → ((p2 = (1 : Int32) → (bk_X10_kept_25 KX h0 K p1 p2 r24 M25)) ∧ (¬ p2 = (1 : Int32) → (KX "java/lang/IndexOutOfBoundsException" M25)))))))
set_option maxRecDepth 100000 in
set_option maxHeartbeats 4000000 in
theorem ct_X10_kept {M : Mm} {KX : String → Mm → Prop} {h0 : Nat} {p1 : Int32} {p2 : Int32} {K : Int32 → Mm → Prop} (h : wp_X10_kept M KX h0 p1 p2 K) : CxG (QI K) yX10_kept cX10_kept 4 (some .int) rm_X10_kept [.ref h0, .int p1, .int p2] M KX := by
  refine ctx_any (QI K) (by decide) (by exact Nat.le_of_ble_eq_true rfl) (fun X hX hQ hnL hnm => ?_)
  rw [show lv_args 0 [.ref h0, .int p1, .int p2] = [(0, va_rf (some h0)), (1, .int p1), (2, .int p2)] by rfl]
  have hX : Ok X cX10_kept RX10 rm_X10_kept := hX
  unfold wp_X10_kept at h
  refine z_aload_n (r := (some h0)) hX dX10_kept_0 rfl 0 rfl ?_
  refine z_iload_n hX dX10_kept_1 rfl 1 rfl ?_
  obtain ⟨hk26, h⟩ := h
  refine zx_callVR (As := [.int p1]) (rest := []) (ci := 10) hX hQ (ct_X10_streamOrThrow h) mw_RX10_165 rfl (by decide) rfl (by rfl) (by unfold RoomC; decide) (by decide) dX10_kept_2 hk26 (fun r24 M25 h => ?_)
  refine z_astore_n (r := r24) hX [(3, va_rf r24), (0, va_rf (some h0)), (1, .int p1), (2, .int p2)] dX10_kept_5 rfl (by rw [hnL]; decide) rfl ?_
  refine z_iload_n hX dX10_kept_6 rfl 3 rfl ?_
  obtain ⟨h1, h2⟩ := h
  refine z_if_eq (tgt := 25) hX dX10_kept_7 (by decide) (fun hc => ?_) (fun hc => ?_)
  · have h := h1 hc
    refine z_loc [1, 2, 3, 0] rfl ?_
    refine z_widen 1 6 (by decide) (by decide) ?_
    exact zb_X10_kept_25 hX hQ hnL h
  · have h := h2 hc
    refine z_iload_n hX dX10_kept_10 rfl 3 rfl ?_
    refine z_iconst (v := (1 : Int32)) hX dX10_kept_11 (by decide) ?_
    obtain ⟨h1, h2⟩ := h
    refine z_icmp_eq (tgt := 25) hX dX10_kept_12 (by decide) (fun hc => ?_) (fun hc => ?_)
    · have h := h1 hc
      refine z_loc [1, 2, 3, 0] rfl ?_
      refine z_widen 1 6 (by decide) (by decide) ?_
      exact zb_X10_kept_25 hX hQ hnL h
    · have h := h2 hc
      exact z_throwS (names := ["java/lang/RuntimeException", "java/lang/Exception"]) (text := "no such side") hX hQ (by decide) (by decide) tk_179.1 tk_179.2 (fun U h => h.2.2.2.1) tg_183 tb_183 to_183 dX10_kept_15 dX10_kept_18 dX10_kept_19 dX10_kept_21 dX10_kept_24 (by decide) (by decide) (by decide) (by decide) h
def rm_X10_out : Room := { frames := 6, cells := 1, slots := 6, locals := 100 }
def wp_X10_out (M : Mm) (KX : String → Mm → Prop) (h0 : Nat) (p1 : Int32) (p2 : Int32) (K : Int64 → Mm → Prop) : Prop := mK M h0 = 11 ∧ ∃ a4, (mR M 642 h0) = some a4 ∧ mK M a4 = 4 ∧ (wp_X3_has M a4 p1 p2 (fun r2 M3 => ((¬ r2 = 0 → mK M3 h0 = 11 ∧ ∃ a11, (mR M3 642 h0) = some a11 ∧ mK M3 a11 = 4 ∧ (wp_X3_get M3 a11 p1 p2 (fun r9 M10 => (K r9 M10)))) ∧ (r2 = 0 → (KX "java/lang/IndexOutOfBoundsException" M3)))))
set_option maxRecDepth 100000 in
set_option maxHeartbeats 4000000 in
theorem ct_X10_out {M : Mm} {KX : String → Mm → Prop} {h0 : Nat} {p1 : Int32} {p2 : Int32} {K : Int64 → Mm → Prop} (h : wp_X10_out M KX h0 p1 p2 K) : CxG (QJ K) yX10_out cX10_out 3 (some .long) rm_X10_out [.ref h0, .int p1, .int p2] M KX := by
  refine ctx_any (QJ K) (by decide) (by exact Nat.le_of_ble_eq_true rfl) (fun X hX hQ hnL hnm => ?_)
  rw [show lv_args 0 [.ref h0, .int p1, .int p2] = [(0, va_rf (some h0)), (1, .int p1), (2, .int p2)] by rfl]
  have hX : Ok X cX10_out RX10 rm_X10_out := hX
  unfold wp_X10_out at h
  refine z_aload_n (r := (some h0)) hX dX10_out_0 rfl 0 rfl ?_
  obtain ⟨hk1, h⟩ := h
  refine gf_RX10_24 (r := (some h0)) hX dX10_out_1 rfl hk1 ?_
  refine z_iload_n hX dX10_out_4 rfl 1 rfl ?_
  refine z_iload_n hX dX10_out_5 rfl 2 rfl ?_
  obtain ⟨a4, ha5, h⟩ := h
  obtain ⟨hk6, h⟩ := h
  refine z_callVI (As := [.int p1, .int p2]) (rest := []) (ci := 3) hX (ct_X3_has h) mw_RX10_213 rfl (by decide) rfl (by rw [ha5]; rfl) (by unfold RoomC; decide) (by decide) dX10_out_6 hk6 (fun r2 M3 h => ?_)
  obtain ⟨h1, h2⟩ := h
  refine z_if_ne (tgt := 22) hX dX10_out_9 (by decide) (fun hc => ?_) (fun hc => ?_)
  · have h := h1 hc
    refine z_aload_n (r := (some h0)) hX dX10_out_22 rfl 0 rfl ?_
    obtain ⟨hk8, h⟩ := h
    refine gf_RX10_24 (r := (some h0)) hX dX10_out_23 rfl hk8 ?_
    refine z_iload_n hX dX10_out_26 rfl 1 rfl ?_
    refine z_iload_n hX dX10_out_27 rfl 2 rfl ?_
    obtain ⟨a11, ha12, h⟩ := h
    obtain ⟨hk13, h⟩ := h
    refine z_callVJ (As := [.int p1, .int p2]) (rest := []) (ci := 3) hX (ct_X3_get h) mw_RX10_219 rfl (by decide) rfl (by rw [ha12]; rfl) (by unfold RoomC; decide) (by decide) dX10_out_28 hk13 (fun r9 M10 h => ?_)
    refine z_widen 1 6 (by decide) (by decide) ?_
    exact x_lret hX hQ dX10_out_31 h
  · have h := h2 hc
    exact z_throwS (names := ["java/lang/RuntimeException", "java/lang/Exception"]) (text := "no such row that is out") hX hQ (by decide) (by decide) tk_179.1 tk_179.2 (fun U h => h.2.2.2.2.1) tg_183 tb_183 to_183 dX10_out_12 dX10_out_15 dX10_out_16 dX10_out_18 dX10_out_21 (by decide) (by decide) (by decide) (by decide) h
def rm_X10_late : Room := { frames := 6, cells := 1, slots := 6, locals := 100 }
def wp_X10_late (M : Mm) (KX : String → Mm → Prop) (h0 : Nat) (p1 : Int32) (p2 : Int32) (K : Int64 → Mm → Prop) : Prop := mK M h0 = 11 ∧ ∃ a4, (mR M 643 h0) = some a4 ∧ mK M a4 = 4 ∧ (wp_X3_has M a4 p1 p2 (fun r2 M3 => ((¬ r2 = 0 → mK M3 h0 = 11 ∧ ∃ a11, (mR M3 643 h0) = some a11 ∧ mK M3 a11 = 4 ∧ (wp_X3_get M3 a11 p1 p2 (fun r9 M10 => (K r9 M10)))) ∧ (r2 = 0 → (KX "java/lang/IndexOutOfBoundsException" M3)))))
set_option maxRecDepth 100000 in
set_option maxHeartbeats 4000000 in
theorem ct_X10_late {M : Mm} {KX : String → Mm → Prop} {h0 : Nat} {p1 : Int32} {p2 : Int32} {K : Int64 → Mm → Prop} (h : wp_X10_late M KX h0 p1 p2 K) : CxG (QJ K) yX10_late cX10_late 3 (some .long) rm_X10_late [.ref h0, .int p1, .int p2] M KX := by
  refine ctx_any (QJ K) (by decide) (by exact Nat.le_of_ble_eq_true rfl) (fun X hX hQ hnL hnm => ?_)
  rw [show lv_args 0 [.ref h0, .int p1, .int p2] = [(0, va_rf (some h0)), (1, .int p1), (2, .int p2)] by rfl]
  have hX : Ok X cX10_late RX10 rm_X10_late := hX
  unfold wp_X10_late at h
  refine z_aload_n (r := (some h0)) hX dX10_late_0 rfl 0 rfl ?_
  obtain ⟨hk1, h⟩ := h
  refine gf_RX10_28 (r := (some h0)) hX dX10_late_1 rfl hk1 ?_
  refine z_iload_n hX dX10_late_4 rfl 1 rfl ?_
  refine z_iload_n hX dX10_late_5 rfl 2 rfl ?_
  obtain ⟨a4, ha5, h⟩ := h
  obtain ⟨hk6, h⟩ := h
  refine z_callVI (As := [.int p1, .int p2]) (rest := []) (ci := 3) hX (ct_X3_has h) mw_RX10_213 rfl (by decide) rfl (by rw [ha5]; rfl) (by unfold RoomC; decide) (by decide) dX10_late_6 hk6 (fun r2 M3 h => ?_)
  obtain ⟨h1, h2⟩ := h
  refine z_if_ne (tgt := 22) hX dX10_late_9 (by decide) (fun hc => ?_) (fun hc => ?_)
  · have h := h1 hc
    refine z_aload_n (r := (some h0)) hX dX10_late_22 rfl 0 rfl ?_
    obtain ⟨hk8, h⟩ := h
    refine gf_RX10_28 (r := (some h0)) hX dX10_late_23 rfl hk8 ?_
    refine z_iload_n hX dX10_late_26 rfl 1 rfl ?_
    refine z_iload_n hX dX10_late_27 rfl 2 rfl ?_
    obtain ⟨a11, ha12, h⟩ := h
    obtain ⟨hk13, h⟩ := h
    refine z_callVJ (As := [.int p1, .int p2]) (rest := []) (ci := 3) hX (ct_X3_get h) mw_RX10_219 rfl (by decide) rfl (by rw [ha12]; rfl) (by unfold RoomC; decide) (by decide) dX10_late_28 hk13 (fun r9 M10 h => ?_)
    refine z_widen 1 6 (by decide) (by decide) ?_
    exact x_lret hX hQ dX10_late_31 h
  · have h := h2 hc
    exact z_throwS (names := ["java/lang/RuntimeException", "java/lang/Exception"]) (text := "no such row that is late") hX hQ (by decide) (by decide) tk_179.1 tk_179.2 (fun U h => h.2.2.2.2.2) tg_183 tb_183 to_183 dX10_late_12 dX10_late_15 dX10_late_16 dX10_late_18 dX10_late_21 (by decide) (by decide) (by decide) (by decide) h
