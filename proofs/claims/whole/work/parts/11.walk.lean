def rm_X10_letter : Room := { frames := 1, cells := 0, slots := 0, locals := 21 }
def bk_X10_letter_18 (h0 : Nat) (K : Int32 → Mm → Prop) (s0 : Int32) (M : Mm) : Prop := (K s0 M)
set_option maxRecDepth 100000 in
set_option maxHeartbeats 4000000 in
theorem zb_X10_letter_18 {X : Cx} {h0 : Nat} {K : Int32 → Mm → Prop} (hX : Ok X cX10_letter RX10 rm_X10_letter) (hQ : Rq X rm_X10_letter (some .int) (QI K)) (hnL : X.2.2.2.2.2.2.2.2.2.2.2.2.2.2 = 3) {s0 : Int32} {M : Mm} (h : bk_X10_letter_18 h0 K s0 M) : Z X M 0 0 18 [] [.int s0] := by
  unfold bk_X10_letter_18 at h
  exact z_iret hX hQ dX10_letter_18 h
def wp_X10_letter (M : Mm) (h0 : Nat) (p1 : Int32) (K : Int32 → Mm → Prop) : Prop := mK M h0 = 11 ∧ ∃ a4, (mR M 641 h0) = some a4 ∧ mK M a4 = 1 ∧ (wp_X0_at M a4 p1 (fun r2 M3 => ((0 ≤ r2 → (bk_X10_letter_18 h0 K r2 M3)) ∧ (¬ 0 ≤ r2 → (bk_X10_letter_18 h0 K (-1 : Int32) M3)))))
set_option maxRecDepth 100000 in
set_option maxHeartbeats 4000000 in
theorem ct_X10_letter {M : Mm} {h0 : Nat} {p1 : Int32} {K : Int32 → Mm → Prop} (h : wp_X10_letter M h0 p1 K) : CtI yX10_letter cX10_letter 3 (some .int) rm_X10_letter [.ref h0, .int p1] M K := by
  refine ct_any (QI K) (by decide) (by exact Nat.le_of_ble_eq_true rfl) (fun X hX hQ hnL hnm => ?_)
  rw [show lv_args 0 [.ref h0, .int p1] = [(0, va_rf (some h0)), (1, .int p1)] by rfl]
  have hX : Ok X cX10_letter RX10 rm_X10_letter := hX
  unfold wp_X10_letter at h
  refine z_aload_n (r := (some h0)) hX dX10_letter_0 rfl 0 rfl ?_
  obtain ⟨hk1, h⟩ := h
  refine gf_RX10_18 (r := (some h0)) hX dX10_letter_1 rfl hk1 ?_
  refine z_iload_n hX dX10_letter_4 rfl 1 rfl ?_
  obtain ⟨a4, ha5, h⟩ := h
  obtain ⟨hk6, h⟩ := h
  refine z_callVI (As := [.int p1]) (rest := []) (ci := 0) hX (ct_X0_at h) mw_RX10_242 rfl (by decide) rfl (by rw [ha5]; rfl) (by unfold RoomC; decide) (by decide) dX10_letter_5 hk6 (fun r2 M3 h => ?_)
  refine z_istore_n hX [(2, .int r2), (0, va_rf (some h0)), (1, .int p1)] dX10_letter_8 rfl (by rw [hnL]; decide) rfl ?_
  refine z_iload_n hX dX10_letter_9 rfl 0 rfl ?_
  obtain ⟨h1, h2⟩ := h
  refine z_if_ge (tgt := 17) hX dX10_letter_10 (by decide) (fun hc => ?_) (fun hc => ?_)
  · have h := h1 hc
    refine z_iload_n hX dX10_letter_17 rfl 0 rfl ?_
    refine z_loc [] rfl ?_
    exact zb_X10_letter_18 hX hQ hnL h
  · have h := h2 hc
    refine z_iconst (v := (-1 : Int32)) hX dX10_letter_13 (by decide) ?_
    refine z_goto (tgt := 18) hX dX10_letter_14 (by decide) ?_
    refine z_loc [] rfl ?_
    exact zb_X10_letter_18 hX hQ hnL h
def rm_X10_streamOrNull : Room := { frames := 0, cells := 0, slots := 0, locals := 0 }
def bk_X10_streamOrNull_22 (h0 : Nat) (K : Option Nat → Mm → Prop) (M : Mm) : Prop := (K none M)
set_option maxRecDepth 100000 in
set_option maxHeartbeats 4000000 in
theorem zb_X10_streamOrNull_22 {X : Cx} {h0 : Nat} {K : Option Nat → Mm → Prop} (hX : Ok X cX10_streamOrNull RX10 rm_X10_streamOrNull) (hQ : Rq X rm_X10_streamOrNull (some (.object "WatermarkJoin$Stream")) (QR K)) (hnL : X.2.2.2.2.2.2.2.2.2.2.2.2.2.2 = 2) {M : Mm} (h : bk_X10_streamOrNull_22 h0 K M) : Z X M 0 0 22 [] [] := by
  unfold bk_X10_streamOrNull_22 at h
  refine z_null hX dX10_streamOrNull_22 ?_
  exact z_aret hX hQ dX10_streamOrNull_23 h
def wp_X10_streamOrNull (M : Mm) (h0 : Nat) (p1 : Int32) (K : Option Nat → Mm → Prop) : Prop := mK M h0 = 11 ∧ (((mR M 644 h0) = none → (bk_X10_streamOrNull_22 h0 K M)) ∧ (∀ a2, (mR M 644 h0) = some a2 → ((p1 < 0 → (bk_X10_streamOrNull_22 h0 K M)) ∧ (¬ p1 < 0 → mK M a2 = 2 ∧ ((p1 < (mI M 69 a2) → ∃ a5, (mR M 66 a2) = some a5 ∧ isA M a5 4 ∧ vp_in p1 (aN M a5) ∧ (K (aR M a5 (p1).toNatClampNeg) M)) ∧ (¬ p1 < (mI M 69 a2) → (bk_X10_streamOrNull_22 h0 K M)))))))
set_option maxRecDepth 100000 in
set_option maxHeartbeats 4000000 in
theorem ct_X10_streamOrNull {M : Mm} {h0 : Nat} {p1 : Int32} {K : Option Nat → Mm → Prop} (h : wp_X10_streamOrNull M h0 p1 K) : CtR yX10_streamOrNull cX10_streamOrNull 2 (some (.object "WatermarkJoin$Stream")) rm_X10_streamOrNull [.ref h0, .int p1] M K := by
  refine ct_any (QR K) (by decide) (by exact Nat.le_of_ble_eq_true rfl) (fun X hX hQ hnL hnm => ?_)
  rw [show lv_args 0 [.ref h0, .int p1] = [(0, va_rf (some h0)), (1, .int p1)] by rfl]
  have hX : Ok X cX10_streamOrNull RX10 rm_X10_streamOrNull := hX
  unfold wp_X10_streamOrNull at h
  refine z_aload_n (r := (some h0)) hX dX10_streamOrNull_0 rfl 0 rfl ?_
  obtain ⟨hk1, h⟩ := h
  refine gf_RX10_31 (r := (some h0)) hX dX10_streamOrNull_1 rfl hk1 ?_
  obtain ⟨h1, h2⟩ := h
  refine z_ifnull (r := (mR M 644 h0)) (tgt := 22) hX dX10_streamOrNull_4 (by decide) (fun hc => ?_) (fun a2 ha3 => ?_)
  · have h := h1 hc
    refine z_loc [] rfl ?_
    exact zb_X10_streamOrNull_22 hX hQ hnL h
  · have h := h2 a2 ha3
    refine z_iload_n hX dX10_streamOrNull_7 rfl 1 rfl ?_
    obtain ⟨h1, h2⟩ := h
    refine z_if_lt (tgt := 22) hX dX10_streamOrNull_8 (by decide) (fun hc => ?_) (fun hc => ?_)
    · have h := h1 hc
      refine z_loc [] rfl ?_
      exact zb_X10_streamOrNull_22 hX hQ hnL h
    · have h := h2 hc
      refine z_iload_n hX dX10_streamOrNull_11 rfl 1 rfl ?_
      refine z_aload_n (r := (some h0)) hX dX10_streamOrNull_12 rfl 0 rfl ?_
      refine gf_RX10_31 (r := (some h0)) hX dX10_streamOrNull_13 rfl hk1 ?_
      obtain ⟨hk4, h⟩ := h
      refine gf_RX10_73 (r := (mR M 644 h0)) hX dX10_streamOrNull_16 ha3 hk4 ?_
      obtain ⟨h1, h2⟩ := h
      refine z_icmp_lt (tgt := 24) hX dX10_streamOrNull_19 (by decide) (fun hc => ?_) (fun hc => ?_)
      · have h := h1 hc
        refine z_aload_n (r := (some h0)) hX dX10_streamOrNull_24 rfl 0 rfl ?_
        refine gf_RX10_31 (r := (some h0)) hX dX10_streamOrNull_25 rfl hk1 ?_
        refine gf_RX10_245 (r := (mR M 644 h0)) hX dX10_streamOrNull_28 ha3 hk4 ?_
        refine z_iload_n hX dX10_streamOrNull_31 rfl 1 rfl ?_
        obtain ⟨a5, ha6, h⟩ := h
        obtain ⟨hk7, h⟩ := h
        obtain ⟨hc8, h⟩ := h
        refine y_aldq (r := (mR M 66 a2)) hX dX10_streamOrNull_32 ha6 hk7 hc8 ?_
        exact z_aret hX hQ dX10_streamOrNull_33 h
      · have h := h2 hc
        refine z_loc [] rfl ?_
        exact zb_X10_streamOrNull_22 hX hQ hnL h
def rm_X10_sourceWith : Room := { frames := 1, cells := 0, slots := 0, locals := 21 }
def bk_X10_sourceWith_32 (h0 : Nat) (K : Option Nat → Mm → Prop) (M : Mm) : Prop := (K none M)
set_option maxRecDepth 100000 in
set_option maxHeartbeats 4000000 in
theorem zb_X10_sourceWith_32 {X : Cx} {h0 : Nat} {K : Option Nat → Mm → Prop} (hX : Ok X cX10_sourceWith RX10 rm_X10_sourceWith) (hQ : Rq X rm_X10_sourceWith (some (.object "WatermarkJoin$Stream")) (QR K)) (hnL : X.2.2.2.2.2.2.2.2.2.2.2.2.2.2 = 4) {M : Mm} (h : bk_X10_sourceWith_32 h0 K M) : Z X M 0 0 32 [] [] := by
  unfold bk_X10_sourceWith_32 at h
  refine z_null hX dX10_sourceWith_32 ?_
  exact z_aret hX hQ dX10_sourceWith_33 h
def wp_X10_sourceWith (M : Mm) (h0 : Nat) (p1 : Int32) (p2 : Int32) (K : Option Nat → Mm → Prop) : Prop := mK M h0 = 11 ∧ (wp_X10_streamOrNull M h0 p1 (fun r1 M2 => ((r1 = none → (bk_X10_sourceWith_32 h0 K M2)) ∧ (∀ a5, r1 = some a5 → mK M2 a5 = 7 ∧ (((mR M2 393 a5) = none → (bk_X10_sourceWith_32 h0 K M2)) ∧ (∀ a8, (mR M2 393 a5) = some a8 → ((p2 < 0 → (bk_X10_sourceWith_32 h0 K M2)) ∧ (¬ p2 < 0 → mK M2 a8 = 6 ∧ ((p2 < (mI M2 320 a8) → (K r1 M2)) ∧ (¬ p2 < (mI M2 320 a8) → (bk_X10_sourceWith_32 h0 K M2)))))))))))
set_option maxRecDepth 100000 in
set_option maxHeartbeats 4000000 in
theorem ct_X10_sourceWith {M : Mm} {h0 : Nat} {p1 : Int32} {p2 : Int32} {K : Option Nat → Mm → Prop} (h : wp_X10_sourceWith M h0 p1 p2 K) : CtR yX10_sourceWith cX10_sourceWith 4 (some (.object "WatermarkJoin$Stream")) rm_X10_sourceWith [.ref h0, .int p1, .int p2] M K := by
  refine ct_any (QR K) (by decide) (by exact Nat.le_of_ble_eq_true rfl) (fun X hX hQ hnL hnm => ?_)
  rw [show lv_args 0 [.ref h0, .int p1, .int p2] = [(0, va_rf (some h0)), (1, .int p1), (2, .int p2)] by rfl]
  have hX : Ok X cX10_sourceWith RX10 rm_X10_sourceWith := hX
  unfold wp_X10_sourceWith at h
  refine z_aload_n (r := (some h0)) hX dX10_sourceWith_0 rfl 0 rfl ?_
  refine z_iload_n hX dX10_sourceWith_1 rfl 1 rfl ?_
  obtain ⟨hk3, h⟩ := h
  refine z_callVR (As := [.int p1]) (rest := []) (ci := 10) hX (ct_X10_streamOrNull h) mw_RX10_129 rfl (by decide) rfl (by rfl) (by unfold RoomC; decide) (by decide) dX10_sourceWith_2 hk3 (fun r1 M2 h => ?_)
  refine z_astore_n (r := r1) hX [(3, va_rf r1), (0, va_rf (some h0)), (1, .int p1), (2, .int p2)] dX10_sourceWith_5 rfl (by rw [hnL]; decide) rfl ?_
  refine z_aload_n (r := r1) hX dX10_sourceWith_6 rfl 0 rfl ?_
  obtain ⟨h1, h2⟩ := h
  refine z_ifnull (r := r1) (tgt := 32) hX dX10_sourceWith_7 (by decide) (fun hc => ?_) (fun a5 ha6 => ?_)
  · have h := h1 hc
    refine z_loc [] rfl ?_
    exact zb_X10_sourceWith_32 hX hQ hnL h
  · have h := h2 a5 ha6
    refine z_aload_n (r := r1) hX dX10_sourceWith_10 rfl 0 rfl ?_
    obtain ⟨hk7, h⟩ := h
    refine gf_RX10_88 (r := r1) hX dX10_sourceWith_11 ha6 hk7 ?_
    obtain ⟨h1, h2⟩ := h
    refine z_ifnull (r := (mR M2 393 a5)) (tgt := 32) hX dX10_sourceWith_14 (by decide) (fun hc => ?_) (fun a8 ha9 => ?_)
    · have h := h1 hc
      refine z_loc [] rfl ?_
      exact zb_X10_sourceWith_32 hX hQ hnL h
    · have h := h2 a8 ha9
      refine z_iload_n hX dX10_sourceWith_17 rfl 3 rfl ?_
      obtain ⟨h1, h2⟩ := h
      refine z_if_lt (tgt := 32) hX dX10_sourceWith_18 (by decide) (fun hc => ?_) (fun hc => ?_)
      · have h := h1 hc
        refine z_loc [] rfl ?_
        exact zb_X10_sourceWith_32 hX hQ hnL h
      · have h := h2 hc
        refine z_iload_n hX dX10_sourceWith_21 rfl 3 rfl ?_
        refine z_aload_n (r := r1) hX dX10_sourceWith_22 rfl 0 rfl ?_
        refine gf_RX10_88 (r := r1) hX dX10_sourceWith_23 ha6 hk7 ?_
        obtain ⟨hk10, h⟩ := h
        refine gf_RX10_251 (r := (mR M2 393 a5)) hX dX10_sourceWith_26 ha9 hk10 ?_
        obtain ⟨h1, h2⟩ := h
        refine z_icmp_lt (tgt := 34) hX dX10_sourceWith_29 (by decide) (fun hc => ?_) (fun hc => ?_)
        · have h := h1 hc
          refine z_aload_n (r := r1) hX dX10_sourceWith_34 rfl 0 rfl ?_
          exact z_aret hX hQ dX10_sourceWith_35 h
        · have h := h2 hc
          refine z_loc [] rfl ?_
          exact zb_X10_sourceWith_32 hX hQ hnL h
def rm_X10_isTime : Room := { frames := 0, cells := 0, slots := 0, locals := 0 }
def bk_X10_isTime_21 (K : Int32 → Mm → Prop) (s0 : Int32) (M : Mm) : Prop := (bz s0 ∧ K s0 M)
set_option maxRecDepth 100000 in
set_option maxHeartbeats 4000000 in
theorem zb_X10_isTime_21 {X : Cx} {K : Int32 → Mm → Prop} (hX : Ok X cX10_isTime RX10 rm_X10_isTime) (hQ : Rq X rm_X10_isTime (some .boolean) (QI K)) (hnL : X.2.2.2.2.2.2.2.2.2.2.2.2.2.2 = 2) {s0 : Int32} {M : Mm} (h : bk_X10_isTime_21 K s0 M) : Z X M 0 0 21 [] [.int s0] := by
  unfold bk_X10_isTime_21 at h
  exact y_zret hX hQ dX10_isTime_21 h.1 h.2
def bk_X10_isTime_20 (K : Int32 → Mm → Prop) (M : Mm) : Prop := (bk_X10_isTime_21 K (0 : Int32) M)
set_option maxRecDepth 100000 in
set_option maxHeartbeats 4000000 in
theorem zb_X10_isTime_20 {X : Cx} {K : Int32 → Mm → Prop} (hX : Ok X cX10_isTime RX10 rm_X10_isTime) (hQ : Rq X rm_X10_isTime (some .boolean) (QI K)) (hnL : X.2.2.2.2.2.2.2.2.2.2.2.2.2.2 = 2) {M : Mm} (h : bk_X10_isTime_20 K M) : Z X M 0 0 20 [] [] := by
  unfold bk_X10_isTime_20 at h
  refine z_iconst (v := (0 : Int32)) hX dX10_isTime_20 (by decide) ?_
  exact zb_X10_isTime_21 hX hQ hnL h
def wp_X10_isTime (M : Mm) (p1 : Int64) (K : Int32 → Mm → Prop) : Prop := ((p1 < (-100000000000000000 : Int64) → (bk_X10_isTime_20 K M)) ∧ (¬ p1 < (-100000000000000000 : Int64) → (((100000000000000000 : Int64) < p1 → (bk_X10_isTime_20 K M)) ∧ (¬ (100000000000000000 : Int64) < p1 → (bk_X10_isTime_21 K (1 : Int32) M)))))
set_option maxRecDepth 100000 in
set_option maxHeartbeats 4000000 in
theorem ct_X10_isTime {M : Mm} {p1 : Int64} {K : Int32 → Mm → Prop} (h : wp_X10_isTime M p1 K) : CtI yX10_isTime cX10_isTime 2 (some .boolean) rm_X10_isTime [.long p1] M K := by
  refine ct_any (QI K) (by decide) (by exact Nat.le_of_ble_eq_true rfl) (fun X hX hQ hnL hnm => ?_)
  rw [show lv_args 0 [.long p1] = [(0, .long p1)] by rfl]
  have hX : Ok X cX10_isTime RX10 rm_X10_isTime := hX
  unfold wp_X10_isTime at h
  refine z_lload_n hX dX10_isTime_0 rfl 0 rfl ?_
  refine z_ldc2 (v := (-100000000000000000 : Int64)) hX dX10_isTime_1 kj_RX10_254 ?_
  refine z_lcmp hX dX10_isTime_4 ?_
  obtain ⟨h1, h2⟩ := h
  refine z_if_lt (tgt := 20) hX dX10_isTime_5 (by decide) (fun hc => ?_) (fun hc => ?_)
  · have h := h1 ((lg_cmp_lt _ _).mp hc)
    refine z_loc [] rfl ?_
    exact zb_X10_isTime_20 hX hQ hnL h
  · have h := h2 (fun q => hc ((lg_cmp_lt _ _).mpr q))
    refine z_lload_n hX dX10_isTime_8 rfl 0 rfl ?_
    refine z_ldc2 (v := (100000000000000000 : Int64)) hX dX10_isTime_9 kj_RX10_256 ?_
    refine z_lcmp hX dX10_isTime_12 ?_
    obtain ⟨h1, h2⟩ := h
    refine z_if_gt (tgt := 20) hX dX10_isTime_13 (by decide) (fun hc => ?_) (fun hc => ?_)
    · have h := h1 ((lg_cmp_gt _ _).mp hc)
      refine z_loc [] rfl ?_
      exact zb_X10_isTime_20 hX hQ hnL h
    · have h := h2 (fun q => hc ((lg_cmp_gt _ _).mpr q))
      refine z_iconst (v := (1 : Int32)) hX dX10_isTime_16 (by decide) ?_
      refine z_goto (tgt := 21) hX dX10_isTime_17 (by decide) ?_
      refine z_loc [] rfl ?_
      exact zb_X10_isTime_21 hX hQ hnL h
def rm_X10_isKey : Room := { frames := 0, cells := 0, slots := 0, locals := 0 }
def bk_X10_isKey_15 (K : Int32 → Mm → Prop) (s0 : Int32) (M : Mm) : Prop := (bz s0 ∧ K s0 M)
set_option maxRecDepth 100000 in
set_option maxHeartbeats 4000000 in
theorem zb_X10_isKey_15 {X : Cx} {K : Int32 → Mm → Prop} (hX : Ok X cX10_isKey RX10 rm_X10_isKey) (hQ : Rq X rm_X10_isKey (some .boolean) (QI K)) (hnL : X.2.2.2.2.2.2.2.2.2.2.2.2.2.2 = 1) {s0 : Int32} {M : Mm} (h : bk_X10_isKey_15 K s0 M) : Z X M 0 0 15 [] [.int s0] := by
  unfold bk_X10_isKey_15 at h
  exact y_zret hX hQ dX10_isKey_15 h.1 h.2
def bk_X10_isKey_14 (K : Int32 → Mm → Prop) (M : Mm) : Prop := (bk_X10_isKey_15 K (0 : Int32) M)
set_option maxRecDepth 100000 in
set_option maxHeartbeats 4000000 in
theorem zb_X10_isKey_14 {X : Cx} {K : Int32 → Mm → Prop} (hX : Ok X cX10_isKey RX10 rm_X10_isKey) (hQ : Rq X rm_X10_isKey (some .boolean) (QI K)) (hnL : X.2.2.2.2.2.2.2.2.2.2.2.2.2.2 = 1) {M : Mm} (h : bk_X10_isKey_14 K M) : Z X M 0 0 14 [] [] := by
  unfold bk_X10_isKey_14 at h
  refine z_iconst (v := (0 : Int32)) hX dX10_isKey_14 (by decide) ?_
  exact zb_X10_isKey_15 hX hQ hnL h
def wp_X10_isKey (M : Mm) (p1 : Int32) (K : Int32 → Mm → Prop) : Prop := ((p1 < 0 → (bk_X10_isKey_14 K M)) ∧ (¬ p1 < 0 → (((9 : Int32) < p1 → (bk_X10_isKey_14 K M)) ∧ (¬ (9 : Int32) < p1 → (bk_X10_isKey_15 K (1 : Int32) M)))))
set_option maxRecDepth 100000 in
set_option maxHeartbeats 4000000 in
theorem ct_X10_isKey {M : Mm} {p1 : Int32} {K : Int32 → Mm → Prop} (h : wp_X10_isKey M p1 K) : CtI yX10_isKey cX10_isKey 1 (some .boolean) rm_X10_isKey [.int p1] M K := by
  refine ct_any (QI K) (by decide) (by exact Nat.le_of_ble_eq_true rfl) (fun X hX hQ hnL hnm => ?_)
  rw [show lv_args 0 [.int p1] = [(0, .int p1)] by rfl]
  have hX : Ok X cX10_isKey RX10 rm_X10_isKey := hX
  unfold wp_X10_isKey at h
  refine z_iload_n hX dX10_isKey_0 rfl 0 rfl ?_
  obtain ⟨h1, h2⟩ := h
  refine z_if_lt (tgt := 14) hX dX10_isKey_1 (by decide) (fun hc => ?_) (fun hc => ?_)
  · have h := h1 hc
    refine z_loc [] rfl ?_
    exact zb_X10_isKey_14 hX hQ hnL h
  · have h := h2 hc
    refine z_iload_n hX dX10_isKey_4 rfl 0 rfl ?_
    refine z_bipush (v := (9 : Int32)) hX dX10_isKey_5 (by decide) ?_
    obtain ⟨h1, h2⟩ := h
    refine z_icmp_gt (tgt := 14) hX dX10_isKey_7 (by decide) (fun hc => ?_) (fun hc => ?_)
    · have h := h1 hc
      refine z_loc [] rfl ?_
      exact zb_X10_isKey_14 hX hQ hnL h
    · have h := h2 hc
      refine z_iconst (v := (1 : Int32)) hX dX10_isKey_10 (by decide) ?_
      refine z_goto (tgt := 15) hX dX10_isKey_11 (by decide) ?_
      refine z_loc [] rfl ?_
      exact zb_X10_isKey_15 hX hQ hnL h
def rm_X10_together : Room := { frames := 1, cells := 0, slots := 0, locals := 23 }
def bk_X10_together_16 (K : Int64 → Mm → Prop) (l0 : Int64) (M : Mm) : Prop := (K l0 M)
set_option maxRecDepth 100000 in
set_option maxHeartbeats 4000000 in
theorem zb_X10_together_16 {X : Cx} {K : Int64 → Mm → Prop} (hX : Ok X cX10_together RX10 rm_X10_together) (hQ : Rq X rm_X10_together (some .long) (QJ K)) (hnL : X.2.2.2.2.2.2.2.2.2.2.2.2.2.2 = 4) {l0 : Int64} {M : Mm} (h : bk_X10_together_16 K l0 M) : Z X M 0 0 16 [(0, .long l0)] [] := by
  unfold bk_X10_together_16 at h
  refine z_lload_n hX dX10_together_16 rfl 0 rfl ?_
  exact z_lret hX hQ dX10_together_17 h
def wp_X10_together (M : Mm) (p1 : Int64) (p2 : Int64) (K : Int64 → Mm → Prop) : Prop := ((p1 = (-9000000000000000000 : Int64) → (bk_X10_together_16 K p1 M)) ∧ (¬ p1 = (-9000000000000000000 : Int64) → ((¬ p1 = (9000000000000000000 : Int64) → (K (if (if (p1 + p2) < (8000000000000000000 : Int64) then (p1 + p2) else (8000000000000000000 : Int64)) < (-8000000000000000000 : Int64) then (-8000000000000000000 : Int64) else (if (p1 + p2) < (8000000000000000000 : Int64) then (p1 + p2) else (8000000000000000000 : Int64))) M)) ∧ (p1 = (9000000000000000000 : Int64) → (bk_X10_together_16 K p1 M)))))
set_option maxRecDepth 100000 in
set_option maxHeartbeats 4000000 in
theorem ct_X10_together {M : Mm} {p1 : Int64} {p2 : Int64} {K : Int64 → Mm → Prop} (h : wp_X10_together M p1 p2 K) : CtJ yX10_together cX10_together 4 (some .long) rm_X10_together [.long p1, .long p2] M K := by
  refine ct_any (QJ K) (by decide) (by exact Nat.le_of_ble_eq_true rfl) (fun X hX hQ hnL hnm => ?_)
  rw [show lv_args 0 [.long p1, .long p2] = [(0, .long p1), (2, .long p2)] by rfl]
  have hX : Ok X cX10_together RX10 rm_X10_together := hX
  unfold wp_X10_together at h
  refine z_lload_n hX dX10_together_0 rfl 0 rfl ?_
  refine z_ldc2 (v := (-9000000000000000000 : Int64)) hX dX10_together_1 kj_RX10_258 ?_
  refine z_lcmp hX dX10_together_4 ?_
  obtain ⟨h1, h2⟩ := h
  refine z_if_eq (tgt := 16) hX dX10_together_5 (by decide) (fun hc => ?_) (fun hc => ?_)
  · have h := h1 ((lg_cmp_eq _ _).mp hc)
    refine z_loc [0] rfl ?_
    exact zb_X10_together_16 hX hQ hnL h
  · have h := h2 (fun q => hc ((lg_cmp_eq _ _).mpr q))
    refine z_lload_n hX dX10_together_8 rfl 0 rfl ?_
    refine z_ldc2 (v := (9000000000000000000 : Int64)) hX dX10_together_9 kj_RX10_260 ?_
    refine z_lcmp hX dX10_together_12 ?_
    obtain ⟨h1, h2⟩ := h
    refine z_if_ne (tgt := 18) hX dX10_together_13 (by decide) (fun hc => ?_) (fun hc => ?_)
    · have h := h1 (fun q => hc ((lg_cmp_eq _ _).mpr q))
      refine z_ldc2 (v := (-8000000000000000000 : Int64)) hX dX10_together_18 kj_RX10_262 ?_
      refine z_ldc2 (v := (8000000000000000000 : Int64)) hX dX10_together_21 kj_RX10_264 ?_
      refine z_lload_n hX dX10_together_24 rfl 0 rfl ?_
      refine z_lload_n hX dX10_together_25 rfl 1 rfl ?_
      refine z_ladd hX dX10_together_26 ?_
      refine mw_RX10_266 hX dX10_together_27 (by decide) (by simp only [List.map_cons, List.map_nil, List.sum_cons, List.sum_nil, cat_rf, cat_i, cat_j]; decide) (by decide) (by decide) ?_
      refine mw_RX10_272 hX dX10_together_30 (by decide) (by decide) (by decide) (by decide) ?_
      exact z_lret hX hQ dX10_together_33 h
    · have h := h2 ((lg_cmp_eq _ _).mp hc)
      refine z_loc [0] rfl ?_
      exact zb_X10_together_16 hX hQ hnL h
def rm_X11_init : Room := { frames := 1, cells := 36, slots := 6206, locals := 20 }
def wp_X11_init (M : Mm) (h0 : Nat) (K : Mm → Prop) : Prop := (∀ q1, mK M q1 = 0 → mK (na M q1 120 600) h0 = 12 ∧ (∀ q6, mK (sR (na M q1 120 600) 705 h0 (some q1)) q6 = 0 → mK (na (sR (na M q1 120 600) 705 h0 (some q1)) q6 129 24) h0 = 12 ∧ (∀ q11, mK (sR (na (sR (na M q1 120 600) 705 h0 (some q1)) q6 129 24) 715 h0 (some q6)) q11 = 0 → mK (na (sR (na (sR (na M q1 120 600) 705 h0 (some q1)) q6 129 24) 715 h0 (some q6)) q11 138 24) h0 = 12 ∧ (∀ q16, mK (sR (na (sR (na (sR (na M q1 120 600) 705 h0 (some q1)) q6 129 24) 715 h0 (some q6)) q11 138 24) 716 h0 (some q11)) q16 = 0 → mK (na (sR (na (sR (na (sR (na M q1 120 600) 705 h0 (some q1)) q6 129 24) 715 h0 (some q6)) q11 138 24) 716 h0 (some q11)) q16 145 24) h0 = 12 ∧ (∀ q21, mK (sR (na (sR (na (sR (na (sR (na M q1 120 600) 705 h0 (some q1)) q6 129 24) 715 h0 (some q6)) q11 138 24) 716 h0 (some q11)) q16 145 24) 717 h0 (some q16)) q21 = 0 → mK (na (sR (na (sR (na (sR (na (sR (na M q1 120 600) 705 h0 (some q1)) q6 129 24) 715 h0 (some q6)) q11 138 24) 716 h0 (some q11)) q16 145 24) 717 h0 (some q16)) q21 153 24) h0 = 12 ∧ (∀ q26, mK (sR (na (sR (na (sR (na (sR (na (sR (na M q1 120 600) 705 h0 (some q1)) q6 129 24) 715 h0 (some q6)) q11 138 24) 716 h0 (some q11)) q16 145 24) 717 h0 (some q16)) q21 153 24) 718 h0 (some q21)) q26 = 0 → mK (na (sR (na (sR (na (sR (na (sR (na (sR (na M q1 120 600) 705 h0 (some q1)) q6 129 24) 715 h0 (some q6)) q11 138 24) 716 h0 (some q11)) q16 145 24) 717 h0 (some q16)) q21 153 24) 718 h0 (some q21)) q26 163 24) h0 = 12 ∧ (∀ q31, mK (sR (na (sR (na (sR (na (sR (na (sR (na (sR (na M q1 120 600) 705 h0 (some q1)) q6 129 24) 715 h0 (some q6)) q11 138 24) 716 h0 (some q11)) q16 145 24) 717 h0 (some q16)) q21 153 24) 718 h0 (some q21)) q26 163 24) 719 h0 (some q26)) q31 = 0 → mK (na (sR (na (sR (na (sR (na (sR (na (sR (na (sR (na M q1 120 600) 705 h0 (some q1)) q6 129 24) 715 h0 (some q6)) q11 138 24) 716 h0 (some q11)) q16 145 24) 717 h0 (some q16)) q21 153 24) 718 h0 (some q21)) q26 163 24) 719 h0 (some q26)) q31 170 24) h0 = 12 ∧ (∀ q36, mK (sR (na (sR (na (sR (na (sR (na (sR (na (sR (na (sR (na M q1 120 600) 705 h0 (some q1)) q6 129 24) 715 h0 (some q6)) q11 138 24) 716 h0 (some q11)) q16 145 24) 717 h0 (some q16)) q21 153 24) 718 h0 (some q21)) q26 163 24) 719 h0 (some q26)) q31 170 24) 720 h0 (some q31)) q36 = 0 → mK (na (sR (na (sR (na (sR (na (sR (na (sR (na (sR (na (sR (na M q1 120 600) 705 h0 (some q1)) q6 129 24) 715 h0 (some q6)) q11 138 24) 716 h0 (some q11)) q16 145 24) 717 h0 (some q16)) q21 153 24) 718 h0 (some q21)) q26 163 24) 719 h0 (some q26)) q31 170 24) 720 h0 (some q31)) q36 178 24) h0 = 12 ∧ (∀ q41, mK (sR (na (sR (na (sR (na (sR (na (sR (na (sR (na (sR (na (sR (na M q1 120 600) 705 h0 (some q1)) q6 129 24) 715 h0 (some q6)) q11 138 24) 716 h0 (some q11)) q16 145 24) 717 h0 (some q16)) q21 153 24) 718 h0 (some q21)) q26 163 24) 719 h0 (some q26)) q31 170 24) 720 h0 (some q31)) q36 178 24) 721 h0 (some q36)) q41 = 0 → mK (na (sR (na (sR (na (sR (na (sR (na (sR (na (sR (na (sR (na (sR (na M q1 120 600) 705 h0 (some q1)) q6 129 24) 715 h0 (some q6)) q11 138 24) 716 h0 (some q11)) q16 145 24) 717 h0 (some q16)) q21 153 24) 718 h0 (some q21)) q26 163 24) 719 h0 (some q26)) q31 170 24) 720 h0 (some q31)) q36 178 24) 721 h0 (some q36)) q41 185 24) h0 = 12 ∧ (∀ q46, mK (sR (na (sR (na (sR (na (sR (na (sR (na (sR (na (sR (na (sR (na (sR (na M q1 120 600) 705 h0 (some q1)) q6 129 24) 715 h0 (some q6)) q11 138 24) 716 h0 (some q11)) q16 145 24) 717 h0 (some q16)) q21 153 24) 718 h0 (some q21)) q26 163 24) 719 h0 (some q26)) q31 170 24) 720 h0 (some q31)) q36 178 24) 721 h0 (some q36)) q41 185 24) 722 h0 (some q41)) q46 = 0 → mK (na (sR (na (sR (na (sR (na (sR (na (sR (na (sR (na (sR (na (sR (na (sR (na M q1 120 600) 705 h0 (some q1)) q6 129 24) 715 h0 (some q6)) q11 138 24) 716 h0 (some q11)) q16 145 24) 717 h0 (some q16)) q21 153 24) 718 h0 (some q21)) q26 163 24) 719 h0 (some q26)) q31 170 24) 720 h0 (some q31)) q36 178 24) 721 h0 (some q36)) q41 185 24) 722 h0 (some q41)) q46 193 24) h0 = 12 ∧ (∀ q51, mK (sR (na (sR (na (sR (na (sR (na (sR (na (sR (na (sR (na (sR (na (sR (na (sR (na M q1 120 600) 705 h0 (some q1)) q6 129 24) 715 h0 (some q6)) q11 138 24) 716 h0 (some q11)) q16 145 24) 717 h0 (some q16)) q21 153 24) 718 h0 (some q21)) q26 163 24) 719 h0 (some q26)) q31 170 24) 720 h0 (some q31)) q36 178 24) 721 h0 (some q36)) q41 185 24) 722 h0 (some q41)) q46 193 24) 723 h0 (some q46)) q51 = 0 → mK (na (sR (na (sR (na (sR (na (sR (na (sR (na (sR (na (sR (na (sR (na (sR (na (sR (na M q1 120 600) 705 h0 (some q1)) q6 129 24) 715 h0 (some q6)) q11 138 24) 716 h0 (some q11)) q16 145 24) 717 h0 (some q16)) q21 153 24) 718 h0 (some q21)) q26 163 24) 719 h0 (some q26)) q31 170 24) 720 h0 (some q31)) q36 178 24) 721 h0 (some q36)) q41 185 24) 722 h0 (some q41)) q46 193 24) 723 h0 (some q46)) q51 201 24) h0 = 12 ∧ (∀ q56, mK (sR (na (sR (na (sR (na (sR (na (sR (na (sR (na (sR (na (sR (na (sR (na (sR (na (sR (na M q1 120 600) 705 h0 (some q1)) q6 129 24) 715 h0 (some q6)) q11 138 24) 716 h0 (some q11)) q16 145 24) 717 h0 (some q16)) q21 153 24) 718 h0 (some q21)) q26 163 24) 719 h0 (some q26)) q31 170 24) 720 h0 (some q31)) q36 178 24) 721 h0 (some q36)) q41 185 24) 722 h0 (some q41)) q46 193 24) 723 h0 (some q46)) q51 201 24) 724 h0 (some q51)) q56 = 0 → mK (na (sR (na (sR (na (sR (na (sR (na (sR (na (sR (na (sR (na (sR (na (sR (na (sR (na (sR (na M q1 120 600) 705 h0 (some q1)) q6 129 24) 715 h0 (some q6)) q11 138 24) 716 h0 (some q11)) q16 145 24) 717 h0 (some q16)) q21 153 24) 718 h0 (some q21)) q26 163 24) 719 h0 (some q26)) q31 170 24) 720 h0 (some q31)) q36 178 24) 721 h0 (some q36)) q41 185 24) 722 h0 (some q41)) q46 193 24) 723 h0 (some q46)) q51 201 24) 724 h0 (some q51)) q56 209 96) h0 = 12 ∧ (∀ q61, mK (sR (na (sR (na (sR (na (sR (na (sR (na (sR (na (sR (na (sR (na (sR (na (sR (na (sR (na (sR (na M q1 120 600) 705 h0 (some q1)) q6 129 24) 715 h0 (some q6)) q11 138 24) 716 h0 (some q11)) q16 145 24) 717 h0 (some q16)) q21 153 24) 718 h0 (some q21)) q26 163 24) 719 h0 (some q26)) q31 170 24) 720 h0 (some q31)) q36 178 24) 721 h0 (some q36)) q41 185 24) 722 h0 (some q41)) q46 193 24) 723 h0 (some q46)) q51 201 24) 724 h0 (some q51)) q56 209 96) 725 h0 (some q56)) q61 = 0 → mK (na (sR (na (sR (na (sR (na (sR (na (sR (na (sR (na (sR (na (sR (na (sR (na (sR (na (sR (na (sR (na M q1 120 600) 705 h0 (some q1)) q6 129 24) 715 h0 (some q6)) q11 138 24) 716 h0 (some q11)) q16 145 24) 717 h0 (some q16)) q21 153 24) 718 h0 (some q21)) q26 163 24) 719 h0 (some q26)) q31 170 24) 720 h0 (some q31)) q36 178 24) 721 h0 (some q36)) q41 185 24) 722 h0 (some q41)) q46 193 24) 723 h0 (some q46)) q51 201 24) 724 h0 (some q51)) q56 209 96) 725 h0 (some q56)) q61 217 24) h0 = 12 ∧ (∀ q66, mK (sR (na (sR (na (sR (na (sR (na (sR (na (sR (na (sR (na (sR (na (sR (na (sR (na (sR (na (sR (na (sR (na M q1 120 600) 705 h0 (some q1)) q6 129 24) 715 h0 (some q6)) q11 138 24) 716 h0 (some q11)) q16 145 24) 717 h0 (some q16)) q21 153 24) 718 h0 (some q21)) q26 163 24) 719 h0 (some q26)) q31 170 24) 720 h0 (some q31)) q36 178 24) 721 h0 (some q36)) q41 185 24) 722 h0 (some q41)) q46 193 24) 723 h0 (some q46)) q51 201 24) 724 h0 (some q51)) q56 209 96) 725 h0 (some q56)) q61 217 24) 726 h0 (some q61)) q66 = 0 → mK (na (sR (na (sR (na (sR (na (sR (na (sR (na (sR (na (sR (na (sR (na (sR (na (sR (na (sR (na (sR (na (sR (na M q1 120 600) 705 h0 (some q1)) q6 129 24) 715 h0 (some q6)) q11 138 24) 716 h0 (some q11)) q16 145 24) 717 h0 (some q16)) q21 153 24) 718 h0 (some q21)) q26 163 24) 719 h0 (some q26)) q31 170 24) 720 h0 (some q31)) q36 178 24) 721 h0 (some q36)) q41 185 24) 722 h0 (some q41)) q46 193 24) 723 h0 (some q46)) q51 201 24) 724 h0 (some q51)) q56 209 96) 725 h0 (some q56)) q61 217 24) 726 h0 (some q61)) q66 227 8) h0 = 12 ∧ (∀ q71, mK (sR (na (sR (na (sR (na (sR (na (sR (na (sR (na (sR (na (sR (na (sR (na (sR (na (sR (na (sR (na (sR (na (sR (na M q1 120 600) 705 h0 (some q1)) q6 129 24) 715 h0 (some q6)) q11 138 24) 716 h0 (some q11)) q16 145 24) 717 h0 (some q16)) q21 153 24) 718 h0 (some q21)) q26 163 24) 719 h0 (some q26)) q31 170 24) 720 h0 (some q31)) q36 178 24) 721 h0 (some q36)) q41 185 24) 722 h0 (some q41)) q46 193 24) 723 h0 (some q46)) q51 201 24) 724 h0 (some q51)) q56 209 96) 725 h0 (some q56)) q61 217 24) 726 h0 (some q61)) q66 227 8) 727 h0 (some q66)) q71 = 0 → mK (na (sR (na (sR (na (sR (na (sR (na (sR (na (sR (na (sR (na (sR (na (sR (na (sR (na (sR (na (sR (na (sR (na (sR (na M q1 120 600) 705 h0 (some q1)) q6 129 24) 715 h0 (some q6)) q11 138 24) 716 h0 (some q11)) q16 145 24) 717 h0 (some q16)) q21 153 24) 718 h0 (some q21)) q26 163 24) 719 h0 (some q26)) q31 170 24) 720 h0 (some q31)) q36 178 24) 721 h0 (some q36)) q41 185 24) 722 h0 (some q41)) q46 193 24) 723 h0 (some q46)) q51 201 24) 724 h0 (some q51)) q56 209 96) 725 h0 (some q56)) q61 217 24) 726 h0 (some q61)) q66 227 8) 727 h0 (some q66)) q71 234 8) h0 = 12 ∧ (∀ q76, mK (sR (na (sR (na (sR (na (sR (na (sR (na (sR (na (sR (na (sR (na (sR (na (sR (na (sR (na (sR (na (sR (na (sR (na (sR (na M q1 120 600) 705 h0 (some q1)) q6 129 24) 715 h0 (some q6)) q11 138 24) 716 h0 (some q11)) q16 145 24) 717 h0 (some q16)) q21 153 24) 718 h0 (some q21)) q26 163 24) 719 h0 (some q26)) q31 170 24) 720 h0 (some q31)) q36 178 24) 721 h0 (some q36)) q41 185 24) 722 h0 (some q41)) q46 193 24) 723 h0 (some q46)) q51 201 24) 724 h0 (some q51)) q56 209 96) 725 h0 (some q56)) q61 217 24) 726 h0 (some q61)) q66 227 8) 727 h0 (some q66)) q71 234 8) 728 h0 (some q71)) q76 = 0 → mK (na (sR (na (sR (na (sR (na (sR (na (sR (na (sR (na (sR (na (sR (na (sR (na (sR (na (sR (na (sR (na (sR (na (sR (na (sR (na M q1 120 600) 705 h0 (some q1)) q6 129 24) 715 h0 (some q6)) q11 138 24) 716 h0 (some q11)) q16 145 24) 717 h0 (some q16)) q21 153 24) 718 h0 (some q21)) q26 163 24) 719 h0 (some q26)) q31 170 24) 720 h0 (some q31)) q36 178 24) 721 h0 (some q36)) q41 185 24) 722 h0 (some q41)) q46 193 24) 723 h0 (some q46)) q51 201 24) 724 h0 (some q51)) q56 209 96) 725 h0 (some q56)) q61 217 24) 726 h0 (some q61)) q66 227 8) 727 h0 (some q66)) q71 234 8) 728 h0 (some q71)) q76 241 2) h0 = 12 ∧ (∀ q81, mK (sR (na (sR (na (sR (na (sR (na (sR (na (sR (na (sR (na (sR (na (sR (na (sR (na (sR (na (sR (na (sR (na (sR (na (sR (na (sR (na M q1 120 600) 705 h0 (some q1)) q6 129 24) 715 h0 (some q6)) q11 138 24) 716 h0 (some q11)) q16 145 24) 717 h0 (some q16)) q21 153 24) 718 h0 (some q21)) q26 163 24) 719 h0 (some q26)) q31 170 24) 720 h0 (some q31)) q36 178 24) 721 h0 (some q36)) q41 185 24) 722 h0 (some q41)) q46 193 24) 723 h0 (some q46)) q51 201 24) 724 h0 (some q51)) q56 209 96) 725 h0 (some q56)) q61 217 24) 726 h0 (some q61)) q66 227 8) 727 h0 (some q66)) q71 234 8) 728 h0 (some q71)) q76 241 2) 729 h0 (some q76)) q81 = 0 → mK (na (sR (na (sR (na (sR (na (sR (na (sR (na (sR (na (sR (na (sR (na (sR (na (sR (na (sR (na (sR (na (sR (na (sR (na (sR (na (sR (na M q1 120 600) 705 h0 (some q1)) q6 129 24) 715 h0 (some q6)) q11 138 24) 716 h0 (some q11)) q16 145 24) 717 h0 (some q16)) q21 153 24) 718 h0 (some q21)) q26 163 24) 719 h0 (some q26)) q31 170 24) 720 h0 (some q31)) q36 178 24) 721 h0 (some q36)) q41 185 24) 722 h0 (some q41)) q46 193 24) 723 h0 (some q46)) q51 201 24) 724 h0 (some q51)) q56 209 96) 725 h0 (some q56)) q61 217 24) 726 h0 (some q61)) q66 227 8) 727 h0 (some q66)) q71 234 8) 728 h0 (some q71)) q76 241 2) 729 h0 (some q76)) q81 250 12) h0 = 12 ∧ (∀ q86, mK (sR (na (sR (na (sR (na (sR (na (sR (na (sR (na (sR (na (sR (na (sR (na (sR (na (sR (na (sR (na (sR (na (sR (na (sR (na (sR (na (sR (na M q1 120 600) 705 h0 (some q1)) q6 129 24) 715 h0 (some q6)) q11 138 24) 716 h0 (some q11)) q16 145 24) 717 h0 (some q16)) q21 153 24) 718 h0 (some q21)) q26 163 24) 719 h0 (some q26)) q31 170 24) 720 h0 (some q31)) q36 178 24) 721 h0 (some q36)) q41 185 24) 722 h0 (some q41)) q46 193 24) 723 h0 (some q46)) q51 201 24) 724 h0 (some q51)) q56 209 96) 725 h0 (some q56)) q61 217 24) 726 h0 (some q61)) q66 227 8) 727 h0 (some q66)) q71 234 8) 728 h0 (some q71)) q76 241 2) 729 h0 (some q76)) q81 250 12) 733 h0 (some q81)) q86 = 0 → mK (na (sR (na (sR (na (sR (na (sR (na (sR (na (sR (na (sR (na (sR (na (sR (na (sR (na (sR (na (sR (na (sR (na (sR (na (sR (na (sR (na (sR (na M q1 120 600) 705 h0 (some q1)) q6 129 24) 715 h0 (some q6)) q11 138 24) 716 h0 (some q11)) q16 145 24) 717 h0 (some q16)) q21 153 24) 718 h0 (some q21)) q26 163 24) 719 h0 (some q26)) q31 170 24) 720 h0 (some q31)) q36 178 24) 721 h0 (some q36)) q41 185 24) 722 h0 (some q41)) q46 193 24) 723 h0 (some q46)) q51 201 24) 724 h0 (some q51)) q56 209 96) 725 h0 (some q56)) q61 217 24) 726 h0 (some q61)) q66 227 8) 727 h0 (some q66)) q71 234 8) 728 h0 (some q71)) q76 241 2) 729 h0 (some q76)) q81 250 12) 733 h0 (some q81)) q86 259 12) h0 = 12 ∧ (∀ q91, mK (sR (na (sR (na (sR (na (sR (na (sR (na (sR (na (sR (na (sR (na (sR (na (sR (na (sR (na (sR (na (sR (na (sR (na (sR (na (sR (na (sR (na (sR (na M q1 120 600) 705 h0 (some q1)) q6 129 24) 715 h0 (some q6)) q11 138 24) 716 h0 (some q11)) q16 145 24) 717 h0 (some q16)) q21 153 24) 718 h0 (some q21)) q26 163 24) 719 h0 (some q26)) q31 170 24) 720 h0 (some q31)) q36 178 24) 721 h0 (some q36)) q41 185 24) 722 h0 (some q41)) q46 193 24) 723 h0 (some q46)) q51 201 24) 724 h0 (some q51)) q56 209 96) 725 h0 (some q56)) q61 217 24) 726 h0 (some q61)) q66 227 8) 727 h0 (some q66)) q71 234 8) 728 h0 (some q71)) q76 241 2) 729 h0 (some q76)) q81 250 12) 733 h0 (some q81)) q86 259 12) 734 h0 (some q86)) q91 = 0 → mK (na (sR (na (sR (na (sR (na (sR (na (sR (na (sR (na (sR (na (sR (na (sR (na (sR (na (sR (na (sR (na (sR (na (sR (na (sR (na (sR (na (sR (na (sR (na M q1 120 600) 705 h0 (some q1)) q6 129 24) 715 h0 (some q6)) q11 138 24) 716 h0 (some q11)) q16 145 24) 717 h0 (some q16)) q21 153 24) 718 h0 (some q21)) q26 163 24) 719 h0 (some q26)) q31 170 24) 720 h0 (some q31)) q36 178 24) 721 h0 (some q36)) q41 185 24) 722 h0 (some q41)) q46 193 24) 723 h0 (some q46)) q51 201 24) 724 h0 (some q51)) q56 209 96) 725 h0 (some q56)) q61 217 24) 726 h0 (some q61)) q66 227 8) 727 h0 (some q66)) q71 234 8) 728 h0 (some q71)) q76 241 2) 729 h0 (some q76)) q81 250 12) 733 h0 (some q81)) q86 259 12) 734 h0 (some q86)) q91 265 48) h0 = 12 ∧ (∀ q96, mK (sR (na (sR (na (sR (na (sR (na (sR (na (sR (na (sR (na (sR (na (sR (na (sR (na (sR (na (sR (na (sR (na (sR (na (sR (na (sR (na (sR (na (sR (na (sR (na M q1 120 600) 705 h0 (some q1)) q6 129 24) 715 h0 (some q6)) q11 138 24) 716 h0 (some q11)) q16 145 24) 717 h0 (some q16)) q21 153 24) 718 h0 (some q21)) q26 163 24) 719 h0 (some q26)) q31 170 24) 720 h0 (some q31)) q36 178 24) 721 h0 (some q36)) q41 185 24) 722 h0 (some q41)) q46 193 24) 723 h0 (some q46)) q51 201 24) 724 h0 (some q51)) q56 209 96) 725 h0 (some q56)) q61 217 24) 726 h0 (some q61)) q66 227 8) 727 h0 (some q66)) q71 234 8) 728 h0 (some q71)) q76 241 2) 729 h0 (some q76)) q81 250 12) 733 h0 (some q81)) q86 259 12) 734 h0 (some q86)) q91 265 48) 735 h0 (some q91)) q96 = 0 → mK (na (sR (na (sR (na (sR (na (sR (na (sR (na (sR (na (sR (na (sR (na (sR (na (sR (na (sR (na (sR (na (sR (na (sR (na (sR (na (sR (na (sR (na (sR (na (sR (na M q1 120 600) 705 h0 (some q1)) q6 129 24) 715 h0 (some q6)) q11 138 24) 716 h0 (some q11)) q16 145 24) 717 h0 (some q16)) q21 153 24) 718 h0 (some q21)) q26 163 24) 719 h0 (some q26)) q31 170 24) 720 h0 (some q31)) q36 178 24) 721 h0 (some q36)) q41 185 24) 722 h0 (some q41)) q46 193 24) 723 h0 (some q46)) q51 201 24) 724 h0 (some q51)) q56 209 96) 725 h0 (some q56)) q61 217 24) 726 h0 (some q61)) q66 227 8) 727 h0 (some q66)) q71 234 8) 728 h0 (some q71)) q76 241 2) 729 h0 (some q76)) q81 250 12) 733 h0 (some q81)) q86 259 12) 734 h0 (some q86)) q91 265 48) 735 h0 (some q91)) q96 274 48) h0 = 12 ∧ (∀ q101, mK (sR (na (sR (na (sR (na (sR (na (sR (na (sR (na (sR (na (sR (na (sR (na (sR (na (sR (na (sR (na (sR (na (sR (na (sR (na (sR (na (sR (na (sR (na (sR (na (sR (na M q1 120 600) 705 h0 (some q1)) q6 129 24) 715 h0 (some q6)) q11 138 24) 716 h0 (some q11)) q16 145 24) 717 h0 (some q16)) q21 153 24) 718 h0 (some q21)) q26 163 24) 719 h0 (some q26)) q31 170 24) 720 h0 (some q31)) q36 178 24) 721 h0 (some q36)) q41 185 24) 722 h0 (some q41)) q46 193 24) 723 h0 (some q46)) q51 201 24) 724 h0 (some q51)) q56 209 96) 725 h0 (some q56)) q61 217 24) 726 h0 (some q61)) q66 227 8) 727 h0 (some q66)) q71 234 8) 728 h0 (some q71)) q76 241 2) 729 h0 (some q76)) q81 250 12) 733 h0 (some q81)) q86 259 12) 734 h0 (some q86)) q91 265 48) 735 h0 (some q91)) q96 274 48) 736 h0 (some q96)) q101 = 0 → mK (na (sR (na (sR (na (sR (na (sR (na (sR (na (sR (na (sR (na (sR (na (sR (na (sR (na (sR (na (sR (na (sR (na (sR (na (sR (na (sR (na (sR (na (sR (na (sR (na (sR (na M q1 120 600) 705 h0 (some q1)) q6 129 24) 715 h0 (some q6)) q11 138 24) 716 h0 (some q11)) q16 145 24) 717 h0 (some q16)) q21 153 24) 718 h0 (some q21)) q26 163 24) 719 h0 (some q26)) q31 170 24) 720 h0 (some q31)) q36 178 24) 721 h0 (some q36)) q41 185 24) 722 h0 (some q41)) q46 193 24) 723 h0 (some q46)) q51 201 24) 724 h0 (some q51)) q56 209 96) 725 h0 (some q56)) q61 217 24) 726 h0 (some q61)) q66 227 8) 727 h0 (some q66)) q71 234 8) 728 h0 (some q71)) q76 241 2) 729 h0 (some q76)) q81 250 12) 733 h0 (some q81)) q86 259 12) 734 h0 (some q86)) q91 265 48) 735 h0 (some q91)) q96 274 48) 736 h0 (some q96)) q101 281 48) h0 = 12 ∧ (∀ q106, mK (sR (na (sR (na (sR (na (sR (na (sR (na (sR (na (sR (na (sR (na (sR (na (sR (na (sR (na (sR (na (sR (na (sR (na (sR (na (sR (na (sR (na (sR (na (sR (na (sR (na (sR (na M q1 120 600) 705 h0 (some q1)) q6 129 24) 715 h0 (some q6)) q11 138 24) 716 h0 (some q11)) q16 145 24) 717 h0 (some q16)) q21 153 24) 718 h0 (some q21)) q26 163 24) 719 h0 (some q26)) q31 170 24) 720 h0 (some q31)) q36 178 24) 721 h0 (some q36)) q41 185 24) 722 h0 (some q41)) q46 193 24) 723 h0 (some q46)) q51 201 24) 724 h0 (some q51)) q56 209 96) 725 h0 (some q56)) q61 217 24) 726 h0 (some q61)) q66 227 8) 727 h0 (some q66)) q71 234 8) 728 h0 (some q71)) q76 241 2) 729 h0 (some q76)) q81 250 12) 733 h0 (some q81)) q86 259 12) 734 h0 (some q86)) q91 265 48) 735 h0 (some q91)) q96 274 48) 736 h0 (some q96)) q101 281 48) 737 h0 (some q101)) q106 = 0 → mK (na (sR (na (sR (na (sR (na (sR (na (sR (na (sR (na (sR (na (sR (na (sR (na (sR (na (sR (na (sR (na (sR (na (sR (na (sR (na (sR (na (sR (na (sR (na (sR (na (sR (na (sR (na M q1 120 600) 705 h0 (some q1)) q6 129 24) 715 h0 (some q6)) q11 138 24) 716 h0 (some q11)) q16 145 24) 717 h0 (some q16)) q21 153 24) 718 h0 (some q21)) q26 163 24) 719 h0 (some q26)) q31 170 24) 720 h0 (some q31)) q36 178 24) 721 h0 (some q36)) q41 185 24) 722 h0 (some q41)) q46 193 24) 723 h0 (some q46)) q51 201 24) 724 h0 (some q51)) q56 209 96) 725 h0 (some q56)) q61 217 24) 726 h0 (some q61)) q66 227 8) 727 h0 (some q66)) q71 234 8) 728 h0 (some q71)) q76 241 2) 729 h0 (some q76)) q81 250 12) 733 h0 (some q81)) q86 259 12) 734 h0 (some q86)) q91 265 48) 735 h0 (some q91)) q96 274 48) 736 h0 (some q96)) q101 281 48) 737 h0 (some q101)) q106 290 1200) h0 = 12 ∧ (∀ q111, mK (sR (na (sR (na (sR (na (sR (na (sR (na (sR (na (sR (na (sR (na (sR (na (sR (na (sR (na (sR (na (sR (na (sR (na (sR (na (sR (na (sR (na (sR (na (sR (na (sR (na (sR (na (sR (na M q1 120 600) 705 h0 (some q1)) q6 129 24) 715 h0 (some q6)) q11 138 24) 716 h0 (some q11)) q16 145 24) 717 h0 (some q16)) q21 153 24) 718 h0 (some q21)) q26 163 24) 719 h0 (some q26)) q31 170 24) 720 h0 (some q31)) q36 178 24) 721 h0 (some q36)) q41 185 24) 722 h0 (some q41)) q46 193 24) 723 h0 (some q46)) q51 201 24) 724 h0 (some q51)) q56 209 96) 725 h0 (some q56)) q61 217 24) 726 h0 (some q61)) q66 227 8) 727 h0 (some q66)) q71 234 8) 728 h0 (some q71)) q76 241 2) 729 h0 (some q76)) q81 250 12) 733 h0 (some q81)) q86 259 12) 734 h0 (some q86)) q91 265 48) 735 h0 (some q91)) q96 274 48) 736 h0 (some q96)) q101 281 48) 737 h0 (some q101)) q106 290 1200) 740 h0 (some q106)) q111 = 0 → mK (na (sR (na (sR (na (sR (na (sR (na (sR (na (sR (na (sR (na (sR (na (sR (na (sR (na (sR (na (sR (na (sR (na (sR (na (sR (na (sR (na (sR (na (sR (na (sR (na (sR (na (sR (na (sR (na M q1 120 600) 705 h0 (some q1)) q6 129 24) 715 h0 (some q6)) q11 138 24) 716 h0 (some q11)) q16 145 24) 717 h0 (some q16)) q21 153 24) 718 h0 (some q21)) q26 163 24) 719 h0 (some q26)) q31 170 24) 720 h0 (some q31)) q36 178 24) 721 h0 (some q36)) q41 185 24) 722 h0 (some q41)) q46 193 24) 723 h0 (some q46)) q51 201 24) 724 h0 (some q51)) q56 209 96) 725 h0 (some q56)) q61 217 24) 726 h0 (some q61)) q66 227 8) 727 h0 (some q66)) q71 234 8) 728 h0 (some q71)) q76 241 2) 729 h0 (some q76)) q81 250 12) 733 h0 (some q81)) q86 259 12) 734 h0 (some q86)) q91 265 48) 735 h0 (some q91)) q96 274 48) 736 h0 (some q96)) q101 281 48) 737 h0 (some q101)) q106 290 1200) 740 h0 (some q106)) q111 298 800) h0 = 12 ∧ (∀ q116, mK (sR (na (sR (na (sR (na (sR (na (sR (na (sR (na (sR (na (sR (na (sR (na (sR (na (sR (na (sR (na (sR (na (sR (na (sR (na (sR (na (sR (na (sR (na (sR (na (sR (na (sR (na (sR (na (sR (na M q1 120 600) 705 h0 (some q1)) q6 129 24) 715 h0 (some q6)) q11 138 24) 716 h0 (some q11)) q16 145 24) 717 h0 (some q16)) q21 153 24) 718 h0 (some q21)) q26 163 24) 719 h0 (some q26)) q31 170 24) 720 h0 (some q31)) q36 178 24) 721 h0 (some q36)) q41 185 24) 722 h0 (some q41)) q46 193 24) 723 h0 (some q46)) q51 201 24) 724 h0 (some q51)) q56 209 96) 725 h0 (some q56)) q61 217 24) 726 h0 (some q61)) q66 227 8) 727 h0 (some q66)) q71 234 8) 728 h0 (some q71)) q76 241 2) 729 h0 (some q76)) q81 250 12) 733 h0 (some q81)) q86 259 12) 734 h0 (some q86)) q91 265 48) 735 h0 (some q91)) q96 274 48) 736 h0 (some q96)) q101 281 48) 737 h0 (some q101)) q106 290 1200) 740 h0 (some q106)) q111 298 800) 742 h0 (some q111)) q116 = 0 → mK (na (sR (na (sR (na (sR (na (sR (na (sR (na (sR (na (sR (na (sR (na (sR (na (sR (na (sR (na (sR (na (sR (na (sR (na (sR (na (sR (na (sR (na (sR (na (sR (na (sR (na (sR (na (sR (na (sR (na M q1 120 600) 705 h0 (some q1)) q6 129 24) 715 h0 (some q6)) q11 138 24) 716 h0 (some q11)) q16 145 24) 717 h0 (some q16)) q21 153 24) 718 h0 (some q21)) q26 163 24) 719 h0 (some q26)) q31 170 24) 720 h0 (some q31)) q36 178 24) 721 h0 (some q36)) q41 185 24) 722 h0 (some q41)) q46 193 24) 723 h0 (some q46)) q51 201 24) 724 h0 (some q51)) q56 209 96) 725 h0 (some q56)) q61 217 24) 726 h0 (some q61)) q66 227 8) 727 h0 (some q66)) q71 234 8) 728 h0 (some q71)) q76 241 2) 729 h0 (some q76)) q81 250 12) 733 h0 (some q81)) q86 259 12) 734 h0 (some q86)) q91 265 48) 735 h0 (some q91)) q96 274 48) 736 h0 (some q96)) q101 281 48) 737 h0 (some q101)) q106 290 1200) 740 h0 (some q106)) q111 298 800) 742 h0 (some q111)) q116 305 12) h0 = 12 ∧ (∀ q121, mK (sR (na (sR (na (sR (na (sR (na (sR (na (sR (na (sR (na (sR (na (sR (na (sR (na (sR (na (sR (na (sR (na (sR (na (sR (na (sR (na (sR (na (sR (na (sR (na (sR (na (sR (na (sR (na (sR (na (sR (na M q1 120 600) 705 h0 (some q1)) q6 129 24) 715 h0 (some q6)) q11 138 24) 716 h0 (some q11)) q16 145 24) 717 h0 (some q16)) q21 153 24) 718 h0 (some q21)) q26 163 24) 719 h0 (some q26)) q31 170 24) 720 h0 (some q31)) q36 178 24) 721 h0 (some q36)) q41 185 24) 722 h0 (some q41)) q46 193 24) 723 h0 (some q46)) q51 201 24) 724 h0 (some q51)) q56 209 96) 725 h0 (some q56)) q61 217 24) 726 h0 (some q61)) q66 227 8) 727 h0 (some q66)) q71 234 8) 728 h0 (some q71)) q76 241 2) 729 h0 (some q76)) q81 250 12) 733 h0 (some q81)) q86 259 12) 734 h0 (some q86)) q91 265 48) 735 h0 (some q91)) q96 274 48) 736 h0 (some q96)) q101 281 48) 737 h0 (some q101)) q106 290 1200) 740 h0 (some q106)) q111 298 800) 742 h0 (some q111)) q116 305 12) 744 h0 (some q116)) q121 = 0 → mK (na (sR (na (sR (na (sR (na (sR (na (sR (na (sR (na (sR (na (sR (na (sR (na (sR (na (sR (na (sR (na (sR (na (sR (na (sR (na (sR (na (sR (na (sR (na (sR (na (sR (na (sR (na (sR (na (sR (na (sR (na M q1 120 600) 705 h0 (some q1)) q6 129 24) 715 h0 (some q6)) q11 138 24) 716 h0 (some q11)) q16 145 24) 717 h0 (some q16)) q21 153 24) 718 h0 (some q21)) q26 163 24) 719 h0 (some q26)) q31 170 24) 720 h0 (some q31)) q36 178 24) 721 h0 (some q36)) q41 185 24) 722 h0 (some q41)) q46 193 24) 723 h0 (some q46)) q51 201 24) 724 h0 (some q51)) q56 209 96) 725 h0 (some q56)) q61 217 24) 726 h0 (some q61)) q66 227 8) 727 h0 (some q66)) q71 234 8) 728 h0 (some q71)) q76 241 2) 729 h0 (some q76)) q81 250 12) 733 h0 (some q81)) q86 259 12) 734 h0 (some q86)) q91 265 48) 735 h0 (some q91)) q96 274 48) 736 h0 (some q96)) q101 281 48) 737 h0 (some q101)) q106 290 1200) 740 h0 (some q106)) q111 298 800) 742 h0 (some q111)) q116 305 12) 744 h0 (some q116)) q121 314 288) h0 = 12 ∧ (∀ q126, mK (sR (na (sR (na (sR (na (sR (na (sR (na (sR (na (sR (na (sR (na (sR (na (sR (na (sR (na (sR (na (sR (na (sR (na (sR (na (sR (na (sR (na (sR (na (sR (na (sR (na (sR (na (sR (na (sR (na (sR (na (sR (na M q1 120 600) 705 h0 (some q1)) q6 129 24) 715 h0 (some q6)) q11 138 24) 716 h0 (some q11)) q16 145 24) 717 h0 (some q16)) q21 153 24) 718 h0 (some q21)) q26 163 24) 719 h0 (some q26)) q31 170 24) 720 h0 (some q31)) q36 178 24) 721 h0 (some q36)) q41 185 24) 722 h0 (some q41)) q46 193 24) 723 h0 (some q46)) q51 201 24) 724 h0 (some q51)) q56 209 96) 725 h0 (some q56)) q61 217 24) 726 h0 (some q61)) q66 227 8) 727 h0 (some q66)) q71 234 8) 728 h0 (some q71)) q76 241 2) 729 h0 (some q76)) q81 250 12) 733 h0 (some q81)) q86 259 12) 734 h0 (some q86)) q91 265 48) 735 h0 (some q91)) q96 274 48) 736 h0 (some q96)) q101 281 48) 737 h0 (some q101)) q106 290 1200) 740 h0 (some q106)) q111 298 800) 742 h0 (some q111)) q116 305 12) 744 h0 (some q116)) q121 314 288) 745 h0 (some q121)) q126 = 0 → mK (na (sR (na (sR (na (sR (na (sR (na (sR (na (sR (na (sR (na (sR (na (sR (na (sR (na (sR (na (sR (na (sR (na (sR (na (sR (na (sR (na (sR (na (sR (na (sR (na (sR (na (sR (na (sR (na (sR (na (sR (na (sR (na M q1 120 600) 705 h0 (some q1)) q6 129 24) 715 h0 (some q6)) q11 138 24) 716 h0 (some q11)) q16 145 24) 717 h0 (some q16)) q21 153 24) 718 h0 (some q21)) q26 163 24) 719 h0 (some q26)) q31 170 24) 720 h0 (some q31)) q36 178 24) 721 h0 (some q36)) q41 185 24) 722 h0 (some q41)) q46 193 24) 723 h0 (some q46)) q51 201 24) 724 h0 (some q51)) q56 209 96) 725 h0 (some q56)) q61 217 24) 726 h0 (some q61)) q66 227 8) 727 h0 (some q66)) q71 234 8) 728 h0 (some q71)) q76 241 2) 729 h0 (some q76)) q81 250 12) 733 h0 (some q81)) q86 259 12) 734 h0 (some q86)) q91 265 48) 735 h0 (some q91)) q96 274 48) 736 h0 (some q96)) q101 281 48) 737 h0 (some q101)) q106 290 1200) 740 h0 (some q106)) q111 298 800) 742 h0 (some q111)) q116 305 12) 744 h0 (some q116)) q121 314 288) 745 h0 (some q121)) q126 321 288) h0 = 12 ∧ (∀ q131, mK (sR (na (sR (na (sR (na (sR (na (sR (na (sR (na (sR (na (sR (na (sR (na (sR (na (sR (na (sR (na (sR (na (sR (na (sR (na (sR (na (sR (na (sR (na (sR (na (sR (na (sR (na (sR (na (sR (na (sR (na (sR (na (sR (na M q1 120 600) 705 h0 (some q1)) q6 129 24) 715 h0 (some q6)) q11 138 24) 716 h0 (some q11)) q16 145 24) 717 h0 (some q16)) q21 153 24) 718 h0 (some q21)) q26 163 24) 719 h0 (some q26)) q31 170 24) 720 h0 (some q31)) q36 178 24) 721 h0 (some q36)) q41 185 24) 722 h0 (some q41)) q46 193 24) 723 h0 (some q46)) q51 201 24) 724 h0 (some q51)) q56 209 96) 725 h0 (some q56)) q61 217 24) 726 h0 (some q61)) q66 227 8) 727 h0 (some q66)) q71 234 8) 728 h0 (some q71)) q76 241 2) 729 h0 (some q76)) q81 250 12) 733 h0 (some q81)) q86 259 12) 734 h0 (some q86)) q91 265 48) 735 h0 (some q91)) q96 274 48) 736 h0 (some q96)) q101 281 48) 737 h0 (some q101)) q106 290 1200) 740 h0 (some q106)) q111 298 800) 742 h0 (some q111)) q116 305 12) 744 h0 (some q116)) q121 314 288) 745 h0 (some q121)) q126 321 288) 746 h0 (some q126)) q131 = 0 → mK (na (sR (na (sR (na (sR (na (sR (na (sR (na (sR (na (sR (na (sR (na (sR (na (sR (na (sR (na (sR (na (sR (na (sR (na (sR (na (sR (na (sR (na (sR (na (sR (na (sR (na (sR (na (sR (na (sR (na (sR (na (sR (na (sR (na M q1 120 600) 705 h0 (some q1)) q6 129 24) 715 h0 (some q6)) q11 138 24) 716 h0 (some q11)) q16 145 24) 717 h0 (some q16)) q21 153 24) 718 h0 (some q21)) q26 163 24) 719 h0 (some q26)) q31 170 24) 720 h0 (some q31)) q36 178 24) 721 h0 (some q36)) q41 185 24) 722 h0 (some q41)) q46 193 24) 723 h0 (some q46)) q51 201 24) 724 h0 (some q51)) q56 209 96) 725 h0 (some q56)) q61 217 24) 726 h0 (some q61)) q66 227 8) 727 h0 (some q66)) q71 234 8) 728 h0 (some q71)) q76 241 2) 729 h0 (some q76)) q81 250 12) 733 h0 (some q81)) q86 259 12) 734 h0 (some q86)) q91 265 48) 735 h0 (some q91)) q96 274 48) 736 h0 (some q96)) q101 281 48) 737 h0 (some q101)) q106 290 1200) 740 h0 (some q106)) q111 298 800) 742 h0 (some q111)) q116 305 12) 744 h0 (some q116)) q121 314 288) 745 h0 (some q121)) q126 321 288) 746 h0 (some q126)) q131 329 288) h0 = 12 ∧ (∀ q136, mK (sR (na (sR (na (sR (na (sR (na (sR (na (sR (na (sR (na (sR (na (sR (na (sR (na (sR (na (sR (na (sR (na (sR (na (sR (na (sR (na (sR (na (sR (na (sR (na (sR (na (sR (na (sR (na (sR (na (sR (na (sR (na (sR (na (sR (na M q1 120 600) 705 h0 (some q1)) q6 129 24) 715 h0 (some q6)) q11 138 24) 716 h0 (some q11)) q16 145 24) 717 h0 (some q16)) q21 153 24) 718 h0 (some q21)) q26 163 24) 719 h0 (some q26)) q31 170 24) 720 h0 (some q31)) q36 178 24) 721 h0 (some q36)) q41 185 24) 722 h0 (some q41)) q46 193 24) 723 h0 (some q46)) q51 201 24) 724 h0 (some q51)) q56 209 96) 725 h0 (some q56)) q61 217 24) 726 h0 (some q61)) q66 227 8) 727 h0 (some q66)) q71 234 8) 728 h0 (some q71)) q76 241 2) 729 h0 (some q76)) q81 250 12) 733 h0 (some q81)) q86 259 12) 734 h0 (some q86)) q91 265 48) 735 h0 (some q91)) q96 274 48) 736 h0 (some q96)) q101 281 48) 737 h0 (some q101)) q106 290 1200) 740 h0 (some q106)) q111 298 800) 742 h0 (some q111)) q116 305 12) 744 h0 (some q116)) q121 314 288) 745 h0 (some q121)) q126 321 288) 746 h0 (some q126)) q131 329 288) 747 h0 (some q131)) q136 = 0 → mK (na (sR (na (sR (na (sR (na (sR (na (sR (na (sR (na (sR (na (sR (na (sR (na (sR (na (sR (na (sR (na (sR (na (sR (na (sR (na (sR (na (sR (na (sR (na (sR (na (sR (na (sR (na (sR (na (sR (na (sR (na (sR (na (sR (na (sR (na M q1 120 600) 705 h0 (some q1)) q6 129 24) 715 h0 (some q6)) q11 138 24) 716 h0 (some q11)) q16 145 24) 717 h0 (some q16)) q21 153 24) 718 h0 (some q21)) q26 163 24) 719 h0 (some q26)) q31 170 24) 720 h0 (some q31)) q36 178 24) 721 h0 (some q36)) q41 185 24) 722 h0 (some q41)) q46 193 24) 723 h0 (some q46)) q51 201 24) 724 h0 (some q51)) q56 209 96) 725 h0 (some q56)) q61 217 24) 726 h0 (some q61)) q66 227 8) 727 h0 (some q66)) q71 234 8) 728 h0 (some q71)) q76 241 2) 729 h0 (some q76)) q81 250 12) 733 h0 (some q81)) q86 259 12) 734 h0 (some q86)) q91 265 48) 735 h0 (some q91)) q96 274 48) 736 h0 (some q96)) q101 281 48) 737 h0 (some q101)) q106 290 1200) 740 h0 (some q106)) q111 298 800) 742 h0 (some q111)) q116 305 12) 744 h0 (some q116)) q121 314 288) 745 h0 (some q121)) q126 321 288) 746 h0 (some q126)) q131 329 288) 747 h0 (some q131)) q136 337 24) h0 = 12 ∧ (∀ q141, mK (sR (na (sR (na (sR (na (sR (na (sR (na (sR (na (sR (na (sR (na (sR (na (sR (na (sR (na (sR (na (sR (na (sR (na (sR (na (sR (na (sR (na (sR (na (sR (na (sR (na (sR (na (sR (na (sR (na (sR (na (sR (na (sR (na (sR (na (sR (na M q1 120 600) 705 h0 (some q1)) q6 129 24) 715 h0 (some q6)) q11 138 24) 716 h0 (some q11)) q16 145 24) 717 h0 (some q16)) q21 153 24) 718 h0 (some q21)) q26 163 24) 719 h0 (some q26)) q31 170 24) 720 h0 (some q31)) q36 178 24) 721 h0 (some q36)) q41 185 24) 722 h0 (some q41)) q46 193 24) 723 h0 (some q46)) q51 201 24) 724 h0 (some q51)) q56 209 96) 725 h0 (some q56)) q61 217 24) 726 h0 (some q61)) q66 227 8) 727 h0 (some q66)) q71 234 8) 728 h0 (some q71)) q76 241 2) 729 h0 (some q76)) q81 250 12) 733 h0 (some q81)) q86 259 12) 734 h0 (some q86)) q91 265 48) 735 h0 (some q91)) q96 274 48) 736 h0 (some q96)) q101 281 48) 737 h0 (some q101)) q106 290 1200) 740 h0 (some q106)) q111 298 800) 742 h0 (some q111)) q116 305 12) 744 h0 (some q116)) q121 314 288) 745 h0 (some q121)) q126 321 288) 746 h0 (some q126)) q131 329 288) 747 h0 (some q131)) q136 337 24) 748 h0 (some q136)) q141 = 0 → mK (na (sR (na (sR (na (sR (na (sR (na (sR (na (sR (na (sR (na (sR (na (sR (na (sR (na (sR (na (sR (na (sR (na (sR (na (sR (na (sR (na (sR (na (sR (na (sR (na (sR (na (sR (na (sR (na (sR (na (sR (na (sR (na (sR (na (sR (na (sR (na M q1 120 600) 705 h0 (some q1)) q6 129 24) 715 h0 (some q6)) q11 138 24) 716 h0 (some q11)) q16 145 24) 717 h0 (some q16)) q21 153 24) 718 h0 (some q21)) q26 163 24) 719 h0 (some q26)) q31 170 24) 720 h0 (some q31)) q36 178 24) 721 h0 (some q36)) q41 185 24) 722 h0 (some q41)) q46 193 24) 723 h0 (some q46)) q51 201 24) 724 h0 (some q51)) q56 209 96) 725 h0 (some q56)) q61 217 24) 726 h0 (some q61)) q66 227 8) 727 h0 (some q66)) q71 234 8) 728 h0 (some q71)) q76 241 2) 729 h0 (some q76)) q81 250 12) 733 h0 (some q81)) q86 259 12) 734 h0 (some q86)) q91 265 48) 735 h0 (some q91)) q96 274 48) 736 h0 (some q96)) q101 281 48) 737 h0 (some q101)) q106 290 1200) 740 h0 (some q106)) q111 298 800) 742 h0 (some q111)) q116 305 12) 744 h0 (some q116)) q121 314 288) 745 h0 (some q121)) q126 321 288) 746 h0 (some q126)) q131 329 288) 747 h0 (some q131)) q136 337 24) 748 h0 (some q136)) q141 346 144) h0 = 12 ∧ (∀ q146, mK (sR (na (sR (na (sR (na (sR (na (sR (na (sR (na (sR (na (sR (na (sR (na (sR (na (sR (na (sR (na (sR (na (sR (na (sR (na (sR (na (sR (na (sR (na (sR (na (sR (na (sR (na (sR (na (sR (na (sR (na (sR (na (sR (na (sR (na (sR (na (sR (na M q1 120 600) 705 h0 (some q1)) q6 129 24) 715 h0 (some q6)) q11 138 24) 716 h0 (some q11)) q16 145 24) 717 h0 (some q16)) q21 153 24) 718 h0 (some q21)) q26 163 24) 719 h0 (some q26)) q31 170 24) 720 h0 (some q31)) q36 178 24) 721 h0 (some q36)) q41 185 24) 722 h0 (some q41)) q46 193 24) 723 h0 (some q46)) q51 201 24) 724 h0 (some q51)) q56 209 96) 725 h0 (some q56)) q61 217 24) 726 h0 (some q61)) q66 227 8) 727 h0 (some q66)) q71 234 8) 728 h0 (some q71)) q76 241 2) 729 h0 (some q76)) q81 250 12) 733 h0 (some q81)) q86 259 12) 734 h0 (some q86)) q91 265 48) 735 h0 (some q91)) q96 274 48) 736 h0 (some q96)) q101 281 48) 737 h0 (some q101)) q106 290 1200) 740 h0 (some q106)) q111 298 800) 742 h0 (some q111)) q116 305 12) 744 h0 (some q116)) q121 314 288) 745 h0 (some q121)) q126 321 288) 746 h0 (some q126)) q131 329 288) 747 h0 (some q131)) q136 337 24) 748 h0 (some q136)) q141 346 144) 749 h0 (some q141)) q146 = 0 → mK (na (sR (na (sR (na (sR (na (sR (na (sR (na (sR (na (sR (na (sR (na (sR (na (sR (na (sR (na (sR (na (sR (na (sR (na (sR (na (sR (na (sR (na (sR (na (sR (na (sR (na (sR (na (sR (na (sR (na (sR (na (sR (na (sR (na (sR (na (sR (na (sR (na M q1 120 600) 705 h0 (some q1)) q6 129 24) 715 h0 (some q6)) q11 138 24) 716 h0 (some q11)) q16 145 24) 717 h0 (some q16)) q21 153 24) 718 h0 (some q21)) q26 163 24) 719 h0 (some q26)) q31 170 24) 720 h0 (some q31)) q36 178 24) 721 h0 (some q36)) q41 185 24) 722 h0 (some q41)) q46 193 24) 723 h0 (some q46)) q51 201 24) 724 h0 (some q51)) q56 209 96) 725 h0 (some q56)) q61 217 24) 726 h0 (some q61)) q66 227 8) 727 h0 (some q66)) q71 234 8) 728 h0 (some q71)) q76 241 2) 729 h0 (some q76)) q81 250 12) 733 h0 (some q81)) q86 259 12) 734 h0 (some q86)) q91 265 48) 735 h0 (some q91)) q96 274 48) 736 h0 (some q96)) q101 281 48) 737 h0 (some q101)) q106 290 1200) 740 h0 (some q106)) q111 298 800) 742 h0 (some q111)) q116 305 12) 744 h0 (some q116)) q121 314 288) 745 h0 (some q121)) q126 321 288) 746 h0 (some q126)) q131 329 288) 747 h0 (some q131)) q136 337 24) 748 h0 (some q136)) q141 346 144) 749 h0 (some q141)) q146 353 144) h0 = 12 ∧ (∀ q151, mK (sR (na (sR (na (sR (na (sR (na (sR (na (sR (na (sR (na (sR (na (sR (na (sR (na (sR (na (sR (na (sR (na (sR (na (sR (na (sR (na (sR (na (sR (na (sR (na (sR (na (sR (na (sR (na (sR (na (sR (na (sR (na (sR (na (sR (na (sR (na (sR (na (sR (na M q1 120 600) 705 h0 (some q1)) q6 129 24) 715 h0 (some q6)) q11 138 24) 716 h0 (some q11)) q16 145 24) 717 h0 (some q16)) q21 153 24) 718 h0 (some q21)) q26 163 24) 719 h0 (some q26)) q31 170 24) 720 h0 (some q31)) q36 178 24) 721 h0 (some q36)) q41 185 24) 722 h0 (some q41)) q46 193 24) 723 h0 (some q46)) q51 201 24) 724 h0 (some q51)) q56 209 96) 725 h0 (some q56)) q61 217 24) 726 h0 (some q61)) q66 227 8) 727 h0 (some q66)) q71 234 8) 728 h0 (some q71)) q76 241 2) 729 h0 (some q76)) q81 250 12) 733 h0 (some q81)) q86 259 12) 734 h0 (some q86)) q91 265 48) 735 h0 (some q91)) q96 274 48) 736 h0 (some q96)) q101 281 48) 737 h0 (some q101)) q106 290 1200) 740 h0 (some q106)) q111 298 800) 742 h0 (some q111)) q116 305 12) 744 h0 (some q116)) q121 314 288) 745 h0 (some q121)) q126 321 288) 746 h0 (some q126)) q131 329 288) 747 h0 (some q131)) q136 337 24) 748 h0 (some q136)) q141 346 144) 749 h0 (some q141)) q146 353 144) 750 h0 (some q146)) q151 = 0 → mK (na (sR (na (sR (na (sR (na (sR (na (sR (na (sR (na (sR (na (sR (na (sR (na (sR (na (sR (na (sR (na (sR (na (sR (na (sR (na (sR (na (sR (na (sR (na (sR (na (sR (na (sR (na (sR (na (sR (na (sR (na (sR (na (sR (na (sR (na (sR (na (sR (na (sR (na M q1 120 600) 705 h0 (some q1)) q6 129 24) 715 h0 (some q6)) q11 138 24) 716 h0 (some q11)) q16 145 24) 717 h0 (some q16)) q21 153 24) 718 h0 (some q21)) q26 163 24) 719 h0 (some q26)) q31 170 24) 720 h0 (some q31)) q36 178 24) 721 h0 (some q36)) q41 185 24) 722 h0 (some q41)) q46 193 24) 723 h0 (some q46)) q51 201 24) 724 h0 (some q51)) q56 209 96) 725 h0 (some q56)) q61 217 24) 726 h0 (some q61)) q66 227 8) 727 h0 (some q66)) q71 234 8) 728 h0 (some q71)) q76 241 2) 729 h0 (some q76)) q81 250 12) 733 h0 (some q81)) q86 259 12) 734 h0 (some q86)) q91 265 48) 735 h0 (some q91)) q96 274 48) 736 h0 (some q96)) q101 281 48) 737 h0 (some q101)) q106 290 1200) 740 h0 (some q106)) q111 298 800) 742 h0 (some q111)) q116 305 12) 744 h0 (some q116)) q121 314 288) 745 h0 (some q121)) q126 321 288) 746 h0 (some q126)) q131 329 288) 747 h0 (some q131)) q136 337 24) 748 h0 (some q136)) q141 346 144) 749 h0 (some q141)) q146 353 144) 750 h0 (some q146)) q151 361 144) h0 = 12 ∧ (∀ q156, mK (sR (na (sR (na (sR (na (sR (na (sR (na (sR (na (sR (na (sR (na (sR (na (sR (na (sR (na (sR (na (sR (na (sR (na (sR (na (sR (na (sR (na (sR (na (sR (na (sR (na (sR (na (sR (na (sR (na (sR (na (sR (na (sR (na (sR (na (sR (na (sR (na (sR (na (sR (na M q1 120 600) 705 h0 (some q1)) q6 129 24) 715 h0 (some q6)) q11 138 24) 716 h0 (some q11)) q16 145 24) 717 h0 (some q16)) q21 153 24) 718 h0 (some q21)) q26 163 24) 719 h0 (some q26)) q31 170 24) 720 h0 (some q31)) q36 178 24) 721 h0 (some q36)) q41 185 24) 722 h0 (some q41)) q46 193 24) 723 h0 (some q46)) q51 201 24) 724 h0 (some q51)) q56 209 96) 725 h0 (some q56)) q61 217 24) 726 h0 (some q61)) q66 227 8) 727 h0 (some q66)) q71 234 8) 728 h0 (some q71)) q76 241 2) 729 h0 (some q76)) q81 250 12) 733 h0 (some q81)) q86 259 12) 734 h0 (some q86)) q91 265 48) 735 h0 (some q91)) q96 274 48) 736 h0 (some q96)) q101 281 48) 737 h0 (some q101)) q106 290 1200) 740 h0 (some q106)) q111 298 800) 742 h0 (some q111)) q116 305 12) 744 h0 (some q116)) q121 314 288) 745 h0 (some q121)) q126 321 288) 746 h0 (some q126)) q131 329 288) 747 h0 (some q131)) q136 337 24) 748 h0 (some q136)) q141 346 144) 749 h0 (some q141)) q146 353 144) 750 h0 (some q146)) q151 361 144) 751 h0 (some q151)) q156 = 0 → mK (na (sR (na (sR (na (sR (na (sR (na (sR (na (sR (na (sR (na (sR (na (sR (na (sR (na (sR (na (sR (na (sR (na (sR (na (sR (na (sR (na (sR (na (sR (na (sR (na (sR (na (sR (na (sR (na (sR (na (sR (na (sR (na (sR (na (sR (na (sR (na (sR (na (sR (na (sR (na M q1 120 600) 705 h0 (some q1)) q6 129 24) 715 h0 (some q6)) q11 138 24) 716 h0 (some q11)) q16 145 24) 717 h0 (some q16)) q21 153 24) 718 h0 (some q21)) q26 163 24) 719 h0 (some q26)) q31 170 24) 720 h0 (some q31)) q36 178 24) 721 h0 (some q36)) q41 185 24) 722 h0 (some q41)) q46 193 24) 723 h0 (some q46)) q51 201 24) 724 h0 (some q51)) q56 209 96) 725 h0 (some q56)) q61 217 24) 726 h0 (some q61)) q66 227 8) 727 h0 (some q66)) q71 234 8) 728 h0 (some q71)) q76 241 2) 729 h0 (some q76)) q81 250 12) 733 h0 (some q81)) q86 259 12) 734 h0 (some q86)) q91 265 48) 735 h0 (some q91)) q96 274 48) 736 h0 (some q96)) q101 281 48) 737 h0 (some q101)) q106 290 1200) 740 h0 (some q106)) q111 298 800) 742 h0 (some q111)) q116 305 12) 744 h0 (some q116)) q121 314 288) 745 h0 (some q121)) q126 321 288) 746 h0 (some q126)) q131 329 288) 747 h0 (some q131)) q136 337 24) 748 h0 (some q136)) q141 346 144) 749 h0 (some q141)) q146 353 144) 750 h0 (some q146)) q151 361 144) 751 h0 (some q151)) q156 369 60) h0 = 12 ∧ (∀ q161, mK (sR (na (sR (na (sR (na (sR (na (sR (na (sR (na (sR (na (sR (na (sR (na (sR (na (sR (na (sR (na (sR (na (sR (na (sR (na (sR (na (sR (na (sR (na (sR (na (sR (na (sR (na (sR (na (sR (na (sR (na (sR (na (sR (na (sR (na (sR (na (sR (na (sR (na (sR (na (sR (na M q1 120 600) 705 h0 (some q1)) q6 129 24) 715 h0 (some q6)) q11 138 24) 716 h0 (some q11)) q16 145 24) 717 h0 (some q16)) q21 153 24) 718 h0 (some q21)) q26 163 24) 719 h0 (some q26)) q31 170 24) 720 h0 (some q31)) q36 178 24) 721 h0 (some q36)) q41 185 24) 722 h0 (some q41)) q46 193 24) 723 h0 (some q46)) q51 201 24) 724 h0 (some q51)) q56 209 96) 725 h0 (some q56)) q61 217 24) 726 h0 (some q61)) q66 227 8) 727 h0 (some q66)) q71 234 8) 728 h0 (some q71)) q76 241 2) 729 h0 (some q76)) q81 250 12) 733 h0 (some q81)) q86 259 12) 734 h0 (some q86)) q91 265 48) 735 h0 (some q91)) q96 274 48) 736 h0 (some q96)) q101 281 48) 737 h0 (some q101)) q106 290 1200) 740 h0 (some q106)) q111 298 800) 742 h0 (some q111)) q116 305 12) 744 h0 (some q116)) q121 314 288) 745 h0 (some q121)) q126 321 288) 746 h0 (some q126)) q131 329 288) 747 h0 (some q131)) q136 337 24) 748 h0 (some q136)) q141 346 144) 749 h0 (some q141)) q146 353 144) 750 h0 (some q146)) q151 361 144) 751 h0 (some q151)) q156 369 60) 753 h0 (some q156)) q161 = 0 → mK (na (sR (na (sR (na (sR (na (sR (na (sR (na (sR (na (sR (na (sR (na (sR (na (sR (na (sR (na (sR (na (sR (na (sR (na (sR (na (sR (na (sR (na (sR (na (sR (na (sR (na (sR (na (sR (na (sR (na (sR (na (sR (na (sR (na (sR (na (sR (na (sR (na (sR (na (sR (na (sR (na M q1 120 600) 705 h0 (some q1)) q6 129 24) 715 h0 (some q6)) q11 138 24) 716 h0 (some q11)) q16 145 24) 717 h0 (some q16)) q21 153 24) 718 h0 (some q21)) q26 163 24) 719 h0 (some q26)) q31 170 24) 720 h0 (some q31)) q36 178 24) 721 h0 (some q36)) q41 185 24) 722 h0 (some q41)) q46 193 24) 723 h0 (some q46)) q51 201 24) 724 h0 (some q51)) q56 209 96) 725 h0 (some q56)) q61 217 24) 726 h0 (some q61)) q66 227 8) 727 h0 (some q66)) q71 234 8) 728 h0 (some q71)) q76 241 2) 729 h0 (some q76)) q81 250 12) 733 h0 (some q81)) q86 259 12) 734 h0 (some q86)) q91 265 48) 735 h0 (some q91)) q96 274 48) 736 h0 (some q96)) q101 281 48) 737 h0 (some q101)) q106 290 1200) 740 h0 (some q106)) q111 298 800) 742 h0 (some q111)) q116 305 12) 744 h0 (some q116)) q121 314 288) 745 h0 (some q121)) q126 321 288) 746 h0 (some q126)) q131 329 288) 747 h0 (some q131)) q136 337 24) 748 h0 (some q136)) q141 346 144) 749 h0 (some q141)) q146 353 144) 750 h0 (some q146)) q151 361 144) 751 h0 (some q151)) q156 369 60) 753 h0 (some q156)) q161 378 60) h0 = 12 ∧ (∀ q166, mK (sR (na (sR (na (sR (na (sR (na (sR (na (sR (na (sR (na (sR (na (sR (na (sR (na (sR (na (sR (na (sR (na (sR (na (sR (na (sR (na (sR (na (sR (na (sR (na (sR (na (sR (na (sR (na (sR (na (sR (na (sR (na (sR (na (sR (na (sR (na (sR (na (sR (na (sR (na (sR (na (sR (na M q1 120 600) 705 h0 (some q1)) q6 129 24) 715 h0 (some q6)) q11 138 24) 716 h0 (some q11)) q16 145 24) 717 h0 (some q16)) q21 153 24) 718 h0 (some q21)) q26 163 24) 719 h0 (some q26)) q31 170 24) 720 h0 (some q31)) q36 178 24) 721 h0 (some q36)) q41 185 24) 722 h0 (some q41)) q46 193 24) 723 h0 (some q46)) q51 201 24) 724 h0 (some q51)) q56 209 96) 725 h0 (some q56)) q61 217 24) 726 h0 (some q61)) q66 227 8) 727 h0 (some q66)) q71 234 8) 728 h0 (some q71)) q76 241 2) 729 h0 (some q76)) q81 250 12) 733 h0 (some q81)) q86 259 12) 734 h0 (some q86)) q91 265 48) 735 h0 (some q91)) q96 274 48) 736 h0 (some q96)) q101 281 48) 737 h0 (some q101)) q106 290 1200) 740 h0 (some q106)) q111 298 800) 742 h0 (some q111)) q116 305 12) 744 h0 (some q116)) q121 314 288) 745 h0 (some q121)) q126 321 288) 746 h0 (some q126)) q131 329 288) 747 h0 (some q131)) q136 337 24) 748 h0 (some q136)) q141 346 144) 749 h0 (some q141)) q146 353 144) 750 h0 (some q146)) q151 361 144) 751 h0 (some q151)) q156 369 60) 753 h0 (some q156)) q161 378 60) 754 h0 (some q161)) q166 = 0 → mK (na (sR (na (sR (na (sR (na (sR (na (sR (na (sR (na (sR (na (sR (na (sR (na (sR (na (sR (na (sR (na (sR (na (sR (na (sR (na (sR (na (sR (na (sR (na (sR (na (sR (na (sR (na (sR (na (sR (na (sR (na (sR (na (sR (na (sR (na (sR (na (sR (na (sR (na (sR (na (sR (na (sR (na M q1 120 600) 705 h0 (some q1)) q6 129 24) 715 h0 (some q6)) q11 138 24) 716 h0 (some q11)) q16 145 24) 717 h0 (some q16)) q21 153 24) 718 h0 (some q21)) q26 163 24) 719 h0 (some q26)) q31 170 24) 720 h0 (some q31)) q36 178 24) 721 h0 (some q36)) q41 185 24) 722 h0 (some q41)) q46 193 24) 723 h0 (some q46)) q51 201 24) 724 h0 (some q51)) q56 209 96) 725 h0 (some q56)) q61 217 24) 726 h0 (some q61)) q66 227 8) 727 h0 (some q66)) q71 234 8) 728 h0 (some q71)) q76 241 2) 729 h0 (some q76)) q81 250 12) 733 h0 (some q81)) q86 259 12) 734 h0 (some q86)) q91 265 48) 735 h0 (some q91)) q96 274 48) 736 h0 (some q96)) q101 281 48) 737 h0 (some q101)) q106 290 1200) 740 h0 (some q106)) q111 298 800) 742 h0 (some q111)) q116 305 12) 744 h0 (some q116)) q121 314 288) 745 h0 (some q121)) q126 321 288) 746 h0 (some q126)) q131 329 288) 747 h0 (some q131)) q136 337 24) 748 h0 (some q136)) q141 346 144) 749 h0 (some q141)) q146 353 144) 750 h0 (some q146)) q151 361 144) 751 h0 (some q151)) q156 369 60) 753 h0 (some q156)) q161 378 60) 754 h0 (some q161)) q166 387 60) h0 = 12 ∧ (∀ q171, mK (sR (na (sR (na (sR (na (sR (na (sR (na (sR (na (sR (na (sR (na (sR (na (sR (na (sR (na (sR (na (sR (na (sR (na (sR (na (sR (na (sR (na (sR (na (sR (na (sR (na (sR (na (sR (na (sR (na (sR (na (sR (na (sR (na (sR (na (sR (na (sR (na (sR (na (sR (na (sR (na (sR (na (sR (na M q1 120 600) 705 h0 (some q1)) q6 129 24) 715 h0 (some q6)) q11 138 24) 716 h0 (some q11)) q16 145 24) 717 h0 (some q16)) q21 153 24) 718 h0 (some q21)) q26 163 24) 719 h0 (some q26)) q31 170 24) 720 h0 (some q31)) q36 178 24) 721 h0 (some q36)) q41 185 24) 722 h0 (some q41)) q46 193 24) 723 h0 (some q46)) q51 201 24) 724 h0 (some q51)) q56 209 96) 725 h0 (some q56)) q61 217 24) 726 h0 (some q61)) q66 227 8) 727 h0 (some q66)) q71 234 8) 728 h0 (some q71)) q76 241 2) 729 h0 (some q76)) q81 250 12) 733 h0 (some q81)) q86 259 12) 734 h0 (some q86)) q91 265 48) 735 h0 (some q91)) q96 274 48) 736 h0 (some q96)) q101 281 48) 737 h0 (some q101)) q106 290 1200) 740 h0 (some q106)) q111 298 800) 742 h0 (some q111)) q116 305 12) 744 h0 (some q116)) q121 314 288) 745 h0 (some q121)) q126 321 288) 746 h0 (some q126)) q131 329 288) 747 h0 (some q131)) q136 337 24) 748 h0 (some q136)) q141 346 144) 749 h0 (some q141)) q146 353 144) 750 h0 (some q146)) q151 361 144) 751 h0 (some q151)) q156 369 60) 753 h0 (some q156)) q161 378 60) 754 h0 (some q161)) q166 387 60) 755 h0 (some q166)) q171 = 0 → mK (na (sR (na (sR (na (sR (na (sR (na (sR (na (sR (na (sR (na (sR (na (sR (na (sR (na (sR (na (sR (na (sR (na (sR (na (sR (na (sR (na (sR (na (sR (na (sR (na (sR (na (sR (na (sR (na (sR (na (sR (na (sR (na (sR (na (sR (na (sR (na (sR (na (sR (na (sR (na (sR (na (sR (na (sR (na M q1 120 600) 705 h0 (some q1)) q6 129 24) 715 h0 (some q6)) q11 138 24) 716 h0 (some q11)) q16 145 24) 717 h0 (some q16)) q21 153 24) 718 h0 (some q21)) q26 163 24) 719 h0 (some q26)) q31 170 24) 720 h0 (some q31)) q36 178 24) 721 h0 (some q36)) q41 185 24) 722 h0 (some q41)) q46 193 24) 723 h0 (some q46)) q51 201 24) 724 h0 (some q51)) q56 209 96) 725 h0 (some q56)) q61 217 24) 726 h0 (some q61)) q66 227 8) 727 h0 (some q66)) q71 234 8) 728 h0 (some q71)) q76 241 2) 729 h0 (some q76)) q81 250 12) 733 h0 (some q81)) q86 259 12) 734 h0 (some q86)) q91 265 48) 735 h0 (some q91)) q96 274 48) 736 h0 (some q96)) q101 281 48) 737 h0 (some q101)) q106 290 1200) 740 h0 (some q106)) q111 298 800) 742 h0 (some q111)) q116 305 12) 744 h0 (some q116)) q121 314 288) 745 h0 (some q121)) q126 321 288) 746 h0 (some q126)) q131 329 288) 747 h0 (some q131)) q136 337 24) 748 h0 (some q136)) q141 346 144) 749 h0 (some q141)) q146 353 144) 750 h0 (some q146)) q151 361 144) 751 h0 (some q151)) q156 369 60) 753 h0 (some q156)) q161 378 60) 754 h0 (some q161)) q166 387 60) 755 h0 (some q166)) q171 395 48) h0 = 12 ∧ (∀ q176, mK (sR (na (sR (na (sR (na (sR (na (sR (na (sR (na (sR (na (sR (na (sR (na (sR (na (sR (na (sR (na (sR (na (sR (na (sR (na (sR (na (sR (na (sR (na (sR (na (sR (na (sR (na (sR (na (sR (na (sR (na (sR (na (sR (na (sR (na (sR (na (sR (na (sR (na (sR (na (sR (na (sR (na (sR (na (sR (na M q1 120 600) 705 h0 (some q1)) q6 129 24) 715 h0 (some q6)) q11 138 24) 716 h0 (some q11)) q16 145 24) 717 h0 (some q16)) q21 153 24) 718 h0 (some q21)) q26 163 24) 719 h0 (some q26)) q31 170 24) 720 h0 (some q31)) q36 178 24) 721 h0 (some q36)) q41 185 24) 722 h0 (some q41)) q46 193 24) 723 h0 (some q46)) q51 201 24) 724 h0 (some q51)) q56 209 96) 725 h0 (some q56)) q61 217 24) 726 h0 (some q61)) q66 227 8) 727 h0 (some q66)) q71 234 8) 728 h0 (some q71)) q76 241 2) 729 h0 (some q76)) q81 250 12) 733 h0 (some q81)) q86 259 12) 734 h0 (some q86)) q91 265 48) 735 h0 (some q91)) q96 274 48) 736 h0 (some q96)) q101 281 48) 737 h0 (some q101)) q106 290 1200) 740 h0 (some q106)) q111 298 800) 742 h0 (some q111)) q116 305 12) 744 h0 (some q116)) q121 314 288) 745 h0 (some q121)) q126 321 288) 746 h0 (some q126)) q131 329 288) 747 h0 (some q131)) q136 337 24) 748 h0 (some q136)) q141 346 144) 749 h0 (some q141)) q146 353 144) 750 h0 (some q146)) q151 361 144) 751 h0 (some q151)) q156 369 60) 753 h0 (some q156)) q161 378 60) 754 h0 (some q161)) q166 387 60) 755 h0 (some q166)) q171 395 48) 758 h0 (some q171)) q176 = 0 → mK (na (sR (na (sR (na (sR (na (sR (na (sR (na (sR (na (sR (na (sR (na (sR (na (sR (na (sR (na (sR (na (sR (na (sR (na (sR (na (sR (na (sR (na (sR (na (sR (na (sR (na (sR (na (sR (na (sR (na (sR (na (sR (na (sR (na (sR (na (sR (na (sR (na (sR (na (sR (na (sR (na (sR (na (sR (na (sR (na M q1 120 600) 705 h0 (some q1)) q6 129 24) 715 h0 (some q6)) q11 138 24) 716 h0 (some q11)) q16 145 24) 717 h0 (some q16)) q21 153 24) 718 h0 (some q21)) q26 163 24) 719 h0 (some q26)) q31 170 24) 720 h0 (some q31)) q36 178 24) 721 h0 (some q36)) q41 185 24) 722 h0 (some q41)) q46 193 24) 723 h0 (some q46)) q51 201 24) 724 h0 (some q51)) q56 209 96) 725 h0 (some q56)) q61 217 24) 726 h0 (some q61)) q66 227 8) 727 h0 (some q66)) q71 234 8) 728 h0 (some q71)) q76 241 2) 729 h0 (some q76)) q81 250 12) 733 h0 (some q81)) q86 259 12) 734 h0 (some q86)) q91 265 48) 735 h0 (some q91)) q96 274 48) 736 h0 (some q96)) q101 281 48) 737 h0 (some q101)) q106 290 1200) 740 h0 (some q106)) q111 298 800) 742 h0 (some q111)) q116 305 12) 744 h0 (some q116)) q121 314 288) 745 h0 (some q121)) q126 321 288) 746 h0 (some q126)) q131 329 288) 747 h0 (some q131)) q136 337 24) 748 h0 (some q136)) q141 346 144) 749 h0 (some q141)) q146 353 144) 750 h0 (some q146)) q151 361 144) 751 h0 (some q151)) q156 369 60) 753 h0 (some q156)) q161 378 60) 754 h0 (some q161)) q166 387 60) 755 h0 (some q166)) q171 395 48) 758 h0 (some q171)) q176 400 1500) h0 = 12 ∧ (K (sR (na (sR (na (sR (na (sR (na (sR (na (sR (na (sR (na (sR (na (sR (na (sR (na (sR (na (sR (na (sR (na (sR (na (sR (na (sR (na (sR (na (sR (na (sR (na (sR (na (sR (na (sR (na (sR (na (sR (na (sR (na (sR (na (sR (na (sR (na (sR (na (sR (na (sR (na (sR (na (sR (na (sR (na (sR (na (sR (na M q1 120 600) 705 h0 (some q1)) q6 129 24) 715 h0 (some q6)) q11 138 24) 716 h0 (some q11)) q16 145 24) 717 h0 (some q16)) q21 153 24) 718 h0 (some q21)) q26 163 24) 719 h0 (some q26)) q31 170 24) 720 h0 (some q31)) q36 178 24) 721 h0 (some q36)) q41 185 24) 722 h0 (some q41)) q46 193 24) 723 h0 (some q46)) q51 201 24) 724 h0 (some q51)) q56 209 96) 725 h0 (some q56)) q61 217 24) 726 h0 (some q61)) q66 227 8) 727 h0 (some q66)) q71 234 8) 728 h0 (some q71)) q76 241 2) 729 h0 (some q76)) q81 250 12) 733 h0 (some q81)) q86 259 12) 734 h0 (some q86)) q91 265 48) 735 h0 (some q91)) q96 274 48) 736 h0 (some q96)) q101 281 48) 737 h0 (some q101)) q106 290 1200) 740 h0 (some q106)) q111 298 800) 742 h0 (some q111)) q116 305 12) 744 h0 (some q116)) q121 314 288) 745 h0 (some q121)) q126 321 288) 746 h0 (some q126)) q131 329 288) 747 h0 (some q131)) q136 337 24) 748 h0 (some q136)) q141 346 144) 749 h0 (some q141)) q146 353 144) 750 h0 (some q146)) q151 361 144) 751 h0 (some q151)) q156 369 60) 753 h0 (some q156)) q161 378 60) 754 h0 (some q161)) q166 387 60) 755 h0 (some q166)) q171 395 48) 758 h0 (some q171)) q176 400 1500) 759 h0 (some q176)))))))))))))))))))))))))))))))))))))))
set_option maxRecDepth 100000 in
set_option maxHeartbeats 4000000 in
theorem ct_X11_init {M : Mm} {h0 : Nat} {K : Mm → Prop} (h : wp_X11_init M h0 K) : CtV yX11_init cX11_init 1 none rm_X11_init [.ref h0] M K := by
  refine ct_any (QV K) (by decide) (by exact Nat.le_of_ble_eq_true rfl) (fun X hX hQ hnL hnm => ?_)
  rw [show lv_args 0 [.ref h0] = [(0, va_rf (some h0))] by rfl]
  have hX : Ok X cX11_init RX11 rm_X11_init := hX
  unfold wp_X11_init at h
  refine z_aload_n (r := (some h0)) hX dX11_init_0 rfl 0 rfl ?_
  refine mw_RX11_5 (a := h0) hX dX11_init_1 (by decide) (by decide) ?_
  refine z_aload_n (r := (some h0)) hX dX11_init_4 rfl 0 rfl ?_
  refine z_sipush (v := (600 : Int32)) hX dX11_init_5 (by decide) ?_
  refine y_newa_byte (n := 600) hX 120 (by decide) (by decide) (by decide) (by decide) (by decide) dX11_init_8 (by decide) (by decide) (fun q1 hq2 => ?_)
  have h := h q1 hq2
  obtain ⟨hk4, h⟩ := h
  refine pf_RX11_11 (r := (some h0)) (v := (some q1)) hX hnm dX11_init_10 rfl hk4 ?_
  refine z_aload_n (r := (some h0)) hX dX11_init_13 rfl 0 rfl ?_
  refine z_bipush (v := (24 : Int32)) hX dX11_init_14 (by decide) ?_
  refine y_newa_int (n := 24) hX 129 (by decide) (by decide) (by decide) (by decide) (by decide) dX11_init_16 (by decide) (by decide) (fun q6 hq7 => ?_)
  have h := h q6 hq7
  obtain ⟨hk9, h⟩ := h
  refine pf_RX11_15 (r := (some h0)) (v := (some q6)) hX hnm dX11_init_18 rfl hk9 ?_
  refine z_aload_n (r := (some h0)) hX dX11_init_21 rfl 0 rfl ?_
  refine z_bipush (v := (24 : Int32)) hX dX11_init_22 (by decide) ?_
  refine y_newa_long (n := 24) hX 138 (by decide) (by decide) (by decide) (by decide) (by decide) dX11_init_24 (by decide) (by decide) (fun q11 hq12 => ?_)
  have h := h q11 hq12
  obtain ⟨hk14, h⟩ := h
  refine pf_RX11_19 (r := (some h0)) (v := (some q11)) hX hnm dX11_init_26 rfl hk14 ?_
  refine z_aload_n (r := (some h0)) hX dX11_init_29 rfl 0 rfl ?_
  refine z_bipush (v := (24 : Int32)) hX dX11_init_30 (by decide) ?_
  refine y_newa_int (n := 24) hX 145 (by decide) (by decide) (by decide) (by decide) (by decide) dX11_init_32 (by decide) (by decide) (fun q16 hq17 => ?_)
  have h := h q16 hq17
  obtain ⟨hk19, h⟩ := h
  refine pf_RX11_23 (r := (some h0)) (v := (some q16)) hX hnm dX11_init_34 rfl hk19 ?_
  refine z_aload_n (r := (some h0)) hX dX11_init_37 rfl 0 rfl ?_
  refine z_bipush (v := (24 : Int32)) hX dX11_init_38 (by decide) ?_
  refine y_newa_int (n := 24) hX 153 (by decide) (by decide) (by decide) (by decide) (by decide) dX11_init_40 (by decide) (by decide) (fun q21 hq22 => ?_)
  have h := h q21 hq22
  obtain ⟨hk24, h⟩ := h
  refine pf_RX11_26 (r := (some h0)) (v := (some q21)) hX hnm dX11_init_42 rfl hk24 ?_
  refine z_aload_n (r := (some h0)) hX dX11_init_45 rfl 0 rfl ?_
  refine z_bipush (v := (24 : Int32)) hX dX11_init_46 (by decide) ?_
  refine y_newa_boolean (n := 24) hX 163 (by decide) (by decide) (by decide) (by decide) (by decide) dX11_init_48 (by decide) (by decide) (fun q26 hq27 => ?_)
  have h := h q26 hq27
  obtain ⟨hk29, h⟩ := h
  refine pf_RX11_29 (r := (some h0)) (v := (some q26)) hX hnm dX11_init_50 rfl hk29 ?_
  refine z_aload_n (r := (some h0)) hX dX11_init_53 rfl 0 rfl ?_
  refine z_bipush (v := (24 : Int32)) hX dX11_init_54 (by decide) ?_
  refine y_newa_long (n := 24) hX 170 (by decide) (by decide) (by decide) (by decide) (by decide) dX11_init_56 (by decide) (by decide) (fun q31 hq32 => ?_)
  have h := h q31 hq32
  obtain ⟨hk34, h⟩ := h
  refine pf_RX11_33 (r := (some h0)) (v := (some q31)) hX hnm dX11_init_58 rfl hk34 ?_
  refine z_aload_n (r := (some h0)) hX dX11_init_61 rfl 0 rfl ?_
  refine z_bipush (v := (24 : Int32)) hX dX11_init_62 (by decide) ?_
  refine y_newa_long (n := 24) hX 178 (by decide) (by decide) (by decide) (by decide) (by decide) dX11_init_64 (by decide) (by decide) (fun q36 hq37 => ?_)
  have h := h q36 hq37
  obtain ⟨hk39, h⟩ := h
  refine pf_RX11_36 (r := (some h0)) (v := (some q36)) hX hnm dX11_init_66 rfl hk39 ?_
  refine z_aload_n (r := (some h0)) hX dX11_init_69 rfl 0 rfl ?_
  refine z_bipush (v := (24 : Int32)) hX dX11_init_70 (by decide) ?_
  refine y_newa_int (n := 24) hX 185 (by decide) (by decide) (by decide) (by decide) (by decide) dX11_init_72 (by decide) (by decide) (fun q41 hq42 => ?_)
  have h := h q41 hq42
  obtain ⟨hk44, h⟩ := h
  refine pf_RX11_39 (r := (some h0)) (v := (some q41)) hX hnm dX11_init_74 rfl hk44 ?_
  refine z_aload_n (r := (some h0)) hX dX11_init_77 rfl 0 rfl ?_
  refine z_bipush (v := (24 : Int32)) hX dX11_init_78 (by decide) ?_
  refine y_newa_int (n := 24) hX 193 (by decide) (by decide) (by decide) (by decide) (by decide) dX11_init_80 (by decide) (by decide) (fun q46 hq47 => ?_)
  have h := h q46 hq47
  obtain ⟨hk49, h⟩ := h
  refine pf_RX11_42 (r := (some h0)) (v := (some q46)) hX hnm dX11_init_82 rfl hk49 ?_
  refine z_aload_n (r := (some h0)) hX dX11_init_85 rfl 0 rfl ?_
  refine z_bipush (v := (24 : Int32)) hX dX11_init_86 (by decide) ?_
  refine y_newa_int (n := 24) hX 201 (by decide) (by decide) (by decide) (by decide) (by decide) dX11_init_88 (by decide) (by decide) (fun q51 hq52 => ?_)
  have h := h q51 hq52
  obtain ⟨hk54, h⟩ := h
  refine pf_RX11_45 (r := (some h0)) (v := (some q51)) hX hnm dX11_init_90 rfl hk54 ?_
  refine z_aload_n (r := (some h0)) hX dX11_init_93 rfl 0 rfl ?_
  refine z_bipush (v := (96 : Int32)) hX dX11_init_94 (by decide) ?_
  refine y_newa_int (n := 96) hX 209 (by decide) (by decide) (by decide) (by decide) (by decide) dX11_init_96 (by decide) (by decide) (fun q56 hq57 => ?_)
  have h := h q56 hq57
  obtain ⟨hk59, h⟩ := h
  refine pf_RX11_48 (r := (some h0)) (v := (some q56)) hX hnm dX11_init_98 rfl hk59 ?_
  refine z_aload_n (r := (some h0)) hX dX11_init_101 rfl 0 rfl ?_
  refine z_bipush (v := (24 : Int32)) hX dX11_init_102 (by decide) ?_
  refine y_newa_int (n := 24) hX 217 (by decide) (by decide) (by decide) (by decide) (by decide) dX11_init_104 (by decide) (by decide) (fun q61 hq62 => ?_)
  have h := h q61 hq62
  obtain ⟨hk64, h⟩ := h
  refine pf_RX11_51 (r := (some h0)) (v := (some q61)) hX hnm dX11_init_106 rfl hk64 ?_
  refine z_aload_n (r := (some h0)) hX dX11_init_109 rfl 0 rfl ?_
  refine z_bipush (v := (8 : Int32)) hX dX11_init_110 (by decide) ?_
  refine y_newa_boolean (n := 8) hX 227 (by decide) (by decide) (by decide) (by decide) (by decide) dX11_init_112 (by decide) (by decide) (fun q66 hq67 => ?_)
  have h := h q66 hq67
  obtain ⟨hk69, h⟩ := h
  refine pf_RX11_54 (r := (some h0)) (v := (some q66)) hX hnm dX11_init_114 rfl hk69 ?_
  refine z_aload_n (r := (some h0)) hX dX11_init_117 rfl 0 rfl ?_
  refine z_bipush (v := (8 : Int32)) hX dX11_init_118 (by decide) ?_
  refine y_newa_long (n := 8) hX 234 (by decide) (by decide) (by decide) (by decide) (by decide) dX11_init_120 (by decide) (by decide) (fun q71 hq72 => ?_)
  have h := h q71 hq72
  obtain ⟨hk74, h⟩ := h
  refine pf_RX11_57 (r := (some h0)) (v := (some q71)) hX hnm dX11_init_122 rfl hk74 ?_
  refine z_aload_n (r := (some h0)) hX dX11_init_125 rfl 0 rfl ?_
  refine z_iconst (v := (2 : Int32)) hX dX11_init_126 (by decide) ?_
  refine y_newa_int (n := 2) hX 241 (by decide) (by decide) (by decide) (by decide) (by decide) dX11_init_127 (by decide) (by decide) (fun q76 hq77 => ?_)
  have h := h q76 hq77
  obtain ⟨hk79, h⟩ := h
  refine pf_RX11_60 (r := (some h0)) (v := (some q76)) hX hnm dX11_init_129 rfl hk79 ?_
  refine z_aload_n (r := (some h0)) hX dX11_init_132 rfl 0 rfl ?_
  refine z_bipush (v := (12 : Int32)) hX dX11_init_133 (by decide) ?_
  refine y_newa_long (n := 12) hX 250 (by decide) (by decide) (by decide) (by decide) (by decide) dX11_init_135 (by decide) (by decide) (fun q81 hq82 => ?_)
  have h := h q81 hq82
  obtain ⟨hk84, h⟩ := h
  refine pf_RX11_63 (r := (some h0)) (v := (some q81)) hX hnm dX11_init_137 rfl hk84 ?_
  refine z_aload_n (r := (some h0)) hX dX11_init_140 rfl 0 rfl ?_
  refine z_bipush (v := (12 : Int32)) hX dX11_init_141 (by decide) ?_
  refine y_newa_boolean (n := 12) hX 259 (by decide) (by decide) (by decide) (by decide) (by decide) dX11_init_143 (by decide) (by decide) (fun q86 hq87 => ?_)
  have h := h q86 hq87
  obtain ⟨hk89, h⟩ := h
  refine pf_RX11_66 (r := (some h0)) (v := (some q86)) hX hnm dX11_init_145 rfl hk89 ?_
  refine z_aload_n (r := (some h0)) hX dX11_init_148 rfl 0 rfl ?_
  refine z_bipush (v := (48 : Int32)) hX dX11_init_149 (by decide) ?_
  refine y_newa_int (n := 48) hX 265 (by decide) (by decide) (by decide) (by decide) (by decide) dX11_init_151 (by decide) (by decide) (fun q91 hq92 => ?_)
  have h := h q91 hq92
  obtain ⟨hk94, h⟩ := h
  refine pf_RX11_69 (r := (some h0)) (v := (some q91)) hX hnm dX11_init_153 rfl hk94 ?_
  refine z_aload_n (r := (some h0)) hX dX11_init_156 rfl 0 rfl ?_
  refine z_bipush (v := (48 : Int32)) hX dX11_init_157 (by decide) ?_
  refine y_newa_long (n := 48) hX 274 (by decide) (by decide) (by decide) (by decide) (by decide) dX11_init_159 (by decide) (by decide) (fun q96 hq97 => ?_)
  have h := h q96 hq97
  obtain ⟨hk99, h⟩ := h
  refine pf_RX11_72 (r := (some h0)) (v := (some q96)) hX hnm dX11_init_161 rfl hk99 ?_
  refine z_aload_n (r := (some h0)) hX dX11_init_164 rfl 0 rfl ?_
  refine z_bipush (v := (48 : Int32)) hX dX11_init_165 (by decide) ?_
  refine y_newa_int (n := 48) hX 281 (by decide) (by decide) (by decide) (by decide) (by decide) dX11_init_167 (by decide) (by decide) (fun q101 hq102 => ?_)
  have h := h q101 hq102
  obtain ⟨hk104, h⟩ := h
  refine pf_RX11_75 (r := (some h0)) (v := (some q101)) hX hnm dX11_init_169 rfl hk104 ?_
  refine z_aload_n (r := (some h0)) hX dX11_init_172 rfl 0 rfl ?_
  refine z_sipush (v := (1200 : Int32)) hX dX11_init_173 (by decide) ?_
  refine y_newa_long (n := 1200) hX 290 (by decide) (by decide) (by decide) (by decide) (by decide) dX11_init_176 (by decide) (by decide) (fun q106 hq107 => ?_)
  have h := h q106 hq107
  obtain ⟨hk109, h⟩ := h
  refine pf_RX11_78 (r := (some h0)) (v := (some q106)) hX hnm dX11_init_178 rfl hk109 ?_
  refine z_aload_n (r := (some h0)) hX dX11_init_181 rfl 0 rfl ?_
  refine z_sipush (v := (800 : Int32)) hX dX11_init_182 (by decide) ?_
  refine y_newa_long (n := 800) hX 298 (by decide) (by decide) (by decide) (by decide) (by decide) dX11_init_185 (by decide) (by decide) (fun q111 hq112 => ?_)
  have h := h q111 hq112
  obtain ⟨hk114, h⟩ := h
  refine pf_RX11_81 (r := (some h0)) (v := (some q111)) hX hnm dX11_init_187 rfl hk114 ?_
  refine z_aload_n (r := (some h0)) hX dX11_init_190 rfl 0 rfl ?_
  refine z_bipush (v := (12 : Int32)) hX dX11_init_191 (by decide) ?_
  refine y_newa_int (n := 12) hX 305 (by decide) (by decide) (by decide) (by decide) (by decide) dX11_init_193 (by decide) (by decide) (fun q116 hq117 => ?_)
  have h := h q116 hq117
  obtain ⟨hk119, h⟩ := h
  refine pf_RX11_84 (r := (some h0)) (v := (some q116)) hX hnm dX11_init_195 rfl hk119 ?_
  refine z_aload_n (r := (some h0)) hX dX11_init_198 rfl 0 rfl ?_
  refine z_sipush (v := (288 : Int32)) hX dX11_init_199 (by decide) ?_
  refine y_newa_long (n := 288) hX 314 (by decide) (by decide) (by decide) (by decide) (by decide) dX11_init_202 (by decide) (by decide) (fun q121 hq122 => ?_)
  have h := h q121 hq122
  obtain ⟨hk124, h⟩ := h
  refine pf_RX11_87 (r := (some h0)) (v := (some q121)) hX hnm dX11_init_204 rfl hk124 ?_
  refine z_aload_n (r := (some h0)) hX dX11_init_207 rfl 0 rfl ?_
  refine z_sipush (v := (288 : Int32)) hX dX11_init_208 (by decide) ?_
  refine y_newa_int (n := 288) hX 321 (by decide) (by decide) (by decide) (by decide) (by decide) dX11_init_211 (by decide) (by decide) (fun q126 hq127 => ?_)
  have h := h q126 hq127
  obtain ⟨hk129, h⟩ := h
  refine pf_RX11_90 (r := (some h0)) (v := (some q126)) hX hnm dX11_init_213 rfl hk129 ?_
  refine z_aload_n (r := (some h0)) hX dX11_init_216 rfl 0 rfl ?_
  refine z_sipush (v := (288 : Int32)) hX dX11_init_217 (by decide) ?_
  refine y_newa_int (n := 288) hX 329 (by decide) (by decide) (by decide) (by decide) (by decide) dX11_init_220 (by decide) (by decide) (fun q131 hq132 => ?_)
  have h := h q131 hq132
  obtain ⟨hk134, h⟩ := h
  refine pf_RX11_93 (r := (some h0)) (v := (some q131)) hX hnm dX11_init_222 rfl hk134 ?_
  refine z_aload_n (r := (some h0)) hX dX11_init_225 rfl 0 rfl ?_
  refine z_bipush (v := (24 : Int32)) hX dX11_init_226 (by decide) ?_
  refine y_newa_int (n := 24) hX 337 (by decide) (by decide) (by decide) (by decide) (by decide) dX11_init_228 (by decide) (by decide) (fun q136 hq137 => ?_)
  have h := h q136 hq137
  obtain ⟨hk139, h⟩ := h
  refine pf_RX11_96 (r := (some h0)) (v := (some q136)) hX hnm dX11_init_230 rfl hk139 ?_
  refine z_aload_n (r := (some h0)) hX dX11_init_233 rfl 0 rfl ?_
  refine z_sipush (v := (144 : Int32)) hX dX11_init_234 (by decide) ?_
  refine y_newa_long (n := 144) hX 346 (by decide) (by decide) (by decide) (by decide) (by decide) dX11_init_237 (by decide) (by decide) (fun q141 hq142 => ?_)
  have h := h q141 hq142
  obtain ⟨hk144, h⟩ := h
  refine pf_RX11_99 (r := (some h0)) (v := (some q141)) hX hnm dX11_init_239 rfl hk144 ?_
  refine z_aload_n (r := (some h0)) hX dX11_init_242 rfl 0 rfl ?_
  refine z_sipush (v := (144 : Int32)) hX dX11_init_243 (by decide) ?_
  refine y_newa_int (n := 144) hX 353 (by decide) (by decide) (by decide) (by decide) (by decide) dX11_init_246 (by decide) (by decide) (fun q146 hq147 => ?_)
  have h := h q146 hq147
  obtain ⟨hk149, h⟩ := h
  refine pf_RX11_102 (r := (some h0)) (v := (some q146)) hX hnm dX11_init_248 rfl hk149 ?_
  refine z_aload_n (r := (some h0)) hX dX11_init_251 rfl 0 rfl ?_
  refine z_sipush (v := (144 : Int32)) hX dX11_init_252 (by decide) ?_
  refine y_newa_int (n := 144) hX 361 (by decide) (by decide) (by decide) (by decide) (by decide) dX11_init_255 (by decide) (by decide) (fun q151 hq152 => ?_)
  have h := h q151 hq152
  obtain ⟨hk154, h⟩ := h
  refine pf_RX11_105 (r := (some h0)) (v := (some q151)) hX hnm dX11_init_257 rfl hk154 ?_
  refine z_aload_n (r := (some h0)) hX dX11_init_260 rfl 0 rfl ?_
  refine z_bipush (v := (60 : Int32)) hX dX11_init_261 (by decide) ?_
  refine y_newa_int (n := 60) hX 369 (by decide) (by decide) (by decide) (by decide) (by decide) dX11_init_263 (by decide) (by decide) (fun q156 hq157 => ?_)
  have h := h q156 hq157
  obtain ⟨hk159, h⟩ := h
  refine pf_RX11_108 (r := (some h0)) (v := (some q156)) hX hnm dX11_init_265 rfl hk159 ?_
  refine z_aload_n (r := (some h0)) hX dX11_init_268 rfl 0 rfl ?_
  refine z_bipush (v := (60 : Int32)) hX dX11_init_269 (by decide) ?_
  refine y_newa_long (n := 60) hX 378 (by decide) (by decide) (by decide) (by decide) (by decide) dX11_init_271 (by decide) (by decide) (fun q161 hq162 => ?_)
  have h := h q161 hq162
  obtain ⟨hk164, h⟩ := h
  refine pf_RX11_111 (r := (some h0)) (v := (some q161)) hX hnm dX11_init_273 rfl hk164 ?_
  refine z_aload_n (r := (some h0)) hX dX11_init_276 rfl 0 rfl ?_
  refine z_bipush (v := (60 : Int32)) hX dX11_init_277 (by decide) ?_
  refine y_newa_boolean (n := 60) hX 387 (by decide) (by decide) (by decide) (by decide) (by decide) dX11_init_279 (by decide) (by decide) (fun q166 hq167 => ?_)
  have h := h q166 hq167
  obtain ⟨hk169, h⟩ := h
  refine pf_RX11_114 (r := (some h0)) (v := (some q166)) hX hnm dX11_init_281 rfl hk169 ?_
  refine z_aload_n (r := (some h0)) hX dX11_init_284 rfl 0 rfl ?_
  refine z_bipush (v := (48 : Int32)) hX dX11_init_285 (by decide) ?_
  refine y_newa_boolean (n := 48) hX 395 (by decide) (by decide) (by decide) (by decide) (by decide) dX11_init_287 (by decide) (by decide) (fun q171 hq172 => ?_)
  have h := h q171 hq172
  obtain ⟨hk174, h⟩ := h
  refine pf_RX11_117 (r := (some h0)) (v := (some q171)) hX hnm dX11_init_289 rfl hk174 ?_
  refine z_aload_n (r := (some h0)) hX dX11_init_292 rfl 0 rfl ?_
  refine z_sipush (v := (1500 : Int32)) hX dX11_init_293 (by decide) ?_
  refine y_newa_byte (n := 1500) hX 400 (by decide) (by decide) (by decide) (by decide) (by decide) dX11_init_296 (by decide) (by decide) (fun q176 hq177 => ?_)
  have h := h q176 hq177
  obtain ⟨hk179, h⟩ := h
  refine pf_RX11_120 (r := (some h0)) (v := (some q176)) hX hnm dX11_init_298 rfl hk179 ?_
  refine z_widen 36 6206 (by decide) (by decide) ?_
  exact z_vret hX hQ dX11_init_301 h
def rm_X11_thrown : Room := { frames := 0, cells := 0, slots := 0, locals := 0 }
def wp_X11_thrown (M : Mm) (h0 : Nat) (K : Int32 → Mm → Prop) : Prop := mK M h0 = 12 ∧ (K (mI M 704 h0) M)
set_option maxRecDepth 100000 in
set_option maxHeartbeats 4000000 in
theorem ct_X11_thrown {M : Mm} {h0 : Nat} {K : Int32 → Mm → Prop} (h : wp_X11_thrown M h0 K) : CtI yX11_thrown cX11_thrown 1 (some .int) rm_X11_thrown [.ref h0] M K := by
  refine ct_any (QI K) (by decide) (by exact Nat.le_of_ble_eq_true rfl) (fun X hX hQ hnL hnm => ?_)
  rw [show lv_args 0 [.ref h0] = [(0, va_rf (some h0))] by rfl]
  have hX : Ok X cX11_thrown RX11 rm_X11_thrown := hX
  unfold wp_X11_thrown at h
  refine z_aload_n (r := (some h0)) hX dX11_thrown_0 rfl 0 rfl ?_
  obtain ⟨hk1, h⟩ := h
  refine gf_RX11_123 (r := (some h0)) hX dX11_thrown_1 rfl hk1 ?_
  exact z_iret hX hQ dX11_thrown_4 h
def rm_X11_feed : Room := { frames := 0, cells := 0, slots := 0, locals := 0 }
def bk_X11_feed_28 (h0 : Nat) (K : Int32 → Mm → Prop) (M : Mm) : Prop := (K (-1 : Int32) M)
set_option maxRecDepth 100000 in
set_option maxHeartbeats 4000000 in
theorem zb_X11_feed_28 {X : Cx} {h0 : Nat} {K : Int32 → Mm → Prop} (hX : Ok X cX11_feed RX11 rm_X11_feed) (hQ : Rq X rm_X11_feed (some .int) (QI K)) (hnL : X.2.2.2.2.2.2.2.2.2.2.2.2.2.2 = 5) {M : Mm} (h : bk_X11_feed_28 h0 K M) : Z X M 0 0 28 [] [] := by
  unfold bk_X11_feed_28 at h
  refine z_iconst (v := (-1 : Int32)) hX dX11_feed_28 (by decide) ?_
  exact z_iret hX hQ dX11_feed_29 h
def lp_X11_feed_35 (h0 : Nat) (K : Int32 → Mm → Prop) : Nat → Int64 → Int32 → Mm → Prop
  | 0, _, _, _ => False
  | n + 1, l1, l4, M => ((l4 < 0 → mK M h0 = 12 ∧ (K (mI M 706 h0) M)) ∧ (¬ l4 < 0 → mK M h0 = 12 ∧ ∃ a3, (mR M 705 h0) = some a3 ∧ isA M a3 0 ∧ vp_in (mI M 706 h0) (aN M a3) ∧ ((lp_X11_feed_35 h0 K n) l1 (l4 + (-1)) (sI (tI M a3 ((mI M 706 h0)).toNatClampNeg (((((((l1 >>> ((((8 : Int32) * l4)).toInt64 &&& 63))).toInt32)).toInt8.toInt32)).toInt8.toInt32)) 706 h0 ((mI (tI M a3 ((mI M 706 h0)).toNatClampNeg (((((((l1 >>> ((((8 : Int32) * l4)).toInt64 &&& 63))).toInt32)).toInt8.toInt32)).toInt8.toInt32)) 706 h0) + (1 : Int32))))))
set_option maxRecDepth 100000 in
set_option maxHeartbeats 4000000 in
theorem zl_X11_feed_35 {X : Cx} {h0 : Nat} {K : Int32 → Mm → Prop} (hX : Ok X cX11_feed RX11 rm_X11_feed) (hQ : Rq X rm_X11_feed (some .int) (QI K)) (hnL : X.2.2.2.2.2.2.2.2.2.2.2.2.2.2 = 5) : ∀ (n : Nat) (l1 : Int64) (l4 : Int32) (M : Mm), lp_X11_feed_35 h0 K n l1 l4 M → Z X M 0 0 35 [(0, va_rf (some h0)), (1, .long l1), (4, .int l4)] [] := by
  intro n
  induction n with
  | zero =>
    intro l1 l4 M h
    exact False.elim h
  | succ n hR35 =>
    intro l1 l4 M h
    refine z_iload hX dX11_feed_35 2 rfl ?_
    obtain ⟨h1, h2⟩ := h
    refine z_if_lt (tgt := 74) hX dX11_feed_37 (by decide) (fun hc => ?_) (fun hc => ?_)
    · have h := h1 hc
      refine z_aload_n (r := (some h0)) hX dX11_feed_74 rfl 0 rfl ?_
      obtain ⟨hk1, h⟩ := h
      refine gf_RX11_127 (r := (some h0)) hX dX11_feed_75 rfl hk1 ?_
      exact z_iret hX hQ dX11_feed_78 h
    · have h := h2 hc
      refine z_aload_n (r := (some h0)) hX dX11_feed_40 rfl 0 rfl ?_
      obtain ⟨hk2, h⟩ := h
      refine gf_RX11_11 (r := (some h0)) hX dX11_feed_41 rfl hk2 ?_
      refine z_aload_n (r := (some h0)) hX dX11_feed_44 rfl 0 rfl ?_
      refine gf_RX11_127 (r := (some h0)) hX dX11_feed_45 rfl hk2 ?_
      refine z_lload_n hX dX11_feed_48 rfl 1 rfl ?_
      refine z_bipush (v := (8 : Int32)) hX dX11_feed_49 (by decide) ?_
      refine z_iload hX dX11_feed_51 2 rfl ?_
      refine z_imul hX dX11_feed_53 ?_
      refine z_lshr hX dX11_feed_54 ?_
      refine z_l2i hX dX11_feed_55 ?_
      refine z_i2b hX dX11_feed_56 ?_
      obtain ⟨a3, ha4, h⟩ := h
      obtain ⟨hk5, h⟩ := h
      obtain ⟨hc6, h⟩ := h
      refine y_bast (r := (mR M 705 h0)) hX dX11_feed_57 ha4 hk5 hc6 ?_
      refine z_aload_n (r := (some h0)) hX dX11_feed_58 rfl 0 rfl ?_
      refine z_dup hX dX11_feed_59 (cat_rf _) ?_
      refine gf_RX11_127 (r := (some h0)) hX dX11_feed_60 rfl hk2 ?_
      refine z_iconst (v := (1 : Int32)) hX dX11_feed_63 (by decide) ?_
      refine z_iadd hX dX11_feed_64 ?_
      refine pf_RX11_127 (r := (some h0)) (v := ((mI (tI M a3 ((mI M 706 h0)).toNatClampNeg (((((((l1 >>> ((((8 : Int32) * l4)).toInt64 &&& 63))).toInt32)).toInt8.toInt32)).toInt8.toInt32)) 706 h0) + (1 : Int32))) hX dX11_feed_65 rfl hk2 ?_
      refine z_iinc (v := (l4 + (-1))) hX [(4, .int (l4 + (-1))), (0, va_rf (some h0)), (1, .long l1)] dX11_feed_68 2 rfl rfl (by rw [hnL]; decide) rfl ?_
      refine z_goto (tgt := 35) hX dX11_feed_71 (by decide) ?_
      refine z_loc [1, 2, 0] rfl ?_
      exact hR35 _ _ _ h
def wp_X11_feed (M : Mm) (h0 : Nat) (p1 : Int64) (p2 : Int32) (K : Int32 → Mm → Prop) : Prop := mK M h0 = 12 ∧ ((p2 < (1 : Int32) → (bk_X11_feed_28 h0 K (sI M 704 h0 (0 : Int32)))) ∧ (¬ p2 < (1 : Int32) → (((8 : Int32) < p2 → (bk_X11_feed_28 h0 K (sI M 704 h0 (0 : Int32)))) ∧ (¬ (8 : Int32) < p2 → ((((mI (sI M 704 h0 (0 : Int32)) 706 h0) + p2) ≤ (600 : Int32) → (∃ kk, lp_X11_feed_35 h0 K kk p1 (p2 - (1 : Int32)) (sI M 704 h0 (0 : Int32)))) ∧ (¬ ((mI (sI M 704 h0 (0 : Int32)) 706 h0) + p2) ≤ (600 : Int32) → (bk_X11_feed_28 h0 K (sI M 704 h0 (0 : Int32)))))))))
set_option maxRecDepth 100000 in
set_option maxHeartbeats 4000000 in
theorem ct_X11_feed {M : Mm} {h0 : Nat} {p1 : Int64} {p2 : Int32} {K : Int32 → Mm → Prop} (h : wp_X11_feed M h0 p1 p2 K) : CtI yX11_feed cX11_feed 5 (some .int) rm_X11_feed [.ref h0, .long p1, .int p2] M K := by
  refine ct_any (QI K) (by decide) (by exact Nat.le_of_ble_eq_true rfl) (fun X hX hQ hnL hnm => ?_)
  rw [show lv_args 0 [.ref h0, .long p1, .int p2] = [(0, va_rf (some h0)), (1, .long p1), (3, .int p2)] by rfl]
  have hX : Ok X cX11_feed RX11 rm_X11_feed := hX
  unfold wp_X11_feed at h
  refine z_aload_n (r := (some h0)) hX dX11_feed_0 rfl 0 rfl ?_
  refine z_iconst (v := (0 : Int32)) hX dX11_feed_1 (by decide) ?_
  obtain ⟨hk8, h⟩ := h
  refine pf_RX11_123 (r := (some h0)) (v := (0 : Int32)) hX dX11_feed_2 rfl hk8 ?_
  refine z_iload_n hX dX11_feed_5 rfl 2 rfl ?_
  refine z_iconst (v := (1 : Int32)) hX dX11_feed_6 (by decide) ?_
  obtain ⟨h1, h2⟩ := h
  refine z_icmp_lt (tgt := 28) hX dX11_feed_7 (by decide) (fun hc => ?_) (fun hc => ?_)
  · have h := h1 hc
    refine z_loc [] rfl ?_
    exact zb_X11_feed_28 hX hQ hnL h
  · have h := h2 hc
    refine z_iload_n hX dX11_feed_10 rfl 2 rfl ?_
    refine z_bipush (v := (8 : Int32)) hX dX11_feed_11 (by decide) ?_
    obtain ⟨h1, h2⟩ := h
    refine z_icmp_gt (tgt := 28) hX dX11_feed_13 (by decide) (fun hc => ?_) (fun hc => ?_)
    · have h := h1 hc
      refine z_loc [] rfl ?_
      exact zb_X11_feed_28 hX hQ hnL h
    · have h := h2 hc
      refine z_aload_n (r := (some h0)) hX dX11_feed_16 rfl 0 rfl ?_
      refine gf_RX11_127 (r := (some h0)) hX dX11_feed_17 rfl hk8 ?_
      refine z_iload_n hX dX11_feed_20 rfl 2 rfl ?_
      refine z_iadd hX dX11_feed_21 ?_
      refine z_sipush (v := (600 : Int32)) hX dX11_feed_22 (by decide) ?_
      obtain ⟨h1, h2⟩ := h
      refine z_icmp_le (tgt := 30) hX dX11_feed_25 (by decide) (fun hc => ?_) (fun hc => ?_)
      · have h := h1 hc
        refine z_iload_n hX dX11_feed_30 rfl 2 rfl ?_
        refine z_iconst (v := (1 : Int32)) hX dX11_feed_31 (by decide) ?_
        refine z_isub hX dX11_feed_32 ?_
        refine z_istore hX [(4, .int (p2 - (1 : Int32))), (0, va_rf (some h0)), (1, .long p1), (3, .int p2)] dX11_feed_33 (by rw [hnL]; decide) rfl ?_
        refine z_loc [1, 2, 0] rfl ?_
        obtain ⟨n, h⟩ := h
        exact zl_X11_feed_35 hX hQ hnL n _ _ _ h
      · have h := h2 hc
        refine z_loc [] rfl ?_
        exact zb_X11_feed_28 hX hQ hnL h
def rm_X11_byteAt : Room := { frames := 0, cells := 0, slots := 0, locals := 0 }
def bk_X11_byteAt_18 (h0 : Nat) (K : Int32 → Mm → Prop) (s0 : Int32) (M : Mm) : Prop := (K s0 M)
set_option maxRecDepth 100000 in
set_option maxHeartbeats 4000000 in
theorem zb_X11_byteAt_18 {X : Cx} {h0 : Nat} {K : Int32 → Mm → Prop} (hX : Ok X cX11_byteAt RX11 rm_X11_byteAt) (hQ : Rq X rm_X11_byteAt (some .int) (QI K)) (hnL : X.2.2.2.2.2.2.2.2.2.2.2.2.2.2 = 2) {s0 : Int32} {M : Mm} (h : bk_X11_byteAt_18 h0 K s0 M) : Z X M 0 0 18 [] [.int s0] := by
  unfold bk_X11_byteAt_18 at h
  exact z_iret hX hQ dX11_byteAt_18 h
def wp_X11_byteAt (M : Mm) (h0 : Nat) (p1 : Int32) (K : Int32 → Mm → Prop) : Prop := mK M h0 = 12 ∧ (((mI M 706 h0) ≤ p1 → (bk_X11_byteAt_18 h0 K (0 : Int32) M)) ∧ (¬ (mI M 706 h0) ≤ p1 → ∃ a2, (mR M 705 h0) = some a2 ∧ isA M a2 0 ∧ vp_in p1 (aN M a2) ∧ (bk_X11_byteAt_18 h0 K (aI M a2 (p1).toNatClampNeg) M)))
set_option maxRecDepth 100000 in
set_option maxHeartbeats 4000000 in
theorem ct_X11_byteAt {M : Mm} {h0 : Nat} {p1 : Int32} {K : Int32 → Mm → Prop} (h : wp_X11_byteAt M h0 p1 K) : CtI yX11_byteAt cX11_byteAt 2 (some .int) rm_X11_byteAt [.ref h0, .int p1] M K := by
  refine ct_any (QI K) (by decide) (by exact Nat.le_of_ble_eq_true rfl) (fun X hX hQ hnL hnm => ?_)
  rw [show lv_args 0 [.ref h0, .int p1] = [(0, va_rf (some h0)), (1, .int p1)] by rfl]
  have hX : Ok X cX11_byteAt RX11 rm_X11_byteAt := hX
  unfold wp_X11_byteAt at h
  refine z_iload_n hX dX11_byteAt_0 rfl 1 rfl ?_
  refine z_aload_n (r := (some h0)) hX dX11_byteAt_1 rfl 0 rfl ?_
  obtain ⟨hk1, h⟩ := h
  refine gf_RX11_127 (r := (some h0)) hX dX11_byteAt_2 rfl hk1 ?_
  obtain ⟨h1, h2⟩ := h
  refine z_icmp_ge (tgt := 17) hX dX11_byteAt_5 (by decide) (fun hc => ?_) (fun hc => ?_)
  · have h := h1 hc
    refine z_iconst (v := (0 : Int32)) hX dX11_byteAt_17 (by decide) ?_
    refine z_loc [] rfl ?_
    exact zb_X11_byteAt_18 hX hQ hnL h
  · have h := h2 hc
    refine z_aload_n (r := (some h0)) hX dX11_byteAt_8 rfl 0 rfl ?_
    refine gf_RX11_11 (r := (some h0)) hX dX11_byteAt_9 rfl hk1 ?_
    refine z_iload_n hX dX11_byteAt_12 rfl 1 rfl ?_
    obtain ⟨a2, ha3, h⟩ := h
    obtain ⟨hk4, h⟩ := h
    obtain ⟨hc5, h⟩ := h
    refine y_bald (r := (mR M 705 h0)) hX dX11_byteAt_13 ha3 hk4 hc5 ?_
    refine z_goto (tgt := 18) hX dX11_byteAt_14 (by decide) ?_
    refine z_loc [] rfl ?_
    exact zb_X11_byteAt_18 hX hQ hnL h
def rm_X11_isLetter : Room := { frames := 0, cells := 0, slots := 0, locals := 0 }
def bk_X11_isLetter_17 (K : Int32 → Mm → Prop) (s0 : Int32) (M : Mm) : Prop := (bz s0 ∧ K s0 M)
set_option maxRecDepth 100000 in
set_option maxHeartbeats 4000000 in
theorem zb_X11_isLetter_17 {X : Cx} {K : Int32 → Mm → Prop} (hX : Ok X cX11_isLetter RX11 rm_X11_isLetter) (hQ : Rq X rm_X11_isLetter (some .boolean) (QI K)) (hnL : X.2.2.2.2.2.2.2.2.2.2.2.2.2.2 = 1) {s0 : Int32} {M : Mm} (h : bk_X11_isLetter_17 K s0 M) : Z X M 0 0 17 [] [.int s0] := by
  unfold bk_X11_isLetter_17 at h
  exact y_zret hX hQ dX11_isLetter_17 h.1 h.2
def bk_X11_isLetter_16 (K : Int32 → Mm → Prop) (M : Mm) : Prop := (bk_X11_isLetter_17 K (0 : Int32) M)
set_option maxRecDepth 100000 in
set_option maxHeartbeats 4000000 in
theorem zb_X11_isLetter_16 {X : Cx} {K : Int32 → Mm → Prop} (hX : Ok X cX11_isLetter RX11 rm_X11_isLetter) (hQ : Rq X rm_X11_isLetter (some .boolean) (QI K)) (hnL : X.2.2.2.2.2.2.2.2.2.2.2.2.2.2 = 1) {M : Mm} (h : bk_X11_isLetter_16 K M) : Z X M 0 0 16 [] [] := by
  unfold bk_X11_isLetter_16 at h
  refine z_iconst (v := (0 : Int32)) hX dX11_isLetter_16 (by decide) ?_
  exact zb_X11_isLetter_17 hX hQ hnL h
def wp_X11_isLetter (M : Mm) (p1 : Int32) (K : Int32 → Mm → Prop) : Prop := ((p1 < (97 : Int32) → (bk_X11_isLetter_16 K M)) ∧ (¬ p1 < (97 : Int32) → (((122 : Int32) < p1 → (bk_X11_isLetter_16 K M)) ∧ (¬ (122 : Int32) < p1 → (bk_X11_isLetter_17 K (1 : Int32) M)))))
set_option maxRecDepth 100000 in
set_option maxHeartbeats 4000000 in
theorem ct_X11_isLetter {M : Mm} {p1 : Int32} {K : Int32 → Mm → Prop} (h : wp_X11_isLetter M p1 K) : CtI yX11_isLetter cX11_isLetter 1 (some .boolean) rm_X11_isLetter [.int p1] M K := by
  refine ct_any (QI K) (by decide) (by exact Nat.le_of_ble_eq_true rfl) (fun X hX hQ hnL hnm => ?_)
  rw [show lv_args 0 [.int p1] = [(0, .int p1)] by rfl]
  have hX : Ok X cX11_isLetter RX11 rm_X11_isLetter := hX
  unfold wp_X11_isLetter at h
  refine z_iload_n hX dX11_isLetter_0 rfl 0 rfl ?_
  refine z_bipush (v := (97 : Int32)) hX dX11_isLetter_1 (by decide) ?_
  obtain ⟨h1, h2⟩ := h
  refine z_icmp_lt (tgt := 16) hX dX11_isLetter_3 (by decide) (fun hc => ?_) (fun hc => ?_)
  · have h := h1 hc
    refine z_loc [] rfl ?_
    exact zb_X11_isLetter_16 hX hQ hnL h
  · have h := h2 hc
    refine z_iload_n hX dX11_isLetter_6 rfl 0 rfl ?_
    refine z_bipush (v := (122 : Int32)) hX dX11_isLetter_7 (by decide) ?_
    obtain ⟨h1, h2⟩ := h
    refine z_icmp_gt (tgt := 16) hX dX11_isLetter_9 (by decide) (fun hc => ?_) (fun hc => ?_)
    · have h := h1 hc
      refine z_loc [] rfl ?_
      exact zb_X11_isLetter_16 hX hQ hnL h
    · have h := h2 hc
      refine z_iconst (v := (1 : Int32)) hX dX11_isLetter_12 (by decide) ?_
      refine z_goto (tgt := 17) hX dX11_isLetter_13 (by decide) ?_
      refine z_loc [] rfl ?_
      exact zb_X11_isLetter_17 hX hQ hnL h
def rm_X11_isDigit : Room := { frames := 0, cells := 0, slots := 0, locals := 0 }
def bk_X11_isDigit_17 (K : Int32 → Mm → Prop) (s0 : Int32) (M : Mm) : Prop := (bz s0 ∧ K s0 M)
set_option maxRecDepth 100000 in
set_option maxHeartbeats 4000000 in
theorem zb_X11_isDigit_17 {X : Cx} {K : Int32 → Mm → Prop} (hX : Ok X cX11_isDigit RX11 rm_X11_isDigit) (hQ : Rq X rm_X11_isDigit (some .boolean) (QI K)) (hnL : X.2.2.2.2.2.2.2.2.2.2.2.2.2.2 = 1) {s0 : Int32} {M : Mm} (h : bk_X11_isDigit_17 K s0 M) : Z X M 0 0 17 [] [.int s0] := by
  unfold bk_X11_isDigit_17 at h
  exact y_zret hX hQ dX11_isDigit_17 h.1 h.2
def bk_X11_isDigit_16 (K : Int32 → Mm → Prop) (M : Mm) : Prop := (bk_X11_isDigit_17 K (0 : Int32) M)
set_option maxRecDepth 100000 in
set_option maxHeartbeats 4000000 in
theorem zb_X11_isDigit_16 {X : Cx} {K : Int32 → Mm → Prop} (hX : Ok X cX11_isDigit RX11 rm_X11_isDigit) (hQ : Rq X rm_X11_isDigit (some .boolean) (QI K)) (hnL : X.2.2.2.2.2.2.2.2.2.2.2.2.2.2 = 1) {M : Mm} (h : bk_X11_isDigit_16 K M) : Z X M 0 0 16 [] [] := by
  unfold bk_X11_isDigit_16 at h
  refine z_iconst (v := (0 : Int32)) hX dX11_isDigit_16 (by decide) ?_
  exact zb_X11_isDigit_17 hX hQ hnL h
def wp_X11_isDigit (M : Mm) (p1 : Int32) (K : Int32 → Mm → Prop) : Prop := ((p1 < (48 : Int32) → (bk_X11_isDigit_16 K M)) ∧ (¬ p1 < (48 : Int32) → (((57 : Int32) < p1 → (bk_X11_isDigit_16 K M)) ∧ (¬ (57 : Int32) < p1 → (bk_X11_isDigit_17 K (1 : Int32) M)))))
set_option maxRecDepth 100000 in
set_option maxHeartbeats 4000000 in
theorem ct_X11_isDigit {M : Mm} {p1 : Int32} {K : Int32 → Mm → Prop} (h : wp_X11_isDigit M p1 K) : CtI yX11_isDigit cX11_isDigit 1 (some .boolean) rm_X11_isDigit [.int p1] M K := by
  refine ct_any (QI K) (by decide) (by exact Nat.le_of_ble_eq_true rfl) (fun X hX hQ hnL hnm => ?_)
  rw [show lv_args 0 [.int p1] = [(0, .int p1)] by rfl]
  have hX : Ok X cX11_isDigit RX11 rm_X11_isDigit := hX
  unfold wp_X11_isDigit at h
  refine z_iload_n hX dX11_isDigit_0 rfl 0 rfl ?_
  refine z_bipush (v := (48 : Int32)) hX dX11_isDigit_1 (by decide) ?_
  obtain ⟨h1, h2⟩ := h
  refine z_icmp_lt (tgt := 16) hX dX11_isDigit_3 (by decide) (fun hc => ?_) (fun hc => ?_)
  · have h := h1 hc
    refine z_loc [] rfl ?_
    exact zb_X11_isDigit_16 hX hQ hnL h
  · have h := h2 hc
    refine z_iload_n hX dX11_isDigit_6 rfl 0 rfl ?_
    refine z_bipush (v := (57 : Int32)) hX dX11_isDigit_7 (by decide) ?_
    obtain ⟨h1, h2⟩ := h
    refine z_icmp_gt (tgt := 16) hX dX11_isDigit_9 (by decide) (fun hc => ?_) (fun hc => ?_)
    · have h := h1 hc
      refine z_loc [] rfl ?_
      exact zb_X11_isDigit_16 hX hQ hnL h
    · have h := h2 hc
      refine z_iconst (v := (1 : Int32)) hX dX11_isDigit_12 (by decide) ?_
      refine z_goto (tgt := 17) hX dX11_isDigit_13 (by decide) ?_
      refine z_loc [] rfl ?_
      exact zb_X11_isDigit_17 hX hQ hnL h
