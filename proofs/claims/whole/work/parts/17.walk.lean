def rm_X10_release : Room := { frames := 311, cells := 0, slots := 0, locals := 12261 }
def bk_X10_release_28 (h0 : Nat) (K : Int32 → Mm → Prop) (M : Mm) : Prop := (K (-1 : Int32) M)
set_option maxRecDepth 100000 in
set_option maxHeartbeats 4000000 in
theorem zb_X10_release_28 {X : Cx} {h0 : Nat} {K : Int32 → Mm → Prop} (hX : Ok X cX10_release RX10 rm_X10_release) (hQ : Rq X rm_X10_release (some .int) (QI K)) (hnL : X.2.2.2.2.2.2.2.2.2.2.2.2.2.2 = 4) {M : Mm} (h : bk_X10_release_28 h0 K M) : Z X M 0 0 28 [] [] := by
  unfold bk_X10_release_28 at h
  refine z_iconst (v := (-1 : Int32)) hX dX10_release_28 (by decide) ?_
  exact z_iret hX hQ dX10_release_29 h
def bk_X10_release_43 (h0 : Nat) (K : Int32 → Mm → Prop) (l1 : Int32) (M : Mm) : Prop := mK M h0 = 11 ∧ ∃ a2, (mR M 644 h0) = some a2 ∧ mK M a2 = 2 ∧ ∃ a5, (mR M 68 a2) = some a5 ∧ mK M a5 = 9 ∧ ∃ a8, (mR M 514 a5) = some a8 ∧ isA M a8 3 ∧ vp_in l1 (aN M a8) ∧ ∃ a14, (mR (tI M a8 (l1).toNatClampNeg (0 : Int32)) 644 h0) = some a14 ∧ mK (tI M a8 (l1).toNatClampNeg (0 : Int32)) a14 = 2 ∧ (wp_X1_reckon (tI M a8 (l1).toNatClampNeg (0 : Int32)) a14 (fun M13 => (K (1 : Int32) M13)))
set_option maxRecDepth 100000 in
set_option maxHeartbeats 4000000 in
theorem zb_X10_release_43 {X : Cx} {h0 : Nat} {K : Int32 → Mm → Prop} (hX : Ok X cX10_release RX10 rm_X10_release) (hQ : Rq X rm_X10_release (some .int) (QI K)) (hnL : X.2.2.2.2.2.2.2.2.2.2.2.2.2.2 = 4) {l1 : Int32} {M : Mm} (h : bk_X10_release_43 h0 K l1 M) : Z X M 0 0 43 [(0, va_rf (some h0)), (1, .int l1)] [] := by
  unfold bk_X10_release_43 at h
  refine z_aload_n (r := (some h0)) hX dX10_release_43 rfl 0 rfl ?_
  obtain ⟨hk1, h⟩ := h
  refine gf_RX10_31 (r := (some h0)) hX dX10_release_44 rfl hk1 ?_
  obtain ⟨a2, ha3, h⟩ := h
  obtain ⟨hk4, h⟩ := h
  refine gf_RX10_139 (r := (mR M 644 h0)) hX dX10_release_47 ha3 hk4 ?_
  obtain ⟨a5, ha6, h⟩ := h
  obtain ⟨hk7, h⟩ := h
  refine gf_RX10_161 (r := (mR M 68 a2)) hX dX10_release_50 ha6 hk7 ?_
  refine z_iload_n hX dX10_release_53 rfl 1 rfl ?_
  refine z_iconst (v := (0 : Int32)) hX dX10_release_54 (by decide) ?_
  obtain ⟨a8, ha9, h⟩ := h
  obtain ⟨hk10, h⟩ := h
  obtain ⟨hc11, h⟩ := h
  refine y_zast (r := (mR M 514 a5)) hX dX10_release_55 ha9 hk10 hc11 (Or.inl rfl)  ?_
  refine z_aload_n (r := (some h0)) hX dX10_release_56 rfl 0 rfl ?_
  refine gf_RX10_31 (r := (some h0)) hX dX10_release_57 rfl hk1 ?_
  obtain ⟨a14, ha15, h⟩ := h
  obtain ⟨hk16, h⟩ := h
  refine z_callVV (As := []) (rest := []) (ci := 1) hX (ct_X1_reckon h) mw_RX10_102 rfl (by decide) rfl (by rw [ha15]; rfl) (by unfold RoomC; decide) (by decide) dX10_release_60 hk16 (fun M13 h => ?_)
  refine z_iconst (v := (1 : Int32)) hX dX10_release_63 (by decide) ?_
  exact z_iret hX hQ dX10_release_64 h
def wp_X10_release (M : Mm) (h0 : Nat) (p1 : Int32) (p2 : Int32) (p3 : Int32) (K : Int32 → Mm → Prop) : Prop := mK M h0 = 11 ∧ (((mR M 644 h0) = none → (bk_X10_release_28 h0 K M)) ∧ (∀ a19, (mR M 644 h0) = some a19 → mK M a19 = 2 ∧ ∃ a24, (mR M 68 a19) = some a24 ∧ mK M a24 = 9 ∧ (wp_X8_isHeld M a24 p1 (fun r22 M23 => ((r22 = 0 → (bk_X10_release_28 h0 K M23)) ∧ (¬ r22 = 0 → (wp_X10_isKey M23 p3 (fun r28 M29 => ((¬ r28 = 0 → ((p2 = 0 → (bk_X10_release_43 h0 K p1 M29)) ∧ (¬ p2 = 0 → mK M29 h0 = 11 ∧ ∃ a34, (mR M29 644 h0) = some a34 ∧ mK M29 a34 = 2 ∧ (wp_X1_emit M29 a34 p1 p3 (fun M33 => (bk_X10_release_43 h0 K p1 M33)))))) ∧ (r28 = 0 → (bk_X10_release_28 h0 K M29)))))))))))
set_option maxRecDepth 100000 in
set_option maxHeartbeats 4000000 in
theorem ct_X10_release {M : Mm} {h0 : Nat} {p1 : Int32} {p2 : Int32} {p3 : Int32} {K : Int32 → Mm → Prop} (h : wp_X10_release M h0 p1 p2 p3 K) : CtI yX10_release cX10_release 4 (some .int) rm_X10_release [.ref h0, .int p1, .int p2, .int p3] M K := by
  refine ct_any (QI K) (by decide) (by exact Nat.le_of_ble_eq_true rfl) (fun X hX hQ hnL hnm => ?_)
  rw [show lv_args 0 [.ref h0, .int p1, .int p2, .int p3] = [(0, va_rf (some h0)), (1, .int p1), (2, .int p2), (3, .int p3)] by rfl]
  have hX : Ok X cX10_release RX10 rm_X10_release := hX
  unfold wp_X10_release at h
  refine z_aload_n (r := (some h0)) hX dX10_release_0 rfl 0 rfl ?_
  obtain ⟨hk18, h⟩ := h
  refine gf_RX10_31 (r := (some h0)) hX dX10_release_1 rfl hk18 ?_
  obtain ⟨h1, h2⟩ := h
  refine z_ifnull (r := (mR M 644 h0)) (tgt := 28) hX dX10_release_4 (by decide) (fun hc => ?_) (fun a19 ha20 => ?_)
  · have h := h1 hc
    refine z_loc [] rfl ?_
    exact zb_X10_release_28 hX hQ hnL h
  · have h := h2 a19 ha20
    refine z_aload_n (r := (some h0)) hX dX10_release_7 rfl 0 rfl ?_
    refine gf_RX10_31 (r := (some h0)) hX dX10_release_8 rfl hk18 ?_
    obtain ⟨hk21, h⟩ := h
    refine gf_RX10_139 (r := (mR M 644 h0)) hX dX10_release_11 ha20 hk21 ?_
    refine z_iload_n hX dX10_release_14 rfl 1 rfl ?_
    obtain ⟨a24, ha25, h⟩ := h
    obtain ⟨hk26, h⟩ := h
    refine z_callVI (As := [.int p1]) (rest := []) (ci := 8) hX (ct_X8_isHeld h) mw_RX10_155 rfl (by decide) rfl (by rw [ha25]; rfl) (by unfold RoomC; decide) (by decide) dX10_release_15 hk26 (fun r22 M23 h => ?_)
    obtain ⟨h1, h2⟩ := h
    refine z_if_eq (tgt := 28) hX dX10_release_18 (by decide) (fun hc => ?_) (fun hc => ?_)
    · have h := h1 hc
      refine z_loc [] rfl ?_
      exact zb_X10_release_28 hX hQ hnL h
    · have h := h2 hc
      refine z_iload_n hX dX10_release_21 rfl 3 rfl ?_
      refine z_callSI (As := [.int p3]) (rest := []) hX (ct_X10_isKey h) mw_RX10_84 rfl (by rfl) (by unfold RoomC; decide) (by decide) dX10_release_22 (fun r28 M29 h => ?_)
      obtain ⟨h1, h2⟩ := h
      refine z_if_ne (tgt := 30) hX dX10_release_25 (by decide) (fun hc => ?_) (fun hc => ?_)
      · have h := h1 hc
        refine z_iload_n hX dX10_release_30 rfl 2 rfl ?_
        obtain ⟨h1, h2⟩ := h
        refine z_if_eq (tgt := 43) hX dX10_release_31 (by decide) (fun hc => ?_) (fun hc => ?_)
        · have h := h1 hc
          refine z_loc [0, 1] rfl ?_
          exact zb_X10_release_43 hX hQ hnL h
        · have h := h2 hc
          refine z_aload_n (r := (some h0)) hX dX10_release_34 rfl 0 rfl ?_
          obtain ⟨hk31, h⟩ := h
          refine gf_RX10_31 (r := (some h0)) hX dX10_release_35 rfl hk31 ?_
          refine z_iload_n hX dX10_release_38 rfl 1 rfl ?_
          refine z_iload_n hX dX10_release_39 rfl 3 rfl ?_
          obtain ⟨a34, ha35, h⟩ := h
          obtain ⟨hk36, h⟩ := h
          refine z_callVV (As := [.int p1, .int p3]) (rest := []) (ci := 1) hX (ct_X1_emit h) mw_RX10_158 rfl (by decide) rfl (by rw [ha35]; rfl) (by unfold RoomC; decide) (by decide) dX10_release_40 hk36 (fun M33 h => ?_)
          refine z_loc [0, 1] rfl ?_
          exact zb_X10_release_43 hX hQ hnL h
      · have h := h2 hc
        refine z_loc [] rfl ?_
        exact zb_X10_release_28 hX hQ hnL h
