def rm_X10_told : Room := { frames := 4, cells := 0, slots := 0, locals := 96 }
def bk_X10_told_10 (h0 : Nat) (K : Int32 → Mm → Prop) (M : Mm) : Prop := (K (-1 : Int32) M)
set_option maxRecDepth 100000 in
set_option maxHeartbeats 4000000 in
theorem zb_X10_told_10 {X : Cx} {h0 : Nat} {K : Int32 → Mm → Prop} (hX : Ok X cX10_told RX10 rm_X10_told) (hQ : Rq X rm_X10_told (some .int) (QI K)) (hnL : X.2.2.2.2.2.2.2.2.2.2.2.2.2.2 = 2) {M : Mm} (h : bk_X10_told_10 h0 K M) : Z X M 0 0 10 [] [] := by
  unfold bk_X10_told_10 at h
  refine z_iconst (v := (-1 : Int32)) hX dX10_told_10 (by decide) ?_
  exact z_iret hX hQ dX10_told_11 h
def wp_X10_told (M : Mm) (h0 : Nat) (p1 : Int32) (K : Int32 → Mm → Prop) : Prop := ((p1 < 0 → (bk_X10_told_10 h0 K M)) ∧ (¬ p1 < 0 → ((p1 ≤ (8 : Int32) → ((¬ p1 = (8 : Int32) → mK M h0 = 11 ∧ (((mR M 644 h0) = none → (K (0 : Int32) M)) ∧ (∀ a2, (mR M 644 h0) = some a2 → (((p1).toInt < 0 ∨ 6 < (p1).toInt → mK M a2 = 2 ∧ (wp_X1_countStoppedParts M a2 (fun r4 M5 => (K r4 M5)))) ∧ (p1 = 0 → mK M a2 = 2 ∧ (K (mI M 69 a2) M)) ∧ (p1 = 1 → mK M a2 = 2 ∧ (K (mI M 70 a2) M)) ∧ (p1 = 2 → ∃ a10, (mR M 642 h0) = some a10 ∧ mK M a10 = 4 ∧ (K (mI M 194 a10) M)) ∧ (p1 = 3 → ∃ a13, (mR M 643 h0) = some a13 ∧ mK M a13 = 4 ∧ (K (mI M 194 a13) M)) ∧ (p1 = 4 → mK M a2 = 2 ∧ (K (mI M 71 a2) M)) ∧ (p1 = 5 → mK M a2 = 2 ∧ ∃ a20, (mR M 68 a2) = some a20 ∧ mK M a20 = 9 ∧ (wp_X8_countAll M a20 (fun r18 M19 => (K r18 M19)))) ∧ (p1 = 6 → mK M a2 = 2 ∧ (wp_X1_countIdleParts M a2 (fun r24 M25 => (K r24 M25)))))))) ∧ (p1 = (8 : Int32) → mK M h0 = 11 ∧ ∃ a29, (mR M 640 h0) = some a29 ∧ mK M a29 = 1 ∧ (K (mI M 1 a29) M)))) ∧ (¬ p1 ≤ (8 : Int32) → (bk_X10_told_10 h0 K M)))))
set_option maxRecDepth 100000 in
set_option maxHeartbeats 4000000 in
theorem ct_X10_told {M : Mm} {h0 : Nat} {p1 : Int32} {K : Int32 → Mm → Prop} (h : wp_X10_told M h0 p1 K) : CtI yX10_told cX10_told 2 (some .int) rm_X10_told [.ref h0, .int p1] M K := by
  refine ct_any (QI K) (by decide) (by exact Nat.le_of_ble_eq_true rfl) (fun X hX hQ hnL hnm => ?_)
  rw [show lv_args 0 [.ref h0, .int p1] = [(0, va_rf (some h0)), (1, .int p1)] by rfl]
  have hX : Ok X cX10_told RX10 rm_X10_told := hX
  unfold wp_X10_told at h
  refine z_iload_n hX dX10_told_0 rfl 1 rfl ?_
  obtain ⟨h1, h2⟩ := h
  refine z_if_lt (tgt := 10) hX dX10_told_1 (by decide) (fun hc => ?_) (fun hc => ?_)
  · have h := h1 hc
    refine z_loc [] rfl ?_
    exact zb_X10_told_10 hX hQ hnL h
  · have h := h2 hc
    refine z_iload_n hX dX10_told_4 rfl 1 rfl ?_
    refine z_bipush (v := (8 : Int32)) hX dX10_told_5 (by decide) ?_
    obtain ⟨h1, h2⟩ := h
    refine z_icmp_le (tgt := 12) hX dX10_told_7 (by decide) (fun hc => ?_) (fun hc => ?_)
    · have h := h1 hc
      refine z_iload_n hX dX10_told_12 rfl 1 rfl ?_
      refine z_bipush (v := (8 : Int32)) hX dX10_told_13 (by decide) ?_
      obtain ⟨h1, h2⟩ := h
      refine z_icmp_ne (tgt := 26) hX dX10_told_15 (by decide) (fun hc => ?_) (fun hc => ?_)
      · have h := h1 hc
        refine z_aload_n (r := (some h0)) hX dX10_told_26 rfl 0 rfl ?_
        obtain ⟨hk1, h⟩ := h
        refine gf_RX10_31 (r := (some h0)) hX dX10_told_27 rfl hk1 ?_
        obtain ⟨h1, h2⟩ := h
        refine z_ifnonnull (r := (mR M 644 h0)) (tgt := 35) hX dX10_told_30 (by decide) (fun a2 ha3 => ?_) (fun hc => ?_)
        · have h := h2 a2 ha3
          refine z_iload_n hX dX10_told_35 rfl 1 rfl ?_
          obtain ⟨hD, h1, h2, h3, h4, h5, h6, h7⟩ := h
          by_cases hlo : (p1).toInt < 0 ∨ 6 < (p1).toInt
          · have h := hD hlo
            refine z_tswD (tgt := 139) hX dX10_told_36 hlo (by decide) ?_
            refine z_aload_n (r := (some h0)) hX dX10_told_139 rfl 0 rfl ?_
            refine gf_RX10_31 (r := (some h0)) hX dX10_told_140 rfl hk1 ?_
            obtain ⟨hk6, h⟩ := h
            refine z_callVI (As := []) (rest := []) (ci := 1) hX (ct_X1_countStoppedParts h) mw_RX10_236 rfl (by decide) rfl (by rw [ha3]; rfl) (by unfold RoomC; decide) (by decide) dX10_told_143 hk6 (fun r4 M5 h => ?_)
            exact z_iret hX hQ dX10_told_146 h
          · rcases (show (p1).toInt = 0 ∨ (p1).toInt = 1 ∨ (p1).toInt = 2 ∨ (p1).toInt = 3 ∨ (p1).toInt = 4 ∨ (p1).toInt = 5 ∨ (p1).toInt = 6 by omega) with hj | hj | hj | hj | hj | hj | hj
            · have hx9 : p1 = 0 := Int32.toInt_inj.mp (by rw [hj]; rfl)
              have h := h1 hx9
              refine z_tswI (off := 44) (tgt := 80) hX dX10_told_36 (by rw [hx9]; decide) (by rw [hx9]; decide) (by rw [hx9]; rfl) (by decide) ?_
              refine z_aload_n (r := (some h0)) hX dX10_told_80 rfl 0 rfl ?_
              refine gf_RX10_31 (r := (some h0)) hX dX10_told_81 rfl hk1 ?_
              obtain ⟨hk8, h⟩ := h
              refine gf_RX10_73 (r := (mR M 644 h0)) hX dX10_told_84 ha3 hk8 ?_
              exact z_iret hX hQ dX10_told_87 h
            · have hx9 : p1 = 1 := Int32.toInt_inj.mp (by rw [hj]; rfl)
              have h := h2 hx9
              refine z_tswI (off := 52) (tgt := 88) hX dX10_told_36 (by rw [hx9]; decide) (by rw [hx9]; decide) (by rw [hx9]; rfl) (by decide) ?_
              refine z_aload_n (r := (some h0)) hX dX10_told_88 rfl 0 rfl ?_
              refine gf_RX10_31 (r := (some h0)) hX dX10_told_89 rfl hk1 ?_
              obtain ⟨hk9, h⟩ := h
              refine gf_RX10_105 (r := (mR M 644 h0)) hX dX10_told_92 ha3 hk9 ?_
              exact z_iret hX hQ dX10_told_95 h
            · have hx9 : p1 = 2 := Int32.toInt_inj.mp (by rw [hj]; rfl)
              have h := h3 hx9
              refine z_tswI (off := 60) (tgt := 96) hX dX10_told_36 (by rw [hx9]; decide) (by rw [hx9]; decide) (by rw [hx9]; rfl) (by decide) ?_
              refine z_aload_n (r := (some h0)) hX dX10_told_96 rfl 0 rfl ?_
              refine gf_RX10_24 (r := (some h0)) hX dX10_told_97 rfl hk1 ?_
              obtain ⟨a10, ha11, h⟩ := h
              obtain ⟨hk12, h⟩ := h
              refine gf_RX10_225 (r := (mR M 642 h0)) hX dX10_told_100 ha11 hk12 ?_
              exact z_iret hX hQ dX10_told_103 h
            · have hx9 : p1 = 3 := Int32.toInt_inj.mp (by rw [hj]; rfl)
              have h := h4 hx9
              refine z_tswI (off := 68) (tgt := 104) hX dX10_told_36 (by rw [hx9]; decide) (by rw [hx9]; decide) (by rw [hx9]; rfl) (by decide) ?_
              refine z_aload_n (r := (some h0)) hX dX10_told_104 rfl 0 rfl ?_
              refine gf_RX10_28 (r := (some h0)) hX dX10_told_105 rfl hk1 ?_
              obtain ⟨a13, ha14, h⟩ := h
              obtain ⟨hk15, h⟩ := h
              refine gf_RX10_225 (r := (mR M 643 h0)) hX dX10_told_108 ha14 hk15 ?_
              exact z_iret hX hQ dX10_told_111 h
            · have hx9 : p1 = 4 := Int32.toInt_inj.mp (by rw [hj]; rfl)
              have h := h5 hx9
              refine z_tswI (off := 76) (tgt := 112) hX dX10_told_36 (by rw [hx9]; decide) (by rw [hx9]; decide) (by rw [hx9]; rfl) (by decide) ?_
              refine z_aload_n (r := (some h0)) hX dX10_told_112 rfl 0 rfl ?_
              refine gf_RX10_31 (r := (some h0)) hX dX10_told_113 rfl hk1 ?_
              obtain ⟨hk16, h⟩ := h
              refine gf_RX10_226 (r := (mR M 644 h0)) hX dX10_told_116 ha3 hk16 ?_
              exact z_iret hX hQ dX10_told_119 h
            · have hx9 : p1 = 5 := Int32.toInt_inj.mp (by rw [hj]; rfl)
              have h := h6 hx9
              refine z_tswI (off := 84) (tgt := 120) hX dX10_told_36 (by rw [hx9]; decide) (by rw [hx9]; decide) (by rw [hx9]; rfl) (by decide) ?_
              refine z_aload_n (r := (some h0)) hX dX10_told_120 rfl 0 rfl ?_
              refine gf_RX10_31 (r := (some h0)) hX dX10_told_121 rfl hk1 ?_
              obtain ⟨hk17, h⟩ := h
              refine gf_RX10_139 (r := (mR M 644 h0)) hX dX10_told_124 ha3 hk17 ?_
              obtain ⟨a20, ha21, h⟩ := h
              obtain ⟨hk22, h⟩ := h
              refine z_callVI (As := []) (rest := []) (ci := 8) hX (ct_X8_countAll h) mw_RX10_229 rfl (by decide) rfl (by rw [ha21]; rfl) (by unfold RoomC; decide) (by decide) dX10_told_127 hk22 (fun r18 M19 h => ?_)
              exact z_iret hX hQ dX10_told_130 h
            · have hx9 : p1 = 6 := Int32.toInt_inj.mp (by rw [hj]; rfl)
              have h := h7 hx9
              refine z_tswI (off := 95) (tgt := 131) hX dX10_told_36 (by rw [hx9]; decide) (by rw [hx9]; decide) (by rw [hx9]; rfl) (by decide) ?_
              refine z_aload_n (r := (some h0)) hX dX10_told_131 rfl 0 rfl ?_
              refine gf_RX10_31 (r := (some h0)) hX dX10_told_132 rfl hk1 ?_
              obtain ⟨hk26, h⟩ := h
              refine z_callVI (As := []) (rest := []) (ci := 1) hX (ct_X1_countIdleParts h) mw_RX10_233 rfl (by decide) rfl (by rw [ha3]; rfl) (by unfold RoomC; decide) (by decide) dX10_told_135 hk26 (fun r24 M25 h => ?_)
              exact z_iret hX hQ dX10_told_138 h
        · have h := h1 hc
          refine z_iconst (v := (0 : Int32)) hX dX10_told_33 (by decide) ?_
          exact z_iret hX hQ dX10_told_34 h
      · have h := h2 hc
        refine z_aload_n (r := (some h0)) hX dX10_told_18 rfl 0 rfl ?_
        obtain ⟨hk28, h⟩ := h
        refine gf_RX10_14 (r := (some h0)) hX dX10_told_19 rfl hk28 ?_
        obtain ⟨a29, ha30, h⟩ := h
        obtain ⟨hk31, h⟩ := h
        refine gf_RX10_39 (r := (mR M 640 h0)) hX dX10_told_22 ha30 hk31 ?_
        exact z_iret hX hQ dX10_told_25 h
    · have h := h2 hc
      refine z_loc [] rfl ?_
      exact zb_X10_told_10 hX hQ hnL h
def rm_X10_print : Room := { frames := 5, cells := 0, slots := 0, locals := 114 }
def wp_X10_print (M : Mm) (h0 : Nat) (K : Int32 → Mm → Prop) : Prop := mK M h0 = 11 ∧ (((mR M 644 h0) = none → (K (-1 : Int32) M)) ∧ (∀ a2, (mR M 644 h0) = some a2 → ∃ a6, (mR M 641 h0) = some a6 ∧ mK M a6 = 1 ∧ (wp_X0_clear M a6 (fun M5 => mK M5 h0 = 11 ∧ ∃ a13, (mR M5 644 h0) = some a13 ∧ mK M5 a13 = 2 ∧ (wp_X1_write M5 a13 (mR M5 641 h0) (fun M12 => mK M12 h0 = 11 ∧ ∃ a18, (mR M12 641 h0) = some a18 ∧ mK M12 a18 = 1 ∧ (K (mI M12 1 a18) M12)))))))
set_option maxRecDepth 100000 in
set_option maxHeartbeats 4000000 in
theorem ct_X10_print {M : Mm} {h0 : Nat} {K : Int32 → Mm → Prop} (h : wp_X10_print M h0 K) : CtI yX10_print cX10_print 1 (some .int) rm_X10_print [.ref h0] M K := by
  refine ct_any (QI K) (by decide) (by exact Nat.le_of_ble_eq_true rfl) (fun X hX hQ hnL hnm => ?_)
  rw [show lv_args 0 [.ref h0] = [(0, va_rf (some h0))] by rfl]
  have hX : Ok X cX10_print RX10 rm_X10_print := hX
  unfold wp_X10_print at h
  refine z_aload_n (r := (some h0)) hX dX10_print_0 rfl 0 rfl ?_
  obtain ⟨hk1, h⟩ := h
  refine gf_RX10_31 (r := (some h0)) hX dX10_print_1 rfl hk1 ?_
  obtain ⟨h1, h2⟩ := h
  refine z_ifnonnull (r := (mR M 644 h0)) (tgt := 9) hX dX10_print_4 (by decide) (fun a2 ha3 => ?_) (fun hc => ?_)
  · have h := h2 a2 ha3
    refine z_aload_n (r := (some h0)) hX dX10_print_9 rfl 0 rfl ?_
    refine gf_RX10_18 (r := (some h0)) hX dX10_print_10 rfl hk1 ?_
    obtain ⟨a6, ha7, h⟩ := h
    obtain ⟨hk8, h⟩ := h
    refine z_callVV (As := []) (rest := []) (ci := 0) hX (ct_X0_clear h) mw_RX10_64 rfl (by decide) rfl (by rw [ha7]; rfl) (by unfold RoomC; decide) (by decide) dX10_print_13 hk8 (fun M5 h => ?_)
    refine z_aload_n (r := (some h0)) hX dX10_print_16 rfl 0 rfl ?_
    obtain ⟨hk10, h⟩ := h
    refine gf_RX10_31 (r := (some h0)) hX dX10_print_17 rfl hk10 ?_
    refine z_aload_n (r := (some h0)) hX dX10_print_20 rfl 0 rfl ?_
    refine gf_RX10_18 (r := (some h0)) hX dX10_print_21 rfl hk10 ?_
    obtain ⟨a13, ha14, h⟩ := h
    obtain ⟨hk15, h⟩ := h
    refine z_callVV (As := [va_rf (mR M5 641 h0)]) (rest := []) (ci := 1) hX (ct_X1_write h) mw_RX10_239 rfl (by decide) rfl (by rw [ha14]; rfl) (by unfold RoomC; decide) (by decide) dX10_print_24 hk15 (fun M12 h => ?_)
    refine z_aload_n (r := (some h0)) hX dX10_print_27 rfl 0 rfl ?_
    obtain ⟨hk17, h⟩ := h
    refine gf_RX10_18 (r := (some h0)) hX dX10_print_28 rfl hk17 ?_
    obtain ⟨a18, ha19, h⟩ := h
    obtain ⟨hk20, h⟩ := h
    refine gf_RX10_39 (r := (mR M12 641 h0)) hX dX10_print_31 ha19 hk20 ?_
    exact z_iret hX hQ dX10_print_34 h
  · have h := h1 hc
    refine z_iconst (v := (-1 : Int32)) hX dX10_print_7 (by decide) ?_
    exact z_iret hX hQ dX10_print_8 h
def rm_X11_next : Room := { frames := 5, cells := 0, slots := 0, locals := 137 }
def bk_X11_next_338 (h0 : Nat) (K : Mm → Prop) (M : Mm) : Prop := (K M)
set_option maxRecDepth 100000 in
set_option maxHeartbeats 4000000 in
theorem zb_X11_next_338 {X : Cx} {h0 : Nat} {K : Mm → Prop} (hX : Ok X cX11_next RX11 rm_X11_next) (hQ : Rq X rm_X11_next none (QV K)) (hnL : X.2.2.2.2.2.2.2.2.2.2.2.2.2.2 = 3) {M : Mm} (h : bk_X11_next_338 h0 K M) : Z X M 0 0 338 [] [] := by
  unfold bk_X11_next_338 at h
  exact z_vret hX hQ dX11_next_338 h
def bk_X11_next_319 (h0 : Nat) (K : Mm → Prop) (l1 : Int32) (s0 : Int32) (s1 : Option Nat) (M : Mm) : Prop := ∃ a1, s1 = some a1 ∧ mK M a1 = 12 ∧ mK (sI M 708 a1 s0) h0 = 12 ∧ (bk_X11_next_338 h0 K (sI (sJ (sI M 708 a1 s0) 710 h0 ((l1).toInt64)) 707 h0 ((mI (sJ (sI M 708 a1 s0) 710 h0 ((l1).toInt64)) 707 h0) + (1 : Int32))))
set_option maxRecDepth 100000 in
set_option maxHeartbeats 4000000 in
theorem zb_X11_next_319 {X : Cx} {h0 : Nat} {K : Mm → Prop} (hX : Ok X cX11_next RX11 rm_X11_next) (hQ : Rq X rm_X11_next none (QV K)) (hnL : X.2.2.2.2.2.2.2.2.2.2.2.2.2.2 = 3) {l1 : Int32} {s0 : Int32} {s1 : Option Nat} {M : Mm} (h : bk_X11_next_319 h0 K l1 s0 s1 M) : Z X M 0 0 319 [(0, va_rf (some h0)), (1, .int l1)] [.int s0, va_rf s1] := by
  unfold bk_X11_next_319 at h
  obtain ⟨a1, ha2, h⟩ := h
  obtain ⟨hk3, h⟩ := h
  refine pf_RX11_147 (r := s1) (v := s0) hX dX11_next_319 ha2 hk3 ?_
  refine z_aload_n (r := (some h0)) hX dX11_next_322 rfl 0 rfl ?_
  refine z_iload_n hX dX11_next_323 rfl 1 rfl ?_
  refine z_i2l hX dX11_next_324 ?_
  obtain ⟨hk5, h⟩ := h
  refine pf_RX11_140 (r := (some h0)) (v := ((l1).toInt64)) hX dX11_next_325 rfl hk5 ?_
  refine z_aload_n (r := (some h0)) hX dX11_next_328 rfl 0 rfl ?_
  refine z_dup hX dX11_next_329 (cat_rf _) ?_
  refine gf_RX11_130 (r := (some h0)) hX dX11_next_330 rfl hk5 ?_
  refine z_iconst (v := (1 : Int32)) hX dX11_next_333 (by decide) ?_
  refine z_iadd hX dX11_next_334 ?_
  refine pf_RX11_130 (r := (some h0)) (v := ((mI (sJ (sI M 708 a1 s0) 710 h0 ((l1).toInt64)) 707 h0) + (1 : Int32))) hX dX11_next_335 rfl hk5 ?_
  refine z_loc [] rfl ?_
  exact zb_X11_next_338 hX hQ hnL h
def bk_X11_next_314 (h0 : Nat) (K : Mm → Prop) (l1 : Int32) (s0 : Option Nat) (M : Mm) : Prop := (bk_X11_next_319 h0 K l1 (3 : Int32) s0 M)
set_option maxRecDepth 100000 in
set_option maxHeartbeats 4000000 in
theorem zb_X11_next_314 {X : Cx} {h0 : Nat} {K : Mm → Prop} (hX : Ok X cX11_next RX11 rm_X11_next) (hQ : Rq X rm_X11_next none (QV K)) (hnL : X.2.2.2.2.2.2.2.2.2.2.2.2.2.2 = 3) {l1 : Int32} {s0 : Option Nat} {M : Mm} (h : bk_X11_next_314 h0 K l1 s0 M) : Z X M 0 0 314 [(0, va_rf (some h0)), (1, .int l1)] [va_rf s0] := by
  unfold bk_X11_next_314 at h
  refine z_iconst (v := (3 : Int32)) hX dX11_next_314 (by decide) ?_
  refine z_goto (tgt := 319) hX dX11_next_315 (by decide) ?_
  exact zb_X11_next_319 hX hQ hnL h
def bk_X11_next_289 (h0 : Nat) (K : Mm → Prop) (s0 : Int32) (s1 : Option Nat) (M : Mm) : Prop := ∃ a8, s1 = some a8 ∧ mK M a8 = 12 ∧ (bk_X11_next_338 h0 K (sI M 708 a8 s0))
set_option maxRecDepth 100000 in
set_option maxHeartbeats 4000000 in
theorem zb_X11_next_289 {X : Cx} {h0 : Nat} {K : Mm → Prop} (hX : Ok X cX11_next RX11 rm_X11_next) (hQ : Rq X rm_X11_next none (QV K)) (hnL : X.2.2.2.2.2.2.2.2.2.2.2.2.2.2 = 3) {s0 : Int32} {s1 : Option Nat} {M : Mm} (h : bk_X11_next_289 h0 K s0 s1 M) : Z X M 0 0 289 [] [.int s0, va_rf s1] := by
  unfold bk_X11_next_289 at h
  obtain ⟨a8, ha9, h⟩ := h
  obtain ⟨hk10, h⟩ := h
  refine pf_RX11_147 (r := s1) (v := s0) hX dX11_next_289 ha9 hk10 ?_
  refine z_goto (tgt := 338) hX dX11_next_292 (by decide) ?_
  exact zb_X11_next_338 hX hQ hnL h
def bk_X11_next_258 (h0 : Nat) (R208 : Int32 → Mm → Prop) (K : Mm → Prop) (l2 : Int32) (s0 : Int64) (s1 : Option Nat) (M : Mm) : Prop := ∃ a12, s1 = some a12 ∧ mK M a12 = 12 ∧ mK (sJ M 710 a12 s0) h0 = 12 ∧ (R208 (l2 + 1) (sI (sJ M 710 a12 s0) 707 h0 ((mI (sJ M 710 a12 s0) 707 h0) + (1 : Int32))))
set_option maxRecDepth 100000 in
set_option maxHeartbeats 4000000 in
theorem zb_X11_next_258 {X : Cx} {h0 : Nat} {R208 : Int32 → Mm → Prop} {K : Mm → Prop} (hX : Ok X cX11_next RX11 rm_X11_next) (hQ : Rq X rm_X11_next none (QV K)) (hnL : X.2.2.2.2.2.2.2.2.2.2.2.2.2.2 = 3) (hR208 : ∀ l2 M, R208 l2 M → Z X M 0 0 208 [(0, va_rf (some h0)), (2, .int l2)] []) {l2 : Int32} {s0 : Int64} {s1 : Option Nat} {M : Mm} (h : bk_X11_next_258 h0 R208 K l2 s0 s1 M) : Z X M 0 0 258 [(0, va_rf (some h0)), (2, .int l2)] [.long s0, va_rf s1] := by
  unfold bk_X11_next_258 at h
  obtain ⟨a12, ha13, h⟩ := h
  obtain ⟨hk14, h⟩ := h
  refine pf_RX11_140 (r := s1) (v := s0) hX dX11_next_258 ha13 hk14 ?_
  refine z_aload_n (r := (some h0)) hX dX11_next_261 rfl 0 rfl ?_
  refine z_dup hX dX11_next_262 (cat_rf _) ?_
  obtain ⟨hk16, h⟩ := h
  refine gf_RX11_130 (r := (some h0)) hX dX11_next_263 rfl hk16 ?_
  refine z_iconst (v := (1 : Int32)) hX dX11_next_266 (by decide) ?_
  refine z_iadd hX dX11_next_267 ?_
  refine pf_RX11_130 (r := (some h0)) (v := ((mI (sJ M 710 a12 s0) 707 h0) + (1 : Int32))) hX dX11_next_268 rfl hk16 ?_
  refine z_iinc (v := (l2 + 1)) hX [(2, .int (l2 + 1)), (0, va_rf (some h0))] dX11_next_271 1 rfl rfl (by rw [hnL]; decide) rfl ?_
  refine z_goto (tgt := 208) hX dX11_next_274 (by decide) ?_
  refine z_loc [1, 0] rfl ?_
  exact hR208 _ _ h
def lp_X11_next_208 (h0 : Nat) (K : Mm → Prop) : Nat → Int32 → Mm → Prop
  | 0, _, _ => False
  | n + 1, l2, M => mK M h0 = 12 ∧ (wp_X11_byteAt M h0 (mI M 707 h0) (fun r19 M20 => (wp_X11_isDigit M20 r19 (fun r22 M23 => ((r22 = 0 → ((l2 ≤ (18 : Int32) → (bk_X11_next_289 h0 K (2 : Int32) (some h0) M23)) ∧ (¬ l2 ≤ (18 : Int32) → (bk_X11_next_289 h0 K (4 : Int32) (some h0) M23)))) ∧ (¬ r22 = 0 → (((18 : Int32) ≤ l2 → mK M23 h0 = 12 ∧ (bk_X11_next_258 h0 (lp_X11_next_208 h0 K n) K l2 (mJ M23 710 h0) (some h0) M23)) ∧ (¬ (18 : Int32) ≤ l2 → mK M23 h0 = 12 ∧ (wp_X11_byteAt M23 h0 (mI M23 707 h0) (fun r27 M28 => (bk_X11_next_258 h0 (lp_X11_next_208 h0 K n) K l2 ((((10 : Int64) * (mJ M23 710 h0)) + ((r27).toInt64)) - (48 : Int64)) (some h0) M28)))))))))))
set_option maxRecDepth 100000 in
set_option maxHeartbeats 4000000 in
theorem zl_X11_next_208 {X : Cx} {h0 : Nat} {K : Mm → Prop} (hX : Ok X cX11_next RX11 rm_X11_next) (hQ : Rq X rm_X11_next none (QV K)) (hnL : X.2.2.2.2.2.2.2.2.2.2.2.2.2.2 = 3) : ∀ (n : Nat) (l2 : Int32) (M : Mm), lp_X11_next_208 h0 K n l2 M → Z X M 0 0 208 [(0, va_rf (some h0)), (2, .int l2)] [] := by
  intro n
  induction n with
  | zero =>
    intro l2 M h
    exact False.elim h
  | succ n hR208 =>
    intro l2 M h
    refine z_aload_n (r := (some h0)) hX dX11_next_208 rfl 0 rfl ?_
    refine z_aload_n (r := (some h0)) hX dX11_next_209 rfl 0 rfl ?_
    obtain ⟨hk18, h⟩ := h
    refine gf_RX11_130 (r := (some h0)) hX dX11_next_210 rfl hk18 ?_
    refine z_callVI (As := [.int (mI M 707 h0)]) (rest := []) (ci := 11) hX (ct_X11_byteAt h) mw_RX11_133 rfl (by decide) rfl (by rfl) (by unfold RoomC; decide) (by decide) dX11_next_213 hk18 (fun r19 M20 h => ?_)
    refine z_callSI (As := [.int r19]) (rest := []) hX (ct_X11_isDigit h) mw_RX11_158 rfl (by rfl) (by unfold RoomC; decide) (by decide) dX11_next_216 (fun r22 M23 h => ?_)
    obtain ⟨h1, h2⟩ := h
    refine z_if_eq (tgt := 277) hX dX11_next_219 (by decide) (fun hc => ?_) (fun hc => ?_)
    · have h := h1 hc
      refine z_aload_n (r := (some h0)) hX dX11_next_277 rfl 0 rfl ?_
      refine z_iload_n hX dX11_next_278 rfl 1 rfl ?_
      refine z_bipush (v := (18 : Int32)) hX dX11_next_279 (by decide) ?_
      obtain ⟨h1, h2⟩ := h
      refine z_icmp_le (tgt := 288) hX dX11_next_281 (by decide) (fun hc => ?_) (fun hc => ?_)
      · have h := h1 hc
        refine z_iconst (v := (2 : Int32)) hX dX11_next_288 (by decide) ?_
        refine z_loc [] rfl ?_
        exact zb_X11_next_289 hX hQ hnL h
      · have h := h2 hc
        refine z_iconst (v := (4 : Int32)) hX dX11_next_284 (by decide) ?_
        refine z_goto (tgt := 289) hX dX11_next_285 (by decide) ?_
        refine z_loc [] rfl ?_
        exact zb_X11_next_289 hX hQ hnL h
    · have h := h2 hc
      refine z_aload_n (r := (some h0)) hX dX11_next_222 rfl 0 rfl ?_
      refine z_iload_n hX dX11_next_223 rfl 1 rfl ?_
      refine z_bipush (v := (18 : Int32)) hX dX11_next_224 (by decide) ?_
      obtain ⟨h1, h2⟩ := h
      refine z_icmp_ge (tgt := 254) hX dX11_next_226 (by decide) (fun hc => ?_) (fun hc => ?_)
      · have h := h1 hc
        refine z_aload_n (r := (some h0)) hX dX11_next_254 rfl 0 rfl ?_
        obtain ⟨hk25, h⟩ := h
        refine gf_RX11_140 (r := (some h0)) hX dX11_next_255 rfl hk25 ?_
        exact zb_X11_next_258 hX hQ hnL hR208 h
      · have h := h2 hc
        refine z_ldc2 (v := (10 : Int64)) hX dX11_next_229 kj_RX11_161 ?_
        refine z_aload_n (r := (some h0)) hX dX11_next_232 rfl 0 rfl ?_
        obtain ⟨hk26, h⟩ := h
        refine gf_RX11_140 (r := (some h0)) hX dX11_next_233 rfl hk26 ?_
        refine z_lmul hX dX11_next_236 ?_
        refine z_aload_n (r := (some h0)) hX dX11_next_237 rfl 0 rfl ?_
        refine z_aload_n (r := (some h0)) hX dX11_next_238 rfl 0 rfl ?_
        refine gf_RX11_130 (r := (some h0)) hX dX11_next_239 rfl hk26 ?_
        refine z_callVI (As := [.int (mI M23 707 h0)]) (rest := [.long ((10 : Int64) * (mJ M23 710 h0)), va_rf (some h0)]) (ci := 11) hX (ct_X11_byteAt h) mw_RX11_133 rfl (by decide) rfl (by rfl) (by unfold RoomC; decide) (by simp only [List.map_cons, List.map_nil, List.sum_cons, List.sum_nil, cat_rf, cat_i, cat_j]; decide) dX11_next_242 hk26 (fun r27 M28 h => ?_)
        refine z_i2l hX dX11_next_245 ?_
        refine z_ladd hX dX11_next_246 ?_
        refine z_ldc2 (v := (48 : Int64)) hX dX11_next_247 kj_RX11_163 ?_
        refine z_lsub hX dX11_next_250 ?_
        refine z_goto (tgt := 258) hX dX11_next_251 (by decide) ?_
        exact zb_X11_next_258 hX hQ hnL hR208 h
def bk_X11_next_190 (h0 : Nat) (K : Mm → Prop) (l2 : Int32) (s0 : Int32) (s1 : Option Nat) (M : Mm) : Prop := ∃ a30, s1 = some a30 ∧ mK M a30 = 12 ∧ mK (sI M 708 a30 s0) h0 = 12 ∧ (wp_X11_findKeyword (sI M 708 a30 s0) h0 l2 (fun M35 => (bk_X11_next_338 h0 K M35)))
set_option maxRecDepth 100000 in
set_option maxHeartbeats 4000000 in
theorem zb_X11_next_190 {X : Cx} {h0 : Nat} {K : Mm → Prop} (hX : Ok X cX11_next RX11 rm_X11_next) (hQ : Rq X rm_X11_next none (QV K)) (hnL : X.2.2.2.2.2.2.2.2.2.2.2.2.2.2 = 3) {l2 : Int32} {s0 : Int32} {s1 : Option Nat} {M : Mm} (h : bk_X11_next_190 h0 K l2 s0 s1 M) : Z X M 0 0 190 [(0, va_rf (some h0)), (2, .int l2)] [.int s0, va_rf s1] := by
  unfold bk_X11_next_190 at h
  obtain ⟨a30, ha31, h⟩ := h
  obtain ⟨hk32, h⟩ := h
  refine pf_RX11_147 (r := s1) (v := s0) hX dX11_next_190 ha31 hk32 ?_
  refine z_aload_n (r := (some h0)) hX dX11_next_193 rfl 0 rfl ?_
  refine z_iload_n hX dX11_next_194 rfl 1 rfl ?_
  obtain ⟨hk36, h⟩ := h
  refine z_callVV (As := [.int l2]) (rest := []) (ci := 11) hX (ct_X11_findKeyword h) mw_RX11_154 rfl (by decide) rfl (by rfl) (by unfold RoomC; decide) (by decide) dX11_next_195 hk36 (fun M35 h => ?_)
  refine z_goto (tgt := 338) hX dX11_next_198 (by decide) ?_
  refine z_loc [] rfl ?_
  exact zb_X11_next_338 hX hQ hnL h
def bk_X11_next_159 (h0 : Nat) (R110 : Int32 → Mm → Prop) (K : Mm → Prop) (l2 : Int32) (s0 : Int64) (s1 : Option Nat) (M : Mm) : Prop := ∃ a38, s1 = some a38 ∧ mK M a38 = 12 ∧ mK (sJ M 710 a38 s0) h0 = 12 ∧ (R110 (l2 + 1) (sI (sJ M 710 a38 s0) 707 h0 ((mI (sJ M 710 a38 s0) 707 h0) + (1 : Int32))))
set_option maxRecDepth 100000 in
set_option maxHeartbeats 4000000 in
theorem zb_X11_next_159 {X : Cx} {h0 : Nat} {R110 : Int32 → Mm → Prop} {K : Mm → Prop} (hX : Ok X cX11_next RX11 rm_X11_next) (hQ : Rq X rm_X11_next none (QV K)) (hnL : X.2.2.2.2.2.2.2.2.2.2.2.2.2.2 = 3) (hR110 : ∀ l2 M, R110 l2 M → Z X M 0 0 110 [(0, va_rf (some h0)), (2, .int l2)] []) {l2 : Int32} {s0 : Int64} {s1 : Option Nat} {M : Mm} (h : bk_X11_next_159 h0 R110 K l2 s0 s1 M) : Z X M 0 0 159 [(0, va_rf (some h0)), (2, .int l2)] [.long s0, va_rf s1] := by
  unfold bk_X11_next_159 at h
  obtain ⟨a38, ha39, h⟩ := h
  obtain ⟨hk40, h⟩ := h
  refine pf_RX11_140 (r := s1) (v := s0) hX dX11_next_159 ha39 hk40 ?_
  refine z_aload_n (r := (some h0)) hX dX11_next_162 rfl 0 rfl ?_
  refine z_dup hX dX11_next_163 (cat_rf _) ?_
  obtain ⟨hk42, h⟩ := h
  refine gf_RX11_130 (r := (some h0)) hX dX11_next_164 rfl hk42 ?_
  refine z_iconst (v := (1 : Int32)) hX dX11_next_167 (by decide) ?_
  refine z_iadd hX dX11_next_168 ?_
  refine pf_RX11_130 (r := (some h0)) (v := ((mI (sJ M 710 a38 s0) 707 h0) + (1 : Int32))) hX dX11_next_169 rfl hk42 ?_
  refine z_iinc (v := (l2 + 1)) hX [(2, .int (l2 + 1)), (0, va_rf (some h0))] dX11_next_172 1 rfl rfl (by rw [hnL]; decide) rfl ?_
  refine z_goto (tgt := 110) hX dX11_next_175 (by decide) ?_
  refine z_loc [1, 0] rfl ?_
  exact hR110 _ _ h
def lp_X11_next_110 (h0 : Nat) (K : Mm → Prop) : Nat → Int32 → Mm → Prop
  | 0, _, _ => False
  | n + 1, l2, M => mK M h0 = 12 ∧ (wp_X11_byteAt M h0 (mI M 707 h0) (fun r45 M46 => (wp_X11_isLetter M46 r45 (fun r48 M49 => ((r48 = 0 → ((l2 ≤ (8 : Int32) → (bk_X11_next_190 h0 K l2 (1 : Int32) (some h0) M49)) ∧ (¬ l2 ≤ (8 : Int32) → (bk_X11_next_190 h0 K l2 (4 : Int32) (some h0) M49)))) ∧ (¬ r48 = 0 → (((8 : Int32) ≤ l2 → mK M49 h0 = 12 ∧ (bk_X11_next_159 h0 (lp_X11_next_110 h0 K n) K l2 (mJ M49 710 h0) (some h0) M49)) ∧ (¬ (8 : Int32) ≤ l2 → mK M49 h0 = 12 ∧ (wp_X11_byteAt M49 h0 (mI M49 707 h0) (fun r53 M54 => (bk_X11_next_159 h0 (lp_X11_next_110 h0 K n) K l2 (((mJ M49 710 h0) <<< (((5 : Int32)).toInt64 &&& 63)) ||| ((((r53 - (97 : Int32)) + (1 : Int32))).toInt64)) (some h0) M54)))))))))))
set_option maxRecDepth 100000 in
set_option maxHeartbeats 4000000 in
theorem zl_X11_next_110 {X : Cx} {h0 : Nat} {K : Mm → Prop} (hX : Ok X cX11_next RX11 rm_X11_next) (hQ : Rq X rm_X11_next none (QV K)) (hnL : X.2.2.2.2.2.2.2.2.2.2.2.2.2.2 = 3) : ∀ (n : Nat) (l2 : Int32) (M : Mm), lp_X11_next_110 h0 K n l2 M → Z X M 0 0 110 [(0, va_rf (some h0)), (2, .int l2)] [] := by
  intro n
  induction n with
  | zero =>
    intro l2 M h
    exact False.elim h
  | succ n hR110 =>
    intro l2 M h
    refine z_aload_n (r := (some h0)) hX dX11_next_110 rfl 0 rfl ?_
    refine z_aload_n (r := (some h0)) hX dX11_next_111 rfl 0 rfl ?_
    obtain ⟨hk44, h⟩ := h
    refine gf_RX11_130 (r := (some h0)) hX dX11_next_112 rfl hk44 ?_
    refine z_callVI (As := [.int (mI M 707 h0)]) (rest := []) (ci := 11) hX (ct_X11_byteAt h) mw_RX11_133 rfl (by decide) rfl (by rfl) (by unfold RoomC; decide) (by decide) dX11_next_115 hk44 (fun r45 M46 h => ?_)
    refine z_callSI (As := [.int r45]) (rest := []) hX (ct_X11_isLetter h) mw_RX11_150 rfl (by rfl) (by unfold RoomC; decide) (by decide) dX11_next_118 (fun r48 M49 h => ?_)
    obtain ⟨h1, h2⟩ := h
    refine z_if_eq (tgt := 178) hX dX11_next_121 (by decide) (fun hc => ?_) (fun hc => ?_)
    · have h := h1 hc
      refine z_aload_n (r := (some h0)) hX dX11_next_178 rfl 0 rfl ?_
      refine z_iload_n hX dX11_next_179 rfl 1 rfl ?_
      refine z_bipush (v := (8 : Int32)) hX dX11_next_180 (by decide) ?_
      obtain ⟨h1, h2⟩ := h
      refine z_icmp_le (tgt := 189) hX dX11_next_182 (by decide) (fun hc => ?_) (fun hc => ?_)
      · have h := h1 hc
        refine z_iconst (v := (1 : Int32)) hX dX11_next_189 (by decide) ?_
        exact zb_X11_next_190 hX hQ hnL h
      · have h := h2 hc
        refine z_iconst (v := (4 : Int32)) hX dX11_next_185 (by decide) ?_
        refine z_goto (tgt := 190) hX dX11_next_186 (by decide) ?_
        exact zb_X11_next_190 hX hQ hnL h
    · have h := h2 hc
      refine z_aload_n (r := (some h0)) hX dX11_next_124 rfl 0 rfl ?_
      refine z_iload_n hX dX11_next_125 rfl 1 rfl ?_
      refine z_bipush (v := (8 : Int32)) hX dX11_next_126 (by decide) ?_
      obtain ⟨h1, h2⟩ := h
      refine z_icmp_ge (tgt := 155) hX dX11_next_128 (by decide) (fun hc => ?_) (fun hc => ?_)
      · have h := h1 hc
        refine z_aload_n (r := (some h0)) hX dX11_next_155 rfl 0 rfl ?_
        obtain ⟨hk51, h⟩ := h
        refine gf_RX11_140 (r := (some h0)) hX dX11_next_156 rfl hk51 ?_
        exact zb_X11_next_159 hX hQ hnL hR110 h
      · have h := h2 hc
        refine z_aload_n (r := (some h0)) hX dX11_next_131 rfl 0 rfl ?_
        obtain ⟨hk52, h⟩ := h
        refine gf_RX11_140 (r := (some h0)) hX dX11_next_132 rfl hk52 ?_
        refine z_iconst (v := (5 : Int32)) hX dX11_next_135 (by decide) ?_
        refine z_lshl hX dX11_next_136 ?_
        refine z_aload_n (r := (some h0)) hX dX11_next_137 rfl 0 rfl ?_
        refine z_aload_n (r := (some h0)) hX dX11_next_138 rfl 0 rfl ?_
        refine gf_RX11_130 (r := (some h0)) hX dX11_next_139 rfl hk52 ?_
        refine z_callVI (As := [.int (mI M49 707 h0)]) (rest := [.long ((mJ M49 710 h0) <<< (((5 : Int32)).toInt64 &&& 63)), va_rf (some h0)]) (ci := 11) hX (ct_X11_byteAt h) mw_RX11_133 rfl (by decide) rfl (by rfl) (by unfold RoomC; decide) (by simp only [List.map_cons, List.map_nil, List.sum_cons, List.sum_nil, cat_rf, cat_i, cat_j]; decide) dX11_next_142 hk52 (fun r53 M54 h => ?_)
        refine z_bipush (v := (97 : Int32)) hX dX11_next_145 (by decide) ?_
        refine z_isub hX dX11_next_147 ?_
        refine z_iconst (v := (1 : Int32)) hX dX11_next_148 (by decide) ?_
        refine z_iadd hX dX11_next_149 ?_
        refine z_i2l hX dX11_next_150 ?_
        refine z_lor hX dX11_next_151 ?_
        refine z_goto (tgt := 159) hX dX11_next_152 (by decide) ?_
        exact zb_X11_next_159 hX hQ hnL hR110 h
def bk_X11_next_66 (h0 : Nat) (K : Mm → Prop) (l1 : Int32) (M : Mm) : Prop := mK M h0 = 12 ∧ (((mI (sI (sJ (sI M 709 h0 (mI M 707 h0)) 710 h0 (0 : Int64)) 711 h0 (-1 : Int32)) 707 h0) < (mI (sI (sJ (sI M 709 h0 (mI M 707 h0)) 710 h0 (0 : Int64)) 711 h0 (-1 : Int32)) 706 h0) → (wp_X11_isLetter (sI (sJ (sI M 709 h0 (mI M 707 h0)) 710 h0 (0 : Int64)) 711 h0 (-1 : Int32)) l1 (fun r60 M61 => ((r60 = 0 → (wp_X11_isDigit M61 l1 (fun r63 M64 => ((r63 = 0 → ((l1 = (61 : Int32) → (bk_X11_next_314 h0 K l1 (some h0) M64)) ∧ (¬ l1 = (61 : Int32) → ((l1 = (59 : Int32) → (bk_X11_next_314 h0 K l1 (some h0) M64)) ∧ (¬ l1 = (59 : Int32) → ((¬ l1 = (45 : Int32) → (bk_X11_next_319 h0 K l1 (4 : Int32) (some h0) M64)) ∧ (l1 = (45 : Int32) → (bk_X11_next_314 h0 K l1 (some h0) M64)))))))) ∧ (¬ r63 = 0 → (∃ kk, lp_X11_next_208 h0 K kk (0 : Int32) M64)))))) ∧ (¬ r60 = 0 → (∃ kk, lp_X11_next_110 h0 K kk (0 : Int32) M61)))))) ∧ (¬ (mI (sI (sJ (sI M 709 h0 (mI M 707 h0)) 710 h0 (0 : Int64)) 711 h0 (-1 : Int32)) 707 h0) < (mI (sI (sJ (sI M 709 h0 (mI M 707 h0)) 710 h0 (0 : Int64)) 711 h0 (-1 : Int32)) 706 h0) → (K (sI (sI (sJ (sI M 709 h0 (mI M 707 h0)) 710 h0 (0 : Int64)) 711 h0 (-1 : Int32)) 708 h0 (0 : Int32)))))
set_option maxRecDepth 100000 in
set_option maxHeartbeats 4000000 in
theorem zb_X11_next_66 {X : Cx} {h0 : Nat} {K : Mm → Prop} (hX : Ok X cX11_next RX11 rm_X11_next) (hQ : Rq X rm_X11_next none (QV K)) (hnL : X.2.2.2.2.2.2.2.2.2.2.2.2.2.2 = 3) {l1 : Int32} {M : Mm} (h : bk_X11_next_66 h0 K l1 M) : Z X M 0 0 66 [(0, va_rf (some h0)), (1, .int l1)] [] := by
  unfold bk_X11_next_66 at h
  refine z_aload_n (r := (some h0)) hX dX11_next_66 rfl 0 rfl ?_
  refine z_aload_n (r := (some h0)) hX dX11_next_67 rfl 0 rfl ?_
  obtain ⟨hk56, h⟩ := h
  refine gf_RX11_130 (r := (some h0)) hX dX11_next_68 rfl hk56 ?_
  refine pf_RX11_137 (r := (some h0)) (v := (mI M 707 h0)) hX dX11_next_71 rfl hk56 ?_
  refine z_aload_n (r := (some h0)) hX dX11_next_74 rfl 0 rfl ?_
  refine z_lconst (v := (0 : Int64)) hX dX11_next_75 (by decide) ?_
  refine pf_RX11_140 (r := (some h0)) (v := (0 : Int64)) hX dX11_next_76 rfl hk56 ?_
  refine z_aload_n (r := (some h0)) hX dX11_next_79 rfl 0 rfl ?_
  refine z_iconst (v := (-1 : Int32)) hX dX11_next_80 (by decide) ?_
  refine pf_RX11_144 (r := (some h0)) (v := (-1 : Int32)) hX dX11_next_81 rfl hk56 ?_
  refine z_aload_n (r := (some h0)) hX dX11_next_84 rfl 0 rfl ?_
  refine gf_RX11_130 (r := (some h0)) hX dX11_next_85 rfl hk56 ?_
  refine z_aload_n (r := (some h0)) hX dX11_next_88 rfl 0 rfl ?_
  refine gf_RX11_127 (r := (some h0)) hX dX11_next_89 rfl hk56 ?_
  obtain ⟨h1, h2⟩ := h
  refine z_icmp_lt (tgt := 101) hX dX11_next_92 (by decide) (fun hc => ?_) (fun hc => ?_)
  · have h := h1 hc
    refine z_iconst (v := (0 : Int32)) hX dX11_next_101 (by decide) ?_
    refine z_istore_n hX [(2, .int (0 : Int32)), (0, va_rf (some h0)), (1, .int l1)] dX11_next_102 rfl (by rw [hnL]; decide) rfl ?_
    refine z_iload_n hX dX11_next_103 rfl 2 rfl ?_
    refine z_callSI (As := [.int l1]) (rest := []) hX (ct_X11_isLetter h) mw_RX11_150 rfl (by rfl) (by unfold RoomC; decide) (by decide) dX11_next_104 (fun r60 M61 h => ?_)
    obtain ⟨h1, h2⟩ := h
    refine z_if_eq (tgt := 201) hX dX11_next_107 (by decide) (fun hc => ?_) (fun hc => ?_)
    · have h := h1 hc
      refine z_iload_n hX dX11_next_201 rfl 2 rfl ?_
      refine z_callSI (As := [.int l1]) (rest := []) hX (ct_X11_isDigit h) mw_RX11_158 rfl (by rfl) (by unfold RoomC; decide) (by decide) dX11_next_202 (fun r63 M64 h => ?_)
      obtain ⟨h1, h2⟩ := h
      refine z_if_eq (tgt := 295) hX dX11_next_205 (by decide) (fun hc => ?_) (fun hc => ?_)
      · have h := h1 hc
        refine z_aload_n (r := (some h0)) hX dX11_next_295 rfl 1 rfl ?_
        refine z_iload_n hX dX11_next_296 rfl 2 rfl ?_
        refine z_bipush (v := (61 : Int32)) hX dX11_next_297 (by decide) ?_
        obtain ⟨h1, h2⟩ := h
        refine z_icmp_eq (tgt := 314) hX dX11_next_299 (by decide) (fun hc => ?_) (fun hc => ?_)
        · have h := h1 hc
          refine z_loc [1, 2] rfl ?_
          exact zb_X11_next_314 hX hQ hnL h
        · have h := h2 hc
          refine z_iload_n hX dX11_next_302 rfl 2 rfl ?_
          refine z_bipush (v := (59 : Int32)) hX dX11_next_303 (by decide) ?_
          obtain ⟨h1, h2⟩ := h
          refine z_icmp_eq (tgt := 314) hX dX11_next_305 (by decide) (fun hc => ?_) (fun hc => ?_)
          · have h := h1 hc
            refine z_loc [1, 2] rfl ?_
            exact zb_X11_next_314 hX hQ hnL h
          · have h := h2 hc
            refine z_iload_n hX dX11_next_308 rfl 2 rfl ?_
            refine z_bipush (v := (45 : Int32)) hX dX11_next_309 (by decide) ?_
            obtain ⟨h1, h2⟩ := h
            refine z_icmp_ne (tgt := 318) hX dX11_next_311 (by decide) (fun hc => ?_) (fun hc => ?_)
            · have h := h1 hc
              refine z_iconst (v := (4 : Int32)) hX dX11_next_318 (by decide) ?_
              refine z_loc [1, 2] rfl ?_
              exact zb_X11_next_319 hX hQ hnL h
            · have h := h2 hc
              refine z_loc [1, 2] rfl ?_
              exact zb_X11_next_314 hX hQ hnL h
      · have h := h2 hc
        refine z_loc [1, 0] rfl ?_
        obtain ⟨n, h⟩ := h
        exact zl_X11_next_208 hX hQ hnL n _ _ h
    · have h := h2 hc
      refine z_loc [1, 0] rfl ?_
      obtain ⟨n, h⟩ := h
      exact zl_X11_next_110 hX hQ hnL n _ _ h
  · have h := h2 hc
    refine z_aload_n (r := (some h0)) hX dX11_next_95 rfl 0 rfl ?_
    refine z_iconst (v := (0 : Int32)) hX dX11_next_96 (by decide) ?_
    refine pf_RX11_147 (r := (some h0)) (v := (0 : Int32)) hX dX11_next_97 rfl hk56 ?_
    exact z_vret hX hQ dX11_next_100 h
def bk_X11_next_44 (h0 : Nat) (R9 : Int32 → Mm → Prop) (K : Mm → Prop) (M : Mm) : Prop := mK M h0 = 12 ∧ (wp_X11_byteAt (sI M 707 h0 ((mI M 707 h0) + (1 : Int32))) h0 (mI (sI M 707 h0 ((mI M 707 h0) + (1 : Int32))) 707 h0) (fun r69 M70 => (R9 r69 M70)))
set_option maxRecDepth 100000 in
set_option maxHeartbeats 4000000 in
theorem zb_X11_next_44 {X : Cx} {h0 : Nat} {R9 : Int32 → Mm → Prop} {K : Mm → Prop} (hX : Ok X cX11_next RX11 rm_X11_next) (hQ : Rq X rm_X11_next none (QV K)) (hnL : X.2.2.2.2.2.2.2.2.2.2.2.2.2.2 = 3) (hR9 : ∀ l1 M, R9 l1 M → Z X M 0 0 9 [(0, va_rf (some h0)), (1, .int l1)] []) {M : Mm} (h : bk_X11_next_44 h0 R9 K M) : Z X M 0 0 44 [(0, va_rf (some h0))] [] := by
  unfold bk_X11_next_44 at h
  refine z_aload_n (r := (some h0)) hX dX11_next_44 rfl 0 rfl ?_
  refine z_dup hX dX11_next_45 (cat_rf _) ?_
  obtain ⟨hk67, h⟩ := h
  refine gf_RX11_130 (r := (some h0)) hX dX11_next_46 rfl hk67 ?_
  refine z_iconst (v := (1 : Int32)) hX dX11_next_49 (by decide) ?_
  refine z_iadd hX dX11_next_50 ?_
  refine pf_RX11_130 (r := (some h0)) (v := ((mI M 707 h0) + (1 : Int32))) hX dX11_next_51 rfl hk67 ?_
  refine z_aload_n (r := (some h0)) hX dX11_next_54 rfl 0 rfl ?_
  refine z_aload_n (r := (some h0)) hX dX11_next_55 rfl 0 rfl ?_
  refine gf_RX11_130 (r := (some h0)) hX dX11_next_56 rfl hk67 ?_
  refine z_callVI (As := [.int (mI (sI M 707 h0 ((mI M 707 h0) + (1 : Int32))) 707 h0)]) (rest := []) (ci := 11) hX (ct_X11_byteAt h) mw_RX11_133 rfl (by decide) rfl (by rfl) (by unfold RoomC; decide) (by decide) dX11_next_59 hk67 (fun r69 M70 h => ?_)
  refine z_istore_n hX [(1, .int r69), (0, va_rf (some h0))] dX11_next_62 rfl (by rw [hnL]; decide) rfl ?_
  refine z_goto (tgt := 9) hX dX11_next_63 (by decide) ?_
  refine z_loc [1, 0] rfl ?_
  exact hR9 _ _ h
def lp_X11_next_9 (h0 : Nat) (K : Mm → Prop) : Nat → Int32 → Mm → Prop
  | 0, _, _ => False
  | n + 1, l1, M => mK M h0 = 12 ∧ (((mI M 706 h0) ≤ (mI M 707 h0) → (bk_X11_next_66 h0 K l1 M)) ∧ (¬ (mI M 706 h0) ≤ (mI M 707 h0) → ((l1 = (9 : Int32) → (bk_X11_next_44 h0 (lp_X11_next_9 h0 K n) K M)) ∧ (¬ l1 = (9 : Int32) → ((l1 = (10 : Int32) → (bk_X11_next_44 h0 (lp_X11_next_9 h0 K n) K M)) ∧ (¬ l1 = (10 : Int32) → ((l1 = (13 : Int32) → (bk_X11_next_44 h0 (lp_X11_next_9 h0 K n) K M)) ∧ (¬ l1 = (13 : Int32) → ((¬ l1 = (32 : Int32) → (bk_X11_next_66 h0 K l1 M)) ∧ (l1 = (32 : Int32) → (bk_X11_next_44 h0 (lp_X11_next_9 h0 K n) K M)))))))))))
set_option maxRecDepth 100000 in
set_option maxHeartbeats 4000000 in
theorem zl_X11_next_9 {X : Cx} {h0 : Nat} {K : Mm → Prop} (hX : Ok X cX11_next RX11 rm_X11_next) (hQ : Rq X rm_X11_next none (QV K)) (hnL : X.2.2.2.2.2.2.2.2.2.2.2.2.2.2 = 3) : ∀ (n : Nat) (l1 : Int32) (M : Mm), lp_X11_next_9 h0 K n l1 M → Z X M 0 0 9 [(0, va_rf (some h0)), (1, .int l1)] [] := by
  intro n
  induction n with
  | zero =>
    intro l1 M h
    exact False.elim h
  | succ n hR9 =>
    intro l1 M h
    refine z_aload_n (r := (some h0)) hX dX11_next_9 rfl 0 rfl ?_
    obtain ⟨hk72, h⟩ := h
    refine gf_RX11_130 (r := (some h0)) hX dX11_next_10 rfl hk72 ?_
    refine z_aload_n (r := (some h0)) hX dX11_next_13 rfl 0 rfl ?_
    refine gf_RX11_127 (r := (some h0)) hX dX11_next_14 rfl hk72 ?_
    obtain ⟨h1, h2⟩ := h
    refine z_icmp_ge (tgt := 66) hX dX11_next_17 (by decide) (fun hc => ?_) (fun hc => ?_)
    · have h := h1 hc
      exact zb_X11_next_66 hX hQ hnL h
    · have h := h2 hc
      refine z_iload_n hX dX11_next_20 rfl 1 rfl ?_
      refine z_bipush (v := (9 : Int32)) hX dX11_next_21 (by decide) ?_
      obtain ⟨h1, h2⟩ := h
      refine z_icmp_eq (tgt := 44) hX dX11_next_23 (by decide) (fun hc => ?_) (fun hc => ?_)
      · have h := h1 hc
        refine z_loc [0] rfl ?_
        exact zb_X11_next_44 hX hQ hnL hR9 h
      · have h := h2 hc
        refine z_iload_n hX dX11_next_26 rfl 1 rfl ?_
        refine z_bipush (v := (10 : Int32)) hX dX11_next_27 (by decide) ?_
        obtain ⟨h1, h2⟩ := h
        refine z_icmp_eq (tgt := 44) hX dX11_next_29 (by decide) (fun hc => ?_) (fun hc => ?_)
        · have h := h1 hc
          refine z_loc [0] rfl ?_
          exact zb_X11_next_44 hX hQ hnL hR9 h
        · have h := h2 hc
          refine z_iload_n hX dX11_next_32 rfl 1 rfl ?_
          refine z_bipush (v := (13 : Int32)) hX dX11_next_33 (by decide) ?_
          obtain ⟨h1, h2⟩ := h
          refine z_icmp_eq (tgt := 44) hX dX11_next_35 (by decide) (fun hc => ?_) (fun hc => ?_)
          · have h := h1 hc
            refine z_loc [0] rfl ?_
            exact zb_X11_next_44 hX hQ hnL hR9 h
          · have h := h2 hc
            refine z_iload_n hX dX11_next_38 rfl 1 rfl ?_
            refine z_bipush (v := (32 : Int32)) hX dX11_next_39 (by decide) ?_
            obtain ⟨h1, h2⟩ := h
            refine z_icmp_ne (tgt := 66) hX dX11_next_41 (by decide) (fun hc => ?_) (fun hc => ?_)
            · have h := h1 hc
              exact zb_X11_next_66 hX hQ hnL h
            · have h := h2 hc
              refine z_loc [0] rfl ?_
              exact zb_X11_next_44 hX hQ hnL hR9 h
def wp_X11_next (M : Mm) (h0 : Nat) (K : Mm → Prop) : Prop := mK M h0 = 12 ∧ (wp_X11_byteAt M h0 (mI M 707 h0) (fun r74 M75 => (∃ kk, lp_X11_next_9 h0 K kk r74 M75)))
set_option maxRecDepth 100000 in
set_option maxHeartbeats 4000000 in
theorem ct_X11_next {M : Mm} {h0 : Nat} {K : Mm → Prop} (h : wp_X11_next M h0 K) : CtV yX11_next cX11_next 3 none rm_X11_next [.ref h0] M K := by
  refine ct_any (QV K) (by decide) (by exact Nat.le_of_ble_eq_true rfl) (fun X hX hQ hnL hnm => ?_)
  rw [show lv_args 0 [.ref h0] = [(0, va_rf (some h0))] by rfl]
  have hX : Ok X cX11_next RX11 rm_X11_next := hX
  unfold wp_X11_next at h
  refine z_aload_n (r := (some h0)) hX dX11_next_0 rfl 0 rfl ?_
  refine z_aload_n (r := (some h0)) hX dX11_next_1 rfl 0 rfl ?_
  obtain ⟨hk73, h⟩ := h
  refine gf_RX11_130 (r := (some h0)) hX dX11_next_2 rfl hk73 ?_
  refine z_callVI (As := [.int (mI M 707 h0)]) (rest := []) (ci := 11) hX (ct_X11_byteAt h) mw_RX11_133 rfl (by decide) rfl (by rfl) (by unfold RoomC; decide) (by decide) dX11_next_5 hk73 (fun r74 M75 h => ?_)
  refine z_istore_n hX [(1, .int r74), (0, va_rf (some h0))] dX11_next_8 rfl (by rw [hnL]; decide) rfl ?_
  refine z_loc [1, 0] rfl ?_
  obtain ⟨n, h⟩ := h
  exact zl_X11_next_9 hX hQ hnL n _ _ h
def rm_X11_takeKeyword : Room := { frames := 6, cells := 0, slots := 0, locals := 159 }
def bk_X11_takeKeyword_30 (h0 : Nat) (K : Mm → Prop) (M : Mm) : Prop := (K M)
set_option maxRecDepth 100000 in
set_option maxHeartbeats 4000000 in
theorem zb_X11_takeKeyword_30 {X : Cx} {h0 : Nat} {K : Mm → Prop} (hX : Ok X cX11_takeKeyword RX11 rm_X11_takeKeyword) (hQ : Rq X rm_X11_takeKeyword none (QV K)) (hnL : X.2.2.2.2.2.2.2.2.2.2.2.2.2.2 = 2) {M : Mm} (h : bk_X11_takeKeyword_30 h0 K M) : Z X M 0 0 30 [] [] := by
  unfold bk_X11_takeKeyword_30 at h
  exact z_vret hX hQ dX11_takeKeyword_30 h
def bk_X11_takeKeyword_19 (h0 : Nat) (K : Mm → Prop) (M : Mm) : Prop := mK M h0 = 12 ∧ (wp_X11_good M h0 (fun r1 M2 => ((r1 = 0 → (bk_X11_takeKeyword_30 h0 K M2)) ∧ (¬ r1 = 0 → mK M2 h0 = 12 ∧ (wp_X11_next M2 h0 (fun M6 => (bk_X11_takeKeyword_30 h0 K M6)))))))
set_option maxRecDepth 100000 in
set_option maxHeartbeats 4000000 in
theorem zb_X11_takeKeyword_19 {X : Cx} {h0 : Nat} {K : Mm → Prop} (hX : Ok X cX11_takeKeyword RX11 rm_X11_takeKeyword) (hQ : Rq X rm_X11_takeKeyword none (QV K)) (hnL : X.2.2.2.2.2.2.2.2.2.2.2.2.2.2 = 2) {M : Mm} (h : bk_X11_takeKeyword_19 h0 K M) : Z X M 0 0 19 [(0, va_rf (some h0))] [] := by
  unfold bk_X11_takeKeyword_19 at h
  refine z_aload_n (r := (some h0)) hX dX11_takeKeyword_19 rfl 0 rfl ?_
  obtain ⟨hk3, h⟩ := h
  refine z_callVI (As := []) (rest := []) (ci := 11) hX (ct_X11_good h) mw_RX11_190 rfl (by decide) rfl (by rfl) (by unfold RoomC; decide) (by decide) dX11_takeKeyword_20 hk3 (fun r1 M2 h => ?_)
  obtain ⟨h1, h2⟩ := h
  refine z_if_eq (tgt := 30) hX dX11_takeKeyword_23 (by decide) (fun hc => ?_) (fun hc => ?_)
  · have h := h1 hc
    refine z_loc [] rfl ?_
    exact zb_X11_takeKeyword_30 hX hQ hnL h
  · have h := h2 hc
    refine z_aload_n (r := (some h0)) hX dX11_takeKeyword_26 rfl 0 rfl ?_
    obtain ⟨hk7, h⟩ := h
    refine z_callVV (As := []) (rest := []) (ci := 11) hX (ct_X11_next h) mw_RX11_200 rfl (by decide) rfl (by rfl) (by unfold RoomC; decide) (by decide) dX11_takeKeyword_27 hk7 (fun M6 h => ?_)
    refine z_loc [] rfl ?_
    exact zb_X11_takeKeyword_30 hX hQ hnL h
def wp_X11_takeKeyword (M : Mm) (h0 : Nat) (p1 : Int32) (K : Mm → Prop) : Prop := mK M h0 = 12 ∧ (wp_X11_good M h0 (fun r9 M10 => ((r9 = 0 → (bk_X11_takeKeyword_19 h0 K M10)) ∧ (¬ r9 = 0 → mK M10 h0 = 12 ∧ (wp_X11_isKeyword M10 h0 p1 (fun r13 M14 => ((¬ r13 = 0 → (bk_X11_takeKeyword_19 h0 K M14)) ∧ (r13 = 0 → mK M14 h0 = 12 ∧ (wp_X11_misplaced M14 h0 (fun M18 => (bk_X11_takeKeyword_19 h0 K M18)))))))))))
set_option maxRecDepth 100000 in
set_option maxHeartbeats 4000000 in
theorem ct_X11_takeKeyword {M : Mm} {h0 : Nat} {p1 : Int32} {K : Mm → Prop} (h : wp_X11_takeKeyword M h0 p1 K) : CtV yX11_takeKeyword cX11_takeKeyword 2 none rm_X11_takeKeyword [.ref h0, .int p1] M K := by
  refine ct_any (QV K) (by decide) (by exact Nat.le_of_ble_eq_true rfl) (fun X hX hQ hnL hnm => ?_)
  rw [show lv_args 0 [.ref h0, .int p1] = [(0, va_rf (some h0)), (1, .int p1)] by rfl]
  have hX : Ok X cX11_takeKeyword RX11 rm_X11_takeKeyword := hX
  unfold wp_X11_takeKeyword at h
  refine z_aload_n (r := (some h0)) hX dX11_takeKeyword_0 rfl 0 rfl ?_
  obtain ⟨hk11, h⟩ := h
  refine z_callVI (As := []) (rest := []) (ci := 11) hX (ct_X11_good h) mw_RX11_190 rfl (by decide) rfl (by rfl) (by unfold RoomC; decide) (by decide) dX11_takeKeyword_1 hk11 (fun r9 M10 h => ?_)
  obtain ⟨h1, h2⟩ := h
  refine z_if_eq (tgt := 19) hX dX11_takeKeyword_4 (by decide) (fun hc => ?_) (fun hc => ?_)
  · have h := h1 hc
    refine z_loc [0] rfl ?_
    exact zb_X11_takeKeyword_19 hX hQ hnL h
  · have h := h2 hc
    refine z_aload_n (r := (some h0)) hX dX11_takeKeyword_7 rfl 0 rfl ?_
    refine z_iload_n hX dX11_takeKeyword_8 rfl 1 rfl ?_
    obtain ⟨hk15, h⟩ := h
    refine z_callVI (As := [.int p1]) (rest := []) (ci := 11) hX (ct_X11_isKeyword h) mw_RX11_194 rfl (by decide) rfl (by rfl) (by unfold RoomC; decide) (by decide) dX11_takeKeyword_9 hk15 (fun r13 M14 h => ?_)
    obtain ⟨h1, h2⟩ := h
    refine z_if_ne (tgt := 19) hX dX11_takeKeyword_12 (by decide) (fun hc => ?_) (fun hc => ?_)
    · have h := h1 hc
      refine z_loc [0] rfl ?_
      exact zb_X11_takeKeyword_19 hX hQ hnL h
    · have h := h2 hc
      refine z_aload_n (r := (some h0)) hX dX11_takeKeyword_15 rfl 0 rfl ?_
      obtain ⟨hk19, h⟩ := h
      refine z_callVV (As := []) (rest := []) (ci := 11) hX (ct_X11_misplaced h) mw_RX11_197 rfl (by decide) rfl (by rfl) (by unfold RoomC; decide) (by decide) dX11_takeKeyword_16 hk19 (fun M18 h => ?_)
      refine z_loc [0] rfl ?_
      exact zb_X11_takeKeyword_19 hX hQ hnL h
def rm_X11_takeSign : Room := { frames := 6, cells := 0, slots := 0, locals := 159 }
def bk_X11_takeSign_40 (h0 : Nat) (K : Mm → Prop) (M : Mm) : Prop := (K M)
set_option maxRecDepth 100000 in
set_option maxHeartbeats 4000000 in
theorem zb_X11_takeSign_40 {X : Cx} {h0 : Nat} {K : Mm → Prop} (hX : Ok X cX11_takeSign RX11 rm_X11_takeSign) (hQ : Rq X rm_X11_takeSign none (QV K)) (hnL : X.2.2.2.2.2.2.2.2.2.2.2.2.2.2 = 2) {M : Mm} (h : bk_X11_takeSign_40 h0 K M) : Z X M 0 0 40 [] [] := by
  unfold bk_X11_takeSign_40 at h
  exact z_vret hX hQ dX11_takeSign_40 h
def bk_X11_takeSign_29 (h0 : Nat) (K : Mm → Prop) (M : Mm) : Prop := mK M h0 = 12 ∧ (wp_X11_good M h0 (fun r1 M2 => ((r1 = 0 → (bk_X11_takeSign_40 h0 K M2)) ∧ (¬ r1 = 0 → mK M2 h0 = 12 ∧ (wp_X11_next M2 h0 (fun M6 => (bk_X11_takeSign_40 h0 K M6)))))))
set_option maxRecDepth 100000 in
set_option maxHeartbeats 4000000 in
theorem zb_X11_takeSign_29 {X : Cx} {h0 : Nat} {K : Mm → Prop} (hX : Ok X cX11_takeSign RX11 rm_X11_takeSign) (hQ : Rq X rm_X11_takeSign none (QV K)) (hnL : X.2.2.2.2.2.2.2.2.2.2.2.2.2.2 = 2) {M : Mm} (h : bk_X11_takeSign_29 h0 K M) : Z X M 0 0 29 [(0, va_rf (some h0))] [] := by
  unfold bk_X11_takeSign_29 at h
  refine z_aload_n (r := (some h0)) hX dX11_takeSign_29 rfl 0 rfl ?_
  obtain ⟨hk3, h⟩ := h
  refine z_callVI (As := []) (rest := []) (ci := 11) hX (ct_X11_good h) mw_RX11_190 rfl (by decide) rfl (by rfl) (by unfold RoomC; decide) (by decide) dX11_takeSign_30 hk3 (fun r1 M2 h => ?_)
  obtain ⟨h1, h2⟩ := h
  refine z_if_eq (tgt := 40) hX dX11_takeSign_33 (by decide) (fun hc => ?_) (fun hc => ?_)
  · have h := h1 hc
    refine z_loc [] rfl ?_
    exact zb_X11_takeSign_40 hX hQ hnL h
  · have h := h2 hc
    refine z_aload_n (r := (some h0)) hX dX11_takeSign_36 rfl 0 rfl ?_
    obtain ⟨hk7, h⟩ := h
    refine z_callVV (As := []) (rest := []) (ci := 11) hX (ct_X11_next h) mw_RX11_200 rfl (by decide) rfl (by rfl) (by unfold RoomC; decide) (by decide) dX11_takeSign_37 hk7 (fun M6 h => ?_)
    refine z_loc [] rfl ?_
    exact zb_X11_takeSign_40 hX hQ hnL h
def bk_X11_takeSign_25 (h0 : Nat) (K : Mm → Prop) (M : Mm) : Prop := mK M h0 = 12 ∧ (wp_X11_misplaced M h0 (fun M10 => (bk_X11_takeSign_29 h0 K M10)))
set_option maxRecDepth 100000 in
set_option maxHeartbeats 4000000 in
theorem zb_X11_takeSign_25 {X : Cx} {h0 : Nat} {K : Mm → Prop} (hX : Ok X cX11_takeSign RX11 rm_X11_takeSign) (hQ : Rq X rm_X11_takeSign none (QV K)) (hnL : X.2.2.2.2.2.2.2.2.2.2.2.2.2.2 = 2) {M : Mm} (h : bk_X11_takeSign_25 h0 K M) : Z X M 0 0 25 [(0, va_rf (some h0))] [] := by
  unfold bk_X11_takeSign_25 at h
  refine z_aload_n (r := (some h0)) hX dX11_takeSign_25 rfl 0 rfl ?_
  obtain ⟨hk11, h⟩ := h
  refine z_callVV (As := []) (rest := []) (ci := 11) hX (ct_X11_misplaced h) mw_RX11_197 rfl (by decide) rfl (by rfl) (by unfold RoomC; decide) (by decide) dX11_takeSign_26 hk11 (fun M10 h => ?_)
  exact zb_X11_takeSign_29 hX hQ hnL h
def wp_X11_takeSign (M : Mm) (h0 : Nat) (p1 : Int32) (K : Mm → Prop) : Prop := mK M h0 = 12 ∧ (wp_X11_good M h0 (fun r13 M14 => ((r13 = 0 → (bk_X11_takeSign_29 h0 K M14)) ∧ (¬ r13 = 0 → mK M14 h0 = 12 ∧ ((¬ (mI M14 708 h0) = (3 : Int32) → (bk_X11_takeSign_25 h0 K M14)) ∧ ((mI M14 708 h0) = (3 : Int32) → (((mJ M14 710 h0) = ((p1).toInt64) → (bk_X11_takeSign_29 h0 K M14)) ∧ (¬ (mJ M14 710 h0) = ((p1).toInt64) → (bk_X11_takeSign_25 h0 K M14)))))))))
set_option maxRecDepth 100000 in
set_option maxHeartbeats 4000000 in
theorem ct_X11_takeSign {M : Mm} {h0 : Nat} {p1 : Int32} {K : Mm → Prop} (h : wp_X11_takeSign M h0 p1 K) : CtV yX11_takeSign cX11_takeSign 2 none rm_X11_takeSign [.ref h0, .int p1] M K := by
  refine ct_any (QV K) (by decide) (by exact Nat.le_of_ble_eq_true rfl) (fun X hX hQ hnL hnm => ?_)
  rw [show lv_args 0 [.ref h0, .int p1] = [(0, va_rf (some h0)), (1, .int p1)] by rfl]
  have hX : Ok X cX11_takeSign RX11 rm_X11_takeSign := hX
  unfold wp_X11_takeSign at h
  refine z_aload_n (r := (some h0)) hX dX11_takeSign_0 rfl 0 rfl ?_
  obtain ⟨hk15, h⟩ := h
  refine z_callVI (As := []) (rest := []) (ci := 11) hX (ct_X11_good h) mw_RX11_190 rfl (by decide) rfl (by rfl) (by unfold RoomC; decide) (by decide) dX11_takeSign_1 hk15 (fun r13 M14 h => ?_)
  obtain ⟨h1, h2⟩ := h
  refine z_if_eq (tgt := 29) hX dX11_takeSign_4 (by decide) (fun hc => ?_) (fun hc => ?_)
  · have h := h1 hc
    refine z_loc [0] rfl ?_
    exact zb_X11_takeSign_29 hX hQ hnL h
  · have h := h2 hc
    refine z_aload_n (r := (some h0)) hX dX11_takeSign_7 rfl 0 rfl ?_
    obtain ⟨hk17, h⟩ := h
    refine gf_RX11_147 (r := (some h0)) hX dX11_takeSign_8 rfl hk17 ?_
    refine z_iconst (v := (3 : Int32)) hX dX11_takeSign_11 (by decide) ?_
    obtain ⟨h1, h2⟩ := h
    refine z_icmp_ne (tgt := 25) hX dX11_takeSign_12 (by decide) (fun hc => ?_) (fun hc => ?_)
    · have h := h1 hc
      refine z_loc [0] rfl ?_
      exact zb_X11_takeSign_25 hX hQ hnL h
    · have h := h2 hc
      refine z_aload_n (r := (some h0)) hX dX11_takeSign_15 rfl 0 rfl ?_
      refine gf_RX11_140 (r := (some h0)) hX dX11_takeSign_16 rfl hk17 ?_
      refine z_iload_n hX dX11_takeSign_19 rfl 1 rfl ?_
      refine z_i2l hX dX11_takeSign_20 ?_
      refine z_lcmp hX dX11_takeSign_21 ?_
      obtain ⟨h1, h2⟩ := h
      refine z_if_eq (tgt := 29) hX dX11_takeSign_22 (by decide) (fun hc => ?_) (fun hc => ?_)
      · have h := h1 ((lg_cmp_eq _ _).mp hc)
        refine z_loc [0] rfl ?_
        exact zb_X11_takeSign_29 hX hQ hnL h
      · have h := h2 (fun q => hc ((lg_cmp_eq _ _).mpr q))
        refine z_loc [0] rfl ?_
        exact zb_X11_takeSign_25 hX hQ hnL h
def rm_X11_takeNumber : Room := { frames := 6, cells := 0, slots := 0, locals := 159 }
def bk_X11_takeNumber_48 (h0 : Nat) (K : Int64 → Mm → Prop) (M : Mm) : Prop := mK M h0 = 12 ∧ (wp_X11_fault M h0 (5 : Int32) (fun M2 => (K (0 : Int64) M2)))
set_option maxRecDepth 100000 in
set_option maxHeartbeats 4000000 in
theorem zb_X11_takeNumber_48 {X : Cx} {h0 : Nat} {K : Int64 → Mm → Prop} (hX : Ok X cX11_takeNumber RX11 rm_X11_takeNumber) (hQ : Rq X rm_X11_takeNumber (some .long) (QJ K)) (hnL : X.2.2.2.2.2.2.2.2.2.2.2.2.2.2 = 7) {M : Mm} (h : bk_X11_takeNumber_48 h0 K M) : Z X M 0 0 48 [(0, va_rf (some h0))] [] := by
  unfold bk_X11_takeNumber_48 at h
  refine z_aload_n (r := (some h0)) hX dX11_takeNumber_48 rfl 0 rfl ?_
  refine z_iconst (v := (5 : Int32)) hX dX11_takeNumber_49 (by decide) ?_
  obtain ⟨hk3, h⟩ := h
  refine z_callVV (As := [.int (5 : Int32)]) (rest := []) (ci := 11) hX (ct_X11_fault h) mw_RX11_187 rfl (by decide) rfl (by rfl) (by unfold RoomC; decide) (by decide) dX11_takeNumber_50 hk3 (fun M2 h => ?_)
  refine z_lconst (v := (0 : Int64)) hX dX11_takeNumber_53 (by decide) ?_
  exact z_lret hX hQ dX11_takeNumber_54 h
def bk_X11_takeNumber_19 (h0 : Nat) (K : Int64 → Mm → Prop) (l1 : Int64) (l3 : Int64) (M : Mm) : Prop := mK M h0 = 12 ∧ (wp_X11_good M h0 (fun r5 M6 => ((¬ r5 = 0 → mK M6 h0 = 12 ∧ (((mJ M6 710 h0) < l1 → (bk_X11_takeNumber_48 h0 K M6)) ∧ (¬ (mJ M6 710 h0) < l1 → (((mJ M6 710 h0) ≤ l3 → (wp_X11_next M6 h0 (fun M11 => (K (mJ M6 710 h0) M11)))) ∧ (¬ (mJ M6 710 h0) ≤ l3 → (bk_X11_takeNumber_48 h0 K M6)))))) ∧ (r5 = 0 → (K (0 : Int64) M6)))))
set_option maxRecDepth 100000 in
set_option maxHeartbeats 4000000 in
theorem zb_X11_takeNumber_19 {X : Cx} {h0 : Nat} {K : Int64 → Mm → Prop} (hX : Ok X cX11_takeNumber RX11 rm_X11_takeNumber) (hQ : Rq X rm_X11_takeNumber (some .long) (QJ K)) (hnL : X.2.2.2.2.2.2.2.2.2.2.2.2.2.2 = 7) {l1 : Int64} {l3 : Int64} {M : Mm} (h : bk_X11_takeNumber_19 h0 K l1 l3 M) : Z X M 0 0 19 [(0, va_rf (some h0)), (1, .long l1), (3, .long l3)] [] := by
  unfold bk_X11_takeNumber_19 at h
  refine z_aload_n (r := (some h0)) hX dX11_takeNumber_19 rfl 0 rfl ?_
  obtain ⟨hk7, h⟩ := h
  refine z_callVI (As := []) (rest := []) (ci := 11) hX (ct_X11_good h) mw_RX11_190 rfl (by decide) rfl (by rfl) (by unfold RoomC; decide) (by decide) dX11_takeNumber_20 hk7 (fun r5 M6 h => ?_)
  obtain ⟨h1, h2⟩ := h
  refine z_if_ne (tgt := 28) hX dX11_takeNumber_23 (by decide) (fun hc => ?_) (fun hc => ?_)
  · have h := h1 hc
    refine z_aload_n (r := (some h0)) hX dX11_takeNumber_28 rfl 0 rfl ?_
    obtain ⟨hk9, h⟩ := h
    refine gf_RX11_140 (r := (some h0)) hX dX11_takeNumber_29 rfl hk9 ?_
    refine z_lstore hX [(5, .long (mJ M6 710 h0)), (0, va_rf (some h0)), (1, .long l1), (3, .long l3)] dX11_takeNumber_32 (by rw [hnL]; decide) rfl ?_
    refine z_lload hX dX11_takeNumber_34 0 rfl ?_
    refine z_lload_n hX dX11_takeNumber_36 rfl 2 rfl ?_
    refine z_lcmp hX dX11_takeNumber_37 ?_
    obtain ⟨h1, h2⟩ := h
    refine z_if_lt (tgt := 48) hX dX11_takeNumber_38 (by decide) (fun hc => ?_) (fun hc => ?_)
    · have h := h1 ((lg_cmp_lt _ _).mp hc)
      refine z_loc [1] rfl ?_
      exact zb_X11_takeNumber_48 hX hQ hnL h
    · have h := h2 (fun q => hc ((lg_cmp_lt _ _).mpr q))
      refine z_lload hX dX11_takeNumber_41 0 rfl ?_
      refine z_lload_n hX dX11_takeNumber_43 rfl 3 rfl ?_
      refine z_lcmp hX dX11_takeNumber_44 ?_
      obtain ⟨h1, h2⟩ := h
      refine z_if_le (tgt := 55) hX dX11_takeNumber_45 (by decide) (fun hc => ?_) (fun hc => ?_)
      · have h := h1 ((lg_cmp_le _ _).mp hc)
        refine z_aload_n (r := (some h0)) hX dX11_takeNumber_55 rfl 1 rfl ?_
        refine z_callVV (As := []) (rest := []) (ci := 11) hX (ct_X11_next h) mw_RX11_200 rfl (by decide) rfl (by rfl) (by unfold RoomC; decide) (by decide) dX11_takeNumber_56 hk9 (fun M11 h => ?_)
        refine z_lload hX dX11_takeNumber_59 0 rfl ?_
        exact z_lret hX hQ dX11_takeNumber_61 h
      · have h := h2 (fun q => hc ((lg_cmp_le _ _).mpr q))
        refine z_loc [1] rfl ?_
        exact zb_X11_takeNumber_48 hX hQ hnL h
  · have h := h2 hc
    refine z_lconst (v := (0 : Int64)) hX dX11_takeNumber_26 (by decide) ?_
    exact z_lret hX hQ dX11_takeNumber_27 h
def wp_X11_takeNumber (M : Mm) (h0 : Nat) (p1 : Int64) (p2 : Int64) (K : Int64 → Mm → Prop) : Prop := mK M h0 = 12 ∧ (wp_X11_good M h0 (fun r13 M14 => ((r13 = 0 → (bk_X11_takeNumber_19 h0 K p1 p2 M14)) ∧ (¬ r13 = 0 → mK M14 h0 = 12 ∧ (((mI M14 708 h0) = (2 : Int32) → (bk_X11_takeNumber_19 h0 K p1 p2 M14)) ∧ (¬ (mI M14 708 h0) = (2 : Int32) → (wp_X11_misplaced M14 h0 (fun M19 => (bk_X11_takeNumber_19 h0 K p1 p2 M19)))))))))
set_option maxRecDepth 100000 in
set_option maxHeartbeats 4000000 in
theorem ct_X11_takeNumber {M : Mm} {h0 : Nat} {p1 : Int64} {p2 : Int64} {K : Int64 → Mm → Prop} (h : wp_X11_takeNumber M h0 p1 p2 K) : CtJ yX11_takeNumber cX11_takeNumber 7 (some .long) rm_X11_takeNumber [.ref h0, .long p1, .long p2] M K := by
  refine ct_any (QJ K) (by decide) (by exact Nat.le_of_ble_eq_true rfl) (fun X hX hQ hnL hnm => ?_)
  rw [show lv_args 0 [.ref h0, .long p1, .long p2] = [(0, va_rf (some h0)), (1, .long p1), (3, .long p2)] by rfl]
  have hX : Ok X cX11_takeNumber RX11 rm_X11_takeNumber := hX
  unfold wp_X11_takeNumber at h
  refine z_aload_n (r := (some h0)) hX dX11_takeNumber_0 rfl 0 rfl ?_
  obtain ⟨hk15, h⟩ := h
  refine z_callVI (As := []) (rest := []) (ci := 11) hX (ct_X11_good h) mw_RX11_190 rfl (by decide) rfl (by rfl) (by unfold RoomC; decide) (by decide) dX11_takeNumber_1 hk15 (fun r13 M14 h => ?_)
  obtain ⟨h1, h2⟩ := h
  refine z_if_eq (tgt := 19) hX dX11_takeNumber_4 (by decide) (fun hc => ?_) (fun hc => ?_)
  · have h := h1 hc
    exact zb_X11_takeNumber_19 hX hQ hnL h
  · have h := h2 hc
    refine z_aload_n (r := (some h0)) hX dX11_takeNumber_7 rfl 0 rfl ?_
    obtain ⟨hk17, h⟩ := h
    refine gf_RX11_147 (r := (some h0)) hX dX11_takeNumber_8 rfl hk17 ?_
    refine z_iconst (v := (2 : Int32)) hX dX11_takeNumber_11 (by decide) ?_
    obtain ⟨h1, h2⟩ := h
    refine z_icmp_eq (tgt := 19) hX dX11_takeNumber_12 (by decide) (fun hc => ?_) (fun hc => ?_)
    · have h := h1 hc
      exact zb_X11_takeNumber_19 hX hQ hnL h
    · have h := h2 hc
      refine z_aload_n (r := (some h0)) hX dX11_takeNumber_15 rfl 0 rfl ?_
      refine z_callVV (As := []) (rest := []) (ci := 11) hX (ct_X11_misplaced h) mw_RX11_197 rfl (by decide) rfl (by rfl) (by unfold RoomC; decide) (by decide) dX11_takeNumber_16 hk17 (fun M19 h => ?_)
      exact zb_X11_takeNumber_19 hX hQ hnL h
def rm_X11_source : Room := { frames := 7, cells := 0, slots := 0, locals := 185 }
def bk_X11_source_131 (h0 : Nat) (K : Mm → Prop) (M : Mm) : Prop := (K M)
set_option maxRecDepth 100000 in
set_option maxHeartbeats 4000000 in
theorem zb_X11_source_131 {X : Cx} {h0 : Nat} {K : Mm → Prop} (hX : Ok X cX11_source RX11 rm_X11_source) (hQ : Rq X rm_X11_source none (QV K)) (hnL : X.2.2.2.2.2.2.2.2.2.2.2.2.2.2 = 2) {M : Mm} (h : bk_X11_source_131 h0 K M) : Z X M 0 0 131 [] [] := by
  unfold bk_X11_source_131 at h
  exact z_vret hX hQ dX11_source_131 h
def bk_X11_source_97 (h0 : Nat) (K : Mm → Prop) (l1 : Int32) (M : Mm) : Prop := mK M h0 = 12 ∧ (wp_X11_good M h0 (fun r1 M2 => ((r1 = 0 → (bk_X11_source_131 h0 K M2)) ∧ (¬ r1 = 0 → mK M2 h0 = 12 ∧ (wp_X11_isKeyword M2 h0 (4 : Int32) (fun r5 M6 => ((r5 = 0 → (bk_X11_source_131 h0 K M6)) ∧ (¬ r5 = 0 → mK M6 h0 = 12 ∧ (wp_X11_next M6 h0 (fun M10 => mK M10 h0 = 12 ∧ (wp_X11_takeNumber M10 h0 (0 : Int64) (3 : Int64) (fun r14 M15 => ∃ a17, (mR M10 723 h0) = some a17 ∧ isA M15 a17 1 ∧ vp_in l1 (aN M15 a17) ∧ (bk_X11_source_131 h0 K (tI M15 a17 (l1).toNatClampNeg ((r14).toInt32)))))))))))))))
set_option maxRecDepth 100000 in
set_option maxHeartbeats 4000000 in
theorem zb_X11_source_97 {X : Cx} {h0 : Nat} {K : Mm → Prop} (hX : Ok X cX11_source RX11 rm_X11_source) (hQ : Rq X rm_X11_source none (QV K)) (hnL : X.2.2.2.2.2.2.2.2.2.2.2.2.2.2 = 2) {l1 : Int32} {M : Mm} (h : bk_X11_source_97 h0 K l1 M) : Z X M 0 0 97 [(0, va_rf (some h0)), (1, .int l1)] [] := by
  unfold bk_X11_source_97 at h
  refine z_aload_n (r := (some h0)) hX dX11_source_97 rfl 0 rfl ?_
  obtain ⟨hk3, h⟩ := h
  refine z_callVI (As := []) (rest := []) (ci := 11) hX (ct_X11_good h) mw_RX11_190 rfl (by decide) rfl (by rfl) (by unfold RoomC; decide) (by decide) dX11_source_98 hk3 (fun r1 M2 h => ?_)
  obtain ⟨h1, h2⟩ := h
  refine z_if_eq (tgt := 131) hX dX11_source_101 (by decide) (fun hc => ?_) (fun hc => ?_)
  · have h := h1 hc
    refine z_loc [] rfl ?_
    exact zb_X11_source_131 hX hQ hnL h
  · have h := h2 hc
    refine z_aload_n (r := (some h0)) hX dX11_source_104 rfl 0 rfl ?_
    refine z_iconst (v := (4 : Int32)) hX dX11_source_105 (by decide) ?_
    obtain ⟨hk7, h⟩ := h
    refine z_callVI (As := [.int (4 : Int32)]) (rest := []) (ci := 11) hX (ct_X11_isKeyword h) mw_RX11_194 rfl (by decide) rfl (by rfl) (by unfold RoomC; decide) (by decide) dX11_source_106 hk7 (fun r5 M6 h => ?_)
    obtain ⟨h1, h2⟩ := h
    refine z_if_eq (tgt := 131) hX dX11_source_109 (by decide) (fun hc => ?_) (fun hc => ?_)
    · have h := h1 hc
      refine z_loc [] rfl ?_
      exact zb_X11_source_131 hX hQ hnL h
    · have h := h2 hc
      refine z_aload_n (r := (some h0)) hX dX11_source_112 rfl 0 rfl ?_
      obtain ⟨hk11, h⟩ := h
      refine z_callVV (As := []) (rest := []) (ci := 11) hX (ct_X11_next h) mw_RX11_200 rfl (by decide) rfl (by rfl) (by unfold RoomC; decide) (by decide) dX11_source_113 hk11 (fun M10 h => ?_)
      refine z_aload_n (r := (some h0)) hX dX11_source_116 rfl 0 rfl ?_
      obtain ⟨hk13, h⟩ := h
      refine gf_RX11_42 (r := (some h0)) hX dX11_source_117 rfl hk13 ?_
      refine z_iload_n hX dX11_source_120 rfl 1 rfl ?_
      refine z_aload_n (r := (some h0)) hX dX11_source_121 rfl 0 rfl ?_
      refine z_lconst (v := (0 : Int64)) hX dX11_source_122 (by decide) ?_
      refine z_ldc2 (v := (3 : Int64)) hX dX11_source_123 kj_RX11_244 ?_
      refine z_callVJ (As := [.long (0 : Int64), .long (3 : Int64)]) (rest := [.int l1, va_rf (mR M10 723 h0)]) (ci := 11) hX (ct_X11_takeNumber h) mw_RX11_227 rfl (by decide) rfl (by rfl) (by unfold RoomC; decide) (by simp only [List.map_cons, List.map_nil, List.sum_cons, List.sum_nil, cat_rf, cat_i, cat_j]; decide) dX11_source_126 hk13 (fun r14 M15 h => ?_)
      refine z_l2i hX dX11_source_129 ?_
      obtain ⟨a17, ha18, h⟩ := h
      obtain ⟨hk19, h⟩ := h
      obtain ⟨hc20, h⟩ := h
      refine y_iast (r := (mR M10 723 h0)) hX dX11_source_130 ha18 hk19 hc20 ?_
      refine z_loc [] rfl ?_
      exact zb_X11_source_131 hX hQ hnL h
def bk_X11_source_63 (h0 : Nat) (K : Mm → Prop) (l1 : Int32) (M : Mm) : Prop := mK M h0 = 12 ∧ (wp_X11_good M h0 (fun r21 M22 => ((r21 = 0 → (bk_X11_source_97 h0 K l1 M22)) ∧ (¬ r21 = 0 → mK M22 h0 = 12 ∧ (wp_X11_isKeyword M22 h0 (3 : Int32) (fun r25 M26 => ((r25 = 0 → (bk_X11_source_97 h0 K l1 M26)) ∧ (¬ r25 = 0 → mK M26 h0 = 12 ∧ (wp_X11_next M26 h0 (fun M30 => mK M30 h0 = 12 ∧ (wp_X11_takeNumber M30 h0 (1 : Int64) (1000 : Int64) (fun r34 M35 => ∃ a37, (mR M30 722 h0) = some a37 ∧ isA M35 a37 1 ∧ vp_in l1 (aN M35 a37) ∧ (bk_X11_source_97 h0 K l1 (tI M35 a37 (l1).toNatClampNeg ((r34).toInt32)))))))))))))))
set_option maxRecDepth 100000 in
set_option maxHeartbeats 4000000 in
theorem zb_X11_source_63 {X : Cx} {h0 : Nat} {K : Mm → Prop} (hX : Ok X cX11_source RX11 rm_X11_source) (hQ : Rq X rm_X11_source none (QV K)) (hnL : X.2.2.2.2.2.2.2.2.2.2.2.2.2.2 = 2) {l1 : Int32} {M : Mm} (h : bk_X11_source_63 h0 K l1 M) : Z X M 0 0 63 [(0, va_rf (some h0)), (1, .int l1)] [] := by
  unfold bk_X11_source_63 at h
  refine z_aload_n (r := (some h0)) hX dX11_source_63 rfl 0 rfl ?_
  obtain ⟨hk23, h⟩ := h
  refine z_callVI (As := []) (rest := []) (ci := 11) hX (ct_X11_good h) mw_RX11_190 rfl (by decide) rfl (by rfl) (by unfold RoomC; decide) (by decide) dX11_source_64 hk23 (fun r21 M22 h => ?_)
  obtain ⟨h1, h2⟩ := h
  refine z_if_eq (tgt := 97) hX dX11_source_67 (by decide) (fun hc => ?_) (fun hc => ?_)
  · have h := h1 hc
    exact zb_X11_source_97 hX hQ hnL h
  · have h := h2 hc
    refine z_aload_n (r := (some h0)) hX dX11_source_70 rfl 0 rfl ?_
    refine z_iconst (v := (3 : Int32)) hX dX11_source_71 (by decide) ?_
    obtain ⟨hk27, h⟩ := h
    refine z_callVI (As := [.int (3 : Int32)]) (rest := []) (ci := 11) hX (ct_X11_isKeyword h) mw_RX11_194 rfl (by decide) rfl (by rfl) (by unfold RoomC; decide) (by decide) dX11_source_72 hk27 (fun r25 M26 h => ?_)
    obtain ⟨h1, h2⟩ := h
    refine z_if_eq (tgt := 97) hX dX11_source_75 (by decide) (fun hc => ?_) (fun hc => ?_)
    · have h := h1 hc
      exact zb_X11_source_97 hX hQ hnL h
    · have h := h2 hc
      refine z_aload_n (r := (some h0)) hX dX11_source_78 rfl 0 rfl ?_
      obtain ⟨hk31, h⟩ := h
      refine z_callVV (As := []) (rest := []) (ci := 11) hX (ct_X11_next h) mw_RX11_200 rfl (by decide) rfl (by rfl) (by unfold RoomC; decide) (by decide) dX11_source_79 hk31 (fun M30 h => ?_)
      refine z_aload_n (r := (some h0)) hX dX11_source_82 rfl 0 rfl ?_
      obtain ⟨hk33, h⟩ := h
      refine gf_RX11_39 (r := (some h0)) hX dX11_source_83 rfl hk33 ?_
      refine z_iload_n hX dX11_source_86 rfl 1 rfl ?_
      refine z_aload_n (r := (some h0)) hX dX11_source_87 rfl 0 rfl ?_
      refine z_lconst (v := (1 : Int64)) hX dX11_source_88 (by decide) ?_
      refine z_ldc2 (v := (1000 : Int64)) hX dX11_source_89 kj_RX11_242 ?_
      refine z_callVJ (As := [.long (1 : Int64), .long (1000 : Int64)]) (rest := [.int l1, va_rf (mR M30 722 h0)]) (ci := 11) hX (ct_X11_takeNumber h) mw_RX11_227 rfl (by decide) rfl (by rfl) (by unfold RoomC; decide) (by simp only [List.map_cons, List.map_nil, List.sum_cons, List.sum_nil, cat_rf, cat_i, cat_j]; decide) dX11_source_92 hk33 (fun r34 M35 h => ?_)
      refine z_l2i hX dX11_source_95 ?_
      obtain ⟨a37, ha38, h⟩ := h
      obtain ⟨hk39, h⟩ := h
      obtain ⟨hc40, h⟩ := h
      refine y_iast (r := (mR M30 722 h0)) hX dX11_source_96 ha38 hk39 hc40 ?_
      exact zb_X11_source_97 hX hQ hnL h
def bk_X11_source_58 (h0 : Nat) (K : Mm → Prop) (l1 : Int32) (M : Mm) : Prop := mK M h0 = 12 ∧ (wp_X11_takeKeyword M h0 (2 : Int32) (fun M42 => (bk_X11_source_63 h0 K l1 M42)))
set_option maxRecDepth 100000 in
set_option maxHeartbeats 4000000 in
theorem zb_X11_source_58 {X : Cx} {h0 : Nat} {K : Mm → Prop} (hX : Ok X cX11_source RX11 rm_X11_source) (hQ : Rq X rm_X11_source none (QV K)) (hnL : X.2.2.2.2.2.2.2.2.2.2.2.2.2.2 = 2) {l1 : Int32} {M : Mm} (h : bk_X11_source_58 h0 K l1 M) : Z X M 0 0 58 [(0, va_rf (some h0)), (1, .int l1)] [] := by
  unfold bk_X11_source_58 at h
  refine z_aload_n (r := (some h0)) hX dX11_source_58 rfl 0 rfl ?_
  refine z_iconst (v := (2 : Int32)) hX dX11_source_59 (by decide) ?_
  obtain ⟨hk43, h⟩ := h
  refine z_callVV (As := [.int (2 : Int32)]) (rest := []) (ci := 11) hX (ct_X11_takeKeyword h) mw_RX11_239 rfl (by decide) rfl (by rfl) (by unfold RoomC; decide) (by decide) dX11_source_60 hk43 (fun M42 h => ?_)
  exact zb_X11_source_63 hX hQ hnL h
def wp_X11_source (M : Mm) (h0 : Nat) (p1 : Int32) (K : Mm → Prop) : Prop := mK M h0 = 12 ∧ (wp_X11_takeNumber M h0 (1 : Int64) (4 : Int64) (fun r46 M47 => ∃ a49, (mR M 718 h0) = some a49 ∧ isA M47 a49 1 ∧ vp_in p1 (aN M47 a49) ∧ mK (tI M47 a49 (p1).toNatClampNeg ((r46).toInt32)) h0 = 12 ∧ (wp_X11_good (tI M47 a49 (p1).toNatClampNeg ((r46).toInt32)) h0 (fun r53 M54 => ((r53 = 0 → (bk_X11_source_58 h0 K p1 M54)) ∧ (¬ r53 = 0 → mK M54 h0 = 12 ∧ (wp_X11_isKeyword M54 h0 (1 : Int32) (fun r57 M58 => ((r57 = 0 → (bk_X11_source_58 h0 K p1 M58)) ∧ (¬ r57 = 0 → mK M58 h0 = 12 ∧ (wp_X11_next M58 h0 (fun M62 => mK M62 h0 = 12 ∧ ∃ a66, (mR M62 719 h0) = some a66 ∧ isA M62 a66 3 ∧ vp_in p1 (aN M62 a66) ∧ (wp_X11_takeNumber (tI M62 a66 (p1).toNatClampNeg (1 : Int32)) h0 (0 : Int64) (9223372036854775807 : Int64) (fun r70 M71 => ∃ a73, (mR (tI M62 a66 (p1).toNatClampNeg (1 : Int32)) 720 h0) = some a73 ∧ isA M71 a73 2 ∧ vp_in p1 (aN M71 a73) ∧ (bk_X11_source_63 h0 K p1 (tJ M71 a73 (p1).toNatClampNeg r70))))))))))))))))
set_option maxRecDepth 100000 in
set_option maxHeartbeats 4000000 in
theorem ct_X11_source {M : Mm} {h0 : Nat} {p1 : Int32} {K : Mm → Prop} (h : wp_X11_source M h0 p1 K) : CtV yX11_source cX11_source 2 none rm_X11_source [.ref h0, .int p1] M K := by
  refine ct_any (QV K) (by decide) (by exact Nat.le_of_ble_eq_true rfl) (fun X hX hQ hnL hnm => ?_)
  rw [show lv_args 0 [.ref h0, .int p1] = [(0, va_rf (some h0)), (1, .int p1)] by rfl]
  have hX : Ok X cX11_source RX11 rm_X11_source := hX
  unfold wp_X11_source at h
  refine z_aload_n (r := (some h0)) hX dX11_source_0 rfl 0 rfl ?_
  obtain ⟨hk45, h⟩ := h
  refine gf_RX11_26 (r := (some h0)) hX dX11_source_1 rfl hk45 ?_
  refine z_iload_n hX dX11_source_4 rfl 1 rfl ?_
  refine z_aload_n (r := (some h0)) hX dX11_source_5 rfl 0 rfl ?_
  refine z_lconst (v := (1 : Int64)) hX dX11_source_6 (by decide) ?_
  refine z_ldc2 (v := (4 : Int64)) hX dX11_source_7 kj_RX11_237 ?_
  refine z_callVJ (As := [.long (1 : Int64), .long (4 : Int64)]) (rest := [.int p1, va_rf (mR M 718 h0)]) (ci := 11) hX (ct_X11_takeNumber h) mw_RX11_227 rfl (by decide) rfl (by rfl) (by unfold RoomC; decide) (by simp only [List.map_cons, List.map_nil, List.sum_cons, List.sum_nil, cat_rf, cat_i, cat_j]; decide) dX11_source_10 hk45 (fun r46 M47 h => ?_)
  refine z_l2i hX dX11_source_13 ?_
  obtain ⟨a49, ha50, h⟩ := h
  obtain ⟨hk51, h⟩ := h
  obtain ⟨hc52, h⟩ := h
  refine y_iast (r := (mR M 718 h0)) hX dX11_source_14 ha50 hk51 hc52 ?_
  refine z_aload_n (r := (some h0)) hX dX11_source_15 rfl 0 rfl ?_
  obtain ⟨hk55, h⟩ := h
  refine z_callVI (As := []) (rest := []) (ci := 11) hX (ct_X11_good h) mw_RX11_190 rfl (by decide) rfl (by rfl) (by unfold RoomC; decide) (by decide) dX11_source_16 hk55 (fun r53 M54 h => ?_)
  obtain ⟨h1, h2⟩ := h
  refine z_if_eq (tgt := 58) hX dX11_source_19 (by decide) (fun hc => ?_) (fun hc => ?_)
  · have h := h1 hc
    exact zb_X11_source_58 hX hQ hnL h
  · have h := h2 hc
    refine z_aload_n (r := (some h0)) hX dX11_source_22 rfl 0 rfl ?_
    refine z_iconst (v := (1 : Int32)) hX dX11_source_23 (by decide) ?_
    obtain ⟨hk59, h⟩ := h
    refine z_callVI (As := [.int (1 : Int32)]) (rest := []) (ci := 11) hX (ct_X11_isKeyword h) mw_RX11_194 rfl (by decide) rfl (by rfl) (by unfold RoomC; decide) (by decide) dX11_source_24 hk59 (fun r57 M58 h => ?_)
    obtain ⟨h1, h2⟩ := h
    refine z_if_eq (tgt := 58) hX dX11_source_27 (by decide) (fun hc => ?_) (fun hc => ?_)
    · have h := h1 hc
      exact zb_X11_source_58 hX hQ hnL h
    · have h := h2 hc
      refine z_aload_n (r := (some h0)) hX dX11_source_30 rfl 0 rfl ?_
      obtain ⟨hk63, h⟩ := h
      refine z_callVV (As := []) (rest := []) (ci := 11) hX (ct_X11_next h) mw_RX11_200 rfl (by decide) rfl (by rfl) (by unfold RoomC; decide) (by decide) dX11_source_31 hk63 (fun M62 h => ?_)
      refine z_aload_n (r := (some h0)) hX dX11_source_34 rfl 0 rfl ?_
      obtain ⟨hk65, h⟩ := h
      refine gf_RX11_29 (r := (some h0)) hX dX11_source_35 rfl hk65 ?_
      refine z_iload_n hX dX11_source_38 rfl 1 rfl ?_
      refine z_iconst (v := (1 : Int32)) hX dX11_source_39 (by decide) ?_
      obtain ⟨a66, ha67, h⟩ := h
      obtain ⟨hk68, h⟩ := h
      obtain ⟨hc69, h⟩ := h
      refine y_zast (r := (mR M62 719 h0)) hX dX11_source_40 ha67 hk68 hc69 (Or.inr rfl)  ?_
      refine z_aload_n (r := (some h0)) hX dX11_source_41 rfl 0 rfl ?_
      refine gf_RX11_33 (r := (some h0)) hX dX11_source_42 rfl hk65 ?_
      refine z_iload_n hX dX11_source_45 rfl 1 rfl ?_
      refine z_aload_n (r := (some h0)) hX dX11_source_46 rfl 0 rfl ?_
      refine z_lconst (v := (0 : Int64)) hX dX11_source_47 (by decide) ?_
      refine z_ldc2 (v := (9223372036854775807 : Int64)) hX dX11_source_48 kj_RX11_225 ?_
      refine z_callVJ (As := [.long (0 : Int64), .long (9223372036854775807 : Int64)]) (rest := [.int p1, va_rf (mR (tI M62 a66 (p1).toNatClampNeg (1 : Int32)) 720 h0)]) (ci := 11) hX (ct_X11_takeNumber h) mw_RX11_227 rfl (by decide) rfl (by rfl) (by unfold RoomC; decide) (by simp only [List.map_cons, List.map_nil, List.sum_cons, List.sum_nil, cat_rf, cat_i, cat_j]; decide) dX11_source_51 hk65 (fun r70 M71 h => ?_)
      obtain ⟨a73, ha74, h⟩ := h
      obtain ⟨hk75, h⟩ := h
      obtain ⟨hc76, h⟩ := h
      refine y_last (r := (mR (tI M62 a66 (p1).toNatClampNeg (1 : Int32)) 720 h0)) hX dX11_source_54 ha74 hk75 hc76 ?_
      refine z_goto (tgt := 63) hX dX11_source_55 (by decide) ?_
      exact zb_X11_source_63 hX hQ hnL h
def rm_X11_takeInput : Room := { frames := 6, cells := 0, slots := 0, locals := 159 }
def bk_X11_takeInput_48 (h0 : Nat) (K : Mm → Prop) (M : Mm) : Prop := mK M h0 = 12 ∧ (wp_X11_fault M h0 (4 : Int32) (fun M2 => (K M2)))
set_option maxRecDepth 100000 in
set_option maxHeartbeats 4000000 in
theorem zb_X11_takeInput_48 {X : Cx} {h0 : Nat} {K : Mm → Prop} (hX : Ok X cX11_takeInput RX11 rm_X11_takeInput) (hQ : Rq X rm_X11_takeInput none (QV K)) (hnL : X.2.2.2.2.2.2.2.2.2.2.2.2.2.2 = 3) {M : Mm} (h : bk_X11_takeInput_48 h0 K M) : Z X M 0 0 48 [(0, va_rf (some h0))] [] := by
  unfold bk_X11_takeInput_48 at h
  refine z_aload_n (r := (some h0)) hX dX11_takeInput_48 rfl 0 rfl ?_
  refine z_iconst (v := (4 : Int32)) hX dX11_takeInput_49 (by decide) ?_
  obtain ⟨hk3, h⟩ := h
  refine z_callVV (As := [.int (4 : Int32)]) (rest := []) (ci := 11) hX (ct_X11_fault h) mw_RX11_187 rfl (by decide) rfl (by rfl) (by unfold RoomC; decide) (by decide) dX11_takeInput_50 hk3 (fun M2 h => ?_)
  exact z_vret hX hQ dX11_takeInput_53 h
def bk_X11_takeInput_18 (h0 : Nat) (K : Mm → Prop) (l1 : Int32) (M : Mm) : Prop := mK M h0 = 12 ∧ (wp_X11_good M h0 (fun r5 M6 => ((¬ r5 = 0 → mK M6 h0 = 12 ∧ (wp_X11_findName M6 h0 (mJ M6 710 h0) (fun r10 M11 => ((r10 < 0 → (bk_X11_takeInput_48 h0 K M11)) ∧ (¬ r10 < 0 → mK M11 h0 = 12 ∧ ∃ a14, (mR M11 726 h0) = some a14 ∧ isA M11 a14 1 ∧ vp_in r10 (aN M11 a14) ∧ (((aI M11 a14 (r10).toNatClampNeg) < 0 → vp_in r10 (aN M11 a14) ∧ ∃ a19, (mR (tI M11 a14 (r10).toNatClampNeg l1) 724 h0) = some a19 ∧ isA (tI M11 a14 (r10).toNatClampNeg l1) a19 1 ∧ vp_in l1 (aN (tI M11 a14 (r10).toNatClampNeg l1) a19) ∧ ∃ a23, (mR (tI M11 a14 (r10).toNatClampNeg l1) 725 h0) = some a23 ∧ isA (tI M11 a14 (r10).toNatClampNeg l1) a23 1 ∧ vp_in (((4 : Int32) * l1) + (aI (tI M11 a14 (r10).toNatClampNeg l1) a19 (l1).toNatClampNeg)) (aN (tI M11 a14 (r10).toNatClampNeg l1) a23) ∧ ∃ a27, (mR (tI (tI M11 a14 (r10).toNatClampNeg l1) a23 ((((4 : Int32) * l1) + (aI (tI M11 a14 (r10).toNatClampNeg l1) a19 (l1).toNatClampNeg))).toNatClampNeg r10) 724 h0) = some a27 ∧ isA (tI (tI M11 a14 (r10).toNatClampNeg l1) a23 ((((4 : Int32) * l1) + (aI (tI M11 a14 (r10).toNatClampNeg l1) a19 (l1).toNatClampNeg))).toNatClampNeg r10) a27 1 ∧ vp_in l1 (aN (tI (tI M11 a14 (r10).toNatClampNeg l1) a23 ((((4 : Int32) * l1) + (aI (tI M11 a14 (r10).toNatClampNeg l1) a19 (l1).toNatClampNeg))).toNatClampNeg r10) a27) ∧ vp_in l1 (aN (tI (tI M11 a14 (r10).toNatClampNeg l1) a23 ((((4 : Int32) * l1) + (aI (tI M11 a14 (r10).toNatClampNeg l1) a19 (l1).toNatClampNeg))).toNatClampNeg r10) a27) ∧ (wp_X11_next (tI (tI (tI M11 a14 (r10).toNatClampNeg l1) a23 ((((4 : Int32) * l1) + (aI (tI M11 a14 (r10).toNatClampNeg l1) a19 (l1).toNatClampNeg))).toNatClampNeg r10) a27 (l1).toNatClampNeg ((aI (tI (tI M11 a14 (r10).toNatClampNeg l1) a23 ((((4 : Int32) * l1) + (aI (tI M11 a14 (r10).toNatClampNeg l1) a19 (l1).toNatClampNeg))).toNatClampNeg r10) a27 (l1).toNatClampNeg) + (1 : Int32))) h0 (fun M33 => (K M33)))) ∧ (¬ (aI M11 a14 (r10).toNatClampNeg) < 0 → (bk_X11_takeInput_48 h0 K M11)))))))) ∧ (r5 = 0 → (K M6)))))
set_option maxRecDepth 100000 in
set_option maxHeartbeats 4000000 in
theorem zb_X11_takeInput_18 {X : Cx} {h0 : Nat} {K : Mm → Prop} (hX : Ok X cX11_takeInput RX11 rm_X11_takeInput) (hQ : Rq X rm_X11_takeInput none (QV K)) (hnL : X.2.2.2.2.2.2.2.2.2.2.2.2.2.2 = 3) {l1 : Int32} {M : Mm} (h : bk_X11_takeInput_18 h0 K l1 M) : Z X M 0 0 18 [(0, va_rf (some h0)), (1, .int l1)] [] := by
  unfold bk_X11_takeInput_18 at h
  refine z_aload_n (r := (some h0)) hX dX11_takeInput_18 rfl 0 rfl ?_
  obtain ⟨hk7, h⟩ := h
  refine z_callVI (As := []) (rest := []) (ci := 11) hX (ct_X11_good h) mw_RX11_190 rfl (by decide) rfl (by rfl) (by unfold RoomC; decide) (by decide) dX11_takeInput_19 hk7 (fun r5 M6 h => ?_)
  obtain ⟨h1, h2⟩ := h
  refine z_if_ne (tgt := 26) hX dX11_takeInput_22 (by decide) (fun hc => ?_) (fun hc => ?_)
  · have h := h1 hc
    refine z_aload_n (r := (some h0)) hX dX11_takeInput_26 rfl 0 rfl ?_
    refine z_aload_n (r := (some h0)) hX dX11_takeInput_27 rfl 0 rfl ?_
    obtain ⟨hk9, h⟩ := h
    refine gf_RX11_140 (r := (some h0)) hX dX11_takeInput_28 rfl hk9 ?_
    refine z_callVI (As := [.long (mJ M6 710 h0)]) (rest := []) (ci := 11) hX (ct_X11_findName h) mw_RX11_209 rfl (by decide) rfl (by rfl) (by unfold RoomC; decide) (by decide) dX11_takeInput_31 hk9 (fun r10 M11 h => ?_)
    refine z_istore_n hX [(2, .int r10), (0, va_rf (some h0)), (1, .int l1)] dX11_takeInput_34 rfl (by rw [hnL]; decide) rfl ?_
    refine z_iload_n hX dX11_takeInput_35 rfl 0 rfl ?_
    obtain ⟨h1, h2⟩ := h
    refine z_if_lt (tgt := 48) hX dX11_takeInput_36 (by decide) (fun hc => ?_) (fun hc => ?_)
    · have h := h1 hc
      refine z_loc [1] rfl ?_
      exact zb_X11_takeInput_48 hX hQ hnL h
    · have h := h2 hc
      refine z_aload_n (r := (some h0)) hX dX11_takeInput_39 rfl 1 rfl ?_
      obtain ⟨hk13, h⟩ := h
      refine gf_RX11_51 (r := (some h0)) hX dX11_takeInput_40 rfl hk13 ?_
      refine z_iload_n hX dX11_takeInput_43 rfl 0 rfl ?_
      obtain ⟨a14, ha15, h⟩ := h
      obtain ⟨hk16, h⟩ := h
      obtain ⟨hc17, h⟩ := h
      refine y_iald (r := (mR M11 726 h0)) hX dX11_takeInput_44 ha15 hk16 hc17 ?_
      obtain ⟨h1, h2⟩ := h
      refine z_if_lt (tgt := 54) hX dX11_takeInput_45 (by decide) (fun hc => ?_) (fun hc => ?_)
      · have h := h1 hc
        refine z_aload_n (r := (some h0)) hX dX11_takeInput_54 rfl 1 rfl ?_
        refine gf_RX11_51 (r := (some h0)) hX dX11_takeInput_55 rfl hk13 ?_
        refine z_iload_n hX dX11_takeInput_58 rfl 0 rfl ?_
        refine z_iload_n hX dX11_takeInput_59 rfl 2 rfl ?_
        obtain ⟨hc18, h⟩ := h
        refine y_iast (r := (mR M11 726 h0)) hX dX11_takeInput_60 ha15 hk16 hc18 ?_
        refine z_aload_n (r := (some h0)) hX dX11_takeInput_61 rfl 1 rfl ?_
        refine gf_RX11_48 (r := (some h0)) hX dX11_takeInput_62 rfl hk13 ?_
        refine z_iconst (v := (4 : Int32)) hX dX11_takeInput_65 (by decide) ?_
        refine z_iload_n hX dX11_takeInput_66 rfl 2 rfl ?_
        refine z_imul hX dX11_takeInput_67 ?_
        refine z_aload_n (r := (some h0)) hX dX11_takeInput_68 rfl 1 rfl ?_
        refine gf_RX11_45 (r := (some h0)) hX dX11_takeInput_69 rfl hk13 ?_
        refine z_iload_n hX dX11_takeInput_72 rfl 2 rfl ?_
        obtain ⟨a19, ha20, h⟩ := h
        obtain ⟨hk21, h⟩ := h
        obtain ⟨hc22, h⟩ := h
        refine y_iald (r := (mR (tI M11 a14 (r10).toNatClampNeg l1) 724 h0)) hX dX11_takeInput_73 ha20 hk21 hc22 ?_
        refine z_iadd hX dX11_takeInput_74 ?_
        refine z_iload_n hX dX11_takeInput_75 rfl 0 rfl ?_
        obtain ⟨a23, ha24, h⟩ := h
        obtain ⟨hk25, h⟩ := h
        obtain ⟨hc26, h⟩ := h
        refine y_iast (r := (mR (tI M11 a14 (r10).toNatClampNeg l1) 725 h0)) hX dX11_takeInput_76 ha24 hk25 hc26 ?_
        refine z_aload_n (r := (some h0)) hX dX11_takeInput_77 rfl 1 rfl ?_
        refine gf_RX11_45 (r := (some h0)) hX dX11_takeInput_78 rfl hk13 ?_
        refine z_iload_n hX dX11_takeInput_81 rfl 2 rfl ?_
        refine z_dup2_11 hX dX11_takeInput_82 rfl (cat_rf _) ?_
        obtain ⟨a27, ha28, h⟩ := h
        obtain ⟨hk29, h⟩ := h
        obtain ⟨hc30, h⟩ := h
        refine y_iald (r := (mR (tI (tI M11 a14 (r10).toNatClampNeg l1) a23 ((((4 : Int32) * l1) + (aI (tI M11 a14 (r10).toNatClampNeg l1) a19 (l1).toNatClampNeg))).toNatClampNeg r10) 724 h0)) hX dX11_takeInput_83 ha28 hk29 hc30 ?_
        refine z_iconst (v := (1 : Int32)) hX dX11_takeInput_84 (by decide) ?_
        refine z_iadd hX dX11_takeInput_85 ?_
        obtain ⟨hc31, h⟩ := h
        refine y_iast (r := (mR (tI (tI M11 a14 (r10).toNatClampNeg l1) a23 ((((4 : Int32) * l1) + (aI (tI M11 a14 (r10).toNatClampNeg l1) a19 (l1).toNatClampNeg))).toNatClampNeg r10) 724 h0)) hX dX11_takeInput_86 ha28 hk29 hc31 ?_
        refine z_aload_n (r := (some h0)) hX dX11_takeInput_87 rfl 1 rfl ?_
        refine z_callVV (As := []) (rest := []) (ci := 11) hX (ct_X11_next h) mw_RX11_200 rfl (by decide) rfl (by rfl) (by unfold RoomC; decide) (by decide) dX11_takeInput_88 hk13 (fun M33 h => ?_)
        exact z_vret hX hQ dX11_takeInput_91 h
      · have h := h2 hc
        refine z_loc [1] rfl ?_
        exact zb_X11_takeInput_48 hX hQ hnL h
  · have h := h2 hc
    exact z_vret hX hQ dX11_takeInput_25 h
def wp_X11_takeInput (M : Mm) (h0 : Nat) (p1 : Int32) (K : Mm → Prop) : Prop := mK M h0 = 12 ∧ (wp_X11_good M h0 (fun r35 M36 => ((r35 = 0 → (bk_X11_takeInput_18 h0 K p1 M36)) ∧ (¬ r35 = 0 → mK M36 h0 = 12 ∧ (wp_X11_isName M36 h0 (fun r39 M40 => ((¬ r39 = 0 → (bk_X11_takeInput_18 h0 K p1 M40)) ∧ (r39 = 0 → mK M40 h0 = 12 ∧ (wp_X11_misplaced M40 h0 (fun M44 => (bk_X11_takeInput_18 h0 K p1 M44)))))))))))
set_option maxRecDepth 100000 in
set_option maxHeartbeats 4000000 in
theorem ct_X11_takeInput {M : Mm} {h0 : Nat} {p1 : Int32} {K : Mm → Prop} (h : wp_X11_takeInput M h0 p1 K) : CtV yX11_takeInput cX11_takeInput 3 none rm_X11_takeInput [.ref h0, .int p1] M K := by
  refine ct_any (QV K) (by decide) (by exact Nat.le_of_ble_eq_true rfl) (fun X hX hQ hnL hnm => ?_)
  rw [show lv_args 0 [.ref h0, .int p1] = [(0, va_rf (some h0)), (1, .int p1)] by rfl]
  have hX : Ok X cX11_takeInput RX11 rm_X11_takeInput := hX
  unfold wp_X11_takeInput at h
  refine z_aload_n (r := (some h0)) hX dX11_takeInput_0 rfl 0 rfl ?_
  obtain ⟨hk37, h⟩ := h
  refine z_callVI (As := []) (rest := []) (ci := 11) hX (ct_X11_good h) mw_RX11_190 rfl (by decide) rfl (by rfl) (by unfold RoomC; decide) (by decide) dX11_takeInput_1 hk37 (fun r35 M36 h => ?_)
  obtain ⟨h1, h2⟩ := h
  refine z_if_eq (tgt := 18) hX dX11_takeInput_4 (by decide) (fun hc => ?_) (fun hc => ?_)
  · have h := h1 hc
    exact zb_X11_takeInput_18 hX hQ hnL h
  · have h := h2 hc
    refine z_aload_n (r := (some h0)) hX dX11_takeInput_7 rfl 0 rfl ?_
    obtain ⟨hk41, h⟩ := h
    refine z_callVI (As := []) (rest := []) (ci := 11) hX (ct_X11_isName h) mw_RX11_206 rfl (by decide) rfl (by rfl) (by unfold RoomC; decide) (by decide) dX11_takeInput_8 hk41 (fun r39 M40 h => ?_)
    obtain ⟨h1, h2⟩ := h
    refine z_if_ne (tgt := 18) hX dX11_takeInput_11 (by decide) (fun hc => ?_) (fun hc => ?_)
    · have h := h1 hc
      exact zb_X11_takeInput_18 hX hQ hnL h
    · have h := h2 hc
      refine z_aload_n (r := (some h0)) hX dX11_takeInput_14 rfl 0 rfl ?_
      obtain ⟨hk45, h⟩ := h
      refine z_callVV (As := []) (rest := []) (ci := 11) hX (ct_X11_misplaced h) mw_RX11_197 rfl (by decide) rfl (by rfl) (by unfold RoomC; decide) (by decide) dX11_takeInput_15 hk45 (fun M44 h => ?_)
      exact zb_X11_takeInput_18 hX hQ hnL h
def rm_X11_takeSigned : Room := { frames := 6, cells := 0, slots := 0, locals := 159 }
def bk_X11_takeSigned_84 (h0 : Nat) (K : Int64 → Mm → Prop) (l1 : Int64) (s0 : Int64) (M : Mm) : Prop := ((l1 ≤ s0 → mK M h0 = 12 ∧ (wp_X11_next M h0 (fun M2 => (K s0 M2)))) ∧ (¬ l1 ≤ s0 → mK M h0 = 12 ∧ (wp_X11_fault M h0 (5 : Int32) (fun M6 => (K (0 : Int64) M6)))))
set_option maxRecDepth 100000 in
set_option maxHeartbeats 4000000 in
theorem zb_X11_takeSigned_84 {X : Cx} {h0 : Nat} {K : Int64 → Mm → Prop} (hX : Ok X cX11_takeSigned RX11 rm_X11_takeSigned) (hQ : Rq X rm_X11_takeSigned (some .long) (QJ K)) (hnL : X.2.2.2.2.2.2.2.2.2.2.2.2.2.2 = 6) {l1 : Int64} {s0 : Int64} {M : Mm} (h : bk_X11_takeSigned_84 h0 K l1 s0 M) : Z X M 0 0 84 [(0, va_rf (some h0)), (1, .long l1)] [.long s0] := by
  unfold bk_X11_takeSigned_84 at h
  refine z_lstore hX [(4, .long s0), (0, va_rf (some h0)), (1, .long l1)] dX11_takeSigned_84 (by rw [hnL]; decide) rfl ?_
  refine z_lload hX dX11_takeSigned_86 0 rfl ?_
  refine z_lload_n hX dX11_takeSigned_88 rfl 2 rfl ?_
  refine z_lcmp hX dX11_takeSigned_89 ?_
  obtain ⟨h1, h2⟩ := h
  refine z_if_ge (tgt := 100) hX dX11_takeSigned_90 (by decide) (fun hc => ?_) (fun hc => ?_)
  · have h := h1 ((lg_cmp_ge _ _).mp hc)
    refine z_aload_n (r := (some h0)) hX dX11_takeSigned_100 rfl 1 rfl ?_
    obtain ⟨hk3, h⟩ := h
    refine z_callVV (As := []) (rest := []) (ci := 11) hX (ct_X11_next h) mw_RX11_200 rfl (by decide) rfl (by rfl) (by unfold RoomC; decide) (by decide) dX11_takeSigned_101 hk3 (fun M2 h => ?_)
    refine z_lload hX dX11_takeSigned_104 0 rfl ?_
    exact z_lret hX hQ dX11_takeSigned_106 h
  · have h := h2 (fun q => hc ((lg_cmp_ge _ _).mpr q))
    refine z_aload_n (r := (some h0)) hX dX11_takeSigned_93 rfl 1 rfl ?_
    refine z_iconst (v := (5 : Int32)) hX dX11_takeSigned_94 (by decide) ?_
    obtain ⟨hk7, h⟩ := h
    refine z_callVV (As := [.int (5 : Int32)]) (rest := []) (ci := 11) hX (ct_X11_fault h) mw_RX11_187 rfl (by decide) rfl (by rfl) (by unfold RoomC; decide) (by decide) dX11_takeSigned_95 hk7 (fun M6 h => ?_)
    refine z_lconst (v := (0 : Int64)) hX dX11_takeSigned_98 (by decide) ?_
    exact z_lret hX hQ dX11_takeSigned_99 h
def bk_X11_takeSigned_59 (h0 : Nat) (K : Int64 → Mm → Prop) (l1 : Int64) (l3 : Int32) (M : Mm) : Prop := mK M h0 = 12 ∧ (wp_X11_good M h0 (fun r9 M10 => ((¬ r9 = 0 → ((l3 = 0 → mK M10 h0 = 12 ∧ (bk_X11_takeSigned_84 h0 K l1 (mJ M10 710 h0) M10)) ∧ (¬ l3 = 0 → mK M10 h0 = 12 ∧ (bk_X11_takeSigned_84 h0 K l1 (-(mJ M10 710 h0)) M10)))) ∧ (r9 = 0 → (K (0 : Int64) M10)))))
set_option maxRecDepth 100000 in
set_option maxHeartbeats 4000000 in
theorem zb_X11_takeSigned_59 {X : Cx} {h0 : Nat} {K : Int64 → Mm → Prop} (hX : Ok X cX11_takeSigned RX11 rm_X11_takeSigned) (hQ : Rq X rm_X11_takeSigned (some .long) (QJ K)) (hnL : X.2.2.2.2.2.2.2.2.2.2.2.2.2.2 = 6) {l1 : Int64} {l3 : Int32} {M : Mm} (h : bk_X11_takeSigned_59 h0 K l1 l3 M) : Z X M 0 0 59 [(0, va_rf (some h0)), (1, .long l1), (3, .int l3)] [] := by
  unfold bk_X11_takeSigned_59 at h
  refine z_aload_n (r := (some h0)) hX dX11_takeSigned_59 rfl 0 rfl ?_
  obtain ⟨hk11, h⟩ := h
  refine z_callVI (As := []) (rest := []) (ci := 11) hX (ct_X11_good h) mw_RX11_190 rfl (by decide) rfl (by rfl) (by unfold RoomC; decide) (by decide) dX11_takeSigned_60 hk11 (fun r9 M10 h => ?_)
  obtain ⟨h1, h2⟩ := h
  refine z_if_ne (tgt := 68) hX dX11_takeSigned_63 (by decide) (fun hc => ?_) (fun hc => ?_)
  · have h := h1 hc
    refine z_iload_n hX dX11_takeSigned_68 rfl 2 rfl ?_
    obtain ⟨h1, h2⟩ := h
    refine z_if_eq (tgt := 80) hX dX11_takeSigned_69 (by decide) (fun hc => ?_) (fun hc => ?_)
    · have h := h1 hc
      refine z_aload_n (r := (some h0)) hX dX11_takeSigned_80 rfl 0 rfl ?_
      obtain ⟨hk13, h⟩ := h
      refine gf_RX11_140 (r := (some h0)) hX dX11_takeSigned_81 rfl hk13 ?_
      refine z_loc [0, 1] rfl ?_
      exact zb_X11_takeSigned_84 hX hQ hnL h
    · have h := h2 hc
      refine z_aload_n (r := (some h0)) hX dX11_takeSigned_72 rfl 0 rfl ?_
      obtain ⟨hk14, h⟩ := h
      refine gf_RX11_140 (r := (some h0)) hX dX11_takeSigned_73 rfl hk14 ?_
      refine z_lneg hX dX11_takeSigned_76 ?_
      refine z_goto (tgt := 84) hX dX11_takeSigned_77 (by decide) ?_
      refine z_loc [0, 1] rfl ?_
      exact zb_X11_takeSigned_84 hX hQ hnL h
  · have h := h2 hc
    refine z_lconst (v := (0 : Int64)) hX dX11_takeSigned_66 (by decide) ?_
    exact z_lret hX hQ dX11_takeSigned_67 h
def bk_X11_takeSigned_40 (h0 : Nat) (K : Int64 → Mm → Prop) (l1 : Int64) (l3 : Int32) (M : Mm) : Prop := mK M h0 = 12 ∧ (wp_X11_good M h0 (fun r15 M16 => ((r15 = 0 → (bk_X11_takeSigned_59 h0 K l1 l3 M16)) ∧ (¬ r15 = 0 → mK M16 h0 = 12 ∧ (((mI M16 708 h0) = (2 : Int32) → (bk_X11_takeSigned_59 h0 K l1 l3 M16)) ∧ (¬ (mI M16 708 h0) = (2 : Int32) → (wp_X11_misplaced M16 h0 (fun M21 => (bk_X11_takeSigned_59 h0 K l1 l3 M21)))))))))
set_option maxRecDepth 100000 in
set_option maxHeartbeats 4000000 in
theorem zb_X11_takeSigned_40 {X : Cx} {h0 : Nat} {K : Int64 → Mm → Prop} (hX : Ok X cX11_takeSigned RX11 rm_X11_takeSigned) (hQ : Rq X rm_X11_takeSigned (some .long) (QJ K)) (hnL : X.2.2.2.2.2.2.2.2.2.2.2.2.2.2 = 6) {l1 : Int64} {l3 : Int32} {M : Mm} (h : bk_X11_takeSigned_40 h0 K l1 l3 M) : Z X M 0 0 40 [(0, va_rf (some h0)), (1, .long l1), (3, .int l3)] [] := by
  unfold bk_X11_takeSigned_40 at h
  refine z_aload_n (r := (some h0)) hX dX11_takeSigned_40 rfl 0 rfl ?_
  obtain ⟨hk17, h⟩ := h
  refine z_callVI (As := []) (rest := []) (ci := 11) hX (ct_X11_good h) mw_RX11_190 rfl (by decide) rfl (by rfl) (by unfold RoomC; decide) (by decide) dX11_takeSigned_41 hk17 (fun r15 M16 h => ?_)
  obtain ⟨h1, h2⟩ := h
  refine z_if_eq (tgt := 59) hX dX11_takeSigned_44 (by decide) (fun hc => ?_) (fun hc => ?_)
  · have h := h1 hc
    exact zb_X11_takeSigned_59 hX hQ hnL h
  · have h := h2 hc
    refine z_aload_n (r := (some h0)) hX dX11_takeSigned_47 rfl 0 rfl ?_
    obtain ⟨hk19, h⟩ := h
    refine gf_RX11_147 (r := (some h0)) hX dX11_takeSigned_48 rfl hk19 ?_
    refine z_iconst (v := (2 : Int32)) hX dX11_takeSigned_51 (by decide) ?_
    obtain ⟨h1, h2⟩ := h
    refine z_icmp_eq (tgt := 59) hX dX11_takeSigned_52 (by decide) (fun hc => ?_) (fun hc => ?_)
    · have h := h1 hc
      exact zb_X11_takeSigned_59 hX hQ hnL h
    · have h := h2 hc
      refine z_aload_n (r := (some h0)) hX dX11_takeSigned_55 rfl 0 rfl ?_
      refine z_callVV (As := []) (rest := []) (ci := 11) hX (ct_X11_misplaced h) mw_RX11_197 rfl (by decide) rfl (by rfl) (by unfold RoomC; decide) (by decide) dX11_takeSigned_56 hk19 (fun M21 h => ?_)
      exact zb_X11_takeSigned_59 hX hQ hnL h
def bk_X11_takeSigned_31 (h0 : Nat) (K : Int64 → Mm → Prop) (l1 : Int64) (s0 : Int32) (M : Mm) : Prop := ((s0 = 0 → (bk_X11_takeSigned_40 h0 K l1 s0 M)) ∧ (¬ s0 = 0 → mK M h0 = 12 ∧ (wp_X11_next M h0 (fun M24 => (bk_X11_takeSigned_40 h0 K l1 s0 M24)))))
set_option maxRecDepth 100000 in
set_option maxHeartbeats 4000000 in
theorem zb_X11_takeSigned_31 {X : Cx} {h0 : Nat} {K : Int64 → Mm → Prop} (hX : Ok X cX11_takeSigned RX11 rm_X11_takeSigned) (hQ : Rq X rm_X11_takeSigned (some .long) (QJ K)) (hnL : X.2.2.2.2.2.2.2.2.2.2.2.2.2.2 = 6) {l1 : Int64} {s0 : Int32} {M : Mm} (h : bk_X11_takeSigned_31 h0 K l1 s0 M) : Z X M 0 0 31 [(0, va_rf (some h0)), (1, .long l1)] [.int s0] := by
  unfold bk_X11_takeSigned_31 at h
  refine z_istore_n hX [(3, .int s0), (0, va_rf (some h0)), (1, .long l1)] dX11_takeSigned_31 rfl (by rw [hnL]; decide) rfl ?_
  refine z_iload_n hX dX11_takeSigned_32 rfl 0 rfl ?_
  obtain ⟨h1, h2⟩ := h
  refine z_if_eq (tgt := 40) hX dX11_takeSigned_33 (by decide) (fun hc => ?_) (fun hc => ?_)
  · have h := h1 hc
    refine z_loc [1, 2, 0] rfl ?_
    exact zb_X11_takeSigned_40 hX hQ hnL h
  · have h := h2 hc
    refine z_aload_n (r := (some h0)) hX dX11_takeSigned_36 rfl 1 rfl ?_
    obtain ⟨hk25, h⟩ := h
    refine z_callVV (As := []) (rest := []) (ci := 11) hX (ct_X11_next h) mw_RX11_200 rfl (by decide) rfl (by rfl) (by unfold RoomC; decide) (by decide) dX11_takeSigned_37 hk25 (fun M24 h => ?_)
    refine z_loc [1, 2, 0] rfl ?_
    exact zb_X11_takeSigned_40 hX hQ hnL h
def bk_X11_takeSigned_30 (h0 : Nat) (K : Int64 → Mm → Prop) (l1 : Int64) (M : Mm) : Prop := (bk_X11_takeSigned_31 h0 K l1 (0 : Int32) M)
set_option maxRecDepth 100000 in
set_option maxHeartbeats 4000000 in
theorem zb_X11_takeSigned_30 {X : Cx} {h0 : Nat} {K : Int64 → Mm → Prop} (hX : Ok X cX11_takeSigned RX11 rm_X11_takeSigned) (hQ : Rq X rm_X11_takeSigned (some .long) (QJ K)) (hnL : X.2.2.2.2.2.2.2.2.2.2.2.2.2.2 = 6) {l1 : Int64} {M : Mm} (h : bk_X11_takeSigned_30 h0 K l1 M) : Z X M 0 0 30 [(0, va_rf (some h0)), (1, .long l1)] [] := by
  unfold bk_X11_takeSigned_30 at h
  refine z_iconst (v := (0 : Int32)) hX dX11_takeSigned_30 (by decide) ?_
  exact zb_X11_takeSigned_31 hX hQ hnL h
def wp_X11_takeSigned (M : Mm) (h0 : Nat) (p1 : Int64) (K : Int64 → Mm → Prop) : Prop := mK M h0 = 12 ∧ (wp_X11_good M h0 (fun r27 M28 => ((r27 = 0 → (bk_X11_takeSigned_30 h0 K p1 M28)) ∧ (¬ r27 = 0 → mK M28 h0 = 12 ∧ ((¬ (mI M28 708 h0) = (3 : Int32) → (bk_X11_takeSigned_30 h0 K p1 M28)) ∧ ((mI M28 708 h0) = (3 : Int32) → ((¬ (mJ M28 710 h0) = (45 : Int64) → (bk_X11_takeSigned_30 h0 K p1 M28)) ∧ ((mJ M28 710 h0) = (45 : Int64) → (bk_X11_takeSigned_31 h0 K p1 (1 : Int32) M28)))))))))
set_option maxRecDepth 100000 in
set_option maxHeartbeats 4000000 in
theorem ct_X11_takeSigned {M : Mm} {h0 : Nat} {p1 : Int64} {K : Int64 → Mm → Prop} (h : wp_X11_takeSigned M h0 p1 K) : CtJ yX11_takeSigned cX11_takeSigned 6 (some .long) rm_X11_takeSigned [.ref h0, .long p1] M K := by
  refine ct_any (QJ K) (by decide) (by exact Nat.le_of_ble_eq_true rfl) (fun X hX hQ hnL hnm => ?_)
  rw [show lv_args 0 [.ref h0, .long p1] = [(0, va_rf (some h0)), (1, .long p1)] by rfl]
  have hX : Ok X cX11_takeSigned RX11 rm_X11_takeSigned := hX
  unfold wp_X11_takeSigned at h
  refine z_aload_n (r := (some h0)) hX dX11_takeSigned_0 rfl 0 rfl ?_
  obtain ⟨hk29, h⟩ := h
  refine z_callVI (As := []) (rest := []) (ci := 11) hX (ct_X11_good h) mw_RX11_190 rfl (by decide) rfl (by rfl) (by unfold RoomC; decide) (by decide) dX11_takeSigned_1 hk29 (fun r27 M28 h => ?_)
  obtain ⟨h1, h2⟩ := h
  refine z_if_eq (tgt := 30) hX dX11_takeSigned_4 (by decide) (fun hc => ?_) (fun hc => ?_)
  · have h := h1 hc
    exact zb_X11_takeSigned_30 hX hQ hnL h
  · have h := h2 hc
    refine z_aload_n (r := (some h0)) hX dX11_takeSigned_7 rfl 0 rfl ?_
    obtain ⟨hk31, h⟩ := h
    refine gf_RX11_147 (r := (some h0)) hX dX11_takeSigned_8 rfl hk31 ?_
    refine z_iconst (v := (3 : Int32)) hX dX11_takeSigned_11 (by decide) ?_
    obtain ⟨h1, h2⟩ := h
    refine z_icmp_ne (tgt := 30) hX dX11_takeSigned_12 (by decide) (fun hc => ?_) (fun hc => ?_)
    · have h := h1 hc
      exact zb_X11_takeSigned_30 hX hQ hnL h
    · have h := h2 hc
      refine z_aload_n (r := (some h0)) hX dX11_takeSigned_15 rfl 0 rfl ?_
      refine gf_RX11_140 (r := (some h0)) hX dX11_takeSigned_16 rfl hk31 ?_
      refine z_ldc2 (v := (45 : Int64)) hX dX11_takeSigned_19 kj_RX11_255 ?_
      refine z_lcmp hX dX11_takeSigned_22 ?_
      obtain ⟨h1, h2⟩ := h
      refine z_if_ne (tgt := 30) hX dX11_takeSigned_23 (by decide) (fun hc => ?_) (fun hc => ?_)
      · have h := h1 (fun q => hc ((lg_cmp_eq _ _).mpr q))
        exact zb_X11_takeSigned_30 hX hQ hnL h
      · have h := h2 ((lg_cmp_eq _ _).mp hc)
        refine z_iconst (v := (1 : Int32)) hX dX11_takeSigned_26 (by decide) ?_
        refine z_goto (tgt := 31) hX dX11_takeSigned_27 (by decide) ?_
        exact zb_X11_takeSigned_31 hX hQ hnL h
def rm_X11_window : Room := { frames := 7, cells := 0, slots := 0, locals := 185 }
def bk_X11_window_119 (h0 : Nat) (K : Mm → Prop) (l1 : Int32) (M : Mm) : Prop := mK M h0 = 12 ∧ (wp_X11_takeNumber M h0 (1 : Int64) (1000000 : Int64) (fun r2 M3 => ∃ a5, (mR M 721 h0) = some a5 ∧ isA M3 a5 2 ∧ vp_in l1 (aN M3 a5) ∧ (K (tJ M3 a5 (l1).toNatClampNeg r2))))
set_option maxRecDepth 100000 in
set_option maxHeartbeats 4000000 in
theorem zb_X11_window_119 {X : Cx} {h0 : Nat} {K : Mm → Prop} (hX : Ok X cX11_window RX11 rm_X11_window) (hQ : Rq X rm_X11_window none (QV K)) (hnL : X.2.2.2.2.2.2.2.2.2.2.2.2.2.2 = 2) {l1 : Int32} {M : Mm} (h : bk_X11_window_119 h0 K l1 M) : Z X M 0 0 119 [(0, va_rf (some h0)), (1, .int l1)] [] := by
  unfold bk_X11_window_119 at h
  refine z_aload_n (r := (some h0)) hX dX11_window_119 rfl 0 rfl ?_
  obtain ⟨hk1, h⟩ := h
  refine gf_RX11_36 (r := (some h0)) hX dX11_window_120 rfl hk1 ?_
  refine z_iload_n hX dX11_window_123 rfl 1 rfl ?_
  refine z_aload_n (r := (some h0)) hX dX11_window_124 rfl 0 rfl ?_
  refine z_lconst (v := (1 : Int64)) hX dX11_window_125 (by decide) ?_
  refine z_ldc2 (v := (1000000 : Int64)) hX dX11_window_126 kj_RX11_260 ?_
  refine z_callVJ (As := [.long (1 : Int64), .long (1000000 : Int64)]) (rest := [.int l1, va_rf (mR M 721 h0)]) (ci := 11) hX (ct_X11_takeNumber h) mw_RX11_227 rfl (by decide) rfl (by rfl) (by unfold RoomC; decide) (by simp only [List.map_cons, List.map_nil, List.sum_cons, List.sum_nil, cat_rf, cat_i, cat_j]; decide) dX11_window_129 hk1 (fun r2 M3 h => ?_)
  obtain ⟨a5, ha6, h⟩ := h
  obtain ⟨hk7, h⟩ := h
  obtain ⟨hc8, h⟩ := h
  refine y_last (r := (mR M 721 h0)) hX dX11_window_132 ha6 hk7 hc8 ?_
  exact z_vret hX hQ dX11_window_133 h
def bk_X11_window_114 (h0 : Nat) (K : Mm → Prop) (l1 : Int32) (M : Mm) : Prop := mK M h0 = 12 ∧ (wp_X11_fault M h0 (5 : Int32) (fun M10 => (bk_X11_window_119 h0 K l1 M10)))
set_option maxRecDepth 100000 in
set_option maxHeartbeats 4000000 in
theorem zb_X11_window_114 {X : Cx} {h0 : Nat} {K : Mm → Prop} (hX : Ok X cX11_window RX11 rm_X11_window) (hQ : Rq X rm_X11_window none (QV K)) (hnL : X.2.2.2.2.2.2.2.2.2.2.2.2.2.2 = 2) {l1 : Int32} {M : Mm} (h : bk_X11_window_114 h0 K l1 M) : Z X M 0 0 114 [(0, va_rf (some h0)), (1, .int l1)] [] := by
  unfold bk_X11_window_114 at h
  refine z_aload_n (r := (some h0)) hX dX11_window_114 rfl 0 rfl ?_
  refine z_iconst (v := (5 : Int32)) hX dX11_window_115 (by decide) ?_
  obtain ⟨hk11, h⟩ := h
  refine z_callVV (As := [.int (5 : Int32)]) (rest := []) (ci := 11) hX (ct_X11_fault h) mw_RX11_187 rfl (by decide) rfl (by rfl) (by unfold RoomC; decide) (by decide) dX11_window_116 hk11 (fun M10 h => ?_)
  exact zb_X11_window_119 hX hQ hnL h
def wp_X11_window (M : Mm) (h0 : Nat) (p1 : Int32) (K : Mm → Prop) : Prop := mK M h0 = 12 ∧ ((¬ (mI M 731 h0) = (3 : Int32) → (wp_X11_next (sI M 731 h0 ((mI M 731 h0) + (1 : Int32))) h0 (fun M16 => mK M16 h0 = 12 ∧ ∃ a19, (mR M16 715 h0) = some a19 ∧ isA M16 a19 1 ∧ vp_in p1 (aN M16 a19) ∧ (wp_X11_takeInput (tI M16 a19 (p1).toNatClampNeg (5 : Int32)) h0 p1 (fun M24 => mK M24 h0 = 12 ∧ (wp_X11_takeKeyword M24 h0 (12 : Int32) (fun M27 => mK M27 h0 = 12 ∧ (wp_X11_takeNumber M27 h0 (1 : Int64) (1000000 : Int64) (fun r31 M32 => ∃ a34, (mR M27 720 h0) = some a34 ∧ isA M32 a34 2 ∧ vp_in p1 (aN M32 a34) ∧ mK (tJ M32 a34 (p1).toNatClampNeg r31) h0 = 12 ∧ (wp_X11_takeKeyword (tJ M32 a34 (p1).toNatClampNeg r31) h0 (13 : Int32) (fun M39 => mK M39 h0 = 12 ∧ (wp_X11_good M39 h0 (fun r42 M43 => ((r42 = 0 → (bk_X11_window_119 h0 K p1 M43)) ∧ (¬ r42 = 0 → mK M43 h0 = 12 ∧ ((¬ (mI M43 708 h0) = (2 : Int32) → (bk_X11_window_119 h0 K p1 M43)) ∧ ((mI M43 708 h0) = (2 : Int32) → ∃ a47, (mR M43 720 h0) = some a47 ∧ isA M43 a47 2 ∧ vp_in p1 (aN M43 a47) ∧ (((aJ M43 a47 (p1).toNatClampNeg) < (mJ M43 710 h0) → (bk_X11_window_114 h0 K p1 M43)) ∧ (¬ (aJ M43 a47 (p1).toNatClampNeg) < (mJ M43 710 h0) → vp_in p1 (aN M43 a47) ∧ (((aJ M43 a47 (p1).toNatClampNeg) ≤ ((4 : Int64) * (mJ M43 710 h0)) → (bk_X11_window_119 h0 K p1 M43)) ∧ (¬ (aJ M43 a47 (p1).toNatClampNeg) ≤ ((4 : Int64) * (mJ M43 710 h0)) → (bk_X11_window_114 h0 K p1 M43)))))))))))))))))))))) ∧ ((mI M 731 h0) = (3 : Int32) → (wp_X11_fault M h0 (6 : Int32) (fun M53 => (K M53)))))
set_option maxRecDepth 100000 in
set_option maxHeartbeats 4000000 in
theorem ct_X11_window {M : Mm} {h0 : Nat} {p1 : Int32} {K : Mm → Prop} (h : wp_X11_window M h0 p1 K) : CtV yX11_window cX11_window 2 none rm_X11_window [.ref h0, .int p1] M K := by
  refine ct_any (QV K) (by decide) (by exact Nat.le_of_ble_eq_true rfl) (fun X hX hQ hnL hnm => ?_)
  rw [show lv_args 0 [.ref h0, .int p1] = [(0, va_rf (some h0)), (1, .int p1)] by rfl]
  have hX : Ok X cX11_window RX11 rm_X11_window := hX
  unfold wp_X11_window at h
  refine z_aload_n (r := (some h0)) hX dX11_window_0 rfl 0 rfl ?_
  obtain ⟨hk13, h⟩ := h
  refine gf_RX11_257 (r := (some h0)) hX dX11_window_1 rfl hk13 ?_
  refine z_iconst (v := (3 : Int32)) hX dX11_window_4 (by decide) ?_
  obtain ⟨h1, h2⟩ := h
  refine z_icmp_ne (tgt := 15) hX dX11_window_5 (by decide) (fun hc => ?_) (fun hc => ?_)
  · have h := h1 hc
    refine z_aload_n (r := (some h0)) hX dX11_window_15 rfl 0 rfl ?_
    refine z_dup hX dX11_window_16 (cat_rf _) ?_
    refine gf_RX11_257 (r := (some h0)) hX dX11_window_17 rfl hk13 ?_
    refine z_iconst (v := (1 : Int32)) hX dX11_window_20 (by decide) ?_
    refine z_iadd hX dX11_window_21 ?_
    refine pf_RX11_257 (r := (some h0)) (v := ((mI M 731 h0) + (1 : Int32))) hX dX11_window_22 rfl hk13 ?_
    refine z_aload_n (r := (some h0)) hX dX11_window_25 rfl 0 rfl ?_
    refine z_callVV (As := []) (rest := []) (ci := 11) hX (ct_X11_next h) mw_RX11_200 rfl (by decide) rfl (by rfl) (by unfold RoomC; decide) (by decide) dX11_window_26 hk13 (fun M16 h => ?_)
    refine z_aload_n (r := (some h0)) hX dX11_window_29 rfl 0 rfl ?_
    obtain ⟨hk18, h⟩ := h
    refine gf_RX11_15 (r := (some h0)) hX dX11_window_30 rfl hk18 ?_
    refine z_iload_n hX dX11_window_33 rfl 1 rfl ?_
    refine z_iconst (v := (5 : Int32)) hX dX11_window_34 (by decide) ?_
    obtain ⟨a19, ha20, h⟩ := h
    obtain ⟨hk21, h⟩ := h
    obtain ⟨hc22, h⟩ := h
    refine y_iast (r := (mR M16 715 h0)) hX dX11_window_35 ha20 hk21 hc22 ?_
    refine z_aload_n (r := (some h0)) hX dX11_window_36 rfl 0 rfl ?_
    refine z_iload_n hX dX11_window_37 rfl 1 rfl ?_
    refine z_callVV (As := [.int p1]) (rest := []) (ci := 11) hX (ct_X11_takeInput h) mw_RX11_222 rfl (by decide) rfl (by rfl) (by unfold RoomC; decide) (by decide) dX11_window_38 hk18 (fun M24 h => ?_)
    refine z_aload_n (r := (some h0)) hX dX11_window_41 rfl 0 rfl ?_
    refine z_bipush (v := (12 : Int32)) hX dX11_window_42 (by decide) ?_
    obtain ⟨hk28, h⟩ := h
    refine z_callVV (As := [.int (12 : Int32)]) (rest := []) (ci := 11) hX (ct_X11_takeKeyword h) mw_RX11_239 rfl (by decide) rfl (by rfl) (by unfold RoomC; decide) (by decide) dX11_window_44 hk28 (fun M27 h => ?_)
    refine z_aload_n (r := (some h0)) hX dX11_window_47 rfl 0 rfl ?_
    obtain ⟨hk30, h⟩ := h
    refine gf_RX11_33 (r := (some h0)) hX dX11_window_48 rfl hk30 ?_
    refine z_iload_n hX dX11_window_51 rfl 1 rfl ?_
    refine z_aload_n (r := (some h0)) hX dX11_window_52 rfl 0 rfl ?_
    refine z_lconst (v := (1 : Int64)) hX dX11_window_53 (by decide) ?_
    refine z_ldc2 (v := (1000000 : Int64)) hX dX11_window_54 kj_RX11_260 ?_
    refine z_callVJ (As := [.long (1 : Int64), .long (1000000 : Int64)]) (rest := [.int p1, va_rf (mR M27 720 h0)]) (ci := 11) hX (ct_X11_takeNumber h) mw_RX11_227 rfl (by decide) rfl (by rfl) (by unfold RoomC; decide) (by simp only [List.map_cons, List.map_nil, List.sum_cons, List.sum_nil, cat_rf, cat_i, cat_j]; decide) dX11_window_57 hk30 (fun r31 M32 h => ?_)
    obtain ⟨a34, ha35, h⟩ := h
    obtain ⟨hk36, h⟩ := h
    obtain ⟨hc37, h⟩ := h
    refine y_last (r := (mR M27 720 h0)) hX dX11_window_60 ha35 hk36 hc37 ?_
    refine z_aload_n (r := (some h0)) hX dX11_window_61 rfl 0 rfl ?_
    refine z_bipush (v := (13 : Int32)) hX dX11_window_62 (by decide) ?_
    obtain ⟨hk40, h⟩ := h
    refine z_callVV (As := [.int (13 : Int32)]) (rest := []) (ci := 11) hX (ct_X11_takeKeyword h) mw_RX11_239 rfl (by decide) rfl (by rfl) (by unfold RoomC; decide) (by decide) dX11_window_64 hk40 (fun M39 h => ?_)
    refine z_aload_n (r := (some h0)) hX dX11_window_67 rfl 0 rfl ?_
    obtain ⟨hk44, h⟩ := h
    refine z_callVI (As := []) (rest := []) (ci := 11) hX (ct_X11_good h) mw_RX11_190 rfl (by decide) rfl (by rfl) (by unfold RoomC; decide) (by decide) dX11_window_68 hk44 (fun r42 M43 h => ?_)
    obtain ⟨h1, h2⟩ := h
    refine z_if_eq (tgt := 119) hX dX11_window_71 (by decide) (fun hc => ?_) (fun hc => ?_)
    · have h := h1 hc
      exact zb_X11_window_119 hX hQ hnL h
    · have h := h2 hc
      refine z_aload_n (r := (some h0)) hX dX11_window_74 rfl 0 rfl ?_
      obtain ⟨hk46, h⟩ := h
      refine gf_RX11_147 (r := (some h0)) hX dX11_window_75 rfl hk46 ?_
      refine z_iconst (v := (2 : Int32)) hX dX11_window_78 (by decide) ?_
      obtain ⟨h1, h2⟩ := h
      refine z_icmp_ne (tgt := 119) hX dX11_window_79 (by decide) (fun hc => ?_) (fun hc => ?_)
      · have h := h1 hc
        exact zb_X11_window_119 hX hQ hnL h
      · have h := h2 hc
        refine z_aload_n (r := (some h0)) hX dX11_window_82 rfl 0 rfl ?_
        refine gf_RX11_140 (r := (some h0)) hX dX11_window_83 rfl hk46 ?_
        refine z_aload_n (r := (some h0)) hX dX11_window_86 rfl 0 rfl ?_
        refine gf_RX11_33 (r := (some h0)) hX dX11_window_87 rfl hk46 ?_
        refine z_iload_n hX dX11_window_90 rfl 1 rfl ?_
        obtain ⟨a47, ha48, h⟩ := h
        obtain ⟨hk49, h⟩ := h
        obtain ⟨hc50, h⟩ := h
        refine y_lald (r := (mR M43 720 h0)) hX dX11_window_91 ha48 hk49 hc50 ?_
        refine z_lcmp hX dX11_window_92 ?_
        obtain ⟨h1, h2⟩ := h
        refine z_if_gt (tgt := 114) hX dX11_window_93 (by decide) (fun hc => ?_) (fun hc => ?_)
        · have h := h1 ((lg_cmp_gt _ _).mp hc)
          exact zb_X11_window_114 hX hQ hnL h
        · have h := h2 (fun q => hc ((lg_cmp_gt _ _).mpr q))
          refine z_aload_n (r := (some h0)) hX dX11_window_96 rfl 0 rfl ?_
          refine gf_RX11_33 (r := (some h0)) hX dX11_window_97 rfl hk46 ?_
          refine z_iload_n hX dX11_window_100 rfl 1 rfl ?_
          obtain ⟨hc51, h⟩ := h
          refine y_lald (r := (mR M43 720 h0)) hX dX11_window_101 ha48 hk49 hc51 ?_
          refine z_ldc2 (v := (4 : Int64)) hX dX11_window_102 kj_RX11_237 ?_
          refine z_aload_n (r := (some h0)) hX dX11_window_105 rfl 0 rfl ?_
          refine gf_RX11_140 (r := (some h0)) hX dX11_window_106 rfl hk46 ?_
          refine z_lmul hX dX11_window_109 ?_
          refine z_lcmp hX dX11_window_110 ?_
          obtain ⟨h1, h2⟩ := h
          refine z_if_le (tgt := 119) hX dX11_window_111 (by decide) (fun hc => ?_) (fun hc => ?_)
          · have h := h1 ((lg_cmp_le _ _).mp hc)
            exact zb_X11_window_119 hX hQ hnL h
          · have h := h2 (fun q => hc ((lg_cmp_le _ _).mpr q))
            exact zb_X11_window_114 hX hQ hnL h
  · have h := h2 hc
    refine z_aload_n (r := (some h0)) hX dX11_window_8 rfl 0 rfl ?_
    refine z_bipush (v := (6 : Int32)) hX dX11_window_9 (by decide) ?_
    refine z_callVV (As := [.int (6 : Int32)]) (rest := []) (ci := 11) hX (ct_X11_fault h) mw_RX11_187 rfl (by decide) rfl (by rfl) (by unfold RoomC; decide) (by decide) dX11_window_11 hk13 (fun M53 h => ?_)
    exact z_vret hX hQ dX11_window_14 h
def rm_X11_align : Room := { frames := 7, cells := 0, slots := 0, locals := 185 }
def bk_X11_align_94 (h0 : Nat) (K : Mm → Prop) (M : Mm) : Prop := (K M)
set_option maxRecDepth 100000 in
set_option maxHeartbeats 4000000 in
theorem zb_X11_align_94 {X : Cx} {h0 : Nat} {K : Mm → Prop} (hX : Ok X cX11_align RX11 rm_X11_align) (hQ : Rq X rm_X11_align none (QV K)) (hnL : X.2.2.2.2.2.2.2.2.2.2.2.2.2.2 = 4) {M : Mm} (h : bk_X11_align_94 h0 K M) : Z X M 0 0 94 [] [] := by
  unfold bk_X11_align_94 at h
  exact z_vret hX hQ dX11_align_94 h
def bk_X11_align_48 (h0 : Nat) (K : Mm → Prop) (M : Mm) : Prop := mK M h0 = 12 ∧ (wp_X11_takeNumber M h0 (0 : Int64) (3 : Int64) (fun r1 M2 => mK M2 h0 = 12 ∧ (wp_X11_takeNumber M2 h0 (0 : Int64) (9223372036854775807 : Int64) (fun r5 M6 => mK M6 h0 = 12 ∧ (wp_X11_takeSign M6 h0 (59 : Int32) (fun M10 => mK M10 h0 = 12 ∧ (wp_X11_good M10 h0 (fun r13 M14 => ((r13 = 0 → (bk_X11_align_94 h0 K M14)) ∧ (¬ r13 = 0 → mK M14 h0 = 12 ∧ ∃ a18, (mR M14 727 h0) = some a18 ∧ isA M14 a18 3 ∧ vp_in ((r1).toInt32) (aN M14 a18) ∧ ∃ a22, (mR (tI M14 a18 (((r1).toInt32)).toNatClampNeg (1 : Int32)) 728 h0) = some a22 ∧ isA (tI M14 a18 (((r1).toInt32)).toNatClampNeg (1 : Int32)) a22 2 ∧ vp_in ((r1).toInt32) (aN (tI M14 a18 (((r1).toInt32)).toNatClampNeg (1 : Int32)) a22) ∧ (bk_X11_align_94 h0 K (tJ (tI M14 a18 (((r1).toInt32)).toNatClampNeg (1 : Int32)) a22 (((r1).toInt32)).toNatClampNeg r5))))))))))))
set_option maxRecDepth 100000 in
set_option maxHeartbeats 4000000 in
theorem zb_X11_align_48 {X : Cx} {h0 : Nat} {K : Mm → Prop} (hX : Ok X cX11_align RX11 rm_X11_align) (hQ : Rq X rm_X11_align none (QV K)) (hnL : X.2.2.2.2.2.2.2.2.2.2.2.2.2.2 = 4) {M : Mm} (h : bk_X11_align_48 h0 K M) : Z X M 0 0 48 [(0, va_rf (some h0))] [] := by
  unfold bk_X11_align_48 at h
  refine z_aload_n (r := (some h0)) hX dX11_align_48 rfl 0 rfl ?_
  refine z_lconst (v := (0 : Int64)) hX dX11_align_49 (by decide) ?_
  refine z_ldc2 (v := (3 : Int64)) hX dX11_align_50 kj_RX11_244 ?_
  obtain ⟨hk3, h⟩ := h
  refine z_callVJ (As := [.long (0 : Int64), .long (3 : Int64)]) (rest := []) (ci := 11) hX (ct_X11_takeNumber h) mw_RX11_227 rfl (by decide) rfl (by rfl) (by unfold RoomC; decide) (by decide) dX11_align_53 hk3 (fun r1 M2 h => ?_)
  refine z_l2i hX dX11_align_56 ?_
  refine z_istore_n hX [(1, .int ((r1).toInt32)), (0, va_rf (some h0))] dX11_align_57 rfl (by rw [hnL]; decide) rfl ?_
  refine z_aload_n (r := (some h0)) hX dX11_align_58 rfl 1 rfl ?_
  refine z_lconst (v := (0 : Int64)) hX dX11_align_59 (by decide) ?_
  refine z_ldc2 (v := (9223372036854775807 : Int64)) hX dX11_align_60 kj_RX11_225 ?_
  obtain ⟨hk7, h⟩ := h
  refine z_callVJ (As := [.long (0 : Int64), .long (9223372036854775807 : Int64)]) (rest := []) (ci := 11) hX (ct_X11_takeNumber h) mw_RX11_227 rfl (by decide) rfl (by rfl) (by unfold RoomC; decide) (by decide) dX11_align_63 hk7 (fun r5 M6 h => ?_)
  refine z_lstore_n hX [(2, .long r5), (1, .int ((r1).toInt32)), (0, va_rf (some h0))] dX11_align_66 rfl (by rw [hnL]; decide) rfl ?_
  refine z_aload_n (r := (some h0)) hX dX11_align_67 rfl 2 rfl ?_
  refine z_bipush (v := (59 : Int32)) hX dX11_align_68 (by decide) ?_
  obtain ⟨hk11, h⟩ := h
  refine z_callVV (As := [.int (59 : Int32)]) (rest := []) (ci := 11) hX (ct_X11_takeSign h) mw_RX11_213 rfl (by decide) rfl (by rfl) (by unfold RoomC; decide) (by decide) dX11_align_70 hk11 (fun M10 h => ?_)
  refine z_aload_n (r := (some h0)) hX dX11_align_73 rfl 2 rfl ?_
  obtain ⟨hk15, h⟩ := h
  refine z_callVI (As := []) (rest := []) (ci := 11) hX (ct_X11_good h) mw_RX11_190 rfl (by decide) rfl (by rfl) (by unfold RoomC; decide) (by decide) dX11_align_74 hk15 (fun r13 M14 h => ?_)
  obtain ⟨h1, h2⟩ := h
  refine z_if_eq (tgt := 94) hX dX11_align_77 (by decide) (fun hc => ?_) (fun hc => ?_)
  · have h := h1 hc
    refine z_loc [] rfl ?_
    exact zb_X11_align_94 hX hQ hnL h
  · have h := h2 hc
    refine z_aload_n (r := (some h0)) hX dX11_align_80 rfl 2 rfl ?_
    obtain ⟨hk17, h⟩ := h
    refine gf_RX11_54 (r := (some h0)) hX dX11_align_81 rfl hk17 ?_
    refine z_iload_n hX dX11_align_84 rfl 1 rfl ?_
    refine z_iconst (v := (1 : Int32)) hX dX11_align_85 (by decide) ?_
    obtain ⟨a18, ha19, h⟩ := h
    obtain ⟨hk20, h⟩ := h
    obtain ⟨hc21, h⟩ := h
    refine y_zast (r := (mR M14 727 h0)) hX dX11_align_86 ha19 hk20 hc21 (Or.inr rfl)  ?_
    refine z_aload_n (r := (some h0)) hX dX11_align_87 rfl 2 rfl ?_
    refine gf_RX11_57 (r := (some h0)) hX dX11_align_88 rfl hk17 ?_
    refine z_iload_n hX dX11_align_91 rfl 1 rfl ?_
    refine z_lload_n hX dX11_align_92 rfl 0 rfl ?_
    obtain ⟨a22, ha23, h⟩ := h
    obtain ⟨hk24, h⟩ := h
    obtain ⟨hc25, h⟩ := h
    refine y_last (r := (mR (tI M14 a18 (((r1).toInt32)).toNatClampNeg (1 : Int32)) 728 h0)) hX dX11_align_93 ha23 hk24 hc25 ?_
    refine z_loc [] rfl ?_
    exact zb_X11_align_94 hX hQ hnL h
def wp_X11_align (M : Mm) (h0 : Nat) (K : Mm → Prop) : Prop := mK M h0 = 12 ∧ (wp_X11_next M h0 (fun M27 => mK M27 h0 = 12 ∧ (wp_X11_good M27 h0 (fun r30 M31 => ((r30 = 0 → (bk_X11_align_48 h0 K M31)) ∧ (¬ r30 = 0 → mK M31 h0 = 12 ∧ ((¬ (mI M31 708 h0) = (2 : Int32) → (bk_X11_align_48 h0 K M31)) ∧ ((mI M31 708 h0) = (2 : Int32) → (((4 : Int64) ≤ (mJ M31 710 h0) → (bk_X11_align_48 h0 K M31)) ∧ (¬ (4 : Int64) ≤ (mJ M31 710 h0) → ∃ a35, (mR M31 727 h0) = some a35 ∧ isA M31 a35 3 ∧ vp_in (((mJ M31 710 h0)).toInt32) (aN M31 a35) ∧ (((aI M31 a35 ((((mJ M31 710 h0)).toInt32)).toNatClampNeg) = 0 → (bk_X11_align_48 h0 K M31)) ∧ (¬ (aI M31 a35 ((((mJ M31 710 h0)).toInt32)).toNatClampNeg) = 0 → (wp_X11_fault M31 h0 (5 : Int32) (fun M40 => (bk_X11_align_48 h0 K M40)))))))))))))))
set_option maxRecDepth 100000 in
set_option maxHeartbeats 4000000 in
theorem ct_X11_align {M : Mm} {h0 : Nat} {K : Mm → Prop} (h : wp_X11_align M h0 K) : CtV yX11_align cX11_align 4 none rm_X11_align [.ref h0] M K := by
  refine ct_any (QV K) (by decide) (by exact Nat.le_of_ble_eq_true rfl) (fun X hX hQ hnL hnm => ?_)
  rw [show lv_args 0 [.ref h0] = [(0, va_rf (some h0))] by rfl]
  have hX : Ok X cX11_align RX11 rm_X11_align := hX
  unfold wp_X11_align at h
  refine z_aload_n (r := (some h0)) hX dX11_align_0 rfl 0 rfl ?_
  obtain ⟨hk28, h⟩ := h
  refine z_callVV (As := []) (rest := []) (ci := 11) hX (ct_X11_next h) mw_RX11_200 rfl (by decide) rfl (by rfl) (by unfold RoomC; decide) (by decide) dX11_align_1 hk28 (fun M27 h => ?_)
  refine z_aload_n (r := (some h0)) hX dX11_align_4 rfl 0 rfl ?_
  obtain ⟨hk32, h⟩ := h
  refine z_callVI (As := []) (rest := []) (ci := 11) hX (ct_X11_good h) mw_RX11_190 rfl (by decide) rfl (by rfl) (by unfold RoomC; decide) (by decide) dX11_align_5 hk32 (fun r30 M31 h => ?_)
  obtain ⟨h1, h2⟩ := h
  refine z_if_eq (tgt := 48) hX dX11_align_8 (by decide) (fun hc => ?_) (fun hc => ?_)
  · have h := h1 hc
    exact zb_X11_align_48 hX hQ hnL h
  · have h := h2 hc
    refine z_aload_n (r := (some h0)) hX dX11_align_11 rfl 0 rfl ?_
    obtain ⟨hk34, h⟩ := h
    refine gf_RX11_147 (r := (some h0)) hX dX11_align_12 rfl hk34 ?_
    refine z_iconst (v := (2 : Int32)) hX dX11_align_15 (by decide) ?_
    obtain ⟨h1, h2⟩ := h
    refine z_icmp_ne (tgt := 48) hX dX11_align_16 (by decide) (fun hc => ?_) (fun hc => ?_)
    · have h := h1 hc
      exact zb_X11_align_48 hX hQ hnL h
    · have h := h2 hc
      refine z_aload_n (r := (some h0)) hX dX11_align_19 rfl 0 rfl ?_
      refine gf_RX11_140 (r := (some h0)) hX dX11_align_20 rfl hk34 ?_
      refine z_ldc2 (v := (4 : Int64)) hX dX11_align_23 kj_RX11_237 ?_
      refine z_lcmp hX dX11_align_26 ?_
      obtain ⟨h1, h2⟩ := h
      refine z_if_ge (tgt := 48) hX dX11_align_27 (by decide) (fun hc => ?_) (fun hc => ?_)
      · have h := h1 ((lg_cmp_ge _ _).mp hc)
        exact zb_X11_align_48 hX hQ hnL h
      · have h := h2 (fun q => hc ((lg_cmp_ge _ _).mpr q))
        refine z_aload_n (r := (some h0)) hX dX11_align_30 rfl 0 rfl ?_
        refine gf_RX11_54 (r := (some h0)) hX dX11_align_31 rfl hk34 ?_
        refine z_aload_n (r := (some h0)) hX dX11_align_34 rfl 0 rfl ?_
        refine gf_RX11_140 (r := (some h0)) hX dX11_align_35 rfl hk34 ?_
        refine z_l2i hX dX11_align_38 ?_
        obtain ⟨a35, ha36, h⟩ := h
        obtain ⟨hk37, h⟩ := h
        obtain ⟨hc38, h⟩ := h
        refine y_zald (r := (mR M31 727 h0)) hX dX11_align_39 ha36 hk37 hc38 ?_
        obtain ⟨h1, h2⟩ := h
        refine z_if_eq (tgt := 48) hX dX11_align_40 (by decide) (fun hc => ?_) (fun hc => ?_)
        · have h := h1 hc
          exact zb_X11_align_48 hX hQ hnL h
        · have h := h2 hc
          refine z_aload_n (r := (some h0)) hX dX11_align_43 rfl 0 rfl ?_
          refine z_iconst (v := (5 : Int32)) hX dX11_align_44 (by decide) ?_
          refine z_callVV (As := [.int (5 : Int32)]) (rest := []) (ci := 11) hX (ct_X11_fault h) mw_RX11_187 rfl (by decide) rfl (by rfl) (by unfold RoomC; decide) (by decide) dX11_align_45 hk34 (fun M40 h => ?_)
          exact zb_X11_align_48 hX hQ hnL h
def rm_X11_put : Room := { frames := 1, cells := 0, slots := 0, locals := 25 }
def bk_X11_put_223 (h0 : Nat) (R62 : Int32 → Int64 → Int32 → Int32 → Int64 → Int64 → Mm → Prop) (K : Mm → Prop) (l1 : Int32) (l2 : Int64) (l4 : Int32) (l5 : Int32) (l8 : Int64) (l12 : Int64) (M : Mm) : Prop := (R62 l1 l2 l4 l5 l8 (l12 + l8) M)
set_option maxRecDepth 100000 in
set_option maxHeartbeats 4000000 in
theorem zb_X11_put_223 {X : Cx} {h0 : Nat} {R62 : Int32 → Int64 → Int32 → Int32 → Int64 → Int64 → Mm → Prop} {K : Mm → Prop} (hX : Ok X cX11_put RX11 rm_X11_put) (hQ : Rq X rm_X11_put none (QV K)) (hnL : X.2.2.2.2.2.2.2.2.2.2.2.2.2.2 = 15) (hR62 : ∀ l1 l2 l4 l5 l8 l12 M, R62 l1 l2 l4 l5 l8 l12 M → Z X M 0 0 62 [(0, va_rf (some h0)), (1, .int l1), (2, .long l2), (4, .int l4), (5, .int l5), (8, .long l8), (12, .long l12)] []) {l1 : Int32} {l2 : Int64} {l4 : Int32} {l5 : Int32} {l8 : Int64} {l12 : Int64} {M : Mm} (h : bk_X11_put_223 h0 R62 K l1 l2 l4 l5 l8 l12 M) : Z X M 0 0 223 [(0, va_rf (some h0)), (1, .int l1), (2, .long l2), (4, .int l4), (5, .int l5), (8, .long l8), (12, .long l12)] [] := by
  unfold bk_X11_put_223 at h
  refine z_lload hX dX11_put_223 6 rfl ?_
  refine z_lload hX dX11_put_225 5 rfl ?_
  refine z_ladd hX dX11_put_227 ?_
  refine z_lstore hX [(12, .long (l12 + l8)), (0, va_rf (some h0)), (1, .int l1), (2, .long l2), (4, .int l4), (5, .int l5), (8, .long l8)] dX11_put_228 (by rw [hnL]; decide) rfl ?_
  refine z_goto (tgt := 62) hX dX11_put_230 (by decide) ?_
  refine z_loc [1, 2, 3, 4, 5, 6, 0] rfl ?_
  exact hR62 _ _ _ _ _ _ _ h
def bk_X11_put_206 (h0 : Nat) (R62 : Int32 → Int64 → Int32 → Int32 → Int64 → Int64 → Mm → Prop) (K : Mm → Prop) (l1 : Int32) (l2 : Int64) (l4 : Int32) (l5 : Int32) (l8 : Int64) (l12 : Int64) (l14 : Int32) (M : Mm) : Prop := mK M h0 = 12 ∧ ∃ a2, (mR M 747 h0) = some a2 ∧ isA M a2 1 ∧ vp_in (((24 : Int32) * l1) + l14) (aN M a2) ∧ vp_in (((24 : Int32) * l1) + l14) (aN M a2) ∧ (bk_X11_put_223 h0 R62 K l1 l2 l4 l5 l8 l12 (tI M a2 ((((24 : Int32) * l1) + l14)).toNatClampNeg ((aI M a2 ((((24 : Int32) * l1) + l14)).toNatClampNeg) + l5)))
set_option maxRecDepth 100000 in
set_option maxHeartbeats 4000000 in
theorem zb_X11_put_206 {X : Cx} {h0 : Nat} {R62 : Int32 → Int64 → Int32 → Int32 → Int64 → Int64 → Mm → Prop} {K : Mm → Prop} (hX : Ok X cX11_put RX11 rm_X11_put) (hQ : Rq X rm_X11_put none (QV K)) (hnL : X.2.2.2.2.2.2.2.2.2.2.2.2.2.2 = 15) (hR62 : ∀ l1 l2 l4 l5 l8 l12 M, R62 l1 l2 l4 l5 l8 l12 M → Z X M 0 0 62 [(0, va_rf (some h0)), (1, .int l1), (2, .long l2), (4, .int l4), (5, .int l5), (8, .long l8), (12, .long l12)] []) {l1 : Int32} {l2 : Int64} {l4 : Int32} {l5 : Int32} {l8 : Int64} {l12 : Int64} {l14 : Int32} {M : Mm} (h : bk_X11_put_206 h0 R62 K l1 l2 l4 l5 l8 l12 l14 M) : Z X M 0 0 206 [(0, va_rf (some h0)), (1, .int l1), (2, .long l2), (4, .int l4), (5, .int l5), (8, .long l8), (12, .long l12), (14, .int l14)] [] := by
  unfold bk_X11_put_206 at h
  refine z_aload_n (r := (some h0)) hX dX11_put_206 rfl 0 rfl ?_
  obtain ⟨hk1, h⟩ := h
  refine gf_RX11_93 (r := (some h0)) hX dX11_put_207 rfl hk1 ?_
  refine z_bipush (v := (24 : Int32)) hX dX11_put_210 (by decide) ?_
  refine z_iload_n hX dX11_put_212 rfl 1 rfl ?_
  refine z_imul hX dX11_put_213 ?_
  refine z_iload hX dX11_put_214 7 rfl ?_
  refine z_iadd hX dX11_put_216 ?_
  refine z_dup2_11 hX dX11_put_217 rfl (cat_rf _) ?_
  obtain ⟨a2, ha3, h⟩ := h
  obtain ⟨hk4, h⟩ := h
  obtain ⟨hc5, h⟩ := h
  refine y_iald (r := (mR M 747 h0)) hX dX11_put_218 ha3 hk4 hc5 ?_
  refine z_iload hX dX11_put_219 4 rfl ?_
  refine z_iadd hX dX11_put_221 ?_
  obtain ⟨hc6, h⟩ := h
  refine y_iast (r := (mR M 747 h0)) hX dX11_put_222 ha3 hk4 hc6 ?_
  refine z_loc [0, 1, 2, 3, 4, 5, 6] rfl ?_
  exact zb_X11_put_223 hX hQ hnL hR62 h
def bk_X11_put_124 (h0 : Nat) (R62 : Int32 → Int64 → Int32 → Int32 → Int64 → Int64 → Mm → Prop) (K : Mm → Prop) (l1 : Int32) (l2 : Int64) (l4 : Int32) (l5 : Int32) (l8 : Int64) (l12 : Int64) (l14 : Int32) (M : Mm) : Prop := ((¬ l14 = (24 : Int32) → mK M h0 = 12 ∧ ∃ a8, (mR M 744 h0) = some a8 ∧ isA M a8 1 ∧ vp_in l1 (aN M a8) ∧ ((¬ l14 = (aI M a8 (l1).toNatClampNeg) → (bk_X11_put_206 h0 R62 K l1 l2 l4 l5 l8 l12 l14 M)) ∧ (l14 = (aI M a8 (l1).toNatClampNeg) → ∃ a12, (mR M 745 h0) = some a12 ∧ isA M a12 2 ∧ vp_in (((24 : Int32) * l1) + l14) (aN M a12) ∧ ∃ a16, (mR (tJ M a12 ((((24 : Int32) * l1) + l14)).toNatClampNeg l12) 746 h0) = some a16 ∧ isA (tJ M a12 ((((24 : Int32) * l1) + l14)).toNatClampNeg l12) a16 1 ∧ vp_in (((24 : Int32) * l1) + l14) (aN (tJ M a12 ((((24 : Int32) * l1) + l14)).toNatClampNeg l12) a16) ∧ ∃ a20, (mR (tI (tJ M a12 ((((24 : Int32) * l1) + l14)).toNatClampNeg l12) a16 ((((24 : Int32) * l1) + l14)).toNatClampNeg l4) 747 h0) = some a20 ∧ isA (tI (tJ M a12 ((((24 : Int32) * l1) + l14)).toNatClampNeg l12) a16 ((((24 : Int32) * l1) + l14)).toNatClampNeg l4) a20 1 ∧ vp_in (((24 : Int32) * l1) + l14) (aN (tI (tJ M a12 ((((24 : Int32) * l1) + l14)).toNatClampNeg l12) a16 ((((24 : Int32) * l1) + l14)).toNatClampNeg l4) a20) ∧ ∃ a24, (mR (tI (tI (tJ M a12 ((((24 : Int32) * l1) + l14)).toNatClampNeg l12) a16 ((((24 : Int32) * l1) + l14)).toNatClampNeg l4) a20 ((((24 : Int32) * l1) + l14)).toNatClampNeg (0 : Int32)) 744 h0) = some a24 ∧ isA (tI (tI (tJ M a12 ((((24 : Int32) * l1) + l14)).toNatClampNeg l12) a16 ((((24 : Int32) * l1) + l14)).toNatClampNeg l4) a20 ((((24 : Int32) * l1) + l14)).toNatClampNeg (0 : Int32)) a24 1 ∧ vp_in l1 (aN (tI (tI (tJ M a12 ((((24 : Int32) * l1) + l14)).toNatClampNeg l12) a16 ((((24 : Int32) * l1) + l14)).toNatClampNeg l4) a20 ((((24 : Int32) * l1) + l14)).toNatClampNeg (0 : Int32)) a24) ∧ vp_in l1 (aN (tI (tI (tJ M a12 ((((24 : Int32) * l1) + l14)).toNatClampNeg l12) a16 ((((24 : Int32) * l1) + l14)).toNatClampNeg l4) a20 ((((24 : Int32) * l1) + l14)).toNatClampNeg (0 : Int32)) a24) ∧ (bk_X11_put_206 h0 R62 K l1 l2 l4 l5 l8 l12 l14 (tI (tI (tI (tJ M a12 ((((24 : Int32) * l1) + l14)).toNatClampNeg l12) a16 ((((24 : Int32) * l1) + l14)).toNatClampNeg l4) a20 ((((24 : Int32) * l1) + l14)).toNatClampNeg (0 : Int32)) a24 (l1).toNatClampNeg ((aI (tI (tI (tJ M a12 ((((24 : Int32) * l1) + l14)).toNatClampNeg l12) a16 ((((24 : Int32) * l1) + l14)).toNatClampNeg l4) a20 ((((24 : Int32) * l1) + l14)).toNatClampNeg (0 : Int32)) a24 (l1).toNatClampNeg) + (1 : Int32))))))) ∧ (l14 = (24 : Int32) → mK M h0 = 12 ∧ (bk_X11_put_223 h0 R62 K l1 l2 l4 l5 l8 l12 (sI M 743 h0 ((mI M 743 h0) + (1 : Int32))))))
set_option maxRecDepth 100000 in
set_option maxHeartbeats 4000000 in
theorem zb_X11_put_124 {X : Cx} {h0 : Nat} {R62 : Int32 → Int64 → Int32 → Int32 → Int64 → Int64 → Mm → Prop} {K : Mm → Prop} (hX : Ok X cX11_put RX11 rm_X11_put) (hQ : Rq X rm_X11_put none (QV K)) (hnL : X.2.2.2.2.2.2.2.2.2.2.2.2.2.2 = 15) (hR62 : ∀ l1 l2 l4 l5 l8 l12 M, R62 l1 l2 l4 l5 l8 l12 M → Z X M 0 0 62 [(0, va_rf (some h0)), (1, .int l1), (2, .long l2), (4, .int l4), (5, .int l5), (8, .long l8), (12, .long l12)] []) {l1 : Int32} {l2 : Int64} {l4 : Int32} {l5 : Int32} {l8 : Int64} {l12 : Int64} {l14 : Int32} {M : Mm} (h : bk_X11_put_124 h0 R62 K l1 l2 l4 l5 l8 l12 l14 M) : Z X M 0 0 124 [(0, va_rf (some h0)), (1, .int l1), (2, .long l2), (4, .int l4), (5, .int l5), (8, .long l8), (12, .long l12), (14, .int l14)] [] := by
  unfold bk_X11_put_124 at h
  refine z_iload hX dX11_put_124 7 rfl ?_
  refine z_bipush (v := (24 : Int32)) hX dX11_put_126 (by decide) ?_
  obtain ⟨h1, h2⟩ := h
  refine z_icmp_ne (tgt := 144) hX dX11_put_128 (by decide) (fun hc => ?_) (fun hc => ?_)
  · have h := h1 hc
    refine z_iload hX dX11_put_144 7 rfl ?_
    refine z_aload_n (r := (some h0)) hX dX11_put_146 rfl 0 rfl ?_
    obtain ⟨hk7, h⟩ := h
    refine gf_RX11_84 (r := (some h0)) hX dX11_put_147 rfl hk7 ?_
    refine z_iload_n hX dX11_put_150 rfl 1 rfl ?_
    obtain ⟨a8, ha9, h⟩ := h
    obtain ⟨hk10, h⟩ := h
    obtain ⟨hc11, h⟩ := h
    refine y_iald (r := (mR M 744 h0)) hX dX11_put_151 ha9 hk10 hc11 ?_
    obtain ⟨h1, h2⟩ := h
    refine z_icmp_ne (tgt := 206) hX dX11_put_152 (by decide) (fun hc => ?_) (fun hc => ?_)
    · have h := h1 hc
      exact zb_X11_put_206 hX hQ hnL hR62 h
    · have h := h2 hc
      refine z_aload_n (r := (some h0)) hX dX11_put_155 rfl 0 rfl ?_
      refine gf_RX11_87 (r := (some h0)) hX dX11_put_156 rfl hk7 ?_
      refine z_bipush (v := (24 : Int32)) hX dX11_put_159 (by decide) ?_
      refine z_iload_n hX dX11_put_161 rfl 1 rfl ?_
      refine z_imul hX dX11_put_162 ?_
      refine z_iload hX dX11_put_163 7 rfl ?_
      refine z_iadd hX dX11_put_165 ?_
      refine z_lload hX dX11_put_166 6 rfl ?_
      obtain ⟨a12, ha13, h⟩ := h
      obtain ⟨hk14, h⟩ := h
      obtain ⟨hc15, h⟩ := h
      refine y_last (r := (mR M 745 h0)) hX dX11_put_168 ha13 hk14 hc15 ?_
      refine z_aload_n (r := (some h0)) hX dX11_put_169 rfl 0 rfl ?_
      refine gf_RX11_90 (r := (some h0)) hX dX11_put_170 rfl hk7 ?_
      refine z_bipush (v := (24 : Int32)) hX dX11_put_173 (by decide) ?_
      refine z_iload_n hX dX11_put_175 rfl 1 rfl ?_
      refine z_imul hX dX11_put_176 ?_
      refine z_iload hX dX11_put_177 7 rfl ?_
      refine z_iadd hX dX11_put_179 ?_
      refine z_iload hX dX11_put_180 3 rfl ?_
      obtain ⟨a16, ha17, h⟩ := h
      obtain ⟨hk18, h⟩ := h
      obtain ⟨hc19, h⟩ := h
      refine y_iast (r := (mR (tJ M a12 ((((24 : Int32) * l1) + l14)).toNatClampNeg l12) 746 h0)) hX dX11_put_182 ha17 hk18 hc19 ?_
      refine z_aload_n (r := (some h0)) hX dX11_put_183 rfl 0 rfl ?_
      refine gf_RX11_93 (r := (some h0)) hX dX11_put_184 rfl hk7 ?_
      refine z_bipush (v := (24 : Int32)) hX dX11_put_187 (by decide) ?_
      refine z_iload_n hX dX11_put_189 rfl 1 rfl ?_
      refine z_imul hX dX11_put_190 ?_
      refine z_iload hX dX11_put_191 7 rfl ?_
      refine z_iadd hX dX11_put_193 ?_
      refine z_iconst (v := (0 : Int32)) hX dX11_put_194 (by decide) ?_
      obtain ⟨a20, ha21, h⟩ := h
      obtain ⟨hk22, h⟩ := h
      obtain ⟨hc23, h⟩ := h
      refine y_iast (r := (mR (tI (tJ M a12 ((((24 : Int32) * l1) + l14)).toNatClampNeg l12) a16 ((((24 : Int32) * l1) + l14)).toNatClampNeg l4) 747 h0)) hX dX11_put_195 ha21 hk22 hc23 ?_
      refine z_aload_n (r := (some h0)) hX dX11_put_196 rfl 0 rfl ?_
      refine gf_RX11_84 (r := (some h0)) hX dX11_put_197 rfl hk7 ?_
      refine z_iload_n hX dX11_put_200 rfl 1 rfl ?_
      refine z_dup2_11 hX dX11_put_201 rfl (cat_rf _) ?_
      obtain ⟨a24, ha25, h⟩ := h
      obtain ⟨hk26, h⟩ := h
      obtain ⟨hc27, h⟩ := h
      refine y_iald (r := (mR (tI (tI (tJ M a12 ((((24 : Int32) * l1) + l14)).toNatClampNeg l12) a16 ((((24 : Int32) * l1) + l14)).toNatClampNeg l4) a20 ((((24 : Int32) * l1) + l14)).toNatClampNeg (0 : Int32)) 744 h0)) hX dX11_put_202 ha25 hk26 hc27 ?_
      refine z_iconst (v := (1 : Int32)) hX dX11_put_203 (by decide) ?_
      refine z_iadd hX dX11_put_204 ?_
      obtain ⟨hc28, h⟩ := h
      refine y_iast (r := (mR (tI (tI (tJ M a12 ((((24 : Int32) * l1) + l14)).toNatClampNeg l12) a16 ((((24 : Int32) * l1) + l14)).toNatClampNeg l4) a20 ((((24 : Int32) * l1) + l14)).toNatClampNeg (0 : Int32)) 744 h0)) hX dX11_put_205 ha25 hk26 hc28 ?_
      exact zb_X11_put_206 hX hQ hnL hR62 h
  · have h := h2 hc
    refine z_aload_n (r := (some h0)) hX dX11_put_131 rfl 0 rfl ?_
    refine z_dup hX dX11_put_132 (cat_rf _) ?_
    obtain ⟨hk29, h⟩ := h
    refine gf_RX11_289 (r := (some h0)) hX dX11_put_133 rfl hk29 ?_
    refine z_iconst (v := (1 : Int32)) hX dX11_put_136 (by decide) ?_
    refine z_iadd hX dX11_put_137 ?_
    refine pf_RX11_289 (r := (some h0)) (v := ((mI M 743 h0) + (1 : Int32))) hX dX11_put_138 rfl hk29 ?_
    refine z_goto (tgt := 223) hX dX11_put_141 (by decide) ?_
    refine z_loc [0, 1, 2, 3, 4, 5, 6] rfl ?_
    exact zb_X11_put_223 hX hQ hnL hR62 h
def bk_X11_put_118 (h0 : Nat) (R62 : Int32 → Int64 → Int32 → Int32 → Int64 → Int64 → Mm → Prop) (R72 : Int32 → Int64 → Int32 → Int32 → Int64 → Int64 → Int32 → Mm → Prop) (K : Mm → Prop) (l1 : Int32) (l2 : Int64) (l4 : Int32) (l5 : Int32) (l8 : Int64) (l12 : Int64) (l14 : Int32) (M : Mm) : Prop := (R72 l1 l2 l4 l5 l8 l12 (l14 + 1) M)
set_option maxRecDepth 100000 in
set_option maxHeartbeats 4000000 in
theorem zb_X11_put_118 {X : Cx} {h0 : Nat} {R62 : Int32 → Int64 → Int32 → Int32 → Int64 → Int64 → Mm → Prop} {R72 : Int32 → Int64 → Int32 → Int32 → Int64 → Int64 → Int32 → Mm → Prop} {K : Mm → Prop} (hX : Ok X cX11_put RX11 rm_X11_put) (hQ : Rq X rm_X11_put none (QV K)) (hnL : X.2.2.2.2.2.2.2.2.2.2.2.2.2.2 = 15) (hR62 : ∀ l1 l2 l4 l5 l8 l12 M, R62 l1 l2 l4 l5 l8 l12 M → Z X M 0 0 62 [(0, va_rf (some h0)), (1, .int l1), (2, .long l2), (4, .int l4), (5, .int l5), (8, .long l8), (12, .long l12)] []) (hR72 : ∀ l1 l2 l4 l5 l8 l12 l14 M, R72 l1 l2 l4 l5 l8 l12 l14 M → Z X M 0 0 72 [(0, va_rf (some h0)), (1, .int l1), (2, .long l2), (4, .int l4), (5, .int l5), (8, .long l8), (12, .long l12), (14, .int l14)] []) {l1 : Int32} {l2 : Int64} {l4 : Int32} {l5 : Int32} {l8 : Int64} {l12 : Int64} {l14 : Int32} {M : Mm} (h : bk_X11_put_118 h0 R62 R72 K l1 l2 l4 l5 l8 l12 l14 M) : Z X M 0 0 118 [(0, va_rf (some h0)), (1, .int l1), (2, .long l2), (4, .int l4), (5, .int l5), (8, .long l8), (12, .long l12), (14, .int l14)] [] := by
  unfold bk_X11_put_118 at h
  refine z_iinc (v := (l14 + 1)) hX [(14, .int (l14 + 1)), (0, va_rf (some h0)), (1, .int l1), (2, .long l2), (4, .int l4), (5, .int l5), (8, .long l8), (12, .long l12)] dX11_put_118 7 rfl rfl (by rw [hnL]; decide) rfl ?_
  refine z_goto (tgt := 72) hX dX11_put_121 (by decide) ?_
  refine z_loc [1, 2, 3, 4, 5, 6, 7, 0] rfl ?_
  exact hR72 _ _ _ _ _ _ _ _ h
def lp_X11_put_72 (h0 : Nat) (R62 : Int32 → Int64 → Int32 → Int32 → Int64 → Int64 → Mm → Prop) (K : Mm → Prop) : Nat → Int32 → Int64 → Int32 → Int32 → Int64 → Int64 → Int32 → Mm → Prop
  | 0, _, _, _, _, _, _, _, _ => False
  | n + 1, l1, l2, l4, l5, l8, l12, l14, M => mK M h0 = 12 ∧ ∃ a32, (mR M 744 h0) = some a32 ∧ isA M a32 1 ∧ vp_in l1 (aN M a32) ∧ (((aI M a32 (l1).toNatClampNeg) ≤ l14 → (bk_X11_put_124 h0 R62 K l1 l2 l4 l5 l8 l12 l14 M)) ∧ (¬ (aI M a32 (l1).toNatClampNeg) ≤ l14 → ∃ a36, (mR M 745 h0) = some a36 ∧ isA M a36 2 ∧ vp_in (((24 : Int32) * l1) + l14) (aN M a36) ∧ ((¬ (aJ M a36 ((((24 : Int32) * l1) + l14)).toNatClampNeg) = l12 → (bk_X11_put_118 h0 R62 (lp_X11_put_72 h0 R62 K n) K l1 l2 l4 l5 l8 l12 l14 M)) ∧ ((aJ M a36 ((((24 : Int32) * l1) + l14)).toNatClampNeg) = l12 → ∃ a40, (mR M 746 h0) = some a40 ∧ isA M a40 1 ∧ vp_in (((24 : Int32) * l1) + l14) (aN M a40) ∧ (((aI M a40 ((((24 : Int32) * l1) + l14)).toNatClampNeg) = l4 → (bk_X11_put_124 h0 R62 K l1 l2 l4 l5 l8 l12 l14 M)) ∧ (¬ (aI M a40 ((((24 : Int32) * l1) + l14)).toNatClampNeg) = l4 → (bk_X11_put_118 h0 R62 (lp_X11_put_72 h0 R62 K n) K l1 l2 l4 l5 l8 l12 l14 M)))))))
set_option maxRecDepth 100000 in
set_option maxHeartbeats 4000000 in
theorem zl_X11_put_72 {X : Cx} {h0 : Nat} {R62 : Int32 → Int64 → Int32 → Int32 → Int64 → Int64 → Mm → Prop} {K : Mm → Prop} (hX : Ok X cX11_put RX11 rm_X11_put) (hQ : Rq X rm_X11_put none (QV K)) (hnL : X.2.2.2.2.2.2.2.2.2.2.2.2.2.2 = 15) (hR62 : ∀ l1 l2 l4 l5 l8 l12 M, R62 l1 l2 l4 l5 l8 l12 M → Z X M 0 0 62 [(0, va_rf (some h0)), (1, .int l1), (2, .long l2), (4, .int l4), (5, .int l5), (8, .long l8), (12, .long l12)] []) : ∀ (n : Nat) (l1 : Int32) (l2 : Int64) (l4 : Int32) (l5 : Int32) (l8 : Int64) (l12 : Int64) (l14 : Int32) (M : Mm), lp_X11_put_72 h0 R62 K n l1 l2 l4 l5 l8 l12 l14 M → Z X M 0 0 72 [(0, va_rf (some h0)), (1, .int l1), (2, .long l2), (4, .int l4), (5, .int l5), (8, .long l8), (12, .long l12), (14, .int l14)] [] := by
  intro n
  induction n with
  | zero =>
    intro l1 l2 l4 l5 l8 l12 l14 M h
    exact False.elim h
  | succ n hR72 =>
    intro l1 l2 l4 l5 l8 l12 l14 M h
    refine z_iload hX dX11_put_72 7 rfl ?_
    refine z_aload_n (r := (some h0)) hX dX11_put_74 rfl 0 rfl ?_
    obtain ⟨hk31, h⟩ := h
    refine gf_RX11_84 (r := (some h0)) hX dX11_put_75 rfl hk31 ?_
    refine z_iload_n hX dX11_put_78 rfl 1 rfl ?_
    obtain ⟨a32, ha33, h⟩ := h
    obtain ⟨hk34, h⟩ := h
    obtain ⟨hc35, h⟩ := h
    refine y_iald (r := (mR M 744 h0)) hX dX11_put_79 ha33 hk34 hc35 ?_
    obtain ⟨h1, h2⟩ := h
    refine z_icmp_ge (tgt := 124) hX dX11_put_80 (by decide) (fun hc => ?_) (fun hc => ?_)
    · have h := h1 hc
      exact zb_X11_put_124 hX hQ hnL hR62 h
    · have h := h2 hc
      refine z_aload_n (r := (some h0)) hX dX11_put_83 rfl 0 rfl ?_
      refine gf_RX11_87 (r := (some h0)) hX dX11_put_84 rfl hk31 ?_
      refine z_bipush (v := (24 : Int32)) hX dX11_put_87 (by decide) ?_
      refine z_iload_n hX dX11_put_89 rfl 1 rfl ?_
      refine z_imul hX dX11_put_90 ?_
      refine z_iload hX dX11_put_91 7 rfl ?_
      refine z_iadd hX dX11_put_93 ?_
      obtain ⟨a36, ha37, h⟩ := h
      obtain ⟨hk38, h⟩ := h
      obtain ⟨hc39, h⟩ := h
      refine y_lald (r := (mR M 745 h0)) hX dX11_put_94 ha37 hk38 hc39 ?_
      refine z_lload hX dX11_put_95 6 rfl ?_
      refine z_lcmp hX dX11_put_97 ?_
      obtain ⟨h1, h2⟩ := h
      refine z_if_ne (tgt := 118) hX dX11_put_98 (by decide) (fun hc => ?_) (fun hc => ?_)
      · have h := h1 (fun q => hc ((lg_cmp_eq _ _).mpr q))
        exact zb_X11_put_118 hX hQ hnL hR62 hR72 h
      · have h := h2 ((lg_cmp_eq _ _).mp hc)
        refine z_aload_n (r := (some h0)) hX dX11_put_101 rfl 0 rfl ?_
        refine gf_RX11_90 (r := (some h0)) hX dX11_put_102 rfl hk31 ?_
        refine z_bipush (v := (24 : Int32)) hX dX11_put_105 (by decide) ?_
        refine z_iload_n hX dX11_put_107 rfl 1 rfl ?_
        refine z_imul hX dX11_put_108 ?_
        refine z_iload hX dX11_put_109 7 rfl ?_
        refine z_iadd hX dX11_put_111 ?_
        obtain ⟨a40, ha41, h⟩ := h
        obtain ⟨hk42, h⟩ := h
        obtain ⟨hc43, h⟩ := h
        refine y_iald (r := (mR M 746 h0)) hX dX11_put_112 ha41 hk42 hc43 ?_
        refine z_iload hX dX11_put_113 3 rfl ?_
        obtain ⟨h1, h2⟩ := h
        refine z_icmp_eq (tgt := 124) hX dX11_put_115 (by decide) (fun hc => ?_) (fun hc => ?_)
        · have h := h1 hc
          exact zb_X11_put_124 hX hQ hnL hR62 h
        · have h := h2 hc
          exact zb_X11_put_118 hX hQ hnL hR62 hR72 h
def lp_X11_put_62 (h0 : Nat) (K : Mm → Prop) : Nat → Int32 → Int64 → Int32 → Int32 → Int64 → Int64 → Mm → Prop
  | 0, _, _, _, _, _, _, _ => False
  | n + 1, l1, l2, l4, l5, l8, l12, M => ((l2 < l12 → (K M)) ∧ (¬ l2 < l12 → (∃ kk, lp_X11_put_72 h0 (lp_X11_put_62 h0 K n) K kk l1 l2 l4 l5 l8 l12 (0 : Int32) M)))
set_option maxRecDepth 100000 in
set_option maxHeartbeats 4000000 in
theorem zl_X11_put_62 {X : Cx} {h0 : Nat} {K : Mm → Prop} (hX : Ok X cX11_put RX11 rm_X11_put) (hQ : Rq X rm_X11_put none (QV K)) (hnL : X.2.2.2.2.2.2.2.2.2.2.2.2.2.2 = 15) : ∀ (n : Nat) (l1 : Int32) (l2 : Int64) (l4 : Int32) (l5 : Int32) (l8 : Int64) (l12 : Int64) (M : Mm), lp_X11_put_62 h0 K n l1 l2 l4 l5 l8 l12 M → Z X M 0 0 62 [(0, va_rf (some h0)), (1, .int l1), (2, .long l2), (4, .int l4), (5, .int l5), (8, .long l8), (12, .long l12)] [] := by
  intro n
  induction n with
  | zero =>
    intro l1 l2 l4 l5 l8 l12 M h
    exact False.elim h
  | succ n hR62 =>
    intro l1 l2 l4 l5 l8 l12 M h
    refine z_lload hX dX11_put_62 6 rfl ?_
    refine z_lload_n hX dX11_put_64 rfl 2 rfl ?_
    refine z_lcmp hX dX11_put_65 ?_
    obtain ⟨h1, h2⟩ := h
    refine z_if_gt (tgt := 233) hX dX11_put_66 (by decide) (fun hc => ?_) (fun hc => ?_)
    · have h := h1 ((lg_cmp_gt _ _).mp hc)
      exact z_vret hX hQ dX11_put_233 h
    · have h := h2 (fun q => hc ((lg_cmp_gt _ _).mpr q))
      refine z_iconst (v := (0 : Int32)) hX dX11_put_69 (by decide) ?_
      refine z_istore hX [(14, .int (0 : Int32)), (0, va_rf (some h0)), (1, .int l1), (2, .long l2), (4, .int l4), (5, .int l5), (8, .long l8), (12, .long l12)] dX11_put_70 (by rw [hnL]; decide) rfl ?_
      refine z_loc [1, 2, 3, 4, 5, 6, 7, 0] rfl ?_
      obtain ⟨n, h⟩ := h
      exact zl_X11_put_72 hX hQ hnL hR62 n _ _ _ _ _ _ _ _ h
def lp_X11_put_33 (h0 : Nat) (K : Mm → Prop) : Nat → Int32 → Int64 → Int32 → Int32 → Int64 → Int64 → Int64 → Mm → Prop
  | 0, _, _, _, _, _, _, _, _ => False
  | n + 1, l1, l2, l4, l5, l6, l8, l10, M => (((((l10 - l8) + l6) - (1 : Int64)) < l2 → (∃ kk, lp_X11_put_62 h0 K kk l1 l2 l4 l5 l8 l10 M)) ∧ (¬ (((l10 - l8) + l6) - (1 : Int64)) < l2 → ((lp_X11_put_33 h0 K n) l1 l2 l4 l5 l6 l8 (l10 - l8) M)))
set_option maxRecDepth 100000 in
set_option maxHeartbeats 4000000 in
theorem zl_X11_put_33 {X : Cx} {h0 : Nat} {K : Mm → Prop} (hX : Ok X cX11_put RX11 rm_X11_put) (hQ : Rq X rm_X11_put none (QV K)) (hnL : X.2.2.2.2.2.2.2.2.2.2.2.2.2.2 = 15) : ∀ (n : Nat) (l1 : Int32) (l2 : Int64) (l4 : Int32) (l5 : Int32) (l6 : Int64) (l8 : Int64) (l10 : Int64) (M : Mm), lp_X11_put_33 h0 K n l1 l2 l4 l5 l6 l8 l10 M → Z X M 0 0 33 [(0, va_rf (some h0)), (1, .int l1), (2, .long l2), (4, .int l4), (5, .int l5), (6, .long l6), (8, .long l8), (10, .long l10)] [] := by
  intro n
  induction n with
  | zero =>
    intro l1 l2 l4 l5 l6 l8 l10 M h
    exact False.elim h
  | succ n hR33 =>
    intro l1 l2 l4 l5 l6 l8 l10 M h
    refine z_lload hX dX11_put_33 7 rfl ?_
    refine z_lload hX dX11_put_35 6 rfl ?_
    refine z_lsub hX dX11_put_37 ?_
    refine z_lload hX dX11_put_38 5 rfl ?_
    refine z_ladd hX dX11_put_40 ?_
    refine z_lconst (v := (1 : Int64)) hX dX11_put_41 (by decide) ?_
    refine z_lsub hX dX11_put_42 ?_
    refine z_lload_n hX dX11_put_43 rfl 2 rfl ?_
    refine z_lcmp hX dX11_put_44 ?_
    obtain ⟨h1, h2⟩ := h
    refine z_if_lt (tgt := 58) hX dX11_put_45 (by decide) (fun hc => ?_) (fun hc => ?_)
    · have h := h1 ((lg_cmp_lt _ _).mp hc)
      refine z_lload hX dX11_put_58 7 rfl ?_
      refine z_lstore hX [(12, .long l10), (0, va_rf (some h0)), (1, .int l1), (2, .long l2), (4, .int l4), (5, .int l5), (6, .long l6), (8, .long l8), (10, .long l10)] dX11_put_60 (by rw [hnL]; decide) rfl ?_
      refine z_loc [1, 2, 3, 4, 5, 7, 0] rfl ?_
      obtain ⟨n, h⟩ := h
      exact zl_X11_put_62 hX hQ hnL n _ _ _ _ _ _ _ h
    · have h := h2 (fun q => hc ((lg_cmp_lt _ _).mpr q))
      refine z_lload hX dX11_put_48 7 rfl ?_
      refine z_lload hX dX11_put_50 6 rfl ?_
      refine z_lsub hX dX11_put_52 ?_
      refine z_lstore hX [(10, .long (l10 - l8)), (0, va_rf (some h0)), (1, .int l1), (2, .long l2), (4, .int l4), (5, .int l5), (6, .long l6), (8, .long l8)] dX11_put_53 (by rw [hnL]; decide) rfl ?_
      refine z_goto (tgt := 33) hX dX11_put_55 (by decide) ?_
      refine z_loc [1, 2, 3, 4, 5, 6, 7, 0] rfl ?_
      exact hR33 _ _ _ _ _ _ _ _ h
def wp_X11_put (M : Mm) (h0 : Nat) (p1 : Int32) (p2 : Int64) (p3 : Int32) (p4 : Int32) (K : Mm → Prop) : Prop := mK M h0 = 12 ∧ ∃ a45, (mR M 720 h0) = some a45 ∧ isA M a45 2 ∧ vp_in ((12 : Int32) + p1) (aN M a45) ∧ ∃ a49, (mR M 721 h0) = some a49 ∧ isA M a49 2 ∧ vp_in ((12 : Int32) + p1) (aN M a49) ∧ (wp_J9_floorDiv_f86c9 M p2 (aJ M a49 (((12 : Int32) + p1)).toNatClampNeg) (fun r53 M54 => (∃ kk, lp_X11_put_33 h0 K kk p1 p2 p3 p4 (aJ M a45 (((12 : Int32) + p1)).toNatClampNeg) (aJ M a49 (((12 : Int32) + p1)).toNatClampNeg) (r53 * (aJ M a49 (((12 : Int32) + p1)).toNatClampNeg)) M54)))
set_option maxRecDepth 100000 in
set_option maxHeartbeats 4000000 in
theorem ct_X11_put {M : Mm} {h0 : Nat} {p1 : Int32} {p2 : Int64} {p3 : Int32} {p4 : Int32} {K : Mm → Prop} (h : wp_X11_put M h0 p1 p2 p3 p4 K) : CtV yX11_put cX11_put 15 none rm_X11_put [.ref h0, .int p1, .long p2, .int p3, .int p4] M K := by
  refine ct_any (QV K) (by decide) (by exact Nat.le_of_ble_eq_true rfl) (fun X hX hQ hnL hnm => ?_)
  rw [show lv_args 0 [.ref h0, .int p1, .long p2, .int p3, .int p4] = [(0, va_rf (some h0)), (1, .int p1), (2, .long p2), (4, .int p3), (5, .int p4)] by rfl]
  have hX : Ok X cX11_put RX11 rm_X11_put := hX
  unfold wp_X11_put at h
  refine z_aload_n (r := (some h0)) hX dX11_put_0 rfl 0 rfl ?_
  obtain ⟨hk44, h⟩ := h
  refine gf_RX11_33 (r := (some h0)) hX dX11_put_1 rfl hk44 ?_
  refine z_bipush (v := (12 : Int32)) hX dX11_put_4 (by decide) ?_
  refine z_iload_n hX dX11_put_6 rfl 1 rfl ?_
  refine z_iadd hX dX11_put_7 ?_
  obtain ⟨a45, ha46, h⟩ := h
  obtain ⟨hk47, h⟩ := h
  obtain ⟨hc48, h⟩ := h
  refine y_lald (r := (mR M 720 h0)) hX dX11_put_8 ha46 hk47 hc48 ?_
  refine z_lstore hX [(6, .long (aJ M a45 (((12 : Int32) + p1)).toNatClampNeg)), (0, va_rf (some h0)), (1, .int p1), (2, .long p2), (4, .int p3), (5, .int p4)] dX11_put_9 (by rw [hnL]; decide) rfl ?_
  refine z_aload_n (r := (some h0)) hX dX11_put_11 rfl 1 rfl ?_
  refine gf_RX11_36 (r := (some h0)) hX dX11_put_12 rfl hk44 ?_
  refine z_bipush (v := (12 : Int32)) hX dX11_put_15 (by decide) ?_
  refine z_iload_n hX dX11_put_17 rfl 2 rfl ?_
  refine z_iadd hX dX11_put_18 ?_
  obtain ⟨a49, ha50, h⟩ := h
  obtain ⟨hk51, h⟩ := h
  obtain ⟨hc52, h⟩ := h
  refine y_lald (r := (mR M 721 h0)) hX dX11_put_19 ha50 hk51 hc52 ?_
  refine z_lstore hX [(8, .long (aJ M a49 (((12 : Int32) + p1)).toNatClampNeg)), (6, .long (aJ M a45 (((12 : Int32) + p1)).toNatClampNeg)), (0, va_rf (some h0)), (1, .int p1), (2, .long p2), (4, .int p3), (5, .int p4)] dX11_put_20 (by rw [hnL]; decide) rfl ?_
  refine z_lload_n hX dX11_put_22 rfl 4 rfl ?_
  refine z_lload hX dX11_put_23 0 rfl ?_
  refine z_callSJ (As := [.long p2, .long (aJ M a49 (((12 : Int32) + p1)).toNatClampNeg)]) (rest := []) hX (ct_J9_floorDiv_f86c9 h) mw_RX11_331 rfl (by rfl) (by unfold RoomC; decide) (by decide) dX11_put_25 (fun r53 M54 h => ?_)
  refine z_lload hX dX11_put_28 0 rfl ?_
  refine z_lmul hX dX11_put_30 ?_
  refine z_lstore hX [(10, .long (r53 * (aJ M a49 (((12 : Int32) + p1)).toNatClampNeg))), (8, .long (aJ M a49 (((12 : Int32) + p1)).toNatClampNeg)), (6, .long (aJ M a45 (((12 : Int32) + p1)).toNatClampNeg)), (0, va_rf (some h0)), (1, .int p1), (2, .long p2), (4, .int p3), (5, .int p4)] dX11_put_31 (by rw [hnL]; decide) rfl ?_
  refine z_loc [3, 4, 5, 6, 7, 2, 1, 0] rfl ?_
  obtain ⟨n, h⟩ := h
  exact zl_X11_put_33 hX hQ hnL n _ _ _ _ _ _ _ _ h
def rm_X11_pass (d : Nat) : Room := { frames := 10 * d + 7, cells := 0, slots := 0, locals := 400 * d + 159 }
def rm_X11_meet (d : Nat) : Room := { frames := 10 * d + 7 + 3, cells := 0, slots := 0, locals := 400 * d + 159 + 150 }
def bk_X11_meet_215 (P : Mm → Nat → Int32 → Int64 → Int32 → Int32 → (Mm → Prop) → Prop) (h0 : Nat) (K : Mm → Prop) (l3 : Int64) (l5 : Int32) (l6 : Int32) (l8 : Int32) (M : Mm) : Prop := mK M h0 = 12 ∧ ∃ a2, (mR M 748 h0) = some a2 ∧ isA M a2 1 ∧ vp_in l8 (aN M a2) ∧ ∃ a6, (mR M 749 h0) = some a6 ∧ isA M a6 2 ∧ vp_in (((6 : Int32) * l8) + (aI M a2 (l8).toNatClampNeg)) (aN M a6) ∧ ∃ a10, (mR (tJ M a6 ((((6 : Int32) * l8) + (aI M a2 (l8).toNatClampNeg))).toNatClampNeg l3) 750 h0) = some a10 ∧ isA (tJ M a6 ((((6 : Int32) * l8) + (aI M a2 (l8).toNatClampNeg))).toNatClampNeg l3) a10 1 ∧ vp_in (((6 : Int32) * l8) + (aI M a2 (l8).toNatClampNeg)) (aN (tJ M a6 ((((6 : Int32) * l8) + (aI M a2 (l8).toNatClampNeg))).toNatClampNeg l3) a10) ∧ ∃ a14, (mR (tI (tJ M a6 ((((6 : Int32) * l8) + (aI M a2 (l8).toNatClampNeg))).toNatClampNeg l3) a10 ((((6 : Int32) * l8) + (aI M a2 (l8).toNatClampNeg))).toNatClampNeg l5) 751 h0) = some a14 ∧ isA (tI (tJ M a6 ((((6 : Int32) * l8) + (aI M a2 (l8).toNatClampNeg))).toNatClampNeg l3) a10 ((((6 : Int32) * l8) + (aI M a2 (l8).toNatClampNeg))).toNatClampNeg l5) a14 1 ∧ vp_in (((6 : Int32) * l8) + (aI M a2 (l8).toNatClampNeg)) (aN (tI (tJ M a6 ((((6 : Int32) * l8) + (aI M a2 (l8).toNatClampNeg))).toNatClampNeg l3) a10 ((((6 : Int32) * l8) + (aI M a2 (l8).toNatClampNeg))).toNatClampNeg l5) a14) ∧ ∃ a18, (mR (tI (tI (tJ M a6 ((((6 : Int32) * l8) + (aI M a2 (l8).toNatClampNeg))).toNatClampNeg l3) a10 ((((6 : Int32) * l8) + (aI M a2 (l8).toNatClampNeg))).toNatClampNeg l5) a14 ((((6 : Int32) * l8) + (aI M a2 (l8).toNatClampNeg))).toNatClampNeg l6) 748 h0) = some a18 ∧ isA (tI (tI (tJ M a6 ((((6 : Int32) * l8) + (aI M a2 (l8).toNatClampNeg))).toNatClampNeg l3) a10 ((((6 : Int32) * l8) + (aI M a2 (l8).toNatClampNeg))).toNatClampNeg l5) a14 ((((6 : Int32) * l8) + (aI M a2 (l8).toNatClampNeg))).toNatClampNeg l6) a18 1 ∧ vp_in l8 (aN (tI (tI (tJ M a6 ((((6 : Int32) * l8) + (aI M a2 (l8).toNatClampNeg))).toNatClampNeg l3) a10 ((((6 : Int32) * l8) + (aI M a2 (l8).toNatClampNeg))).toNatClampNeg l5) a14 ((((6 : Int32) * l8) + (aI M a2 (l8).toNatClampNeg))).toNatClampNeg l6) a18) ∧ vp_in l8 (aN (tI (tI (tJ M a6 ((((6 : Int32) * l8) + (aI M a2 (l8).toNatClampNeg))).toNatClampNeg l3) a10 ((((6 : Int32) * l8) + (aI M a2 (l8).toNatClampNeg))).toNatClampNeg l5) a14 ((((6 : Int32) * l8) + (aI M a2 (l8).toNatClampNeg))).toNatClampNeg l6) a18) ∧ (K (tI (tI (tI (tJ M a6 ((((6 : Int32) * l8) + (aI M a2 (l8).toNatClampNeg))).toNatClampNeg l3) a10 ((((6 : Int32) * l8) + (aI M a2 (l8).toNatClampNeg))).toNatClampNeg l5) a14 ((((6 : Int32) * l8) + (aI M a2 (l8).toNatClampNeg))).toNatClampNeg l6) a18 (l8).toNatClampNeg ((aI (tI (tI (tJ M a6 ((((6 : Int32) * l8) + (aI M a2 (l8).toNatClampNeg))).toNatClampNeg l3) a10 ((((6 : Int32) * l8) + (aI M a2 (l8).toNatClampNeg))).toNatClampNeg l5) a14 ((((6 : Int32) * l8) + (aI M a2 (l8).toNatClampNeg))).toNatClampNeg l6) a18 (l8).toNatClampNeg) + (1 : Int32))))
set_option maxRecDepth 100000 in
set_option maxHeartbeats 4000000 in
theorem zb_X11_meet_215 {X : Cx} {d : Nat} {P : Mm → Nat → Int32 → Int64 → Int32 → Int32 → (Mm → Prop) → Prop} {h0 : Nat} {K : Mm → Prop} (hP : ∀ {M : Mm} {h0 : Nat} {x1 : Int32} {x2 : Int64} {x3 : Int32} {x4 : Int32} {K : Mm → Prop}, P M h0 x1 x2 x3 x4 K → CtV yX11_pass cX11_pass 9 none (rm_X11_pass d) [.ref h0, .int x1, .long x2, .int x3, .int x4] M K) (hX : Ok X cX11_meet RX11 (rm_X11_meet d)) (hQ : Rq X (rm_X11_meet d) none (QV K)) (hnL : X.2.2.2.2.2.2.2.2.2.2.2.2.2.2 = 16) {l3 : Int64} {l5 : Int32} {l6 : Int32} {l8 : Int32} {M : Mm} (h : bk_X11_meet_215 P h0 K l3 l5 l6 l8 M) : Z X M 0 0 215 [(0, va_rf (some h0)), (3, .long l3), (5, .int l5), (6, .int l6), (8, .int l8)] [] := by
  unfold bk_X11_meet_215 at h
  refine z_bipush (v := (6 : Int32)) hX dX11_meet_215 (by decide) ?_
  refine z_iload hX dX11_meet_217 4 rfl ?_
  refine z_imul hX dX11_meet_219 ?_
  refine z_aload_n (r := (some h0)) hX dX11_meet_220 rfl 0 rfl ?_
  obtain ⟨hk1, h⟩ := h
  refine gf_RX11_96 (r := (some h0)) hX dX11_meet_221 rfl hk1 ?_
  refine z_iload hX dX11_meet_224 4 rfl ?_
  obtain ⟨a2, ha3, h⟩ := h
  obtain ⟨hk4, h⟩ := h
  obtain ⟨hc5, h⟩ := h
  refine y_iald (r := (mR M 748 h0)) hX dX11_meet_226 ha3 hk4 hc5 ?_
  refine z_iadd hX dX11_meet_227 ?_
  refine z_istore hX [(9, .int (((6 : Int32) * l8) + (aI M a2 (l8).toNatClampNeg))), (0, va_rf (some h0)), (3, .long l3), (5, .int l5), (6, .int l6), (8, .int l8)] dX11_meet_228 (by rw [hnL]; decide) rfl ?_
  refine z_aload_n (r := (some h0)) hX dX11_meet_230 rfl 1 rfl ?_
  refine gf_RX11_99 (r := (some h0)) hX dX11_meet_231 rfl hk1 ?_
  refine z_iload hX dX11_meet_234 0 rfl ?_
  refine z_lload_n hX dX11_meet_236 rfl 2 rfl ?_
  obtain ⟨a6, ha7, h⟩ := h
  obtain ⟨hk8, h⟩ := h
  obtain ⟨hc9, h⟩ := h
  refine y_last (r := (mR M 749 h0)) hX dX11_meet_237 ha7 hk8 hc9 ?_
  refine z_aload_n (r := (some h0)) hX dX11_meet_238 rfl 1 rfl ?_
  refine gf_RX11_102 (r := (some h0)) hX dX11_meet_239 rfl hk1 ?_
  refine z_iload hX dX11_meet_242 0 rfl ?_
  refine z_iload hX dX11_meet_244 3 rfl ?_
  obtain ⟨a10, ha11, h⟩ := h
  obtain ⟨hk12, h⟩ := h
  obtain ⟨hc13, h⟩ := h
  refine y_iast (r := (mR (tJ M a6 ((((6 : Int32) * l8) + (aI M a2 (l8).toNatClampNeg))).toNatClampNeg l3) 750 h0)) hX dX11_meet_246 ha11 hk12 hc13 ?_
  refine z_aload_n (r := (some h0)) hX dX11_meet_247 rfl 1 rfl ?_
  refine gf_RX11_105 (r := (some h0)) hX dX11_meet_248 rfl hk1 ?_
  refine z_iload hX dX11_meet_251 0 rfl ?_
  refine z_iload hX dX11_meet_253 4 rfl ?_
  obtain ⟨a14, ha15, h⟩ := h
  obtain ⟨hk16, h⟩ := h
  obtain ⟨hc17, h⟩ := h
  refine y_iast (r := (mR (tI (tJ M a6 ((((6 : Int32) * l8) + (aI M a2 (l8).toNatClampNeg))).toNatClampNeg l3) a10 ((((6 : Int32) * l8) + (aI M a2 (l8).toNatClampNeg))).toNatClampNeg l5) 751 h0)) hX dX11_meet_255 ha15 hk16 hc17 ?_
  refine z_aload_n (r := (some h0)) hX dX11_meet_256 rfl 1 rfl ?_
  refine gf_RX11_96 (r := (some h0)) hX dX11_meet_257 rfl hk1 ?_
  refine z_iload hX dX11_meet_260 5 rfl ?_
  refine z_dup2_11 hX dX11_meet_262 rfl (cat_rf _) ?_
  obtain ⟨a18, ha19, h⟩ := h
  obtain ⟨hk20, h⟩ := h
  obtain ⟨hc21, h⟩ := h
  refine y_iald (r := (mR (tI (tI (tJ M a6 ((((6 : Int32) * l8) + (aI M a2 (l8).toNatClampNeg))).toNatClampNeg l3) a10 ((((6 : Int32) * l8) + (aI M a2 (l8).toNatClampNeg))).toNatClampNeg l5) a14 ((((6 : Int32) * l8) + (aI M a2 (l8).toNatClampNeg))).toNatClampNeg l6) 748 h0)) hX dX11_meet_263 ha19 hk20 hc21 ?_
  refine z_iconst (v := (1 : Int32)) hX dX11_meet_264 (by decide) ?_
  refine z_iadd hX dX11_meet_265 ?_
  obtain ⟨hc22, h⟩ := h
  refine y_iast (r := (mR (tI (tI (tJ M a6 ((((6 : Int32) * l8) + (aI M a2 (l8).toNatClampNeg))).toNatClampNeg l3) a10 ((((6 : Int32) * l8) + (aI M a2 (l8).toNatClampNeg))).toNatClampNeg l5) a14 ((((6 : Int32) * l8) + (aI M a2 (l8).toNatClampNeg))).toNatClampNeg l6) 748 h0)) hX dX11_meet_266 ha19 hk20 hc22 ?_
  exact z_vret hX hQ dX11_meet_267 h
def bk_X11_meet_162 (P : Mm → Nat → Int32 → Int64 → Int32 → Int32 → (Mm → Prop) → Prop) (h0 : Nat) (R12 : Int32 → Int32 → Int64 → Int32 → Int32 → Int32 → Int32 → Mm → Prop) (K : Mm → Prop) (l1 : Int32) (l2 : Int32) (l3 : Int64) (l5 : Int32) (l6 : Int32) (l7 : Int32) (l8 : Int32) (M : Mm) : Prop := (R12 l1 l2 l3 l5 l6 l7 (l8 + 1) M)
set_option maxRecDepth 100000 in
set_option maxHeartbeats 4000000 in
theorem zb_X11_meet_162 {X : Cx} {d : Nat} {P : Mm → Nat → Int32 → Int64 → Int32 → Int32 → (Mm → Prop) → Prop} {h0 : Nat} {R12 : Int32 → Int32 → Int64 → Int32 → Int32 → Int32 → Int32 → Mm → Prop} {K : Mm → Prop} (hP : ∀ {M : Mm} {h0 : Nat} {x1 : Int32} {x2 : Int64} {x3 : Int32} {x4 : Int32} {K : Mm → Prop}, P M h0 x1 x2 x3 x4 K → CtV yX11_pass cX11_pass 9 none (rm_X11_pass d) [.ref h0, .int x1, .long x2, .int x3, .int x4] M K) (hX : Ok X cX11_meet RX11 (rm_X11_meet d)) (hQ : Rq X (rm_X11_meet d) none (QV K)) (hnL : X.2.2.2.2.2.2.2.2.2.2.2.2.2.2 = 16) (hR12 : ∀ l1 l2 l3 l5 l6 l7 l8 M, R12 l1 l2 l3 l5 l6 l7 l8 M → Z X M 0 0 12 [(0, va_rf (some h0)), (1, .int l1), (2, .int l2), (3, .long l3), (5, .int l5), (6, .int l6), (7, .int l7), (8, .int l8)] []) {l1 : Int32} {l2 : Int32} {l3 : Int64} {l5 : Int32} {l6 : Int32} {l7 : Int32} {l8 : Int32} {M : Mm} (h : bk_X11_meet_162 P h0 R12 K l1 l2 l3 l5 l6 l7 l8 M) : Z X M 0 0 162 [(0, va_rf (some h0)), (1, .int l1), (2, .int l2), (3, .long l3), (5, .int l5), (6, .int l6), (7, .int l7), (8, .int l8)] [] := by
  unfold bk_X11_meet_162 at h
  refine z_iinc (v := (l8 + 1)) hX [(8, .int (l8 + 1)), (0, va_rf (some h0)), (1, .int l1), (2, .int l2), (3, .long l3), (5, .int l5), (6, .int l6), (7, .int l7)] dX11_meet_162 7 rfl rfl (by rw [hnL]; decide) rfl ?_
  refine z_goto (tgt := 12) hX dX11_meet_165 (by decide) ?_
  refine z_loc [1, 2, 3, 4, 5, 6, 7, 0] rfl ?_
  exact hR12 _ _ _ _ _ _ _ _ h
def bk_X11_meet_126 (P : Mm → Nat → Int32 → Int64 → Int32 → Int32 → (Mm → Prop) → Prop) (h0 : Nat) (R12 : Int32 → Int32 → Int64 → Int32 → Int32 → Int32 → Int32 → Mm → Prop) (K : Mm → Prop) (l1 : Int32) (l2 : Int32) (l3 : Int64) (l5 : Int32) (l6 : Int32) (l7 : Int32) (l8 : Int32) (l9 : Int64) (s0 : Int32) (M : Mm) : Prop := ((s0 = 0 → (bk_X11_meet_162 P h0 R12 K l1 l2 l3 l5 l6 l7 l8 M)) ∧ (¬ s0 = 0 → mK M h0 = 12 ∧ ∃ a24, (mR M 751 h0) = some a24 ∧ isA M a24 1 ∧ vp_in (((6 : Int32) * l7) + l8) (aN M a24) ∧ (P M h0 l1 (if l9 < l3 then l3 else l9) l5 (l6 * (aI M a24 ((((6 : Int32) * l7) + l8)).toNatClampNeg)) (fun M29 => (bk_X11_meet_162 P h0 R12 K l1 l2 l3 l5 l6 l7 l8 M29)))))
set_option maxRecDepth 100000 in
set_option maxHeartbeats 4000000 in
theorem zb_X11_meet_126 {X : Cx} {d : Nat} {P : Mm → Nat → Int32 → Int64 → Int32 → Int32 → (Mm → Prop) → Prop} {h0 : Nat} {R12 : Int32 → Int32 → Int64 → Int32 → Int32 → Int32 → Int32 → Mm → Prop} {K : Mm → Prop} (hP : ∀ {M : Mm} {h0 : Nat} {x1 : Int32} {x2 : Int64} {x3 : Int32} {x4 : Int32} {K : Mm → Prop}, P M h0 x1 x2 x3 x4 K → CtV yX11_pass cX11_pass 9 none (rm_X11_pass d) [.ref h0, .int x1, .long x2, .int x3, .int x4] M K) (hX : Ok X cX11_meet RX11 (rm_X11_meet d)) (hQ : Rq X (rm_X11_meet d) none (QV K)) (hnL : X.2.2.2.2.2.2.2.2.2.2.2.2.2.2 = 16) (hR12 : ∀ l1 l2 l3 l5 l6 l7 l8 M, R12 l1 l2 l3 l5 l6 l7 l8 M → Z X M 0 0 12 [(0, va_rf (some h0)), (1, .int l1), (2, .int l2), (3, .long l3), (5, .int l5), (6, .int l6), (7, .int l7), (8, .int l8)] []) {l1 : Int32} {l2 : Int32} {l3 : Int64} {l5 : Int32} {l6 : Int32} {l7 : Int32} {l8 : Int32} {l9 : Int64} {s0 : Int32} {M : Mm} (h : bk_X11_meet_126 P h0 R12 K l1 l2 l3 l5 l6 l7 l8 l9 s0 M) : Z X M 0 0 126 [(0, va_rf (some h0)), (1, .int l1), (2, .int l2), (3, .long l3), (5, .int l5), (6, .int l6), (7, .int l7), (8, .int l8), (9, .long l9)] [.int s0] := by
  unfold bk_X11_meet_126 at h
  refine z_istore hX [(15, .int s0), (0, va_rf (some h0)), (1, .int l1), (2, .int l2), (3, .long l3), (5, .int l5), (6, .int l6), (7, .int l7), (8, .int l8), (9, .long l9)] dX11_meet_126 (by rw [hnL]; decide) rfl ?_
  refine z_iload hX dX11_meet_128 0 rfl ?_
  obtain ⟨h1, h2⟩ := h
  refine z_if_eq (tgt := 162) hX dX11_meet_130 (by decide) (fun hc => ?_) (fun hc => ?_)
  · have h := h1 hc
    refine z_loc [1, 2, 3, 4, 5, 6, 7, 8] rfl ?_
    exact zb_X11_meet_162 hP hX hQ hnL hR12 h
  · have h := h2 hc
    refine z_aload_n (r := (some h0)) hX dX11_meet_133 rfl 1 rfl ?_
    refine z_iload_n hX dX11_meet_134 rfl 2 rfl ?_
    refine z_lload_n hX dX11_meet_135 rfl 4 rfl ?_
    refine z_lload hX dX11_meet_136 9 rfl ?_
    refine mw_RX11_336 hX dX11_meet_138 (by simp only [rm_X11_meet, rm_X11_drop, rm_X11_isFar, rm_X11_pass, rm_X11_plus]; omega) (by simp only [rm_X11_meet, rm_X11_drop, rm_X11_isFar, rm_X11_pass, rm_X11_plus, List.map_cons, List.map_nil, List.sum_cons, List.sum_nil, cat_rf, cat_i, cat_j]; omega) (by simp only [rm_X11_meet, rm_X11_drop, rm_X11_isFar, rm_X11_pass, rm_X11_plus]; omega) (by simp only [rm_X11_meet, rm_X11_drop, rm_X11_isFar, rm_X11_pass, rm_X11_plus]; omega) ?_
    refine z_iload hX dX11_meet_141 5 rfl ?_
    refine z_iload hX dX11_meet_143 6 rfl ?_
    refine z_aload_n (r := (some h0)) hX dX11_meet_145 rfl 1 rfl ?_
    obtain ⟨hk23, h⟩ := h
    refine gf_RX11_105 (r := (some h0)) hX dX11_meet_146 rfl hk23 ?_
    refine z_bipush (v := (6 : Int32)) hX dX11_meet_149 (by decide) ?_
    refine z_iload hX dX11_meet_151 7 rfl ?_
    refine z_imul hX dX11_meet_153 ?_
    refine z_iload hX dX11_meet_154 8 rfl ?_
    refine z_iadd hX dX11_meet_156 ?_
    obtain ⟨a24, ha25, h⟩ := h
    obtain ⟨hk26, h⟩ := h
    obtain ⟨hc27, h⟩ := h
    refine y_iald (r := (mR M 751 h0)) hX dX11_meet_157 ha25 hk26 hc27 ?_
    refine z_imul hX dX11_meet_158 ?_
    refine z_callVV (As := [.int l1, .long (if l9 < l3 then l3 else l9), .int l5, .int (l6 * (aI M a24 ((((6 : Int32) * l7) + l8)).toNatClampNeg))]) (rest := []) (ci := 11) hX (hP h) mw_RX11_328 rfl (by decide) rfl (by rfl) (by simp only [RoomC, rm_X11_drop, rm_X11_isFar, rm_X11_meet, rm_X11_pass, rm_X11_plus]; omega) (by decide) dX11_meet_159 hk23 (fun M29 h => ?_)
    refine z_loc [1, 2, 3, 4, 5, 6, 7, 8] rfl ?_
    exact zb_X11_meet_162 hP hX hQ hnL hR12 h
def bk_X11_meet_125 (P : Mm → Nat → Int32 → Int64 → Int32 → Int32 → (Mm → Prop) → Prop) (h0 : Nat) (R12 : Int32 → Int32 → Int64 → Int32 → Int32 → Int32 → Int32 → Mm → Prop) (K : Mm → Prop) (l1 : Int32) (l2 : Int32) (l3 : Int64) (l5 : Int32) (l6 : Int32) (l7 : Int32) (l8 : Int32) (l9 : Int64) (M : Mm) : Prop := (bk_X11_meet_126 P h0 R12 K l1 l2 l3 l5 l6 l7 l8 l9 (0 : Int32) M)
set_option maxRecDepth 100000 in
set_option maxHeartbeats 4000000 in
theorem zb_X11_meet_125 {X : Cx} {d : Nat} {P : Mm → Nat → Int32 → Int64 → Int32 → Int32 → (Mm → Prop) → Prop} {h0 : Nat} {R12 : Int32 → Int32 → Int64 → Int32 → Int32 → Int32 → Int32 → Mm → Prop} {K : Mm → Prop} (hP : ∀ {M : Mm} {h0 : Nat} {x1 : Int32} {x2 : Int64} {x3 : Int32} {x4 : Int32} {K : Mm → Prop}, P M h0 x1 x2 x3 x4 K → CtV yX11_pass cX11_pass 9 none (rm_X11_pass d) [.ref h0, .int x1, .long x2, .int x3, .int x4] M K) (hX : Ok X cX11_meet RX11 (rm_X11_meet d)) (hQ : Rq X (rm_X11_meet d) none (QV K)) (hnL : X.2.2.2.2.2.2.2.2.2.2.2.2.2.2 = 16) (hR12 : ∀ l1 l2 l3 l5 l6 l7 l8 M, R12 l1 l2 l3 l5 l6 l7 l8 M → Z X M 0 0 12 [(0, va_rf (some h0)), (1, .int l1), (2, .int l2), (3, .long l3), (5, .int l5), (6, .int l6), (7, .int l7), (8, .int l8)] []) {l1 : Int32} {l2 : Int32} {l3 : Int64} {l5 : Int32} {l6 : Int32} {l7 : Int32} {l8 : Int32} {l9 : Int64} {M : Mm} (h : bk_X11_meet_125 P h0 R12 K l1 l2 l3 l5 l6 l7 l8 l9 M) : Z X M 0 0 125 [(0, va_rf (some h0)), (1, .int l1), (2, .int l2), (3, .long l3), (5, .int l5), (6, .int l6), (7, .int l7), (8, .int l8), (9, .long l9)] [] := by
  unfold bk_X11_meet_125 at h
  refine z_iconst (v := (0 : Int32)) hX dX11_meet_125 (by decide) ?_
  exact zb_X11_meet_126 hP hX hQ hnL hR12 h
def bk_X11_meet_61 (P : Mm → Nat → Int32 → Int64 → Int32 → Int32 → (Mm → Prop) → Prop) (h0 : Nat) (R12 : Int32 → Int32 → Int64 → Int32 → Int32 → Int32 → Int32 → Mm → Prop) (K : Mm → Prop) (l1 : Int32) (l2 : Int32) (l3 : Int64) (l5 : Int32) (l6 : Int32) (l7 : Int32) (l8 : Int32) (l9 : Int64) (l11 : Int64) (s0 : Int64) (M : Mm) : Prop := mK M h0 = 12 ∧ ∃ a32, (mR M 750 h0) = some a32 ∧ isA M a32 1 ∧ vp_in (((6 : Int32) * l7) + l8) (aN M a32) ∧ ((¬ (aI M a32 ((((6 : Int32) * l7) + l8)).toNatClampNeg) = l5 → (bk_X11_meet_125 P h0 R12 K l1 l2 l3 l5 l6 l7 l8 l9 M)) ∧ ((aI M a32 ((((6 : Int32) * l7) + l8)).toNatClampNeg) = l5 → ∃ a36, (mR M 720 h0) = some a36 ∧ isA M a36 2 ∧ vp_in ((12 : Int32) + l1) (aN M a36) ∧ (wp_X11_plus M l11 (aJ M a36 (((12 : Int32) + l1)).toNatClampNeg) (fun r40 M41 => ((s0 < r40 → (bk_X11_meet_125 P h0 R12 K l1 l2 l3 l5 l6 l7 l8 l9 M41)) ∧ (¬ s0 < r40 → mK M41 h0 = 12 ∧ ∃ a44, (mR M41 721 h0) = some a44 ∧ isA M41 a44 2 ∧ vp_in ((12 : Int32) + l1) (aN M41 a44) ∧ (wp_X11_plus M41 l11 (aJ M41 a44 (((12 : Int32) + l1)).toNatClampNeg) (fun r48 M49 => ((r48 < s0 → (bk_X11_meet_125 P h0 R12 K l1 l2 l3 l5 l6 l7 l8 l9 M49)) ∧ (¬ r48 < s0 → (bk_X11_meet_126 P h0 R12 K l1 l2 l3 l5 l6 l7 l8 l9 (1 : Int32) M49)))))))))))
set_option maxRecDepth 100000 in
set_option maxHeartbeats 4000000 in
theorem zb_X11_meet_61 {X : Cx} {d : Nat} {P : Mm → Nat → Int32 → Int64 → Int32 → Int32 → (Mm → Prop) → Prop} {h0 : Nat} {R12 : Int32 → Int32 → Int64 → Int32 → Int32 → Int32 → Int32 → Mm → Prop} {K : Mm → Prop} (hP : ∀ {M : Mm} {h0 : Nat} {x1 : Int32} {x2 : Int64} {x3 : Int32} {x4 : Int32} {K : Mm → Prop}, P M h0 x1 x2 x3 x4 K → CtV yX11_pass cX11_pass 9 none (rm_X11_pass d) [.ref h0, .int x1, .long x2, .int x3, .int x4] M K) (hX : Ok X cX11_meet RX11 (rm_X11_meet d)) (hQ : Rq X (rm_X11_meet d) none (QV K)) (hnL : X.2.2.2.2.2.2.2.2.2.2.2.2.2.2 = 16) (hR12 : ∀ l1 l2 l3 l5 l6 l7 l8 M, R12 l1 l2 l3 l5 l6 l7 l8 M → Z X M 0 0 12 [(0, va_rf (some h0)), (1, .int l1), (2, .int l2), (3, .long l3), (5, .int l5), (6, .int l6), (7, .int l7), (8, .int l8)] []) {l1 : Int32} {l2 : Int32} {l3 : Int64} {l5 : Int32} {l6 : Int32} {l7 : Int32} {l8 : Int32} {l9 : Int64} {l11 : Int64} {s0 : Int64} {M : Mm} (h : bk_X11_meet_61 P h0 R12 K l1 l2 l3 l5 l6 l7 l8 l9 l11 s0 M) : Z X M 0 0 61 [(0, va_rf (some h0)), (1, .int l1), (2, .int l2), (3, .long l3), (5, .int l5), (6, .int l6), (7, .int l7), (8, .int l8), (9, .long l9), (11, .long l11)] [.long s0] := by
  unfold bk_X11_meet_61 at h
  refine z_lstore hX [(13, .long s0), (0, va_rf (some h0)), (1, .int l1), (2, .int l2), (3, .long l3), (5, .int l5), (6, .int l6), (7, .int l7), (8, .int l8), (9, .long l9), (11, .long l11)] dX11_meet_61 (by rw [hnL]; decide) rfl ?_
  refine z_aload_n (r := (some h0)) hX dX11_meet_63 rfl 1 rfl ?_
  obtain ⟨hk31, h⟩ := h
  refine gf_RX11_102 (r := (some h0)) hX dX11_meet_64 rfl hk31 ?_
  refine z_bipush (v := (6 : Int32)) hX dX11_meet_67 (by decide) ?_
  refine z_iload hX dX11_meet_69 7 rfl ?_
  refine z_imul hX dX11_meet_71 ?_
  refine z_iload hX dX11_meet_72 8 rfl ?_
  refine z_iadd hX dX11_meet_74 ?_
  obtain ⟨a32, ha33, h⟩ := h
  obtain ⟨hk34, h⟩ := h
  obtain ⟨hc35, h⟩ := h
  refine y_iald (r := (mR M 750 h0)) hX dX11_meet_75 ha33 hk34 hc35 ?_
  refine z_iload hX dX11_meet_76 5 rfl ?_
  obtain ⟨h1, h2⟩ := h
  refine z_icmp_ne (tgt := 125) hX dX11_meet_78 (by decide) (fun hc => ?_) (fun hc => ?_)
  · have h := h1 hc
    refine z_loc [1, 2, 3, 4, 5, 6, 7, 8, 9] rfl ?_
    exact zb_X11_meet_125 hP hX hQ hnL hR12 h
  · have h := h2 hc
    refine z_lload hX dX11_meet_81 10 rfl ?_
    refine z_aload_n (r := (some h0)) hX dX11_meet_83 rfl 1 rfl ?_
    refine gf_RX11_33 (r := (some h0)) hX dX11_meet_84 rfl hk31 ?_
    refine z_bipush (v := (12 : Int32)) hX dX11_meet_87 (by decide) ?_
    refine z_iload_n hX dX11_meet_89 rfl 2 rfl ?_
    refine z_iadd hX dX11_meet_90 ?_
    obtain ⟨a36, ha37, h⟩ := h
    obtain ⟨hk38, h⟩ := h
    obtain ⟨hc39, h⟩ := h
    refine y_lald (r := (mR M 720 h0)) hX dX11_meet_91 ha37 hk38 hc39 ?_
    refine z_callSJ (As := [.long l11, .long (aJ M a36 (((12 : Int32) + l1)).toNatClampNeg)]) (rest := []) hX (ct_X11_plus h) mw_RX11_311 rfl (by rfl) (by simp only [RoomC, rm_X11_drop, rm_X11_isFar, rm_X11_meet, rm_X11_pass, rm_X11_plus]; omega) (by decide) dX11_meet_92 (fun r40 M41 h => ?_)
    refine z_lload hX dX11_meet_95 0 rfl ?_
    refine z_lcmp hX dX11_meet_97 ?_
    obtain ⟨h1, h2⟩ := h
    refine z_if_gt (tgt := 125) hX dX11_meet_98 (by decide) (fun hc => ?_) (fun hc => ?_)
    · have h := h1 ((lg_cmp_gt _ _).mp hc)
      refine z_loc [1, 2, 3, 4, 5, 6, 7, 8, 9] rfl ?_
      exact zb_X11_meet_125 hP hX hQ hnL hR12 h
    · have h := h2 (fun q => hc ((lg_cmp_gt _ _).mpr q))
      refine z_lload hX dX11_meet_101 0 rfl ?_
      refine z_lload hX dX11_meet_103 10 rfl ?_
      refine z_aload_n (r := (some h0)) hX dX11_meet_105 rfl 1 rfl ?_
      obtain ⟨hk43, h⟩ := h
      refine gf_RX11_36 (r := (some h0)) hX dX11_meet_106 rfl hk43 ?_
      refine z_bipush (v := (12 : Int32)) hX dX11_meet_109 (by decide) ?_
      refine z_iload_n hX dX11_meet_111 rfl 2 rfl ?_
      refine z_iadd hX dX11_meet_112 ?_
      obtain ⟨a44, ha45, h⟩ := h
      obtain ⟨hk46, h⟩ := h
      obtain ⟨hc47, h⟩ := h
      refine y_lald (r := (mR M41 721 h0)) hX dX11_meet_113 ha45 hk46 hc47 ?_
      refine z_callSJ (As := [.long l11, .long (aJ M41 a44 (((12 : Int32) + l1)).toNatClampNeg)]) (rest := [.long s0]) hX (ct_X11_plus h) mw_RX11_311 rfl (by rfl) (by simp only [RoomC, rm_X11_drop, rm_X11_isFar, rm_X11_meet, rm_X11_pass, rm_X11_plus]; omega) (by simp only [List.map_cons, List.map_nil, List.sum_cons, List.sum_nil, cat_rf, cat_i, cat_j]; decide) dX11_meet_114 (fun r48 M49 h => ?_)
      refine z_lcmp hX dX11_meet_117 ?_
      obtain ⟨h1, h2⟩ := h
      refine z_if_gt (tgt := 125) hX dX11_meet_118 (by decide) (fun hc => ?_) (fun hc => ?_)
      · have h := h1 ((lg_cmp_gt _ _).mp hc)
        refine z_loc [1, 2, 3, 4, 5, 6, 7, 8, 9] rfl ?_
        exact zb_X11_meet_125 hP hX hQ hnL hR12 h
      · have h := h2 (fun q => hc ((lg_cmp_gt _ _).mpr q))
        refine z_iconst (v := (1 : Int32)) hX dX11_meet_121 (by decide) ?_
        refine z_goto (tgt := 126) hX dX11_meet_122 (by decide) ?_
        refine z_loc [1, 2, 3, 4, 5, 6, 7, 8, 9] rfl ?_
        exact zb_X11_meet_126 hP hX hQ hnL hR12 h
def bk_X11_meet_49 (P : Mm → Nat → Int32 → Int64 → Int32 → Int32 → (Mm → Prop) → Prop) (h0 : Nat) (R12 : Int32 → Int32 → Int64 → Int32 → Int32 → Int32 → Int32 → Mm → Prop) (K : Mm → Prop) (l1 : Int32) (l2 : Int32) (l3 : Int64) (l5 : Int32) (l6 : Int32) (l7 : Int32) (l8 : Int32) (l9 : Int64) (s0 : Int64) (M : Mm) : Prop := ((¬ l2 = 0 → (bk_X11_meet_61 P h0 R12 K l1 l2 l3 l5 l6 l7 l8 l9 s0 l3 M)) ∧ (l2 = 0 → (bk_X11_meet_61 P h0 R12 K l1 l2 l3 l5 l6 l7 l8 l9 s0 l9 M)))
set_option maxRecDepth 100000 in
set_option maxHeartbeats 4000000 in
theorem zb_X11_meet_49 {X : Cx} {d : Nat} {P : Mm → Nat → Int32 → Int64 → Int32 → Int32 → (Mm → Prop) → Prop} {h0 : Nat} {R12 : Int32 → Int32 → Int64 → Int32 → Int32 → Int32 → Int32 → Mm → Prop} {K : Mm → Prop} (hP : ∀ {M : Mm} {h0 : Nat} {x1 : Int32} {x2 : Int64} {x3 : Int32} {x4 : Int32} {K : Mm → Prop}, P M h0 x1 x2 x3 x4 K → CtV yX11_pass cX11_pass 9 none (rm_X11_pass d) [.ref h0, .int x1, .long x2, .int x3, .int x4] M K) (hX : Ok X cX11_meet RX11 (rm_X11_meet d)) (hQ : Rq X (rm_X11_meet d) none (QV K)) (hnL : X.2.2.2.2.2.2.2.2.2.2.2.2.2.2 = 16) (hR12 : ∀ l1 l2 l3 l5 l6 l7 l8 M, R12 l1 l2 l3 l5 l6 l7 l8 M → Z X M 0 0 12 [(0, va_rf (some h0)), (1, .int l1), (2, .int l2), (3, .long l3), (5, .int l5), (6, .int l6), (7, .int l7), (8, .int l8)] []) {l1 : Int32} {l2 : Int32} {l3 : Int64} {l5 : Int32} {l6 : Int32} {l7 : Int32} {l8 : Int32} {l9 : Int64} {s0 : Int64} {M : Mm} (h : bk_X11_meet_49 P h0 R12 K l1 l2 l3 l5 l6 l7 l8 l9 s0 M) : Z X M 0 0 49 [(0, va_rf (some h0)), (1, .int l1), (2, .int l2), (3, .long l3), (5, .int l5), (6, .int l6), (7, .int l7), (8, .int l8), (9, .long l9)] [.long s0] := by
  unfold bk_X11_meet_49 at h
  refine z_lstore hX [(11, .long s0), (0, va_rf (some h0)), (1, .int l1), (2, .int l2), (3, .long l3), (5, .int l5), (6, .int l6), (7, .int l7), (8, .int l8), (9, .long l9)] dX11_meet_49 (by rw [hnL]; decide) rfl ?_
  refine z_iload_n hX dX11_meet_51 rfl 3 rfl ?_
  obtain ⟨h1, h2⟩ := h
  refine z_if_ne (tgt := 60) hX dX11_meet_52 (by decide) (fun hc => ?_) (fun hc => ?_)
  · have h := h1 hc
    refine z_lload_n hX dX11_meet_60 rfl 4 rfl ?_
    refine z_loc [1, 2, 3, 4, 5, 6, 7, 8, 9, 0] rfl ?_
    exact zb_X11_meet_61 hP hX hQ hnL hR12 h
  · have h := h2 hc
    refine z_lload hX dX11_meet_55 9 rfl ?_
    refine z_goto (tgt := 61) hX dX11_meet_57 (by decide) ?_
    refine z_loc [1, 2, 3, 4, 5, 6, 7, 8, 9, 0] rfl ?_
    exact zb_X11_meet_61 hP hX hQ hnL hR12 h
def lp_X11_meet_12 (P : Mm → Nat → Int32 → Int64 → Int32 → Int32 → (Mm → Prop) → Prop) (h0 : Nat) (K : Mm → Prop) : Nat → Int32 → Int32 → Int64 → Int32 → Int32 → Int32 → Int32 → Mm → Prop
  | 0, _, _, _, _, _, _, _, _ => False
  | n + 1, l1, l2, l3, l5, l6, l7, l8, M => mK M h0 = 12 ∧ ∃ a52, (mR M 748 h0) = some a52 ∧ isA M a52 1 ∧ vp_in l7 (aN M a52) ∧ (((aI M a52 (l7).toNatClampNeg) ≤ l8 → (wp_X11_isFar M h0 l1 l2 l3 (fun r56 M57 => ((r56 = 0 → mK M57 h0 = 12 ∧ ∃ a60, (mR M57 748 h0) = some a60 ∧ isA M57 a60 1 ∧ vp_in (((2 : Int32) * l1) + l2) (aN M57 a60) ∧ ((¬ (aI M57 a60 ((((2 : Int32) * l1) + l2)).toNatClampNeg) = (6 : Int32) → (bk_X11_meet_215 P h0 K l3 l5 l6 (((2 : Int32) * l1) + l2) M57)) ∧ ((aI M57 a60 ((((2 : Int32) * l1) + l2)).toNatClampNeg) = (6 : Int32) → (wp_X11_drop M57 h0 (((2 : Int32) * l1) + l2) (0 : Int32) (fun M65 => mK M65 h0 = 12 ∧ (bk_X11_meet_215 P h0 K l3 l5 l6 (((2 : Int32) * l1) + l2) (sI M65 743 h0 ((mI M65 743 h0) + (1 : Int32))))))))) ∧ (¬ r56 = 0 → (K M57)))))) ∧ (¬ (aI M a52 (l7).toNatClampNeg) ≤ l8 → ∃ a69, (mR M 749 h0) = some a69 ∧ isA M a69 2 ∧ vp_in (((6 : Int32) * l7) + l8) (aN M a69) ∧ ((¬ l2 = 0 → (bk_X11_meet_49 P h0 (lp_X11_meet_12 P h0 K n) K l1 l2 l3 l5 l6 l7 l8 (aJ M a69 ((((6 : Int32) * l7) + l8)).toNatClampNeg) (aJ M a69 ((((6 : Int32) * l7) + l8)).toNatClampNeg) M)) ∧ (l2 = 0 → (bk_X11_meet_49 P h0 (lp_X11_meet_12 P h0 K n) K l1 l2 l3 l5 l6 l7 l8 (aJ M a69 ((((6 : Int32) * l7) + l8)).toNatClampNeg) l3 M)))))
set_option maxRecDepth 100000 in
set_option maxHeartbeats 4000000 in
theorem zl_X11_meet_12 {X : Cx} {d : Nat} {P : Mm → Nat → Int32 → Int64 → Int32 → Int32 → (Mm → Prop) → Prop} {h0 : Nat} {K : Mm → Prop} (hP : ∀ {M : Mm} {h0 : Nat} {x1 : Int32} {x2 : Int64} {x3 : Int32} {x4 : Int32} {K : Mm → Prop}, P M h0 x1 x2 x3 x4 K → CtV yX11_pass cX11_pass 9 none (rm_X11_pass d) [.ref h0, .int x1, .long x2, .int x3, .int x4] M K) (hX : Ok X cX11_meet RX11 (rm_X11_meet d)) (hQ : Rq X (rm_X11_meet d) none (QV K)) (hnL : X.2.2.2.2.2.2.2.2.2.2.2.2.2.2 = 16) : ∀ (n : Nat) (l1 : Int32) (l2 : Int32) (l3 : Int64) (l5 : Int32) (l6 : Int32) (l7 : Int32) (l8 : Int32) (M : Mm), lp_X11_meet_12 P h0 K n l1 l2 l3 l5 l6 l7 l8 M → Z X M 0 0 12 [(0, va_rf (some h0)), (1, .int l1), (2, .int l2), (3, .long l3), (5, .int l5), (6, .int l6), (7, .int l7), (8, .int l8)] [] := by
  intro n
  induction n with
  | zero =>
    intro l1 l2 l3 l5 l6 l7 l8 M h
    exact False.elim h
  | succ n hR12 =>
    intro l1 l2 l3 l5 l6 l7 l8 M h
    refine z_iload hX dX11_meet_12 7 rfl ?_
    refine z_aload_n (r := (some h0)) hX dX11_meet_14 rfl 0 rfl ?_
    obtain ⟨hk51, h⟩ := h
    refine gf_RX11_96 (r := (some h0)) hX dX11_meet_15 rfl hk51 ?_
    refine z_iload hX dX11_meet_18 6 rfl ?_
    obtain ⟨a52, ha53, h⟩ := h
    obtain ⟨hk54, h⟩ := h
    obtain ⟨hc55, h⟩ := h
    refine y_iald (r := (mR M 748 h0)) hX dX11_meet_20 ha53 hk54 hc55 ?_
    obtain ⟨h1, h2⟩ := h
    refine z_icmp_ge (tgt := 168) hX dX11_meet_21 (by decide) (fun hc => ?_) (fun hc => ?_)
    · have h := h1 hc
      refine z_aload_n (r := (some h0)) hX dX11_meet_168 rfl 0 rfl ?_
      refine z_iload_n hX dX11_meet_169 rfl 1 rfl ?_
      refine z_iload_n hX dX11_meet_170 rfl 2 rfl ?_
      refine z_lload_n hX dX11_meet_171 rfl 3 rfl ?_
      refine z_callVI (As := [.int l1, .int l2, .long l3]) (rest := []) (ci := 11) hX (ct_X11_isFar h) mw_RX11_339 rfl (by decide) rfl (by rfl) (by simp only [RoomC, rm_X11_drop, rm_X11_isFar, rm_X11_meet, rm_X11_pass, rm_X11_plus]; omega) (by decide) dX11_meet_172 hk51 (fun r56 M57 h => ?_)
      obtain ⟨h1, h2⟩ := h
      refine z_if_eq (tgt := 179) hX dX11_meet_175 (by decide) (fun hc => ?_) (fun hc => ?_)
      · have h := h1 hc
        refine z_iconst (v := (2 : Int32)) hX dX11_meet_179 (by decide) ?_
        refine z_iload_n hX dX11_meet_180 rfl 1 rfl ?_
        refine z_imul hX dX11_meet_181 ?_
        refine z_iload_n hX dX11_meet_182 rfl 2 rfl ?_
        refine z_iadd hX dX11_meet_183 ?_
        refine z_istore hX [(8, .int (((2 : Int32) * l1) + l2)), (0, va_rf (some h0)), (1, .int l1), (2, .int l2), (3, .long l3), (5, .int l5), (6, .int l6), (7, .int l7)] dX11_meet_184 (by rw [hnL]; decide) rfl ?_
        refine z_aload_n (r := (some h0)) hX dX11_meet_186 rfl 1 rfl ?_
        obtain ⟨hk59, h⟩ := h
        refine gf_RX11_96 (r := (some h0)) hX dX11_meet_187 rfl hk59 ?_
        refine z_iload hX dX11_meet_190 0 rfl ?_
        obtain ⟨a60, ha61, h⟩ := h
        obtain ⟨hk62, h⟩ := h
        obtain ⟨hc63, h⟩ := h
        refine y_iald (r := (mR M57 748 h0)) hX dX11_meet_192 ha61 hk62 hc63 ?_
        refine z_bipush (v := (6 : Int32)) hX dX11_meet_193 (by decide) ?_
        obtain ⟨h1, h2⟩ := h
        refine z_icmp_ne (tgt := 215) hX dX11_meet_195 (by decide) (fun hc => ?_) (fun hc => ?_)
        · have h := h1 hc
          refine z_loc [1, 4, 5, 6, 0] rfl ?_
          exact zb_X11_meet_215 hP hX hQ hnL h
        · have h := h2 hc
          refine z_aload_n (r := (some h0)) hX dX11_meet_198 rfl 1 rfl ?_
          refine z_iload hX dX11_meet_199 0 rfl ?_
          refine z_iconst (v := (0 : Int32)) hX dX11_meet_201 (by decide) ?_
          refine z_callVV (As := [.int (((2 : Int32) * l1) + l2), .int (0 : Int32)]) (rest := []) (ci := 11) hX (ct_X11_drop h) mw_RX11_343 rfl (by decide) rfl (by rfl) (by simp only [RoomC, rm_X11_drop, rm_X11_isFar, rm_X11_meet, rm_X11_pass, rm_X11_plus]; omega) (by decide) dX11_meet_202 hk59 (fun M65 h => ?_)
          refine z_aload_n (r := (some h0)) hX dX11_meet_205 rfl 1 rfl ?_
          refine z_dup hX dX11_meet_206 (cat_rf _) ?_
          obtain ⟨hk67, h⟩ := h
          refine gf_RX11_289 (r := (some h0)) hX dX11_meet_207 rfl hk67 ?_
          refine z_iconst (v := (1 : Int32)) hX dX11_meet_210 (by decide) ?_
          refine z_iadd hX dX11_meet_211 ?_
          refine pf_RX11_289 (r := (some h0)) (v := ((mI M65 743 h0) + (1 : Int32))) hX dX11_meet_212 rfl hk67 ?_
          refine z_loc [1, 4, 5, 6, 0] rfl ?_
          exact zb_X11_meet_215 hP hX hQ hnL h
      · have h := h2 hc
        exact z_vret hX hQ dX11_meet_178 h
    · have h := h2 hc
      refine z_aload_n (r := (some h0)) hX dX11_meet_24 rfl 0 rfl ?_
      refine gf_RX11_99 (r := (some h0)) hX dX11_meet_25 rfl hk51 ?_
      refine z_bipush (v := (6 : Int32)) hX dX11_meet_28 (by decide) ?_
      refine z_iload hX dX11_meet_30 6 rfl ?_
      refine z_imul hX dX11_meet_32 ?_
      refine z_iload hX dX11_meet_33 7 rfl ?_
      refine z_iadd hX dX11_meet_35 ?_
      obtain ⟨a69, ha70, h⟩ := h
      obtain ⟨hk71, h⟩ := h
      obtain ⟨hc72, h⟩ := h
      refine y_lald (r := (mR M 749 h0)) hX dX11_meet_36 ha70 hk71 hc72 ?_
      refine z_lstore hX [(9, .long (aJ M a69 ((((6 : Int32) * l7) + l8)).toNatClampNeg)), (0, va_rf (some h0)), (1, .int l1), (2, .int l2), (3, .long l3), (5, .int l5), (6, .int l6), (7, .int l7), (8, .int l8)] dX11_meet_37 (by rw [hnL]; decide) rfl ?_
      refine z_iload_n hX dX11_meet_39 rfl 3 rfl ?_
      obtain ⟨h1, h2⟩ := h
      refine z_if_ne (tgt := 47) hX dX11_meet_40 (by decide) (fun hc => ?_) (fun hc => ?_)
      · have h := h1 hc
        refine z_lload hX dX11_meet_47 0 rfl ?_
        refine z_loc [1, 2, 3, 4, 5, 6, 7, 8, 0] rfl ?_
        exact zb_X11_meet_49 hP hX hQ hnL hR12 h
      · have h := h2 hc
        refine z_lload_n hX dX11_meet_43 rfl 4 rfl ?_
        refine z_goto (tgt := 49) hX dX11_meet_44 (by decide) ?_
        refine z_loc [1, 2, 3, 4, 5, 6, 7, 8, 0] rfl ?_
        exact zb_X11_meet_49 hP hX hQ hnL hR12 h
def wp_X11_meet (P : Mm → Nat → Int32 → Int64 → Int32 → Int32 → (Mm → Prop) → Prop) (M : Mm) (h0 : Nat) (p1 : Int32) (p2 : Int32) (p3 : Int64) (p4 : Int32) (p5 : Int32) (K : Mm → Prop) : Prop := (∃ kk, lp_X11_meet_12 P h0 K kk p1 p2 p3 p4 p5 ((((2 : Int32) * p1) + (1 : Int32)) - p2) (0 : Int32) M)
set_option maxRecDepth 100000 in
set_option maxHeartbeats 4000000 in
theorem ct_X11_meet {d : Nat} {P : Mm → Nat → Int32 → Int64 → Int32 → Int32 → (Mm → Prop) → Prop} (hP : ∀ {M : Mm} {h0 : Nat} {x1 : Int32} {x2 : Int64} {x3 : Int32} {x4 : Int32} {K : Mm → Prop}, P M h0 x1 x2 x3 x4 K → CtV yX11_pass cX11_pass 9 none (rm_X11_pass d) [.ref h0, .int x1, .long x2, .int x3, .int x4] M K) {M : Mm} {h0 : Nat} {p1 : Int32} {p2 : Int32} {p3 : Int64} {p4 : Int32} {p5 : Int32} {K : Mm → Prop} (h : wp_X11_meet P M h0 p1 p2 p3 p4 p5 K) : CtV yX11_meet cX11_meet 16 none (rm_X11_meet d) [.ref h0, .int p1, .int p2, .long p3, .int p4, .int p5] M K := by
  refine ct_any (QV K) (by decide) (by exact Nat.le_of_ble_eq_true rfl) (fun X hX hQ hnL hnm => ?_)
  rw [show lv_args 0 [.ref h0, .int p1, .int p2, .long p3, .int p4, .int p5] = [(0, va_rf (some h0)), (1, .int p1), (2, .int p2), (3, .long p3), (5, .int p4), (6, .int p5)] by rfl]
  have hX : Ok X cX11_meet RX11 (rm_X11_meet d) := hX
  unfold wp_X11_meet at h
  refine z_iconst (v := (2 : Int32)) hX dX11_meet_0 (by decide) ?_
  refine z_iload_n hX dX11_meet_1 rfl 1 rfl ?_
  refine z_imul hX dX11_meet_2 ?_
  refine z_iconst (v := (1 : Int32)) hX dX11_meet_3 (by decide) ?_
  refine z_iadd hX dX11_meet_4 ?_
  refine z_iload_n hX dX11_meet_5 rfl 2 rfl ?_
  refine z_isub hX dX11_meet_6 ?_
  refine z_istore hX [(7, .int ((((2 : Int32) * p1) + (1 : Int32)) - p2)), (0, va_rf (some h0)), (1, .int p1), (2, .int p2), (3, .long p3), (5, .int p4), (6, .int p5)] dX11_meet_7 (by rw [hnL]; decide) rfl ?_
  refine z_iconst (v := (0 : Int32)) hX dX11_meet_9 (by decide) ?_
  refine z_istore hX [(8, .int (0 : Int32)), (7, .int ((((2 : Int32) * p1) + (1 : Int32)) - p2)), (0, va_rf (some h0)), (1, .int p1), (2, .int p2), (3, .long p3), (5, .int p4), (6, .int p5)] dX11_meet_10 (by rw [hnL]; decide) rfl ?_
  refine z_loc [2, 3, 4, 5, 6, 7, 1, 0] rfl ?_
  obtain ⟨n, h⟩ := h
  exact zl_X11_meet_12 hP hX hQ hnL n _ _ _ _ _ _ _ _ h
def rm_X11_findGoal : Room := { frames := 2, cells := 0, slots := 0, locals := 48 }
def bk_X11_findGoal_226 (h0 : Nat) (K : Mm → Prop) (M : Mm) : Prop := (K M)
set_option maxRecDepth 100000 in
set_option maxHeartbeats 4000000 in
theorem zb_X11_findGoal_226 {X : Cx} {h0 : Nat} {K : Mm → Prop} (hX : Ok X cX11_findGoal RX11 rm_X11_findGoal) (hQ : Rq X rm_X11_findGoal none (QV K)) (hnL : X.2.2.2.2.2.2.2.2.2.2.2.2.2.2 = 5) {M : Mm} (h : bk_X11_findGoal_226 h0 K M) : Z X M 0 0 226 [] [] := by
  unfold bk_X11_findGoal_226 at h
  exact z_vret hX hQ dX11_findGoal_226 h
def bk_X11_findGoal_223 (h0 : Nat) (K : Mm → Prop) (s0 : Int64) (s1 : Option Nat) (M : Mm) : Prop := ∃ a3, s1 = some a3 ∧ mK M a3 = 12 ∧ (wp_X11_least M a3 s0 (fun M2 => (bk_X11_findGoal_226 h0 K M2)))
set_option maxRecDepth 100000 in
set_option maxHeartbeats 4000000 in
theorem zb_X11_findGoal_223 {X : Cx} {h0 : Nat} {K : Mm → Prop} (hX : Ok X cX11_findGoal RX11 rm_X11_findGoal) (hQ : Rq X rm_X11_findGoal none (QV K)) (hnL : X.2.2.2.2.2.2.2.2.2.2.2.2.2.2 = 5) {s0 : Int64} {s1 : Option Nat} {M : Mm} (h : bk_X11_findGoal_223 h0 K s0 s1 M) : Z X M 0 0 223 [] [.long s0, va_rf s1] := by
  unfold bk_X11_findGoal_223 at h
  obtain ⟨a3, ha4, h⟩ := h
  obtain ⟨hk5, h⟩ := h
  refine z_callVV (As := [.long s0]) (rest := []) (ci := 11) hX (ct_X11_least h) mw_RX11_356 rfl (by decide) rfl (by rw [ha4]; rfl) (by unfold RoomC; decide) (by decide) dX11_findGoal_223 hk5 (fun M2 h => ?_)
  exact zb_X11_findGoal_226 hX hQ hnL h
def bk_X11_findGoal_162 (h0 : Nat) (K : Mm → Prop) (l1 : Int32) (M : Mm) : Prop := mK M h0 = 12 ∧ (wp_X11_inputOf M h0 l1 (0 : Int32) (fun r8 M9 => ∃ a11, (mR M 734 h0) = some a11 ∧ isA M9 a11 3 ∧ vp_in r8 (aN M9 a11) ∧ ((¬ (aI M9 a11 (r8).toNatClampNeg) = 0 → (bk_X11_findGoal_226 h0 K M9)) ∧ ((aI M9 a11 (r8).toNatClampNeg) = 0 → mK M9 h0 = 12 ∧ (wp_X11_kindOf M9 h0 l1 (fun r15 M16 => ((¬ r15 = (2 : Int32) → mK M16 h0 = 12 ∧ (wp_X11_inputOf M16 h0 l1 (0 : Int32) (fun r20 M21 => ∃ a23, (mR M16 733 h0) = some a23 ∧ isA M21 a23 2 ∧ vp_in r20 (aN M21 a23) ∧ (bk_X11_findGoal_223 h0 K (aJ M21 a23 (r20).toNatClampNeg) (some h0) M21)))) ∧ (r15 = (2 : Int32) → mK M16 h0 = 12 ∧ (wp_X11_inputOf M16 h0 l1 (0 : Int32) (fun r28 M29 => ∃ a31, (mR M16 733 h0) = some a31 ∧ isA M29 a31 2 ∧ vp_in r28 (aN M29 a31) ∧ mK M29 h0 = 12 ∧ ∃ a36, (mR M29 720 h0) = some a36 ∧ isA M29 a36 2 ∧ vp_in ((12 : Int32) + l1) (aN M29 a36) ∧ (wp_X11_plus M29 (aJ M29 a31 (r28).toNatClampNeg) (aJ M29 a36 (((12 : Int32) + l1)).toNatClampNeg) (fun r40 M41 => (bk_X11_findGoal_223 h0 K r40 (some h0) M41)))))))))))))
set_option maxRecDepth 100000 in
set_option maxHeartbeats 4000000 in
theorem zb_X11_findGoal_162 {X : Cx} {h0 : Nat} {K : Mm → Prop} (hX : Ok X cX11_findGoal RX11 rm_X11_findGoal) (hQ : Rq X rm_X11_findGoal none (QV K)) (hnL : X.2.2.2.2.2.2.2.2.2.2.2.2.2.2 = 5) {l1 : Int32} {M : Mm} (h : bk_X11_findGoal_162 h0 K l1 M) : Z X M 0 0 162 [(0, va_rf (some h0)), (1, .int l1)] [] := by
  unfold bk_X11_findGoal_162 at h
  refine z_aload_n (r := (some h0)) hX dX11_findGoal_162 rfl 0 rfl ?_
  obtain ⟨hk7, h⟩ := h
  refine gf_RX11_66 (r := (some h0)) hX dX11_findGoal_163 rfl hk7 ?_
  refine z_aload_n (r := (some h0)) hX dX11_findGoal_166 rfl 0 rfl ?_
  refine z_iload_n hX dX11_findGoal_167 rfl 1 rfl ?_
  refine z_iconst (v := (0 : Int32)) hX dX11_findGoal_168 (by decide) ?_
  refine z_callVI (As := [.int l1, .int (0 : Int32)]) (rest := [va_rf (mR M 734 h0)]) (ci := 11) hX (ct_X11_inputOf h) mw_RX11_318 rfl (by decide) rfl (by rfl) (by unfold RoomC; decide) (by simp only [List.map_cons, List.map_nil, List.sum_cons, List.sum_nil, cat_rf, cat_i, cat_j]; decide) dX11_findGoal_169 hk7 (fun r8 M9 h => ?_)
  obtain ⟨a11, ha12, h⟩ := h
  obtain ⟨hk13, h⟩ := h
  obtain ⟨hc14, h⟩ := h
  refine y_zald (r := (mR M 734 h0)) hX dX11_findGoal_172 ha12 hk13 hc14 ?_
  obtain ⟨h1, h2⟩ := h
  refine z_if_ne (tgt := 226) hX dX11_findGoal_173 (by decide) (fun hc => ?_) (fun hc => ?_)
  · have h := h1 hc
    refine z_loc [] rfl ?_
    exact zb_X11_findGoal_226 hX hQ hnL h
  · have h := h2 hc
    refine z_aload_n (r := (some h0)) hX dX11_findGoal_176 rfl 0 rfl ?_
    refine z_aload_n (r := (some h0)) hX dX11_findGoal_177 rfl 0 rfl ?_
    refine z_iload_n hX dX11_findGoal_178 rfl 1 rfl ?_
    obtain ⟨hk17, h⟩ := h
    refine z_callVI (As := [.int l1]) (rest := [va_rf (some h0)]) (ci := 11) hX (ct_X11_kindOf h) mw_RX11_308 rfl (by decide) rfl (by rfl) (by unfold RoomC; decide) (by simp only [List.map_cons, List.map_nil, List.sum_cons, List.sum_nil, cat_rf, cat_i, cat_j]; decide) dX11_findGoal_179 hk17 (fun r15 M16 h => ?_)
    refine z_iconst (v := (2 : Int32)) hX dX11_findGoal_182 (by decide) ?_
    obtain ⟨h1, h2⟩ := h
    refine z_icmp_ne (tgt := 212) hX dX11_findGoal_183 (by decide) (fun hc => ?_) (fun hc => ?_)
    · have h := h1 hc
      refine z_aload_n (r := (some h0)) hX dX11_findGoal_212 rfl 0 rfl ?_
      obtain ⟨hk19, h⟩ := h
      refine gf_RX11_63 (r := (some h0)) hX dX11_findGoal_213 rfl hk19 ?_
      refine z_aload_n (r := (some h0)) hX dX11_findGoal_216 rfl 0 rfl ?_
      refine z_iload_n hX dX11_findGoal_217 rfl 1 rfl ?_
      refine z_iconst (v := (0 : Int32)) hX dX11_findGoal_218 (by decide) ?_
      refine z_callVI (As := [.int l1, .int (0 : Int32)]) (rest := [va_rf (mR M16 733 h0), va_rf (some h0)]) (ci := 11) hX (ct_X11_inputOf h) mw_RX11_318 rfl (by decide) rfl (by rfl) (by unfold RoomC; decide) (by simp only [List.map_cons, List.map_nil, List.sum_cons, List.sum_nil, cat_rf, cat_i, cat_j]; decide) dX11_findGoal_219 hk19 (fun r20 M21 h => ?_)
      obtain ⟨a23, ha24, h⟩ := h
      obtain ⟨hk25, h⟩ := h
      obtain ⟨hc26, h⟩ := h
      refine y_lald (r := (mR M16 733 h0)) hX dX11_findGoal_222 ha24 hk25 hc26 ?_
      refine z_loc [] rfl ?_
      exact zb_X11_findGoal_223 hX hQ hnL h
    · have h := h2 hc
      refine z_aload_n (r := (some h0)) hX dX11_findGoal_186 rfl 0 rfl ?_
      obtain ⟨hk27, h⟩ := h
      refine gf_RX11_63 (r := (some h0)) hX dX11_findGoal_187 rfl hk27 ?_
      refine z_aload_n (r := (some h0)) hX dX11_findGoal_190 rfl 0 rfl ?_
      refine z_iload_n hX dX11_findGoal_191 rfl 1 rfl ?_
      refine z_iconst (v := (0 : Int32)) hX dX11_findGoal_192 (by decide) ?_
      refine z_callVI (As := [.int l1, .int (0 : Int32)]) (rest := [va_rf (mR M16 733 h0), va_rf (some h0)]) (ci := 11) hX (ct_X11_inputOf h) mw_RX11_318 rfl (by decide) rfl (by rfl) (by unfold RoomC; decide) (by simp only [List.map_cons, List.map_nil, List.sum_cons, List.sum_nil, cat_rf, cat_i, cat_j]; decide) dX11_findGoal_193 hk27 (fun r28 M29 h => ?_)
      obtain ⟨a31, ha32, h⟩ := h
      obtain ⟨hk33, h⟩ := h
      obtain ⟨hc34, h⟩ := h
      refine y_lald (r := (mR M16 733 h0)) hX dX11_findGoal_196 ha32 hk33 hc34 ?_
      refine z_aload_n (r := (some h0)) hX dX11_findGoal_197 rfl 0 rfl ?_
      obtain ⟨hk35, h⟩ := h
      refine gf_RX11_33 (r := (some h0)) hX dX11_findGoal_198 rfl hk35 ?_
      refine z_bipush (v := (12 : Int32)) hX dX11_findGoal_201 (by decide) ?_
      refine z_iload_n hX dX11_findGoal_203 rfl 1 rfl ?_
      refine z_iadd hX dX11_findGoal_204 ?_
      obtain ⟨a36, ha37, h⟩ := h
      obtain ⟨hk38, h⟩ := h
      obtain ⟨hc39, h⟩ := h
      refine y_lald (r := (mR M29 720 h0)) hX dX11_findGoal_205 ha37 hk38 hc39 ?_
      refine z_callSJ (As := [.long (aJ M29 a31 (r28).toNatClampNeg), .long (aJ M29 a36 (((12 : Int32) + l1)).toNatClampNeg)]) (rest := [va_rf (some h0)]) hX (ct_X11_plus h) mw_RX11_311 rfl (by rfl) (by unfold RoomC; decide) (by simp only [List.map_cons, List.map_nil, List.sum_cons, List.sum_nil, cat_rf, cat_i, cat_j]; decide) dX11_findGoal_206 (fun r40 M41 h => ?_)
      refine z_goto (tgt := 223) hX dX11_findGoal_209 (by decide) ?_
      refine z_loc [] rfl ?_
      exact zb_X11_findGoal_223 hX hQ hnL h
def bk_X11_findGoal_134 (h0 : Nat) (R56 : Int32 → Int32 → Int32 → Mm → Prop) (K : Mm → Prop) (l1 : Int32) (l2 : Int32) (l3 : Int32) (M : Mm) : Prop := (R56 l1 l2 (l3 + 1) M)
set_option maxRecDepth 100000 in
set_option maxHeartbeats 4000000 in
theorem zb_X11_findGoal_134 {X : Cx} {h0 : Nat} {R56 : Int32 → Int32 → Int32 → Mm → Prop} {K : Mm → Prop} (hX : Ok X cX11_findGoal RX11 rm_X11_findGoal) (hQ : Rq X rm_X11_findGoal none (QV K)) (hnL : X.2.2.2.2.2.2.2.2.2.2.2.2.2.2 = 5) (hR56 : ∀ l1 l2 l3 M, R56 l1 l2 l3 M → Z X M 0 0 56 [(0, va_rf (some h0)), (1, .int l1), (2, .int l2), (3, .int l3)] []) {l1 : Int32} {l2 : Int32} {l3 : Int32} {M : Mm} (h : bk_X11_findGoal_134 h0 R56 K l1 l2 l3 M) : Z X M 0 0 134 [(0, va_rf (some h0)), (1, .int l1), (2, .int l2), (3, .int l3)] [] := by
  unfold bk_X11_findGoal_134 at h
  refine z_iinc (v := (l3 + 1)) hX [(3, .int (l3 + 1)), (0, va_rf (some h0)), (1, .int l1), (2, .int l2)] dX11_findGoal_134 3 rfl rfl (by rw [hnL]; decide) rfl ?_
  refine z_goto (tgt := 56) hX dX11_findGoal_137 (by decide) ?_
  refine z_loc [1, 2, 3, 0] rfl ?_
  exact hR56 _ _ _ _ h
def bk_X11_findGoal_97 (h0 : Nat) (R56 : Int32 → Int32 → Int32 → Mm → Prop) (K : Mm → Prop) (l1 : Int32) (l3 : Int32) (l4 : Int32) (s0 : Int32) (s1 : Int32) (M : Mm) : Prop := mK M h0 = 12 ∧ ∃ a44, (mR M 734 h0) = some a44 ∧ isA M a44 3 ∧ vp_in l4 (aN M a44) ∧ ((¬ (aI M a44 (l4).toNatClampNeg) = 0 → (bk_X11_findGoal_134 h0 R56 K l1 (s1 &&& s0) l3 M)) ∧ ((aI M a44 (l4).toNatClampNeg) = 0 → ∃ a48, (mR M 733 h0) = some a48 ∧ isA M a48 2 ∧ vp_in l4 (aN M a48) ∧ (((aJ M a48 (l4).toNatClampNeg) = (9000000000000000000 : Int64) → (bk_X11_findGoal_134 h0 R56 K l1 (s1 &&& s0) l3 M)) ∧ (¬ (aJ M a48 (l4).toNatClampNeg) = (9000000000000000000 : Int64) → vp_in l4 (aN M a48) ∧ (wp_X11_least M h0 (aJ M a48 (l4).toNatClampNeg) (fun M54 => (bk_X11_findGoal_134 h0 R56 K l1 (s1 &&& s0) l3 M54)))))))
set_option maxRecDepth 100000 in
set_option maxHeartbeats 4000000 in
theorem zb_X11_findGoal_97 {X : Cx} {h0 : Nat} {R56 : Int32 → Int32 → Int32 → Mm → Prop} {K : Mm → Prop} (hX : Ok X cX11_findGoal RX11 rm_X11_findGoal) (hQ : Rq X rm_X11_findGoal none (QV K)) (hnL : X.2.2.2.2.2.2.2.2.2.2.2.2.2.2 = 5) (hR56 : ∀ l1 l2 l3 M, R56 l1 l2 l3 M → Z X M 0 0 56 [(0, va_rf (some h0)), (1, .int l1), (2, .int l2), (3, .int l3)] []) {l1 : Int32} {l3 : Int32} {l4 : Int32} {s0 : Int32} {s1 : Int32} {M : Mm} (h : bk_X11_findGoal_97 h0 R56 K l1 l3 l4 s0 s1 M) : Z X M 0 0 97 [(0, va_rf (some h0)), (1, .int l1), (3, .int l3), (4, .int l4)] [.int s0, .int s1] := by
  unfold bk_X11_findGoal_97 at h
  refine z_iand hX dX11_findGoal_97 ?_
  refine z_istore_n hX [(2, .int (s1 &&& s0)), (0, va_rf (some h0)), (1, .int l1), (3, .int l3), (4, .int l4)] dX11_findGoal_98 rfl (by rw [hnL]; decide) rfl ?_
  refine z_aload_n (r := (some h0)) hX dX11_findGoal_99 rfl 1 rfl ?_
  obtain ⟨hk43, h⟩ := h
  refine gf_RX11_66 (r := (some h0)) hX dX11_findGoal_100 rfl hk43 ?_
  refine z_iload hX dX11_findGoal_103 4 rfl ?_
  obtain ⟨a44, ha45, h⟩ := h
  obtain ⟨hk46, h⟩ := h
  obtain ⟨hc47, h⟩ := h
  refine y_zald (r := (mR M 734 h0)) hX dX11_findGoal_105 ha45 hk46 hc47 ?_
  obtain ⟨h1, h2⟩ := h
  refine z_if_ne (tgt := 134) hX dX11_findGoal_106 (by decide) (fun hc => ?_) (fun hc => ?_)
  · have h := h1 hc
    refine z_loc [1, 2, 0, 3] rfl ?_
    exact zb_X11_findGoal_134 hX hQ hnL hR56 h
  · have h := h2 hc
    refine z_aload_n (r := (some h0)) hX dX11_findGoal_109 rfl 1 rfl ?_
    refine gf_RX11_63 (r := (some h0)) hX dX11_findGoal_110 rfl hk43 ?_
    refine z_iload hX dX11_findGoal_113 4 rfl ?_
    obtain ⟨a48, ha49, h⟩ := h
    obtain ⟨hk50, h⟩ := h
    obtain ⟨hc51, h⟩ := h
    refine y_lald (r := (mR M 733 h0)) hX dX11_findGoal_115 ha49 hk50 hc51 ?_
    refine z_ldc2 (v := (9000000000000000000 : Int64)) hX dX11_findGoal_116 kj_RX11_298 ?_
    refine z_lcmp hX dX11_findGoal_119 ?_
    obtain ⟨h1, h2⟩ := h
    refine z_if_eq (tgt := 134) hX dX11_findGoal_120 (by decide) (fun hc => ?_) (fun hc => ?_)
    · have h := h1 ((lg_cmp_eq _ _).mp hc)
      refine z_loc [1, 2, 0, 3] rfl ?_
      exact zb_X11_findGoal_134 hX hQ hnL hR56 h
    · have h := h2 (fun q => hc ((lg_cmp_eq _ _).mpr q))
      refine z_aload_n (r := (some h0)) hX dX11_findGoal_123 rfl 1 rfl ?_
      refine z_aload_n (r := (some h0)) hX dX11_findGoal_124 rfl 1 rfl ?_
      refine gf_RX11_63 (r := (some h0)) hX dX11_findGoal_125 rfl hk43 ?_
      refine z_iload hX dX11_findGoal_128 4 rfl ?_
      obtain ⟨hc52, h⟩ := h
      refine y_lald (r := (mR M 733 h0)) hX dX11_findGoal_130 ha49 hk50 hc52 ?_
      refine z_callVV (As := [.long (aJ M a48 (l4).toNatClampNeg)]) (rest := []) (ci := 11) hX (ct_X11_least h) mw_RX11_356 rfl (by decide) rfl (by rfl) (by unfold RoomC; decide) (by decide) dX11_findGoal_131 hk43 (fun M54 h => ?_)
      refine z_loc [1, 2, 0, 3] rfl ?_
      exact zb_X11_findGoal_134 hX hQ hnL hR56 h
def lp_X11_findGoal_56 (h0 : Nat) (K : Mm → Prop) : Nat → Int32 → Int32 → Int32 → Mm → Prop
  | 0, _, _, _, _ => False
  | n + 1, l1, l2, l3, M => mK M h0 = 12 ∧ ∃ a57, (mR M 724 h0) = some a57 ∧ isA M a57 1 ∧ vp_in ((12 : Int32) + l1) (aN M a57) ∧ (((aI M a57 (((12 : Int32) + l1)).toNatClampNeg) ≤ l3 → ((l2 = 0 → (bk_X11_findGoal_226 h0 K M)) ∧ (¬ l2 = 0 → (wp_X11_least M h0 (9000000000000000000 : Int64) (fun M62 => (bk_X11_findGoal_226 h0 K M62)))))) ∧ (¬ (aI M a57 (((12 : Int32) + l1)).toNatClampNeg) ≤ l3 → (wp_X11_inputOf M h0 l1 l3 (fun r64 M65 => mK M65 h0 = 12 ∧ ∃ a68, (mR M65 733 h0) = some a68 ∧ isA M65 a68 2 ∧ vp_in r64 (aN M65 a68) ∧ ((¬ (aJ M65 a68 (r64).toNatClampNeg) = (9000000000000000000 : Int64) → (bk_X11_findGoal_97 h0 (lp_X11_findGoal_56 h0 K n) K l1 l3 r64 (0 : Int32) l2 M65)) ∧ ((aJ M65 a68 (r64).toNatClampNeg) = (9000000000000000000 : Int64) → (bk_X11_findGoal_97 h0 (lp_X11_findGoal_56 h0 K n) K l1 l3 r64 (1 : Int32) l2 M65)))))))
set_option maxRecDepth 100000 in
set_option maxHeartbeats 4000000 in
theorem zl_X11_findGoal_56 {X : Cx} {h0 : Nat} {K : Mm → Prop} (hX : Ok X cX11_findGoal RX11 rm_X11_findGoal) (hQ : Rq X rm_X11_findGoal none (QV K)) (hnL : X.2.2.2.2.2.2.2.2.2.2.2.2.2.2 = 5) : ∀ (n : Nat) (l1 : Int32) (l2 : Int32) (l3 : Int32) (M : Mm), lp_X11_findGoal_56 h0 K n l1 l2 l3 M → Z X M 0 0 56 [(0, va_rf (some h0)), (1, .int l1), (2, .int l2), (3, .int l3)] [] := by
  intro n
  induction n with
  | zero =>
    intro l1 l2 l3 M h
    exact False.elim h
  | succ n hR56 =>
    intro l1 l2 l3 M h
    refine z_iload_n hX dX11_findGoal_56 rfl 3 rfl ?_
    refine z_aload_n (r := (some h0)) hX dX11_findGoal_57 rfl 0 rfl ?_
    obtain ⟨hk56, h⟩ := h
    refine gf_RX11_45 (r := (some h0)) hX dX11_findGoal_58 rfl hk56 ?_
    refine z_bipush (v := (12 : Int32)) hX dX11_findGoal_61 (by decide) ?_
    refine z_iload_n hX dX11_findGoal_63 rfl 1 rfl ?_
    refine z_iadd hX dX11_findGoal_64 ?_
    obtain ⟨a57, ha58, h⟩ := h
    obtain ⟨hk59, h⟩ := h
    obtain ⟨hc60, h⟩ := h
    refine y_iald (r := (mR M 724 h0)) hX dX11_findGoal_65 ha58 hk59 hc60 ?_
    obtain ⟨h1, h2⟩ := h
    refine z_icmp_ge (tgt := 140) hX dX11_findGoal_66 (by decide) (fun hc => ?_) (fun hc => ?_)
    · have h := h1 hc
      refine z_iload_n hX dX11_findGoal_140 rfl 2 rfl ?_
      obtain ⟨h1, h2⟩ := h
      refine z_if_eq (tgt := 226) hX dX11_findGoal_141 (by decide) (fun hc => ?_) (fun hc => ?_)
      · have h := h1 hc
        refine z_loc [] rfl ?_
        exact zb_X11_findGoal_226 hX hQ hnL h
      · have h := h2 hc
        refine z_aload_n (r := (some h0)) hX dX11_findGoal_144 rfl 0 rfl ?_
        refine z_ldc2 (v := (9000000000000000000 : Int64)) hX dX11_findGoal_145 kj_RX11_298 ?_
        refine z_callVV (As := [.long (9000000000000000000 : Int64)]) (rest := []) (ci := 11) hX (ct_X11_least h) mw_RX11_356 rfl (by decide) rfl (by rfl) (by unfold RoomC; decide) (by decide) dX11_findGoal_148 hk56 (fun M62 h => ?_)
        refine z_goto (tgt := 226) hX dX11_findGoal_151 (by decide) ?_
        refine z_loc [] rfl ?_
        exact zb_X11_findGoal_226 hX hQ hnL h
    · have h := h2 hc
      refine z_aload_n (r := (some h0)) hX dX11_findGoal_69 rfl 0 rfl ?_
      refine z_iload_n hX dX11_findGoal_70 rfl 1 rfl ?_
      refine z_iload_n hX dX11_findGoal_71 rfl 3 rfl ?_
      refine z_callVI (As := [.int l1, .int l3]) (rest := []) (ci := 11) hX (ct_X11_inputOf h) mw_RX11_318 rfl (by decide) rfl (by rfl) (by unfold RoomC; decide) (by decide) dX11_findGoal_72 hk56 (fun r64 M65 h => ?_)
      refine z_istore hX [(4, .int r64), (0, va_rf (some h0)), (1, .int l1), (2, .int l2), (3, .int l3)] dX11_findGoal_75 (by rw [hnL]; decide) rfl ?_
      refine z_iload_n hX dX11_findGoal_77 rfl 3 rfl ?_
      refine z_aload_n (r := (some h0)) hX dX11_findGoal_78 rfl 1 rfl ?_
      obtain ⟨hk67, h⟩ := h
      refine gf_RX11_63 (r := (some h0)) hX dX11_findGoal_79 rfl hk67 ?_
      refine z_iload hX dX11_findGoal_82 0 rfl ?_
      obtain ⟨a68, ha69, h⟩ := h
      obtain ⟨hk70, h⟩ := h
      obtain ⟨hc71, h⟩ := h
      refine y_lald (r := (mR M65 733 h0)) hX dX11_findGoal_84 ha69 hk70 hc71 ?_
      refine z_ldc2 (v := (9000000000000000000 : Int64)) hX dX11_findGoal_85 kj_RX11_298 ?_
      refine z_lcmp hX dX11_findGoal_88 ?_
      obtain ⟨h1, h2⟩ := h
      refine z_if_ne (tgt := 96) hX dX11_findGoal_89 (by decide) (fun hc => ?_) (fun hc => ?_)
      · have h := h1 (fun q => hc ((lg_cmp_eq _ _).mpr q))
        refine z_iconst (v := (0 : Int32)) hX dX11_findGoal_96 (by decide) ?_
        refine z_loc [1, 2, 4, 0] rfl ?_
        exact zb_X11_findGoal_97 hX hQ hnL hR56 h
      · have h := h2 ((lg_cmp_eq _ _).mp hc)
        refine z_iconst (v := (1 : Int32)) hX dX11_findGoal_92 (by decide) ?_
        refine z_goto (tgt := 97) hX dX11_findGoal_93 (by decide) ?_
        refine z_loc [1, 2, 4, 0] rfl ?_
        exact zb_X11_findGoal_97 hX hQ hnL hR56 h
def bk_X11_findGoal_52 (h0 : Nat) (K : Mm → Prop) (l1 : Int32) (M : Mm) : Prop := (∃ kk, lp_X11_findGoal_56 h0 K kk l1 (1 : Int32) (0 : Int32) M)
set_option maxRecDepth 100000 in
set_option maxHeartbeats 4000000 in
theorem zb_X11_findGoal_52 {X : Cx} {h0 : Nat} {K : Mm → Prop} (hX : Ok X cX11_findGoal RX11 rm_X11_findGoal) (hQ : Rq X rm_X11_findGoal none (QV K)) (hnL : X.2.2.2.2.2.2.2.2.2.2.2.2.2.2 = 5) {l1 : Int32} {M : Mm} (h : bk_X11_findGoal_52 h0 K l1 M) : Z X M 0 0 52 [(0, va_rf (some h0)), (1, .int l1)] [] := by
  unfold bk_X11_findGoal_52 at h
  refine z_iconst (v := (1 : Int32)) hX dX11_findGoal_52 (by decide) ?_
  refine z_istore_n hX [(2, .int (1 : Int32)), (0, va_rf (some h0)), (1, .int l1)] dX11_findGoal_53 rfl (by rw [hnL]; decide) rfl ?_
  refine z_iconst (v := (0 : Int32)) hX dX11_findGoal_54 (by decide) ?_
  refine z_istore_n hX [(3, .int (0 : Int32)), (2, .int (1 : Int32)), (0, va_rf (some h0)), (1, .int l1)] dX11_findGoal_55 rfl (by rw [hnL]; decide) rfl ?_
  refine z_loc [2, 3, 1, 0] rfl ?_
  obtain ⟨n, h⟩ := h
  exact zl_X11_findGoal_56 hX hQ hnL n _ _ _ _ h
def wp_X11_findGoal (M : Mm) (h0 : Nat) (p1 : Int32) (K : Mm → Prop) : Prop := mK M h0 = 12 ∧ (wp_X11_kindOf (sI M 756 h0 (0 : Int32)) h0 p1 (fun r74 M75 => (((r74).toInt < 0 ∨ 4 < (r74).toInt ∨ r74 = 2 → (bk_X11_findGoal_162 h0 K p1 M75)) ∧ (r74 = 0 → mK M75 h0 = 12 ∧ (wp_X11_sourceGoal M75 h0 p1 (fun M78 => (bk_X11_findGoal_226 h0 K M78)))) ∧ (r74 = 1 → (bk_X11_findGoal_52 h0 K p1 M75)) ∧ (r74 = 3 → mK M75 h0 = 12 ∧ (wp_X11_holdGoal M75 h0 p1 (fun M82 => (bk_X11_findGoal_226 h0 K M82)))) ∧ (r74 = 4 → (bk_X11_findGoal_52 h0 K p1 M75)))))
set_option maxRecDepth 100000 in
set_option maxHeartbeats 4000000 in
theorem ct_X11_findGoal {M : Mm} {h0 : Nat} {p1 : Int32} {K : Mm → Prop} (h : wp_X11_findGoal M h0 p1 K) : CtV yX11_findGoal cX11_findGoal 5 none rm_X11_findGoal [.ref h0, .int p1] M K := by
  refine ct_any (QV K) (by decide) (by exact Nat.le_of_ble_eq_true rfl) (fun X hX hQ hnL hnm => ?_)
  rw [show lv_args 0 [.ref h0, .int p1] = [(0, va_rf (some h0)), (1, .int p1)] by rfl]
  have hX : Ok X cX11_findGoal RX11 rm_X11_findGoal := hX
  unfold wp_X11_findGoal at h
  refine z_aload_n (r := (some h0)) hX dX11_findGoal_0 rfl 0 rfl ?_
  refine z_iconst (v := (0 : Int32)) hX dX11_findGoal_1 (by decide) ?_
  obtain ⟨hk72, h⟩ := h
  refine pf_RX11_347 (r := (some h0)) (v := (0 : Int32)) hX dX11_findGoal_2 rfl (Or.inl rfl) hk72 ?_
  refine z_aload_n (r := (some h0)) hX dX11_findGoal_5 rfl 0 rfl ?_
  refine z_iload_n hX dX11_findGoal_6 rfl 1 rfl ?_
  refine z_callVI (As := [.int p1]) (rest := []) (ci := 11) hX (ct_X11_kindOf h) mw_RX11_308 rfl (by decide) rfl (by rfl) (by unfold RoomC; decide) (by decide) dX11_findGoal_7 hk72 (fun r74 M75 h => ?_)
  obtain ⟨hD, h1, h2, h3, h4⟩ := h
  by_cases hlo : (r74).toInt < 0 ∨ 4 < (r74).toInt
  · have h := hD (hlo.elim Or.inl (fun q => Or.inr (Or.inl q)))
    refine z_tswD (tgt := 162) hX dX11_findGoal_10 hlo (by decide) ?_
    exact zb_X11_findGoal_162 hX hQ hnL h
  · rcases (show (r74).toInt = 0 ∨ (r74).toInt = 1 ∨ (r74).toInt = 2 ∨ (r74).toInt = 3 ∨ (r74).toInt = 4 by omega) with hj | hj | hj | hj | hj
    · have hx9 : r74 = 0 := Int32.toInt_inj.mp (by rw [hj]; rfl)
      have h := h1 hx9
      refine z_tswI (off := 34) (tgt := 44) hX dX11_findGoal_10 (by rw [hx9]; decide) (by rw [hx9]; decide) (by rw [hx9]; rfl) (by decide) ?_
      refine z_aload_n (r := (some h0)) hX dX11_findGoal_44 rfl 0 rfl ?_
      refine z_iload_n hX dX11_findGoal_45 rfl 1 rfl ?_
      obtain ⟨hk79, h⟩ := h
      refine z_callVV (As := [.int p1]) (rest := []) (ci := 11) hX (ct_X11_sourceGoal h) mw_RX11_353 rfl (by decide) rfl (by rfl) (by unfold RoomC; decide) (by decide) dX11_findGoal_46 hk79 (fun M78 h => ?_)
      refine z_goto (tgt := 226) hX dX11_findGoal_49 (by decide) ?_
      refine z_loc [] rfl ?_
      exact zb_X11_findGoal_226 hX hQ hnL h
    · have hx9 : r74 = 1 := Int32.toInt_inj.mp (by rw [hj]; rfl)
      have h := h2 hx9
      refine z_tswI (off := 42) (tgt := 52) hX dX11_findGoal_10 (by rw [hx9]; decide) (by rw [hx9]; decide) (by rw [hx9]; rfl) (by decide) ?_
      exact zb_X11_findGoal_52 hX hQ hnL h
    · have hx9 : r74 = 2 := Int32.toInt_inj.mp (by rw [hj]; rfl)
      have h := hD (Or.inr (Or.inr (hx9)))
      refine z_tswI (off := 152) (tgt := 162) hX dX11_findGoal_10 (by rw [hx9]; decide) (by rw [hx9]; decide) (by rw [hx9]; rfl) (by decide) ?_
      exact zb_X11_findGoal_162 hX hQ hnL h
    · have hx9 : r74 = 3 := Int32.toInt_inj.mp (by rw [hj]; rfl)
      have h := h3 hx9
      refine z_tswI (off := 144) (tgt := 154) hX dX11_findGoal_10 (by rw [hx9]; decide) (by rw [hx9]; decide) (by rw [hx9]; rfl) (by decide) ?_
      refine z_aload_n (r := (some h0)) hX dX11_findGoal_154 rfl 0 rfl ?_
      refine z_iload_n hX dX11_findGoal_155 rfl 1 rfl ?_
      obtain ⟨hk83, h⟩ := h
      refine z_callVV (As := [.int p1]) (rest := []) (ci := 11) hX (ct_X11_holdGoal h) mw_RX11_360 rfl (by decide) rfl (by rfl) (by unfold RoomC; decide) (by decide) dX11_findGoal_156 hk83 (fun M82 h => ?_)
      refine z_goto (tgt := 226) hX dX11_findGoal_159 (by decide) ?_
      refine z_loc [] rfl ?_
      exact zb_X11_findGoal_226 hX hQ hnL h
    · have hx9 : r74 = 4 := Int32.toInt_inj.mp (by rw [hj]; rfl)
      have h := h4 hx9
      refine z_tswI (off := 42) (tgt := 52) hX dX11_findGoal_10 (by rw [hx9]; decide) (by rw [hx9]; decide) (by rw [hx9]; rfl) (by decide) ?_
      exact zb_X11_findGoal_52 hX hQ hnL h
def rm_X11_kept : Room := { frames := 2, cells := 0, slots := 0, locals := 42 }
def bk_X11_kept_19 (h0 : Nat) (K : Int32 → Mm → Prop) (M : Mm) : Prop := mK M h0 = 12 ∧ (K (0 : Int32) (sI M 704 h0 (2 : Int32)))
set_option maxRecDepth 100000 in
set_option maxHeartbeats 4000000 in
theorem zb_X11_kept_19 {X : Cx} {h0 : Nat} {K : Int32 → Mm → Prop} (hX : Ok X cX11_kept RX11 rm_X11_kept) (hQ : Rq X rm_X11_kept (some .int) (QI K)) (hnL : X.2.2.2.2.2.2.2.2.2.2.2.2.2.2 = 3) {M : Mm} (h : bk_X11_kept_19 h0 K M) : Z X M 0 0 19 [(0, va_rf (some h0))] [] := by
  unfold bk_X11_kept_19 at h
  refine z_aload_n (r := (some h0)) hX dX11_kept_19 rfl 0 rfl ?_
  refine z_iconst (v := (2 : Int32)) hX dX11_kept_20 (by decide) ?_
  obtain ⟨hk1, h⟩ := h
  refine pf_RX11_123 (r := (some h0)) (v := (2 : Int32)) hX dX11_kept_21 rfl hk1 ?_
  refine z_iconst (v := (0 : Int32)) hX dX11_kept_24 (by decide) ?_
  exact z_iret hX hQ dX11_kept_25 h
def bk_X11_kept_89 (h0 : Nat) (K : Int32 → Mm → Prop) (s0 : Int32) (M : Mm) : Prop := (K s0 M)
set_option maxRecDepth 100000 in
set_option maxHeartbeats 4000000 in
theorem zb_X11_kept_89 {X : Cx} {h0 : Nat} {K : Int32 → Mm → Prop} (hX : Ok X cX11_kept RX11 rm_X11_kept) (hQ : Rq X rm_X11_kept (some .int) (QI K)) (hnL : X.2.2.2.2.2.2.2.2.2.2.2.2.2.2 = 3) {s0 : Int32} {M : Mm} (h : bk_X11_kept_89 h0 K s0 M) : Z X M 0 0 89 [] [.int s0] := by
  unfold bk_X11_kept_89 at h
  exact z_iret hX hQ dX11_kept_89 h
def wp_X11_kept (M : Mm) (h0 : Nat) (p1 : Int32) (p2 : Int32) (K : Int32 → Mm → Prop) : Prop := mK M h0 = 12 ∧ (wp_X11_mustBe M h0 p1 (fun r3 M4 => ((¬ r3 = 0 → ((p2 < 0 → (bk_X11_kept_19 h0 K M4)) ∧ (¬ p2 < 0 → ((p2 ≤ (1 : Int32) → mK M4 h0 = 12 ∧ (wp_X11_kindOf M4 h0 p1 (fun r7 M8 => ((¬ r7 = (4 : Int32) → ((¬ p2 = (1 : Int32) → mK M8 h0 = 12 ∧ (wp_X11_kindOf M8 h0 p1 (fun r11 M12 => ((¬ r11 = (5 : Int32) → mK M12 h0 = 12 ∧ (wp_X11_kindOf M12 h0 p1 (fun r15 M16 => ((¬ r15 = (3 : Int32) → (bk_X11_kept_89 h0 K (0 : Int32) M16)) ∧ (r15 = (3 : Int32) → mK M16 h0 = 12 ∧ (wp_X11_heldIn M16 h0 p1 (fun r19 M20 => (bk_X11_kept_89 h0 K r19 M20)))))))) ∧ (r11 = (5 : Int32) → mK M12 h0 = 12 ∧ ∃ a24, (mR M12 744 h0) = some a24 ∧ isA M12 a24 1 ∧ vp_in p1 (aN M12 a24) ∧ (bk_X11_kept_89 h0 K (aI M12 a24 (p1).toNatClampNeg) M12)))))) ∧ (p2 = (1 : Int32) → (K (0 : Int32) M8)))) ∧ (r7 = (4 : Int32) → mK M8 h0 = 12 ∧ ∃ a29, (mR M8 748 h0) = some a29 ∧ isA M8 a29 1 ∧ vp_in (((2 : Int32) * p1) + p2) (aN M8 a29) ∧ (K (aI M8 a29 ((((2 : Int32) * p1) + p2)).toNatClampNeg) M8)))))) ∧ (¬ p2 ≤ (1 : Int32) → (bk_X11_kept_19 h0 K M4)))))) ∧ (r3 = 0 → (K (0 : Int32) M4)))))
set_option maxRecDepth 100000 in
set_option maxHeartbeats 4000000 in
theorem ct_X11_kept {M : Mm} {h0 : Nat} {p1 : Int32} {p2 : Int32} {K : Int32 → Mm → Prop} (h : wp_X11_kept M h0 p1 p2 K) : CtI yX11_kept cX11_kept 3 (some .int) rm_X11_kept [.ref h0, .int p1, .int p2] M K := by
  refine ct_any (QI K) (by decide) (by exact Nat.le_of_ble_eq_true rfl) (fun X hX hQ hnL hnm => ?_)
  rw [show lv_args 0 [.ref h0, .int p1, .int p2] = [(0, va_rf (some h0)), (1, .int p1), (2, .int p2)] by rfl]
  have hX : Ok X cX11_kept RX11 rm_X11_kept := hX
  unfold wp_X11_kept at h
  refine z_aload_n (r := (some h0)) hX dX11_kept_0 rfl 0 rfl ?_
  refine z_iload_n hX dX11_kept_1 rfl 1 rfl ?_
  obtain ⟨hk5, h⟩ := h
  refine z_callVI (As := [.int p1]) (rest := []) (ci := 11) hX (ct_X11_mustBe h) mw_RX11_398 rfl (by decide) rfl (by rfl) (by unfold RoomC; decide) (by decide) dX11_kept_2 hk5 (fun r3 M4 h => ?_)
  obtain ⟨h1, h2⟩ := h
  refine z_if_ne (tgt := 10) hX dX11_kept_5 (by decide) (fun hc => ?_) (fun hc => ?_)
  · have h := h1 hc
    refine z_iload_n hX dX11_kept_10 rfl 2 rfl ?_
    obtain ⟨h1, h2⟩ := h
    refine z_if_lt (tgt := 19) hX dX11_kept_11 (by decide) (fun hc => ?_) (fun hc => ?_)
    · have h := h1 hc
      refine z_loc [0] rfl ?_
      exact zb_X11_kept_19 hX hQ hnL h
    · have h := h2 hc
      refine z_iload_n hX dX11_kept_14 rfl 2 rfl ?_
      refine z_iconst (v := (1 : Int32)) hX dX11_kept_15 (by decide) ?_
      obtain ⟨h1, h2⟩ := h
      refine z_icmp_le (tgt := 26) hX dX11_kept_16 (by decide) (fun hc => ?_) (fun hc => ?_)
      · have h := h1 hc
        refine z_aload_n (r := (some h0)) hX dX11_kept_26 rfl 0 rfl ?_
        refine z_iload_n hX dX11_kept_27 rfl 1 rfl ?_
        obtain ⟨hk9, h⟩ := h
        refine z_callVI (As := [.int p1]) (rest := []) (ci := 11) hX (ct_X11_kindOf h) mw_RX11_308 rfl (by decide) rfl (by rfl) (by unfold RoomC; decide) (by decide) dX11_kept_28 hk9 (fun r7 M8 h => ?_)
        refine z_iconst (v := (4 : Int32)) hX dX11_kept_31 (by decide) ?_
        obtain ⟨h1, h2⟩ := h
        refine z_icmp_ne (tgt := 46) hX dX11_kept_32 (by decide) (fun hc => ?_) (fun hc => ?_)
        · have h := h1 hc
          refine z_iload_n hX dX11_kept_46 rfl 2 rfl ?_
          refine z_iconst (v := (1 : Int32)) hX dX11_kept_47 (by decide) ?_
          obtain ⟨h1, h2⟩ := h
          refine z_icmp_ne (tgt := 53) hX dX11_kept_48 (by decide) (fun hc => ?_) (fun hc => ?_)
          · have h := h1 hc
            refine z_aload_n (r := (some h0)) hX dX11_kept_53 rfl 0 rfl ?_
            refine z_iload_n hX dX11_kept_54 rfl 1 rfl ?_
            obtain ⟨hk13, h⟩ := h
            refine z_callVI (As := [.int p1]) (rest := []) (ci := 11) hX (ct_X11_kindOf h) mw_RX11_308 rfl (by decide) rfl (by rfl) (by unfold RoomC; decide) (by decide) dX11_kept_55 hk13 (fun r11 M12 h => ?_)
            refine z_iconst (v := (5 : Int32)) hX dX11_kept_58 (by decide) ?_
            obtain ⟨h1, h2⟩ := h
            refine z_icmp_ne (tgt := 71) hX dX11_kept_59 (by decide) (fun hc => ?_) (fun hc => ?_)
            · have h := h1 hc
              refine z_aload_n (r := (some h0)) hX dX11_kept_71 rfl 0 rfl ?_
              refine z_iload_n hX dX11_kept_72 rfl 1 rfl ?_
              obtain ⟨hk17, h⟩ := h
              refine z_callVI (As := [.int p1]) (rest := []) (ci := 11) hX (ct_X11_kindOf h) mw_RX11_308 rfl (by decide) rfl (by rfl) (by unfold RoomC; decide) (by decide) dX11_kept_73 hk17 (fun r15 M16 h => ?_)
              refine z_iconst (v := (3 : Int32)) hX dX11_kept_76 (by decide) ?_
              obtain ⟨h1, h2⟩ := h
              refine z_icmp_ne (tgt := 88) hX dX11_kept_77 (by decide) (fun hc => ?_) (fun hc => ?_)
              · have h := h1 hc
                refine z_iconst (v := (0 : Int32)) hX dX11_kept_88 (by decide) ?_
                refine z_loc [] rfl ?_
                exact zb_X11_kept_89 hX hQ hnL h
              · have h := h2 hc
                refine z_aload_n (r := (some h0)) hX dX11_kept_80 rfl 0 rfl ?_
                refine z_iload_n hX dX11_kept_81 rfl 1 rfl ?_
                obtain ⟨hk21, h⟩ := h
                refine z_callVI (As := [.int p1]) (rest := []) (ci := 11) hX (ct_X11_heldIn h) mw_RX11_401 rfl (by decide) rfl (by rfl) (by unfold RoomC; decide) (by decide) dX11_kept_82 hk21 (fun r19 M20 h => ?_)
                refine z_goto (tgt := 89) hX dX11_kept_85 (by decide) ?_
                refine z_loc [] rfl ?_
                exact zb_X11_kept_89 hX hQ hnL h
            · have h := h2 hc
              refine z_aload_n (r := (some h0)) hX dX11_kept_62 rfl 0 rfl ?_
              obtain ⟨hk23, h⟩ := h
              refine gf_RX11_84 (r := (some h0)) hX dX11_kept_63 rfl hk23 ?_
              refine z_iload_n hX dX11_kept_66 rfl 1 rfl ?_
              obtain ⟨a24, ha25, h⟩ := h
              obtain ⟨hk26, h⟩ := h
              obtain ⟨hc27, h⟩ := h
              refine y_iald (r := (mR M12 744 h0)) hX dX11_kept_67 ha25 hk26 hc27 ?_
              refine z_goto (tgt := 89) hX dX11_kept_68 (by decide) ?_
              refine z_loc [] rfl ?_
              exact zb_X11_kept_89 hX hQ hnL h
          · have h := h2 hc
            refine z_iconst (v := (0 : Int32)) hX dX11_kept_51 (by decide) ?_
            exact z_iret hX hQ dX11_kept_52 h
        · have h := h2 hc
          refine z_aload_n (r := (some h0)) hX dX11_kept_35 rfl 0 rfl ?_
          obtain ⟨hk28, h⟩ := h
          refine gf_RX11_96 (r := (some h0)) hX dX11_kept_36 rfl hk28 ?_
          refine z_iconst (v := (2 : Int32)) hX dX11_kept_39 (by decide) ?_
          refine z_iload_n hX dX11_kept_40 rfl 1 rfl ?_
          refine z_imul hX dX11_kept_41 ?_
          refine z_iload_n hX dX11_kept_42 rfl 2 rfl ?_
          refine z_iadd hX dX11_kept_43 ?_
          obtain ⟨a29, ha30, h⟩ := h
          obtain ⟨hk31, h⟩ := h
          obtain ⟨hc32, h⟩ := h
          refine y_iald (r := (mR M8 748 h0)) hX dX11_kept_44 ha30 hk31 hc32 ?_
          exact z_iret hX hQ dX11_kept_45 h
      · have h := h2 hc
        refine z_loc [0] rfl ?_
        exact zb_X11_kept_19 hX hQ hnL h
  · have h := h2 hc
    refine z_iconst (v := (0 : Int32)) hX dX11_kept_8 (by decide) ?_
    exact z_iret hX hQ dX11_kept_9 h
def rm_X2_keep : Room := { frames := 2, cells := 0, slots := 0, locals := 48 }
def bk_X2_keep_22 (h0 : Nat) (K : Int32 → Mm → Prop) (l1 : Int32) (l2 : Int64) (l4 : Int32) (l5 : Int32) (l6 : Int32) (M : Mm) : Prop := mK M h0 = 3 ∧ ∃ a2, (mR M 132 h0) = some a2 ∧ isA M a2 1 ∧ vp_in l1 (aN M a2) ∧ (wp_X2_put M h0 l1 (aI M a2 (l1).toNatClampNeg) l2 l4 l5 (fun M7 => mK M7 h0 = 3 ∧ ∃ a10, (mR M7 132 h0) = some a10 ∧ isA M7 a10 1 ∧ vp_in l1 (aN M7 a10) ∧ vp_in l1 (aN M7 a10) ∧ (K l6 (tI M7 a10 (l1).toNatClampNeg ((aI M7 a10 (l1).toNatClampNeg) + (1 : Int32))))))
set_option maxRecDepth 100000 in
set_option maxHeartbeats 4000000 in
theorem zb_X2_keep_22 {X : Cx} {h0 : Nat} {K : Int32 → Mm → Prop} (hX : Ok X cX2_keep RX2 rm_X2_keep) (hQ : Rq X rm_X2_keep (some .int) (QI K)) (hnL : X.2.2.2.2.2.2.2.2.2.2.2.2.2.2 = 7) {l1 : Int32} {l2 : Int64} {l4 : Int32} {l5 : Int32} {l6 : Int32} {M : Mm} (h : bk_X2_keep_22 h0 K l1 l2 l4 l5 l6 M) : Z X M 0 0 22 [(0, va_rf (some h0)), (1, .int l1), (2, .long l2), (4, .int l4), (5, .int l5), (6, .int l6)] [] := by
  unfold bk_X2_keep_22 at h
  refine z_aload_n (r := (some h0)) hX dX2_keep_22 rfl 0 rfl ?_
  refine z_iload_n hX dX2_keep_23 rfl 1 rfl ?_
  refine z_aload_n (r := (some h0)) hX dX2_keep_24 rfl 0 rfl ?_
  obtain ⟨hk1, h⟩ := h
  refine gf_RX2_25 (r := (some h0)) hX dX2_keep_25 rfl hk1 ?_
  refine z_iload_n hX dX2_keep_28 rfl 1 rfl ?_
  obtain ⟨a2, ha3, h⟩ := h
  obtain ⟨hk4, h⟩ := h
  obtain ⟨hc5, h⟩ := h
  refine y_iald (r := (mR M 132 h0)) hX dX2_keep_29 ha3 hk4 hc5 ?_
  refine z_lload_n hX dX2_keep_30 rfl 2 rfl ?_
  refine z_iload hX dX2_keep_31 3 rfl ?_
  refine z_iload hX dX2_keep_33 4 rfl ?_
  refine z_callVV (As := [.int l1, .int (aI M a2 (l1).toNatClampNeg), .long l2, .int l4, .int l5]) (rest := []) (ci := 2) hX (ct_X2_put h) mw_RX2_55 rfl (by decide) rfl (by rfl) (by unfold RoomC; decide) (by decide) dX2_keep_35 hk1 (fun M7 h => ?_)
  refine z_aload_n (r := (some h0)) hX dX2_keep_38 rfl 0 rfl ?_
  obtain ⟨hk9, h⟩ := h
  refine gf_RX2_25 (r := (some h0)) hX dX2_keep_39 rfl hk9 ?_
  refine z_iload_n hX dX2_keep_42 rfl 1 rfl ?_
  refine z_dup2_11 hX dX2_keep_43 rfl (cat_rf _) ?_
  obtain ⟨a10, ha11, h⟩ := h
  obtain ⟨hk12, h⟩ := h
  obtain ⟨hc13, h⟩ := h
  refine y_iald (r := (mR M7 132 h0)) hX dX2_keep_44 ha11 hk12 hc13 ?_
  refine z_iconst (v := (1 : Int32)) hX dX2_keep_45 (by decide) ?_
  refine z_iadd hX dX2_keep_46 ?_
  obtain ⟨hc14, h⟩ := h
  refine y_iast (r := (mR M7 132 h0)) hX dX2_keep_47 ha11 hk12 hc14 ?_
  refine z_iload hX dX2_keep_48 5 rfl ?_
  exact z_iret hX hQ dX2_keep_50 h
def wp_X2_keep (M : Mm) (h0 : Nat) (p1 : Int32) (p2 : Int64) (p3 : Int32) (p4 : Int32) (K : Int32 → Mm → Prop) : Prop := mK M h0 = 3 ∧ ∃ a16, (mR M 132 h0) = some a16 ∧ isA M a16 1 ∧ vp_in p1 (aN M a16) ∧ (((aI M a16 (p1).toNatClampNeg) < (6 : Int32) → (bk_X2_keep_22 h0 K p1 p2 p3 p4 (0 : Int32) M)) ∧ (¬ (aI M a16 (p1).toNatClampNeg) < (6 : Int32) → (wp_X2_dropFirst M h0 p1 (fun M21 => (bk_X2_keep_22 h0 K p1 p2 p3 p4 (1 : Int32) M21)))))
set_option maxRecDepth 100000 in
set_option maxHeartbeats 4000000 in
theorem ct_X2_keep {M : Mm} {h0 : Nat} {p1 : Int32} {p2 : Int64} {p3 : Int32} {p4 : Int32} {K : Int32 → Mm → Prop} (h : wp_X2_keep M h0 p1 p2 p3 p4 K) : CtI yX2_keep cX2_keep 7 (some .int) rm_X2_keep [.ref h0, .int p1, .long p2, .int p3, .int p4] M K := by
  refine ct_any (QI K) (by decide) (by exact Nat.le_of_ble_eq_true rfl) (fun X hX hQ hnL hnm => ?_)
  rw [show lv_args 0 [.ref h0, .int p1, .long p2, .int p3, .int p4] = [(0, va_rf (some h0)), (1, .int p1), (2, .long p2), (4, .int p3), (5, .int p4)] by rfl]
  have hX : Ok X cX2_keep RX2 rm_X2_keep := hX
  unfold wp_X2_keep at h
  refine z_iconst (v := (0 : Int32)) hX dX2_keep_0 (by decide) ?_
  refine z_istore hX [(6, .int (0 : Int32)), (0, va_rf (some h0)), (1, .int p1), (2, .long p2), (4, .int p3), (5, .int p4)] dX2_keep_1 (by rw [hnL]; decide) rfl ?_
  refine z_aload_n (r := (some h0)) hX dX2_keep_3 rfl 1 rfl ?_
  obtain ⟨hk15, h⟩ := h
  refine gf_RX2_25 (r := (some h0)) hX dX2_keep_4 rfl hk15 ?_
  refine z_iload_n hX dX2_keep_7 rfl 2 rfl ?_
  obtain ⟨a16, ha17, h⟩ := h
  obtain ⟨hk18, h⟩ := h
  obtain ⟨hc19, h⟩ := h
  refine y_iald (r := (mR M 132 h0)) hX dX2_keep_8 ha17 hk18 hc19 ?_
  refine z_bipush (v := (6 : Int32)) hX dX2_keep_9 (by decide) ?_
  obtain ⟨h1, h2⟩ := h
  refine z_icmp_lt (tgt := 22) hX dX2_keep_11 (by decide) (fun hc => ?_) (fun hc => ?_)
  · have h := h1 hc
    refine z_loc [1, 2, 3, 4, 5, 0] rfl ?_
    exact zb_X2_keep_22 hX hQ hnL h
  · have h := h2 hc
    refine z_aload_n (r := (some h0)) hX dX2_keep_14 rfl 1 rfl ?_
    refine z_iload_n hX dX2_keep_15 rfl 2 rfl ?_
    refine z_callVV (As := [.int p1]) (rest := []) (ci := 2) hX (ct_X2_dropFirst h) mw_RX2_51 rfl (by decide) rfl (by rfl) (by unfold RoomC; decide) (by decide) dX2_keep_16 hk15 (fun M21 h => ?_)
    refine z_iconst (v := (1 : Int32)) hX dX2_keep_19 (by decide) ?_
    refine z_istore hX [(6, .int (1 : Int32)), (0, va_rf (some h0)), (1, .int p1), (2, .long p2), (4, .int p3), (5, .int p4)] dX2_keep_20 (by rw [hnL]; decide) rfl ?_
    refine z_loc [1, 2, 3, 4, 5, 0] rfl ?_
    exact zb_X2_keep_22 hX hQ hnL h
def rm_X7_readInput : Room := { frames := 3, cells := 0, slots := 0, locals := 65 }
def bk_X7_readInput_42 (h0 : Nat) (K : Int32 → Mm → Prop) (M : Mm) : Prop := mK M h0 = 8 ∧ (wp_X7_refuse M h0 (4 : Int32) (fun r1 M2 => (bz r1 ∧ K r1 M2)))
set_option maxRecDepth 100000 in
set_option maxHeartbeats 4000000 in
theorem zb_X7_readInput_42 {X : Cx} {h0 : Nat} {K : Int32 → Mm → Prop} (hX : Ok X cX7_readInput RX7 rm_X7_readInput) (hQ : Rq X rm_X7_readInput (some .boolean) (QI K)) (hnL : X.2.2.2.2.2.2.2.2.2.2.2.2.2.2 = 3) {M : Mm} (h : bk_X7_readInput_42 h0 K M) : Z X M 0 0 42 [(0, va_rf (some h0))] [] := by
  unfold bk_X7_readInput_42 at h
  refine z_aload_n (r := (some h0)) hX dX7_readInput_42 rfl 0 rfl ?_
  refine z_iconst (v := (4 : Int32)) hX dX7_readInput_43 (by decide) ?_
  obtain ⟨hk3, h⟩ := h
  refine z_callVI (As := [.int (4 : Int32)]) (rest := []) (ci := 7) hX (ct_X7_refuse h) mw_RX7_34 rfl (by decide) rfl (by rfl) (by unfold RoomC; decide) (by decide) dX7_readInput_44 hk3 (fun r1 M2 h => ?_)
  exact y_zret hX hQ dX7_readInput_47 h.1 h.2
def wp_X7_readInput (M : Mm) (h0 : Nat) (p1 : Option Nat) (K : Int32 → Mm → Prop) : Prop := mK M h0 = 8 ∧ ∃ a6, (mR M 448 h0) = some a6 ∧ mK M a6 = 5 ∧ (((mI M 258 a6) = (3 : Int32) → ∃ a11, (mR M 449 h0) = some a11 ∧ mK M a11 = 2 ∧ (wp_X1_named M a11 (mJ M 260 a6) (fun r9 M10 => ((r9 = none → (bk_X7_readInput_42 h0 K M10)) ∧ (∀ a15, r9 = some a15 → mK M10 a15 = 7 ∧ (((mR M10 389 a15) = none → ∃ a22, p1 = some a22 ∧ mK M10 a22 = 7 ∧ (wp_X6_addInput M10 a22 r9 (fun M21 => mK M21 a15 = 7 ∧ mK (sR M21 389 a15 p1) h0 = 8 ∧ ∃ a31, (mR (sR M21 389 a15 p1) 448 h0) = some a31 ∧ mK (sR M21 389 a15 p1) a31 = 5 ∧ (wp_X4_advance (sR M21 389 a15 p1) a31 (fun M30 => (K (1 : Int32) M30)))))) ∧ (∀ a18, (mR M10 389 a15) = some a18 → (bk_X7_readInput_42 h0 K M10)))))))) ∧ (¬ (mI M 258 a6) = (3 : Int32) → (wp_X7_refuseToken M h0 (fun r35 M36 => (bz r35 ∧ K r35 M36)))))
set_option maxRecDepth 100000 in
set_option maxHeartbeats 4000000 in
theorem ct_X7_readInput {M : Mm} {h0 : Nat} {p1 : Option Nat} {K : Int32 → Mm → Prop} (h : wp_X7_readInput M h0 p1 K) : CtI yX7_readInput cX7_readInput 3 (some .boolean) rm_X7_readInput [.ref h0, va_rf p1] M K := by
  refine ct_any (QI K) (by decide) (by cases p1 <;> exact Nat.le_of_ble_eq_true rfl) (fun X hX hQ hnL hnm => ?_)
  rw [show lv_args 0 [.ref h0, va_rf p1] = [(0, va_rf (some h0)), (1, va_rf p1)] by cases p1 <;> rfl]
  have hX : Ok X cX7_readInput RX7 rm_X7_readInput := hX
  unfold wp_X7_readInput at h
  refine z_aload_n (r := (some h0)) hX dX7_readInput_0 rfl 0 rfl ?_
  obtain ⟨hk5, h⟩ := h
  refine gf_RX7_9 (r := (some h0)) hX dX7_readInput_1 rfl hk5 ?_
  obtain ⟨a6, ha7, h⟩ := h
  obtain ⟨hk8, h⟩ := h
  refine gf_RX7_24 (r := (mR M 448 h0)) hX dX7_readInput_4 ha7 hk8 ?_
  refine z_iconst (v := (3 : Int32)) hX dX7_readInput_7 (by decide) ?_
  obtain ⟨h1, h2⟩ := h
  refine z_icmp_eq (tgt := 16) hX dX7_readInput_8 (by decide) (fun hc => ?_) (fun hc => ?_)
  · have h := h1 hc
    refine z_aload_n (r := (some h0)) hX dX7_readInput_16 rfl 0 rfl ?_
    refine gf_RX7_15 (r := (some h0)) hX dX7_readInput_17 rfl hk5 ?_
    refine z_aload_n (r := (some h0)) hX dX7_readInput_20 rfl 0 rfl ?_
    refine gf_RX7_9 (r := (some h0)) hX dX7_readInput_21 rfl hk5 ?_
    refine gf_RX7_81 (r := (mR M 448 h0)) hX dX7_readInput_24 ha7 hk8 ?_
    obtain ⟨a11, ha12, h⟩ := h
    obtain ⟨hk13, h⟩ := h
    refine z_callVR (As := [.long (mJ M 260 a6)]) (rest := []) (ci := 1) hX (ct_X1_named h) mw_RX7_87 rfl (by decide) rfl (by rw [ha12]; rfl) (by unfold RoomC; decide) (by decide) dX7_readInput_27 hk13 (fun r9 M10 h => ?_)
    refine z_astore_n (r := r9) (i := 2) hX [(2, va_rf r9), (0, va_rf (some h0)), (1, va_rf p1)] dX7_readInput_30 rfl (by rw [hnL]; decide) (by simp [cat_rf]) ?_
    refine z_aload_n (r := r9) hX dX7_readInput_31 rfl 0 rfl ?_
    obtain ⟨h1, h2⟩ := h
    refine z_ifnull (r := r9) (tgt := 42) hX dX7_readInput_32 (by decide) (fun hc => ?_) (fun a15 ha16 => ?_)
    · have h := h1 hc
      refine z_loc [1] rfl ?_
      exact zb_X7_readInput_42 hX hQ hnL h
    · have h := h2 a15 ha16
      refine z_aload_n (r := r9) hX dX7_readInput_35 rfl 0 rfl ?_
      obtain ⟨hk17, h⟩ := h
      refine gf_RX7_201 (r := r9) hX dX7_readInput_36 ha16 hk17 ?_
      obtain ⟨h1, h2⟩ := h
      refine z_ifnull (r := (mR M10 389 a15)) (tgt := 48) hX dX7_readInput_39 (by decide) (fun hc => ?_) (fun a18 ha19 => ?_)
      · have h := h1 hc
        refine z_aload_n (r := p1) hX dX7_readInput_48 rfl 2 rfl ?_
        refine z_aload_n (r := r9) hX dX7_readInput_49 rfl 0 rfl ?_
        obtain ⟨a22, ha23, h⟩ := h
        obtain ⟨hk24, h⟩ := h
        refine z_callVV (As := [va_rf r9]) (rest := []) (ci := 6) hX (ct_X6_addInput h) mw_RX7_205 rfl (by decide) rfl (by rw [ha23]; rfl) (by unfold RoomC; decide) (by decide) dX7_readInput_50 hk24 (fun M21 h => ?_)
        refine z_aload_n (r := r9) hX dX7_readInput_53 rfl 0 rfl ?_
        refine z_aload_n (r := p1) hX dX7_readInput_54 rfl 2 rfl ?_
        obtain ⟨hk26, h⟩ := h
        refine pf_RX7_201 (r := r9) (v := p1) hX dX7_readInput_55 ha16 hk26 ?_
        refine z_aload_n (r := (some h0)) hX dX7_readInput_58 rfl 1 rfl ?_
        obtain ⟨hk28, h⟩ := h
        refine gf_RX7_9 (r := (some h0)) hX dX7_readInput_59 rfl hk28 ?_
        obtain ⟨a31, ha32, h⟩ := h
        obtain ⟨hk33, h⟩ := h
        refine z_callVV (As := []) (rest := []) (ci := 4) hX (ct_X4_advance h) mw_RX7_19 rfl (by decide) rfl (by rw [ha32]; rfl) (by unfold RoomC; decide) (by decide) dX7_readInput_62 hk33 (fun M30 h => ?_)
        refine z_iconst (v := (1 : Int32)) hX dX7_readInput_65 (by decide) ?_
        exact y_zret hX hQ dX7_readInput_66 (Or.inr rfl) h
      · have h := h2 a18 ha19
        refine z_loc [1] rfl ?_
        exact zb_X7_readInput_42 hX hQ hnL h
  · have h := h2 hc
    refine z_aload_n (r := (some h0)) hX dX7_readInput_11 rfl 0 rfl ?_
    refine z_callVI (As := []) (rest := []) (ci := 7) hX (ct_X7_refuseToken h) mw_RX7_84 rfl (by decide) rfl (by rfl) (by unfold RoomC; decide) (by decide) dX7_readInput_12 hk5 (fun r35 M36 h => ?_)
    exact y_zret hX hQ dX7_readInput_15 h.1 h.2
