def rm_X10_build : Room := { frames := 7, cells := 295, slots := 2288, locals := 159 }
def wp_X10_build (M : Mm) (h0 : Nat) (K : Int32 → Mm → Prop) : Prop := (∀ q1, mK M q1 = 0 → (∀ q4, mK (nw M q1 8) q4 = 0 → mK (nw (nw M q1 8) q4 5) h0 = 11 ∧ (wp_X4_init (nw (nw M q1 8) q4 5) q4 (mR (nw (nw M q1 8) q4 5) 640 h0) (fun M9 => (∀ q11, mK M9 q11 = 0 → mK (nw M9 q11 2) h0 = 11 ∧ (wp_X1_init (nw M9 q11 2) q11 (mR (nw M9 q11 2) 642 h0) (mR (nw M9 q11 2) 643 h0) (fun M16 => (wp_X7_init M16 q1 (some q4) (some q11) (fun M19 => mK M19 q1 = 8 ∧ (wp_X7_readText M19 q1 (fun r21 M22 => mK M22 h0 = 11 ∧ ∃ a28, (mR M22 640 h0) = some a28 ∧ mK M22 a28 = 1 ∧ (wp_X0_clear M22 a28 (fun M27 => mK M27 q1 = 8 ∧ mK M27 h0 = 11 ∧ ((¬ r21 = 0 → ∃ a38, (mR (sR (sI M27 645 h0 (mI M27 450 q1)) 644 h0 (mR (sI M27 645 h0 (mI M27 450 q1)) 449 q1)) 642 h0) = some a38 ∧ mK (sR (sI M27 645 h0 (mI M27 450 q1)) 644 h0 (mR (sI M27 645 h0 (mI M27 450 q1)) 449 q1)) a38 = 4 ∧ (wp_X3_clear (sR (sI M27 645 h0 (mI M27 450 q1)) 644 h0 (mR (sI M27 645 h0 (mI M27 450 q1)) 449 q1)) a38 (fun M37 => mK M37 h0 = 11 ∧ ∃ a45, (mR M37 643 h0) = some a45 ∧ mK M37 a45 = 4 ∧ (wp_X3_clear M37 a45 (fun M44 => mK M44 h0 = 11 ∧ ∃ a50, (mR M44 644 h0) = some a50 ∧ mK M44 a50 = 2 ∧ (K (mI M44 69 a50) M44)))))) ∧ (r21 = 0 → (K ((-10 : Int32) - (mI (sI M27 645 h0 (mI M27 450 q1)) 451 q1)) (sI M27 645 h0 (mI M27 450 q1))))))))))))))))))
set_option maxRecDepth 100000 in
set_option maxHeartbeats 4000000 in
theorem ct_X10_build {M : Mm} {h0 : Nat} {K : Int32 → Mm → Prop} (h : wp_X10_build M h0 K) : CtI yX10_build cX10_build 3 (some .int) rm_X10_build [.ref h0] M K := by
  refine ct_any (QI K) (by decide) (by exact Nat.le_of_ble_eq_true rfl) (fun X hX hQ hnL hnm => ?_)
  rw [show lv_args 0 [.ref h0] = [(0, va_rf (some h0))] by rfl]
  have hX : Ok X cX10_build RX10 rm_X10_build := hX
  unfold wp_X10_build at h
  refine nq_RX10_45 hX dX10_build_0 (by decide) (by decide) (fun q1 hq2 => ?_)
  have h := h q1 hq2
  refine z_dup hX dX10_build_3 (cat_rf _) ?_
  refine nq_RX10_47 hX dX10_build_4 (by decide) (by decide) (fun q4 hq5 => ?_)
  have h := h q4 hq5
  refine z_dup hX dX10_build_7 (cat_rf _) ?_
  refine z_aload_n (r := (some h0)) hX dX10_build_8 rfl 0 rfl ?_
  obtain ⟨hk7, h⟩ := h
  refine gf_RX10_14 (r := (some h0)) hX dX10_build_9 rfl hk7 ?_
  refine z_callIV (As := [va_rf (mR (nw (nw M q1 8) q4 5) 640 h0)]) (rest := [va_rf (some q4), va_rf (some q1), va_rf (some q1)]) hX (ct_X4_init h) mw_RX10_49 rfl (by rfl) (by unfold RoomC; decide) (by simp only [List.map_cons, List.map_nil, List.sum_cons, List.sum_nil, cat_rf, cat_i, cat_j]; decide) dX10_build_12 (fun M9 h => ?_)
  refine nq_RX10_52 hX dX10_build_15 (by decide) (by decide) (fun q11 hq12 => ?_)
  have h := h q11 hq12
  refine z_dup hX dX10_build_18 (cat_rf _) ?_
  refine z_aload_n (r := (some h0)) hX dX10_build_19 rfl 0 rfl ?_
  obtain ⟨hk14, h⟩ := h
  refine gf_RX10_24 (r := (some h0)) hX dX10_build_20 rfl hk14 ?_
  refine z_aload_n (r := (some h0)) hX dX10_build_23 rfl 0 rfl ?_
  refine gf_RX10_28 (r := (some h0)) hX dX10_build_24 rfl hk14 ?_
  refine z_callIV (As := [va_rf (mR (nw M9 q11 2) 642 h0), va_rf (mR (nw M9 q11 2) 643 h0)]) (rest := [va_rf (some q11), va_rf (some q4), va_rf (some q1), va_rf (some q1)]) hX (ct_X1_init h) mw_RX10_54 rfl (by rfl) (by unfold RoomC; decide) (by simp only [List.map_cons, List.map_nil, List.sum_cons, List.sum_nil, cat_rf, cat_i, cat_j]; decide) dX10_build_27 (fun M16 h => ?_)
  refine z_callIV (As := [va_rf (some q4), va_rf (some q11)]) (rest := [va_rf (some q1)]) hX (ct_X7_init h) mw_RX10_57 rfl (by rfl) (by unfold RoomC; decide) (by simp only [List.map_cons, List.map_nil, List.sum_cons, List.sum_nil, cat_rf, cat_i, cat_j]; decide) dX10_build_30 (fun M19 h => ?_)
  refine z_astore_n (r := (some q1)) hX [(1, va_rf (some q1)), (0, va_rf (some h0))] dX10_build_33 rfl (by rw [hnL]; decide) rfl ?_
  refine z_aload_n (r := (some q1)) hX dX10_build_34 rfl 0 rfl ?_
  obtain ⟨hk23, h⟩ := h
  refine z_callVI (As := []) (rest := []) (ci := 7) hX (ct_X7_readText h) mw_RX10_60 rfl (by decide) rfl (by rfl) (by unfold RoomC; decide) (by decide) dX10_build_35 hk23 (fun r21 M22 h => ?_)
  refine z_istore_n hX [(2, .int r21), (1, va_rf (some q1)), (0, va_rf (some h0))] dX10_build_38 rfl (by rw [hnL]; decide) rfl ?_
  refine z_aload_n (r := (some h0)) hX dX10_build_39 rfl 2 rfl ?_
  obtain ⟨hk25, h⟩ := h
  refine gf_RX10_14 (r := (some h0)) hX dX10_build_40 rfl hk25 ?_
  obtain ⟨a28, ha29, h⟩ := h
  obtain ⟨hk30, h⟩ := h
  refine z_callVV (As := []) (rest := []) (ci := 0) hX (ct_X0_clear h) mw_RX10_64 rfl (by decide) rfl (by rw [ha29]; rfl) (by unfold RoomC; decide) (by decide) dX10_build_43 hk30 (fun M27 h => ?_)
  refine z_aload_n (r := (some h0)) hX dX10_build_46 rfl 2 rfl ?_
  refine z_aload_n (r := (some q1)) hX dX10_build_47 rfl 1 rfl ?_
  obtain ⟨hk32, h⟩ := h
  refine gf_RX10_67 (r := (some q1)) hX dX10_build_48 rfl hk32 ?_
  obtain ⟨hk33, h⟩ := h
  refine pf_RX10_35 (r := (some h0)) (v := (mI M27 450 q1)) hX dX10_build_51 rfl hk33 ?_
  refine z_iload_n hX dX10_build_54 rfl 0 rfl ?_
  obtain ⟨h1, h2⟩ := h
  refine z_if_ne (tgt := 66) hX dX10_build_55 (by decide) (fun hc => ?_) (fun hc => ?_)
  · have h := h1 hc
    refine z_aload_n (r := (some h0)) hX dX10_build_66 rfl 2 rfl ?_
    refine z_aload_n (r := (some q1)) hX dX10_build_67 rfl 1 rfl ?_
    refine gf_RX10_71 (r := (some q1)) hX dX10_build_68 rfl hk32 ?_
    refine pf_RX10_31 (r := (some h0)) (v := (mR (sI M27 645 h0 (mI M27 450 q1)) 449 q1)) hX dX10_build_71 rfl hk33 ?_
    refine z_aload_n (r := (some h0)) hX dX10_build_74 rfl 2 rfl ?_
    refine gf_RX10_24 (r := (some h0)) hX dX10_build_75 rfl hk33 ?_
    obtain ⟨a38, ha39, h⟩ := h
    obtain ⟨hk40, h⟩ := h
    refine z_callVV (As := []) (rest := []) (ci := 3) hX (ct_X3_clear h) mw_RX10_72 rfl (by decide) rfl (by rw [ha39]; rfl) (by unfold RoomC; decide) (by decide) dX10_build_78 hk40 (fun M37 h => ?_)
    refine z_aload_n (r := (some h0)) hX dX10_build_81 rfl 2 rfl ?_
    obtain ⟨hk42, h⟩ := h
    refine gf_RX10_28 (r := (some h0)) hX dX10_build_82 rfl hk42 ?_
    obtain ⟨a45, ha46, h⟩ := h
    obtain ⟨hk47, h⟩ := h
    refine z_callVV (As := []) (rest := []) (ci := 3) hX (ct_X3_clear h) mw_RX10_72 rfl (by decide) rfl (by rw [ha46]; rfl) (by unfold RoomC; decide) (by decide) dX10_build_85 hk47 (fun M44 h => ?_)
    refine z_aload_n (r := (some h0)) hX dX10_build_88 rfl 2 rfl ?_
    obtain ⟨hk49, h⟩ := h
    refine gf_RX10_31 (r := (some h0)) hX dX10_build_89 rfl hk49 ?_
    obtain ⟨a50, ha51, h⟩ := h
    obtain ⟨hk52, h⟩ := h
    refine gf_RX10_73 (r := (mR M44 644 h0)) hX dX10_build_92 ha51 hk52 ?_
    refine z_widen 295 2288 (by decide) (by decide) ?_
    exact z_iret hX hQ dX10_build_95 h
  · have h := h2 hc
    refine z_bipush (v := (-10 : Int32)) hX dX10_build_58 (by decide) ?_
    refine z_aload_n (r := (some q1)) hX dX10_build_60 rfl 1 rfl ?_
    refine gf_RX10_68 (r := (some q1)) hX dX10_build_61 rfl hk32 ?_
    refine z_isub hX dX10_build_64 ?_
    refine z_widen 295 2288 (by decide) (by decide) ?_
    exact z_iret hX hQ dX10_build_65 h
