def rm_X2_init : Room := { frames := 1, cells := 10, slots := 44, locals := 20 }
def wp_X2_init (M : Mm) (h0 : Nat) (p1 : Option Nat) (p2 : Option Nat) (p3 : Int64) (p4 : Int64) (K : Mm → Prop) : Prop := mK M h0 = 3 ∧ (∀ q6, mK (sJ (sJ (sR (sR M 128 h0 p1) 129 h0 p2) 130 h0 p3) 131 h0 p4) q6 = 0 → mK (na (sJ (sJ (sR (sR M 128 h0 p1) 129 h0 p2) 130 h0 p3) 131 h0 p4) q6 433 2) h0 = 3 ∧ (∀ q11 q12 q13, mK (sR (na (sJ (sJ (sR (sR M 128 h0 p1) 129 h0 p2) 130 h0 p3) 131 h0 p4) q6 433 2) 132 h0 (some q6)) q11 = 0 → mK (sR (na (sJ (sJ (sR (sR M 128 h0 p1) 129 h0 p2) 130 h0 p3) 131 h0 p4) q6 433 2) 132 h0 (some q6)) q12 = 0 → mK (sR (na (sJ (sJ (sR (sR M 128 h0 p1) 129 h0 p2) 130 h0 p3) 131 h0 p4) q6 433 2) 132 h0 (some q6)) q13 = 0 → q11 ≠ q12 → q11 ≠ q13 → q12 ≠ q13 → mK (nm2 (sR (na (sJ (sJ (sR (sR M 128 h0 p1) 129 h0 p2) 130 h0 p3) 131 h0 p4) q6 433 2) 132 h0 (some q6)) q11 q12 q13 446 450 6) h0 = 3 ∧ (∀ q23 q24 q25, mK (sR (nm2 (sR (na (sJ (sJ (sR (sR M 128 h0 p1) 129 h0 p2) 130 h0 p3) 131 h0 p4) q6 433 2) 132 h0 (some q6)) q11 q12 q13 446 450 6) 133 h0 (some q11)) q23 = 0 → mK (sR (nm2 (sR (na (sJ (sJ (sR (sR M 128 h0 p1) 129 h0 p2) 130 h0 p3) 131 h0 p4) q6 433 2) 132 h0 (some q6)) q11 q12 q13 446 450 6) 133 h0 (some q11)) q24 = 0 → mK (sR (nm2 (sR (na (sJ (sJ (sR (sR M 128 h0 p1) 129 h0 p2) 130 h0 p3) 131 h0 p4) q6 433 2) 132 h0 (some q6)) q11 q12 q13 446 450 6) 133 h0 (some q11)) q25 = 0 → q23 ≠ q24 → q23 ≠ q25 → q24 ≠ q25 → mK (nm2 (sR (nm2 (sR (na (sJ (sJ (sR (sR M 128 h0 p1) 129 h0 p2) 130 h0 p3) 131 h0 p4) q6 433 2) 132 h0 (some q6)) q11 q12 q13 446 450 6) 133 h0 (some q11)) q23 q24 q25 461 465 6) h0 = 3 ∧ (∀ q35 q36 q37, mK (sR (nm2 (sR (nm2 (sR (na (sJ (sJ (sR (sR M 128 h0 p1) 129 h0 p2) 130 h0 p3) 131 h0 p4) q6 433 2) 132 h0 (some q6)) q11 q12 q13 446 450 6) 133 h0 (some q11)) q23 q24 q25 461 465 6) 134 h0 (some q23)) q35 = 0 → mK (sR (nm2 (sR (nm2 (sR (na (sJ (sJ (sR (sR M 128 h0 p1) 129 h0 p2) 130 h0 p3) 131 h0 p4) q6 433 2) 132 h0 (some q6)) q11 q12 q13 446 450 6) 133 h0 (some q11)) q23 q24 q25 461 465 6) 134 h0 (some q23)) q36 = 0 → mK (sR (nm2 (sR (nm2 (sR (na (sJ (sJ (sR (sR M 128 h0 p1) 129 h0 p2) 130 h0 p3) 131 h0 p4) q6 433 2) 132 h0 (some q6)) q11 q12 q13 446 450 6) 133 h0 (some q11)) q23 q24 q25 461 465 6) 134 h0 (some q23)) q37 = 0 → q35 ≠ q36 → q35 ≠ q37 → q36 ≠ q37 → mK (nm2 (sR (nm2 (sR (nm2 (sR (na (sJ (sJ (sR (sR M 128 h0 p1) 129 h0 p2) 130 h0 p3) 131 h0 p4) q6 433 2) 132 h0 (some q6)) q11 q12 q13 446 450 6) 133 h0 (some q11)) q23 q24 q25 461 465 6) 134 h0 (some q23)) q35 q36 q37 477 481 6) h0 = 3 ∧ (K (sR (nm2 (sR (nm2 (sR (nm2 (sR (na (sJ (sJ (sR (sR M 128 h0 p1) 129 h0 p2) 130 h0 p3) 131 h0 p4) q6 433 2) 132 h0 (some q6)) q11 q12 q13 446 450 6) 133 h0 (some q11)) q23 q24 q25 461 465 6) 134 h0 (some q23)) q35 q36 q37 477 481 6) 135 h0 (some q35)))))))
set_option maxRecDepth 100000 in
set_option maxHeartbeats 4000000 in
theorem ct_X2_init {M : Mm} {h0 : Nat} {p1 : Option Nat} {p2 : Option Nat} {p3 : Int64} {p4 : Int64} {K : Mm → Prop} (h : wp_X2_init M h0 p1 p2 p3 p4 K) : CtV yX2_init cX2_init 7 none rm_X2_init [.ref h0, va_rf p1, va_rf p2, .long p3, .long p4] M K := by
  refine ct_any (QV K) (by decide) (by cases p1 <;> cases p2 <;> exact Nat.le_of_ble_eq_true rfl) (fun X hX hQ hnL hnm => ?_)
  rw [show lv_args 0 [.ref h0, va_rf p1, va_rf p2, .long p3, .long p4] = [(0, va_rf (some h0)), (1, va_rf p1), (2, va_rf p2), (3, .long p3), (5, .long p4)] by cases p1 <;> cases p2 <;> rfl]
  have hX : Ok X cX2_init RX2 rm_X2_init := hX
  unfold wp_X2_init at h
  refine z_aload_n (r := (some h0)) hX dX2_init_0 rfl 0 rfl ?_
  refine mw_RX2_3 (a := h0) hX dX2_init_1 (by decide) (by decide) ?_
  refine z_aload_n (r := (some h0)) hX dX2_init_4 rfl 0 rfl ?_
  refine z_aload_n (r := p1) hX dX2_init_5 rfl 1 rfl ?_
  obtain ⟨hk1, h⟩ := h
  refine pf_RX2_9 (r := (some h0)) (v := p1) hX hnm dX2_init_6 rfl hk1 ?_
  refine z_aload_n (r := (some h0)) hX dX2_init_9 rfl 0 rfl ?_
  refine z_aload_n (r := p2) hX dX2_init_10 rfl 2 rfl ?_
  refine pf_RX2_15 (r := (some h0)) (v := p2) hX hnm dX2_init_11 rfl hk1 ?_
  refine z_aload_n (r := (some h0)) hX dX2_init_14 rfl 0 rfl ?_
  refine z_lload_n hX dX2_init_15 rfl 3 rfl ?_
  refine pf_RX2_18 (r := (some h0)) (v := p3) hX hnm dX2_init_16 rfl hk1 ?_
  refine z_aload_n (r := (some h0)) hX dX2_init_19 rfl 0 rfl ?_
  refine z_lload hX dX2_init_20 4 rfl ?_
  refine pf_RX2_22 (r := (some h0)) (v := p4) hX hnm dX2_init_22 rfl hk1 ?_
  refine z_aload_n (r := (some h0)) hX dX2_init_25 rfl 0 rfl ?_
  refine z_iconst (v := (2 : Int32)) hX dX2_init_26 (by decide) ?_
  refine y_newa_int (n := 2) hX 433 (by decide) (by decide) (by decide) (by decide) (by decide) dX2_init_27 (by decide) (by decide) (fun q6 hq7 => ?_)
  have h := h q6 hq7
  obtain ⟨hk9, h⟩ := h
  refine pf_RX2_25 (r := (some h0)) (v := (some q6)) hX hnm dX2_init_29 rfl hk9 ?_
  refine z_aload_n (r := (some h0)) hX dX2_init_32 rfl 0 rfl ?_
  refine z_iconst (v := (2 : Int32)) hX dX2_init_33 (by decide) ?_
  refine z_bipush (v := (6 : Int32)) hX dX2_init_34 (by decide) ?_
  refine z_mna (ty := .long) (kdo := 446) (kdi := 450) (tyo := 6) (tyi := 2) hX (fun _ _ _ h => h.1.2.2.2.2.2) (wjU_mem (by decide +kernel) rfl) (wjU_mem (by decide +kernel) rfl) (Or.inr ⟨rfl, rfl, rfl⟩) (by decide) (by decide) (by decide) (by decide) dX2_init_36 (by decide) (by decide) (fun q11 q12 q13 hq14 hq15 hq16 hq17 hq18 hq19 => ?_)
  have h := h q11 q12 q13 hq14 hq15 hq16 hq17 hq18 hq19
  obtain ⟨hk21, h⟩ := h
  refine pf_RX2_31 (r := (some h0)) (v := (some q11)) hX hnm dX2_init_40 rfl hk21 ?_
  refine z_aload_n (r := (some h0)) hX dX2_init_43 rfl 0 rfl ?_
  refine z_iconst (v := (2 : Int32)) hX dX2_init_44 (by decide) ?_
  refine z_bipush (v := (6 : Int32)) hX dX2_init_45 (by decide) ?_
  refine z_mna (ty := .int) (kdo := 461) (kdi := 465) (tyo := 5) (tyi := 1) hX (fun _ _ _ h => h.1.2.2.2.2.1) (wjU_mem (by decide +kernel) rfl) (wjU_mem (by decide +kernel) rfl) (Or.inl ⟨rfl, rfl, rfl⟩) (by decide) (by decide) (by decide) (by decide) dX2_init_47 (by decide) (by decide) (fun q23 q24 q25 hq26 hq27 hq28 hq29 hq30 hq31 => ?_)
  have h := h q23 q24 q25 hq26 hq27 hq28 hq29 hq30 hq31
  obtain ⟨hk33, h⟩ := h
  refine pf_RX2_36 (r := (some h0)) (v := (some q23)) hX hnm dX2_init_51 rfl hk33 ?_
  refine z_aload_n (r := (some h0)) hX dX2_init_54 rfl 0 rfl ?_
  refine z_iconst (v := (2 : Int32)) hX dX2_init_55 (by decide) ?_
  refine z_bipush (v := (6 : Int32)) hX dX2_init_56 (by decide) ?_
  refine z_mna (ty := .int) (kdo := 477) (kdi := 481) (tyo := 5) (tyi := 1) hX (fun _ _ _ h => h.1.2.2.2.2.1) (wjU_mem (by decide +kernel) rfl) (wjU_mem (by decide +kernel) rfl) (Or.inl ⟨rfl, rfl, rfl⟩) (by decide) (by decide) (by decide) (by decide) dX2_init_58 (by decide) (by decide) (fun q35 q36 q37 hq38 hq39 hq40 hq41 hq42 hq43 => ?_)
  have h := h q35 q36 q37 hq38 hq39 hq40 hq41 hq42 hq43
  obtain ⟨hk45, h⟩ := h
  refine pf_RX2_39 (r := (some h0)) (v := (some q35)) hX hnm dX2_init_62 rfl hk45 ?_
  refine z_widen 10 44 (by decide) (by decide) ?_
  exact z_vret hX hQ dX2_init_65 h
def rm_X7_readJoin : Room := { frames := 4, cells := 11, slots := 52, locals := 88 }
def bk_X7_readJoin_33 (h0 : Nat) (K : Int32 → Mm → Prop) (M : Mm) : Prop := (K (0 : Int32) M)
set_option maxRecDepth 100000 in
set_option maxHeartbeats 4000000 in
theorem zb_X7_readJoin_33 {X : Cx} {h0 : Nat} {K : Int32 → Mm → Prop} (hX : Ok X cX7_readJoin RX7 rm_X7_readJoin) (hQ : Rq X rm_X7_readJoin (some .boolean) (QI K)) (hnL : X.2.2.2.2.2.2.2.2.2.2.2.2.2.2 = 4) {M : Mm} (h : bk_X7_readJoin_33 h0 K M) : Z X M 0 0 33 [] [] := by
  unfold bk_X7_readJoin_33 at h
  refine z_iconst (v := (0 : Int32)) hX dX7_readJoin_33 (by decide) ?_
  refine z_widen 11 52 (by decide) (by decide) ?_
  exact y_zret hX hQ dX7_readJoin_34 (Or.inl rfl) h
def bk_X7_readJoin_55 (h0 : Nat) (K : Int32 → Mm → Prop) (M : Mm) : Prop := (K (0 : Int32) M)
set_option maxRecDepth 100000 in
set_option maxHeartbeats 4000000 in
theorem zb_X7_readJoin_55 {X : Cx} {h0 : Nat} {K : Int32 → Mm → Prop} (hX : Ok X cX7_readJoin RX7 rm_X7_readJoin) (hQ : Rq X rm_X7_readJoin (some .boolean) (QI K)) (hnL : X.2.2.2.2.2.2.2.2.2.2.2.2.2.2 = 4) {M : Mm} (h : bk_X7_readJoin_55 h0 K M) : Z X M 0 0 55 [] [] := by
  unfold bk_X7_readJoin_55 at h
  refine z_iconst (v := (0 : Int32)) hX dX7_readJoin_55 (by decide) ?_
  refine z_widen 11 52 (by decide) (by decide) ?_
  exact y_zret hX hQ dX7_readJoin_56 (Or.inl rfl) h
def bk_X7_readJoin_80 (h0 : Nat) (K : Int32 → Mm → Prop) (M : Mm) : Prop := (K (0 : Int32) M)
set_option maxRecDepth 100000 in
set_option maxHeartbeats 4000000 in
theorem zb_X7_readJoin_80 {X : Cx} {h0 : Nat} {K : Int32 → Mm → Prop} (hX : Ok X cX7_readJoin RX7 rm_X7_readJoin) (hQ : Rq X rm_X7_readJoin (some .boolean) (QI K)) (hnL : X.2.2.2.2.2.2.2.2.2.2.2.2.2.2 = 4) {M : Mm} (h : bk_X7_readJoin_80 h0 K M) : Z X M 0 0 80 [] [] := by
  unfold bk_X7_readJoin_80 at h
  refine z_iconst (v := (0 : Int32)) hX dX7_readJoin_80 (by decide) ?_
  refine z_widen 11 52 (by decide) (by decide) ?_
  exact y_zret hX hQ dX7_readJoin_81 (Or.inl rfl) h
def wp_X7_readJoin (M : Mm) (h0 : Nat) (p1 : Option Nat) (K : Int32 → Mm → Prop) : Prop := mK M h0 = 8 ∧ ∃ a5, (mR (sI M 452 h0 ((mI M 452 h0) + (1 : Int32))) 448 h0) = some a5 ∧ mK (sI M 452 h0 ((mI M 452 h0) + (1 : Int32))) a5 = 5 ∧ (wp_X4_advance (sI M 452 h0 ((mI M 452 h0) + (1 : Int32))) a5 (fun M4 => mK M4 h0 = 8 ∧ (wp_X7_readInput M4 h0 p1 (fun r9 M10 => ((r9 = 0 → (bk_X7_readJoin_33 h0 K M10)) ∧ (¬ r9 = 0 → mK M10 h0 = 8 ∧ (wp_X7_readInput M10 h0 p1 (fun r13 M14 => ((¬ r13 = 0 → mK M14 h0 = 8 ∧ (wp_X7_readKeyword M14 h0 (1718775661 : Int64) (fun r17 M18 => ((r17 = 0 → (bk_X7_readJoin_55 h0 K M18)) ∧ (¬ r17 = 0 → mK M18 h0 = 8 ∧ (wp_X7_readSignedNumber M18 h0 (-999999999999999999 : Int64) (fun r21 M22 => ((¬ r21 = 0 → mK M22 h0 = 8 ∧ (wp_X7_readKeyword M22 h0 (29807 : Int64) (fun r26 M27 => ((r26 = 0 → (bk_X7_readJoin_80 h0 K M27)) ∧ (¬ r26 = 0 → mK M27 h0 = 8 ∧ (wp_X7_readSignedNumber M27 h0 (mJ M22 454 h0) (fun r29 M30 => ((¬ r29 = 0 → (∀ q33, mK M30 q33 = 0 → ∃ a36, p1 = some a36 ∧ mK (nw M30 q33 3) a36 = 7 ∧ ∃ a39, (mR (nw M30 q33 3) 387 a36) = some a39 ∧ isA (nw M30 q33 3) a39 4 ∧ vp_in (0 : Int32) (aN (nw M30 q33 3) a39) ∧ vp_in (1 : Int32) (aN (nw M30 q33 3) a39) ∧ mK (nw M30 q33 3) h0 = 8 ∧ (wp_X2_init (nw M30 q33 3) q33 (aR (nw M30 q33 3) a39 ((0 : Int32)).toNatClampNeg) (aR (nw M30 q33 3) a39 ((1 : Int32)).toNatClampNeg) (mJ M22 454 h0) (mJ (nw M30 q33 3) 454 h0) (fun M46 => mK M46 a36 = 7 ∧ mK (sR M46 394 a36 (some q33)) h0 = 8 ∧ (wp_X7_readSign (sR M46 394 a36 (some q33)) h0 (59 : Int32) (fun r50 M51 => (bz r50 ∧ K r50 M51))))))) ∧ (r29 = 0 → (bk_X7_readJoin_80 h0 K M30)))))))))) ∧ (r21 = 0 → (bk_X7_readJoin_55 h0 K M22)))))))))) ∧ (r13 = 0 → (bk_X7_readJoin_33 h0 K M14)))))))))))
set_option maxRecDepth 100000 in
set_option maxHeartbeats 4000000 in
theorem ct_X7_readJoin {M : Mm} {h0 : Nat} {p1 : Option Nat} {K : Int32 → Mm → Prop} (h : wp_X7_readJoin M h0 p1 K) : CtI yX7_readJoin cX7_readJoin 4 (some .boolean) rm_X7_readJoin [.ref h0, va_rf p1] M K := by
  refine ct_any (QI K) (by decide) (by cases p1 <;> exact Nat.le_of_ble_eq_true rfl) (fun X hX hQ hnL hnm => ?_)
  rw [show lv_args 0 [.ref h0, va_rf p1] = [(0, va_rf (some h0)), (1, va_rf p1)] by cases p1 <;> rfl]
  have hX : Ok X cX7_readJoin RX7 rm_X7_readJoin := hX
  unfold wp_X7_readJoin at h
  refine z_aload_n (r := (some h0)) hX dX7_readJoin_0 rfl 0 rfl ?_
  refine z_dup hX dX7_readJoin_1 (cat_rf _) ?_
  obtain ⟨hk1, h⟩ := h
  refine gf_RX7_121 (r := (some h0)) hX dX7_readJoin_2 rfl hk1 ?_
  refine z_iconst (v := (1 : Int32)) hX dX7_readJoin_5 (by decide) ?_
  refine z_iadd hX dX7_readJoin_6 ?_
  refine pf_RX7_121 (r := (some h0)) (v := ((mI M 452 h0) + (1 : Int32))) hX dX7_readJoin_7 rfl hk1 ?_
  refine z_aload_n (r := (some h0)) hX dX7_readJoin_10 rfl 0 rfl ?_
  refine gf_RX7_9 (r := (some h0)) hX dX7_readJoin_11 rfl hk1 ?_
  obtain ⟨a5, ha6, h⟩ := h
  obtain ⟨hk7, h⟩ := h
  refine z_callVV (As := []) (rest := []) (ci := 4) hX (ct_X4_advance h) mw_RX7_19 rfl (by decide) rfl (by rw [ha6]; rfl) (by unfold RoomC; decide) (by decide) dX7_readJoin_14 hk7 (fun M4 h => ?_)
  refine z_aload_n (r := (some h0)) hX dX7_readJoin_17 rfl 0 rfl ?_
  refine z_aload_n (r := p1) hX dX7_readJoin_18 rfl 1 rfl ?_
  obtain ⟨hk11, h⟩ := h
  refine z_callVI (As := [va_rf p1]) (rest := []) (ci := 7) hX (ct_X7_readInput h) mw_RX7_116 rfl (by decide) rfl (by rfl) (by unfold RoomC; decide) (by decide) dX7_readJoin_19 hk11 (fun r9 M10 h => ?_)
  obtain ⟨h1, h2⟩ := h
  refine z_if_eq (tgt := 33) hX dX7_readJoin_22 (by decide) (fun hc => ?_) (fun hc => ?_)
  · have h := h1 hc
    refine z_loc [] rfl ?_
    refine z_widen 0 0 (by decide) (by decide) ?_
    exact zb_X7_readJoin_33 hX hQ hnL h
  · have h := h2 hc
    refine z_aload_n (r := (some h0)) hX dX7_readJoin_25 rfl 0 rfl ?_
    refine z_aload_n (r := p1) hX dX7_readJoin_26 rfl 1 rfl ?_
    obtain ⟨hk15, h⟩ := h
    refine z_callVI (As := [va_rf p1]) (rest := []) (ci := 7) hX (ct_X7_readInput h) mw_RX7_116 rfl (by decide) rfl (by rfl) (by unfold RoomC; decide) (by decide) dX7_readJoin_27 hk15 (fun r13 M14 h => ?_)
    obtain ⟨h1, h2⟩ := h
    refine z_if_ne (tgt := 35) hX dX7_readJoin_30 (by decide) (fun hc => ?_) (fun hc => ?_)
    · have h := h1 hc
      refine z_aload_n (r := (some h0)) hX dX7_readJoin_35 rfl 0 rfl ?_
      refine z_ldc2 (v := (1718775661 : Int64)) hX dX7_readJoin_36 kj_RX7_164 ?_
      obtain ⟨hk19, h⟩ := h
      refine z_callVI (As := [.long (1718775661 : Int64)]) (rest := []) (ci := 7) hX (ct_X7_readKeyword h) mw_RX7_145 rfl (by decide) rfl (by rfl) (by unfold RoomC; decide) (by decide) dX7_readJoin_39 hk19 (fun r17 M18 h => ?_)
      obtain ⟨h1, h2⟩ := h
      refine z_if_eq (tgt := 55) hX dX7_readJoin_42 (by decide) (fun hc => ?_) (fun hc => ?_)
      · have h := h1 hc
        refine z_loc [] rfl ?_
        refine z_widen 0 0 (by decide) (by decide) ?_
        exact zb_X7_readJoin_55 hX hQ hnL h
      · have h := h2 hc
        refine z_aload_n (r := (some h0)) hX dX7_readJoin_45 rfl 0 rfl ?_
        refine z_ldc2 (v := (-999999999999999999 : Int64)) hX dX7_readJoin_46 kj_RX7_166 ?_
        obtain ⟨hk23, h⟩ := h
        refine z_callVI (As := [.long (-999999999999999999 : Int64)]) (rest := []) (ci := 7) hX (ct_X7_readSignedNumber h) mw_RX7_168 rfl (by decide) rfl (by rfl) (by unfold RoomC; decide) (by decide) dX7_readJoin_49 hk23 (fun r21 M22 h => ?_)
        obtain ⟨h1, h2⟩ := h
        refine z_if_ne (tgt := 57) hX dX7_readJoin_52 (by decide) (fun hc => ?_) (fun hc => ?_)
        · have h := h1 hc
          refine z_aload_n (r := (some h0)) hX dX7_readJoin_57 rfl 0 rfl ?_
          obtain ⟨hk25, h⟩ := h
          refine gf_RX7_62 (r := (some h0)) hX dX7_readJoin_58 rfl hk25 ?_
          refine z_lstore_n (i := 2) hX [(2, .long (mJ M22 454 h0)), (0, va_rf (some h0)), (1, va_rf p1)] dX7_readJoin_61 rfl (by rw [hnL]; decide) (by simp [cat_rf]) ?_
          refine z_aload_n (r := (some h0)) hX dX7_readJoin_62 rfl 1 rfl ?_
          refine z_ldc2 (v := (29807 : Int64)) hX dX7_readJoin_63 kj_RX7_171 ?_
          refine z_callVI (As := [.long (29807 : Int64)]) (rest := []) (ci := 7) hX (ct_X7_readKeyword h) mw_RX7_145 rfl (by decide) rfl (by rfl) (by unfold RoomC; decide) (by decide) dX7_readJoin_66 hk25 (fun r26 M27 h => ?_)
          obtain ⟨h1, h2⟩ := h
          refine z_if_eq (tgt := 80) hX dX7_readJoin_69 (by decide) (fun hc => ?_) (fun hc => ?_)
          · have h := h1 hc
            refine z_loc [] rfl ?_
            refine z_widen 0 0 (by decide) (by decide) ?_
            exact zb_X7_readJoin_80 hX hQ hnL h
          · have h := h2 hc
            refine z_aload_n (r := (some h0)) hX dX7_readJoin_72 rfl 1 rfl ?_
            refine z_lload_n hX dX7_readJoin_73 rfl 0 rfl ?_
            obtain ⟨hk31, h⟩ := h
            refine z_callVI (As := [.long (mJ M22 454 h0)]) (rest := []) (ci := 7) hX (ct_X7_readSignedNumber h) mw_RX7_168 rfl (by decide) rfl (by rfl) (by unfold RoomC; decide) (by decide) dX7_readJoin_74 hk31 (fun r29 M30 h => ?_)
            obtain ⟨h1, h2⟩ := h
            refine z_if_ne (tgt := 82) hX dX7_readJoin_77 (by decide) (fun hc => ?_) (fun hc => ?_)
            · have h := h1 hc
              refine z_aload_n (r := p1) hX dX7_readJoin_82 rfl 2 rfl ?_
              refine nq_RX7_173 hX dX7_readJoin_83 (by decide) (by decide) (fun q33 hq34 => ?_)
              have h := h q33 hq34
              refine z_dup hX dX7_readJoin_86 (cat_rf _) ?_
              refine z_aload_n (r := p1) hX dX7_readJoin_87 rfl 2 rfl ?_
              obtain ⟨a36, ha37, h⟩ := h
              obtain ⟨hk38, h⟩ := h
              refine gf_RX7_175 (r := p1) hX dX7_readJoin_88 ha37 hk38 ?_
              refine z_iconst (v := (0 : Int32)) hX dX7_readJoin_91 (by decide) ?_
              obtain ⟨a39, ha40, h⟩ := h
              obtain ⟨hk41, h⟩ := h
              obtain ⟨hc42, h⟩ := h
              refine y_aldq (r := (mR (nw M30 q33 3) 387 a36)) hX dX7_readJoin_92 ha40 hk41 hc42 ?_
              refine z_aload_n (r := p1) hX dX7_readJoin_93 rfl 2 rfl ?_
              refine gf_RX7_175 (r := p1) hX dX7_readJoin_94 ha37 hk38 ?_
              refine z_iconst (v := (1 : Int32)) hX dX7_readJoin_97 (by decide) ?_
              obtain ⟨hc43, h⟩ := h
              refine y_aldq (r := (mR (nw M30 q33 3) 387 a36)) hX dX7_readJoin_98 ha40 hk41 hc43 ?_
              refine z_lload_n hX dX7_readJoin_99 rfl 0 rfl ?_
              refine z_aload_n (r := (some h0)) hX dX7_readJoin_100 rfl 1 rfl ?_
              obtain ⟨hk44, h⟩ := h
              refine gf_RX7_62 (r := (some h0)) hX dX7_readJoin_101 rfl hk44 ?_
              refine z_callIV (As := [va_rf (aR (nw M30 q33 3) a39 ((0 : Int32)).toNatClampNeg), va_rf (aR (nw M30 q33 3) a39 ((1 : Int32)).toNatClampNeg), .long (mJ M22 454 h0), .long (mJ (nw M30 q33 3) 454 h0)]) (rest := [va_rf (some q33), va_rf p1]) hX (ct_X2_init h) mw_RX7_179 rfl (by rfl) (by unfold RoomC; decide) (by simp only [List.map_cons, List.map_nil, List.sum_cons, List.sum_nil, cat_rf, cat_i, cat_j]; decide) dX7_readJoin_104 (fun M46 h => ?_)
              obtain ⟨hk48, h⟩ := h
              refine pf_RX7_182 (r := p1) (v := (some q33)) hX dX7_readJoin_107 ha37 hk48 ?_
              refine z_aload_n (r := (some h0)) hX dX7_readJoin_110 rfl 1 rfl ?_
              refine z_bipush (v := (59 : Int32)) hX dX7_readJoin_111 (by decide) ?_
              obtain ⟨hk52, h⟩ := h
              refine z_callVI (As := [.int (59 : Int32)]) (rest := []) (ci := 7) hX (ct_X7_readSign h) mw_RX7_78 rfl (by decide) rfl (by rfl) (by unfold RoomC; decide) (by decide) dX7_readJoin_113 hk52 (fun r50 M51 h => ?_)
              refine z_widen 11 52 (by decide) (by decide) ?_
              exact y_zret hX hQ dX7_readJoin_116 h.1 h.2
            · have h := h2 hc
              refine z_loc [] rfl ?_
              refine z_widen 0 0 (by decide) (by decide) ?_
              exact zb_X7_readJoin_80 hX hQ hnL h
        · have h := h2 hc
          refine z_loc [] rfl ?_
          refine z_widen 0 0 (by decide) (by decide) ?_
          exact zb_X7_readJoin_55 hX hQ hnL h
    · have h := h2 hc
      refine z_loc [] rfl ?_
      refine z_widen 0 0 (by decide) (by decide) ?_
      exact zb_X7_readJoin_33 hX hQ hnL h
def rm_X7_readKind : Room := { frames := 5, cells := 11, slots := 78, locals := 115 }
def bk_X7_readKind_153 (h0 : Nat) (K : Int32 → Mm → Prop) (s0 : Int32) (M : Mm) : Prop := (bz s0 ∧ K s0 M)
set_option maxRecDepth 100000 in
set_option maxHeartbeats 4000000 in
theorem zb_X7_readKind_153 {X : Cx} {h0 : Nat} {K : Int32 → Mm → Prop} (hX : Ok X cX7_readKind RX7 rm_X7_readKind) (hQ : Rq X rm_X7_readKind (some .boolean) (QI K)) (hnL : X.2.2.2.2.2.2.2.2.2.2.2.2.2.2 = 2) {s0 : Int32} {M : Mm} (h : bk_X7_readKind_153 h0 K s0 M) : Z X M 4 78 153 [] [.int s0] := by
  unfold bk_X7_readKind_153 at h
  refine z_widen 11 78 (by decide) (by decide) ?_
  exact y_zret hX hQ dX7_readKind_153 h.1 h.2
def bk_X7_readKind_120 (h0 : Nat) (K : Int32 → Mm → Prop) (s0 : Int32) (M : Mm) : Prop := (bz s0 ∧ K s0 M)
set_option maxRecDepth 100000 in
set_option maxHeartbeats 4000000 in
theorem zb_X7_readKind_120 {X : Cx} {h0 : Nat} {K : Int32 → Mm → Prop} (hX : Ok X cX7_readKind RX7 rm_X7_readKind) (hQ : Rq X rm_X7_readKind (some .boolean) (QI K)) (hnL : X.2.2.2.2.2.2.2.2.2.2.2.2.2.2 = 2) {s0 : Int32} {M : Mm} (h : bk_X7_readKind_120 h0 K s0 M) : Z X M 11 52 120 [] [.int s0] := by
  unfold bk_X7_readKind_120 at h
  refine z_widen 11 78 (by decide) (by decide) ?_
  exact y_zret hX hQ dX7_readKind_120 h.1 h.2
def bk_X7_readKind_87 (h0 : Nat) (K : Int32 → Mm → Prop) (s0 : Int32) (M : Mm) : Prop := (bz s0 ∧ K s0 M)
set_option maxRecDepth 100000 in
set_option maxHeartbeats 4000000 in
theorem zb_X7_readKind_87 {X : Cx} {h0 : Nat} {K : Int32 → Mm → Prop} (hX : Ok X cX7_readKind RX7 rm_X7_readKind) (hQ : Rq X rm_X7_readKind (some .boolean) (QI K)) (hnL : X.2.2.2.2.2.2.2.2.2.2.2.2.2.2 = 2) {s0 : Int32} {M : Mm} (h : bk_X7_readKind_87 h0 K s0 M) : Z X M 0 0 87 [] [.int s0] := by
  unfold bk_X7_readKind_87 at h
  refine z_widen 11 78 (by decide) (by decide) ?_
  exact y_zret hX hQ dX7_readKind_87 h.1 h.2
def bk_X7_readKind_86 (h0 : Nat) (K : Int32 → Mm → Prop) (M : Mm) : Prop := (bk_X7_readKind_87 h0 K (0 : Int32) M)
set_option maxRecDepth 100000 in
set_option maxHeartbeats 4000000 in
theorem zb_X7_readKind_86 {X : Cx} {h0 : Nat} {K : Int32 → Mm → Prop} (hX : Ok X cX7_readKind RX7 rm_X7_readKind) (hQ : Rq X rm_X7_readKind (some .boolean) (QI K)) (hnL : X.2.2.2.2.2.2.2.2.2.2.2.2.2.2 = 2) {M : Mm} (h : bk_X7_readKind_86 h0 K M) : Z X M 0 0 86 [] [] := by
  unfold bk_X7_readKind_86 at h
  refine z_iconst (v := (0 : Int32)) hX dX7_readKind_86 (by decide) ?_
  refine z_widen 0 0 (by decide) (by decide) ?_
  exact zb_X7_readKind_87 hX hQ hnL h
def wp_X7_readKind (M : Mm) (h0 : Nat) (p1 : Option Nat) (K : Int32 → Mm → Prop) : Prop := mK M h0 = 8 ∧ (wp_X7_isKeyword M h0 (126922548994917 : Int64) (fun r1 M2 => ((r1 = 0 → mK M2 h0 = 8 ∧ (wp_X7_isKeyword M2 h0 (504363577198 : Int64) (fun r5 M6 => ((r5 = 0 → mK M6 h0 = 8 ∧ (wp_X7_isKeyword M6 h0 (431198331257 : Int64) (fun r9 M10 => ((r9 = 0 → mK M10 h0 = 8 ∧ (wp_X7_isKeyword M10 h0 (1752132708 : Int64) (fun r13 M14 => ((r13 = 0 → mK M14 h0 = 8 ∧ (wp_X7_isKeyword M14 h0 (1785686382 : Int64) (fun r17 M18 => ((r17 = 0 → mK M18 h0 = 8 ∧ (wp_X7_isKeyword M18 h0 (131294707347319 : Int64) (fun r21 M22 => ((r21 = 0 → mK M22 h0 = 8 ∧ (wp_X7_refuseToken M22 h0 (fun r25 M26 => (bz r25 ∧ K r25 M26)))) ∧ (¬ r21 = 0 → mK M22 h0 = 8 ∧ ((¬ (mI M22 453 h0) = (3 : Int32) → (wp_X7_readWindow M22 h0 p1 (fun r30 M31 => (bk_X7_readKind_153 h0 K r30 M31)))) ∧ ((mI M22 453 h0) = (3 : Int32) → (wp_X7_refuse M22 h0 (6 : Int32) (fun r33 M34 => (bk_X7_readKind_153 h0 K r33 M34)))))))))) ∧ (¬ r17 = 0 → mK M18 h0 = 8 ∧ ((¬ (mI M18 452 h0) = (3 : Int32) → (wp_X7_readJoin M18 h0 p1 (fun r37 M38 => (bk_X7_readKind_120 h0 K r37 M38)))) ∧ ((mI M18 452 h0) = (3 : Int32) → (wp_X7_refuse M18 h0 (6 : Int32) (fun r40 M41 => (bk_X7_readKind_120 h0 K r40 M41)))))))))) ∧ (¬ r13 = 0 → mK M14 h0 = 8 ∧ ∃ a46, (mR M14 448 h0) = some a46 ∧ mK M14 a46 = 5 ∧ (wp_X4_advance M14 a46 (fun M45 => mK M45 h0 = 8 ∧ (wp_X7_readInput M45 h0 p1 (fun r50 M51 => ((r50 = 0 → (bk_X7_readKind_86 h0 K M51)) ∧ (¬ r50 = 0 → mK M51 h0 = 8 ∧ (wp_X7_readSign M51 h0 (59 : Int32) (fun r54 M55 => ((r54 = 0 → (bk_X7_readKind_86 h0 K M55)) ∧ (¬ r54 = 0 → (bk_X7_readKind_87 h0 K (1 : Int32) M55)))))))))))))))) ∧ (¬ r9 = 0 → mK M10 h0 = 8 ∧ (wp_X7_readDelay M10 h0 p1 (fun r58 M59 => (bz r58 ∧ K r58 M59)))))))) ∧ (¬ r5 = 0 → mK M6 h0 = 8 ∧ (wp_X7_readUnion M6 h0 p1 (fun r62 M63 => (bz r62 ∧ K r62 M63)))))))) ∧ (¬ r1 = 0 → mK M2 h0 = 8 ∧ (wp_X7_readSource M2 h0 p1 (fun r66 M67 => (bz r66 ∧ K r66 M67)))))))
set_option maxRecDepth 100000 in
set_option maxHeartbeats 4000000 in
theorem ct_X7_readKind {M : Mm} {h0 : Nat} {p1 : Option Nat} {K : Int32 → Mm → Prop} (h : wp_X7_readKind M h0 p1 K) : CtI yX7_readKind cX7_readKind 2 (some .boolean) rm_X7_readKind [.ref h0, va_rf p1] M K := by
  refine ct_any (QI K) (by decide) (by cases p1 <;> exact Nat.le_of_ble_eq_true rfl) (fun X hX hQ hnL hnm => ?_)
  rw [show lv_args 0 [.ref h0, va_rf p1] = [(0, va_rf (some h0)), (1, va_rf p1)] by cases p1 <;> rfl]
  have hX : Ok X cX7_readKind RX7 rm_X7_readKind := hX
  unfold wp_X7_readKind at h
  refine z_aload_n (r := (some h0)) hX dX7_readKind_0 rfl 0 rfl ?_
  refine z_ldc2 (v := (126922548994917 : Int64)) hX dX7_readKind_1 kj_RX7_99 ?_
  obtain ⟨hk3, h⟩ := h
  refine z_callVI (As := [.long (126922548994917 : Int64)]) (rest := []) (ci := 7) hX (ct_X7_isKeyword h) mw_RX7_30 rfl (by decide) rfl (by rfl) (by unfold RoomC; decide) (by decide) dX7_readKind_4 hk3 (fun r1 M2 h => ?_)
  obtain ⟨h1, h2⟩ := h
  refine z_if_eq (tgt := 16) hX dX7_readKind_7 (by decide) (fun hc => ?_) (fun hc => ?_)
  · have h := h1 hc
    refine z_aload_n (r := (some h0)) hX dX7_readKind_16 rfl 0 rfl ?_
    refine z_ldc2 (v := (504363577198 : Int64)) hX dX7_readKind_17 kj_RX7_104 ?_
    obtain ⟨hk7, h⟩ := h
    refine z_callVI (As := [.long (504363577198 : Int64)]) (rest := []) (ci := 7) hX (ct_X7_isKeyword h) mw_RX7_30 rfl (by decide) rfl (by rfl) (by unfold RoomC; decide) (by decide) dX7_readKind_20 hk7 (fun r5 M6 h => ?_)
    obtain ⟨h1, h2⟩ := h
    refine z_if_eq (tgt := 32) hX dX7_readKind_23 (by decide) (fun hc => ?_) (fun hc => ?_)
    · have h := h1 hc
      refine z_aload_n (r := (some h0)) hX dX7_readKind_32 rfl 0 rfl ?_
      refine z_ldc2 (v := (431198331257 : Int64)) hX dX7_readKind_33 kj_RX7_109 ?_
      obtain ⟨hk11, h⟩ := h
      refine z_callVI (As := [.long (431198331257 : Int64)]) (rest := []) (ci := 7) hX (ct_X7_isKeyword h) mw_RX7_30 rfl (by decide) rfl (by rfl) (by unfold RoomC; decide) (by decide) dX7_readKind_36 hk11 (fun r9 M10 h => ?_)
      obtain ⟨h1, h2⟩ := h
      refine z_if_eq (tgt := 48) hX dX7_readKind_39 (by decide) (fun hc => ?_) (fun hc => ?_)
      · have h := h1 hc
        refine z_aload_n (r := (some h0)) hX dX7_readKind_48 rfl 0 rfl ?_
        refine z_ldc2 (v := (1752132708 : Int64)) hX dX7_readKind_49 kj_RX7_114 ?_
        obtain ⟨hk15, h⟩ := h
        refine z_callVI (As := [.long (1752132708 : Int64)]) (rest := []) (ci := 7) hX (ct_X7_isKeyword h) mw_RX7_30 rfl (by decide) rfl (by rfl) (by unfold RoomC; decide) (by decide) dX7_readKind_52 hk15 (fun r13 M14 h => ?_)
        obtain ⟨h1, h2⟩ := h
        refine z_if_eq (tgt := 88) hX dX7_readKind_55 (by decide) (fun hc => ?_) (fun hc => ?_)
        · have h := h1 hc
          refine z_aload_n (r := (some h0)) hX dX7_readKind_88 rfl 0 rfl ?_
          refine z_ldc2 (v := (1785686382 : Int64)) hX dX7_readKind_89 kj_RX7_119 ?_
          obtain ⟨hk19, h⟩ := h
          refine z_callVI (As := [.long (1785686382 : Int64)]) (rest := []) (ci := 7) hX (ct_X7_isKeyword h) mw_RX7_30 rfl (by decide) rfl (by rfl) (by unfold RoomC; decide) (by decide) dX7_readKind_92 hk19 (fun r17 M18 h => ?_)
          obtain ⟨h1, h2⟩ := h
          refine z_if_eq (tgt := 121) hX dX7_readKind_95 (by decide) (fun hc => ?_) (fun hc => ?_)
          · have h := h1 hc
            refine z_aload_n (r := (some h0)) hX dX7_readKind_121 rfl 0 rfl ?_
            refine z_ldc2 (v := (131294707347319 : Int64)) hX dX7_readKind_122 kj_RX7_127 ?_
            obtain ⟨hk23, h⟩ := h
            refine z_callVI (As := [.long (131294707347319 : Int64)]) (rest := []) (ci := 7) hX (ct_X7_isKeyword h) mw_RX7_30 rfl (by decide) rfl (by rfl) (by unfold RoomC; decide) (by decide) dX7_readKind_125 hk23 (fun r21 M22 h => ?_)
            obtain ⟨h1, h2⟩ := h
            refine z_if_eq (tgt := 154) hX dX7_readKind_128 (by decide) (fun hc => ?_) (fun hc => ?_)
            · have h := h1 hc
              refine z_aload_n (r := (some h0)) hX dX7_readKind_154 rfl 0 rfl ?_
              obtain ⟨hk27, h⟩ := h
              refine z_callVI (As := []) (rest := []) (ci := 7) hX (ct_X7_refuseToken h) mw_RX7_84 rfl (by decide) rfl (by rfl) (by unfold RoomC; decide) (by decide) dX7_readKind_155 hk27 (fun r25 M26 h => ?_)
              refine z_widen 11 78 (by decide) (by decide) ?_
              exact y_zret hX hQ dX7_readKind_158 h.1 h.2
            · have h := h2 hc
              refine z_aload_n (r := (some h0)) hX dX7_readKind_131 rfl 0 rfl ?_
              obtain ⟨hk29, h⟩ := h
              refine gf_RX7_129 (r := (some h0)) hX dX7_readKind_132 rfl hk29 ?_
              refine z_iconst (v := (3 : Int32)) hX dX7_readKind_135 (by decide) ?_
              obtain ⟨h1, h2⟩ := h
              refine z_icmp_ne (tgt := 148) hX dX7_readKind_136 (by decide) (fun hc => ?_) (fun hc => ?_)
              · have h := h1 hc
                refine z_aload_n (r := (some h0)) hX dX7_readKind_148 rfl 0 rfl ?_
                refine z_aload_n (r := p1) hX dX7_readKind_149 rfl 1 rfl ?_
                refine z_callVI (As := [va_rf p1]) (rest := []) (ci := 7) hX (ct_X7_readWindow h) mw_RX7_132 rfl (by decide) rfl (by rfl) (by unfold RoomC; decide) (by decide) dX7_readKind_150 hk29 (fun r30 M31 h => ?_)
                refine z_loc [] rfl ?_
                refine z_widen 4 78 (by decide) (by decide) ?_
                exact zb_X7_readKind_153 hX hQ hnL h
              · have h := h2 hc
                refine z_aload_n (r := (some h0)) hX dX7_readKind_139 rfl 0 rfl ?_
                refine z_bipush (v := (6 : Int32)) hX dX7_readKind_140 (by decide) ?_
                refine z_callVI (As := [.int (6 : Int32)]) (rest := []) (ci := 7) hX (ct_X7_refuse h) mw_RX7_34 rfl (by decide) rfl (by rfl) (by unfold RoomC; decide) (by decide) dX7_readKind_142 hk29 (fun r33 M34 h => ?_)
                refine z_goto (tgt := 153) hX dX7_readKind_145 (by decide) ?_
                refine z_loc [] rfl ?_
                refine z_widen 4 78 (by decide) (by decide) ?_
                exact zb_X7_readKind_153 hX hQ hnL h
          · have h := h2 hc
            refine z_aload_n (r := (some h0)) hX dX7_readKind_98 rfl 0 rfl ?_
            obtain ⟨hk36, h⟩ := h
            refine gf_RX7_121 (r := (some h0)) hX dX7_readKind_99 rfl hk36 ?_
            refine z_iconst (v := (3 : Int32)) hX dX7_readKind_102 (by decide) ?_
            obtain ⟨h1, h2⟩ := h
            refine z_icmp_ne (tgt := 115) hX dX7_readKind_103 (by decide) (fun hc => ?_) (fun hc => ?_)
            · have h := h1 hc
              refine z_aload_n (r := (some h0)) hX dX7_readKind_115 rfl 0 rfl ?_
              refine z_aload_n (r := p1) hX dX7_readKind_116 rfl 1 rfl ?_
              refine z_callVI (As := [va_rf p1]) (rest := []) (ci := 7) hX (ct_X7_readJoin h) mw_RX7_124 rfl (by decide) rfl (by rfl) (by unfold RoomC; decide) (by decide) dX7_readKind_117 hk36 (fun r37 M38 h => ?_)
              refine z_loc [] rfl ?_
              refine z_widen 11 52 (by decide) (by decide) ?_
              exact zb_X7_readKind_120 hX hQ hnL h
            · have h := h2 hc
              refine z_aload_n (r := (some h0)) hX dX7_readKind_106 rfl 0 rfl ?_
              refine z_bipush (v := (6 : Int32)) hX dX7_readKind_107 (by decide) ?_
              refine z_callVI (As := [.int (6 : Int32)]) (rest := []) (ci := 7) hX (ct_X7_refuse h) mw_RX7_34 rfl (by decide) rfl (by rfl) (by unfold RoomC; decide) (by decide) dX7_readKind_109 hk36 (fun r40 M41 h => ?_)
              refine z_goto (tgt := 120) hX dX7_readKind_112 (by decide) ?_
              refine z_loc [] rfl ?_
              refine z_widen 11 52 (by decide) (by decide) ?_
              exact zb_X7_readKind_120 hX hQ hnL h
        · have h := h2 hc
          refine z_aload_n (r := (some h0)) hX dX7_readKind_58 rfl 0 rfl ?_
          obtain ⟨hk43, h⟩ := h
          refine gf_RX7_9 (r := (some h0)) hX dX7_readKind_59 rfl hk43 ?_
          obtain ⟨a46, ha47, h⟩ := h
          obtain ⟨hk48, h⟩ := h
          refine z_callVV (As := []) (rest := []) (ci := 4) hX (ct_X4_advance h) mw_RX7_19 rfl (by decide) rfl (by rw [ha47]; rfl) (by unfold RoomC; decide) (by decide) dX7_readKind_62 hk48 (fun M45 h => ?_)
          refine z_aload_n (r := (some h0)) hX dX7_readKind_65 rfl 0 rfl ?_
          refine z_aload_n (r := p1) hX dX7_readKind_66 rfl 1 rfl ?_
          obtain ⟨hk52, h⟩ := h
          refine z_callVI (As := [va_rf p1]) (rest := []) (ci := 7) hX (ct_X7_readInput h) mw_RX7_116 rfl (by decide) rfl (by rfl) (by unfold RoomC; decide) (by decide) dX7_readKind_67 hk52 (fun r50 M51 h => ?_)
          obtain ⟨h1, h2⟩ := h
          refine z_if_eq (tgt := 86) hX dX7_readKind_70 (by decide) (fun hc => ?_) (fun hc => ?_)
          · have h := h1 hc
            refine z_loc [] rfl ?_
            refine z_widen 0 0 (by decide) (by decide) ?_
            exact zb_X7_readKind_86 hX hQ hnL h
          · have h := h2 hc
            refine z_aload_n (r := (some h0)) hX dX7_readKind_73 rfl 0 rfl ?_
            refine z_bipush (v := (59 : Int32)) hX dX7_readKind_74 (by decide) ?_
            obtain ⟨hk56, h⟩ := h
            refine z_callVI (As := [.int (59 : Int32)]) (rest := []) (ci := 7) hX (ct_X7_readSign h) mw_RX7_78 rfl (by decide) rfl (by rfl) (by unfold RoomC; decide) (by decide) dX7_readKind_76 hk56 (fun r54 M55 h => ?_)
            obtain ⟨h1, h2⟩ := h
            refine z_if_eq (tgt := 86) hX dX7_readKind_79 (by decide) (fun hc => ?_) (fun hc => ?_)
            · have h := h1 hc
              refine z_loc [] rfl ?_
              refine z_widen 0 0 (by decide) (by decide) ?_
              exact zb_X7_readKind_86 hX hQ hnL h
            · have h := h2 hc
              refine z_iconst (v := (1 : Int32)) hX dX7_readKind_82 (by decide) ?_
              refine z_goto (tgt := 87) hX dX7_readKind_83 (by decide) ?_
              refine z_loc [] rfl ?_
              refine z_widen 0 0 (by decide) (by decide) ?_
              exact zb_X7_readKind_87 hX hQ hnL h
      · have h := h2 hc
        refine z_aload_n (r := (some h0)) hX dX7_readKind_42 rfl 0 rfl ?_
        refine z_aload_n (r := p1) hX dX7_readKind_43 rfl 1 rfl ?_
        obtain ⟨hk60, h⟩ := h
        refine z_callVI (As := [va_rf p1]) (rest := []) (ci := 7) hX (ct_X7_readDelay h) mw_RX7_111 rfl (by decide) rfl (by rfl) (by unfold RoomC; decide) (by decide) dX7_readKind_44 hk60 (fun r58 M59 h => ?_)
        refine z_widen 11 78 (by decide) (by decide) ?_
        exact y_zret hX hQ dX7_readKind_47 h.1 h.2
    · have h := h2 hc
      refine z_aload_n (r := (some h0)) hX dX7_readKind_26 rfl 0 rfl ?_
      refine z_aload_n (r := p1) hX dX7_readKind_27 rfl 1 rfl ?_
      obtain ⟨hk64, h⟩ := h
      refine z_callVI (As := [va_rf p1]) (rest := []) (ci := 7) hX (ct_X7_readUnion h) mw_RX7_106 rfl (by decide) rfl (by rfl) (by unfold RoomC; decide) (by decide) dX7_readKind_28 hk64 (fun r62 M63 h => ?_)
      refine z_widen 11 78 (by decide) (by decide) ?_
      exact y_zret hX hQ dX7_readKind_31 h.1 h.2
  · have h := h2 hc
    refine z_aload_n (r := (some h0)) hX dX7_readKind_10 rfl 0 rfl ?_
    refine z_aload_n (r := p1) hX dX7_readKind_11 rfl 1 rfl ?_
    obtain ⟨hk68, h⟩ := h
    refine z_callVI (As := [va_rf p1]) (rest := []) (ci := 7) hX (ct_X7_readSource h) mw_RX7_101 rfl (by decide) rfl (by rfl) (by unfold RoomC; decide) (by decide) dX7_readKind_12 hk68 (fun r66 M67 h => ?_)
    refine z_widen 11 78 (by decide) (by decide) ?_
    exact y_zret hX hQ dX7_readKind_15 h.1 h.2
def rm_X7_readText : Room := { frames := 6, cells := 286, slots := 2068, locals := 136 }
def bk_X7_readText_91 (h0 : Nat) (K : Int32 → Mm → Prop) (M : Mm) : Prop := (K (0 : Int32) M)
set_option maxRecDepth 100000 in
set_option maxHeartbeats 4000000 in
theorem zb_X7_readText_91 {X : Cx} {h0 : Nat} {K : Int32 → Mm → Prop} (hX : Ok X cX7_readText RX7 rm_X7_readText) (hQ : Rq X rm_X7_readText (some .boolean) (QI K)) (hnL : X.2.2.2.2.2.2.2.2.2.2.2.2.2.2 = 4) {M : Mm} (h : bk_X7_readText_91 h0 K M) : Z X M 286 2068 91 [] [] := by
  unfold bk_X7_readText_91 at h
  refine z_iconst (v := (0 : Int32)) hX dX7_readText_91 (by decide) ?_
  refine z_widen 286 2068 (by first | omega | (simp only [rm_X1_add, rm_X4_advance, rm_X7_isKeyword, rm_X7_readAlign, rm_X7_readBeginning, rm_X7_readKind, rm_X7_refuse]; omega)) (by first | omega | (simp only [rm_X1_add, rm_X4_advance, rm_X7_isKeyword, rm_X7_readAlign, rm_X7_readBeginning, rm_X7_readKind, rm_X7_refuse]; omega)) ?_
  exact y_zret hX hQ dX7_readText_92 (Or.inl rfl) h
def bk_X7_readText_101 (h0 : Nat) (R9 : Int32 → Mm → Prop) (K : Int32 → Mm → Prop) (l1 : Int32) (M : Mm) : Prop := (R9 (l1 + 1) M)
set_option maxRecDepth 100000 in
set_option maxHeartbeats 4000000 in
theorem zb_X7_readText_101 {X : Cx} {h0 : Nat} {R9 : Int32 → Mm → Prop} {K : Int32 → Mm → Prop} (hX : Ok X cX7_readText RX7 rm_X7_readText) (hQ : Rq X rm_X7_readText (some .boolean) (QI K)) (hnL : X.2.2.2.2.2.2.2.2.2.2.2.2.2.2 = 4) {cc0 ss0 : Nat} (hcs : cc0 + 13 ≤ 286 ∧ ss0 + 94 ≤ 2068) (hR9 : ∀ l1 M, R9 l1 M → Z X M (cc0 + 13) (ss0 + 94) 9 [(0, va_rf (some h0)), (1, .int l1)] []) {l1 : Int32} {M : Mm} (h : bk_X7_readText_101 h0 R9 K l1 M) : Z X M (cc0 + 13) (ss0 + 94) 101 [(0, va_rf (some h0)), (1, .int l1)] [] := by
  unfold bk_X7_readText_101 at h
  refine z_iinc (v := (l1 + 1)) hX [(1, .int (l1 + 1)), (0, va_rf (some h0))] dX7_readText_101 1 rfl rfl (by rw [hnL]; decide) rfl ?_
  refine z_goto (tgt := 9) hX dX7_readText_104 (by decide) ?_
  refine z_loc [1, 0] rfl ?_
  refine z_widen (cc0 + 13) (ss0 + 94) (by first | omega | (simp only [rm_X1_add, rm_X4_advance, rm_X7_isKeyword, rm_X7_readAlign, rm_X7_readBeginning, rm_X7_readKind, rm_X7_refuse]; omega)) (by first | omega | (simp only [rm_X1_add, rm_X4_advance, rm_X7_isKeyword, rm_X7_readAlign, rm_X7_readBeginning, rm_X7_readKind, rm_X7_refuse]; omega)) ?_
  exact hR9 _ _ h
def bk_X7_readText_42 (h0 : Nat) (R9 : Int32 → Mm → Prop) (K : Int32 → Mm → Prop) (l1 : Int32) (s0 : Int32) (M : Mm) : Prop := mK M h0 = 8 ∧ (wp_X7_isKeyword M h0 (418430674798 : Int64) (fun r1 M2 => ((r1 = 0 → mK M2 h0 = 8 ∧ (wp_X7_readBeginning M2 h0 s0 (fun r5 M6 => ((r5 = none → (bk_X7_readText_91 h0 K M6)) ∧ (∀ a9, r5 = some a9 → mK M6 h0 = 8 ∧ (wp_X7_readKind M6 h0 r5 (fun r11 M12 => ((¬ r11 = 0 → mK M12 h0 = 8 ∧ ∃ a18, (mR M12 449 h0) = some a18 ∧ mK M12 a18 = 2 ∧ (wp_X1_add M12 a18 r5 (fun M17 => (bk_X7_readText_101 h0 R9 K l1 M17)))) ∧ (r11 = 0 → (bk_X7_readText_91 h0 K M12)))))))))) ∧ (¬ r1 = 0 → ((s0 = 0 → mK M2 h0 = 8 ∧ (wp_X7_readAlign M2 h0 (fun r22 M23 => ((¬ r22 = 0 → (bk_X7_readText_101 h0 R9 K l1 M23)) ∧ (r22 = 0 → (K (0 : Int32) M23)))))) ∧ (¬ s0 = 0 → mK M2 h0 = 8 ∧ (wp_X7_refuse M2 h0 (6 : Int32) (fun r26 M27 => (bz r26 ∧ K r26 M27)))))))))
set_option maxRecDepth 100000 in
set_option maxHeartbeats 4000000 in
theorem zb_X7_readText_42 {X : Cx} {h0 : Nat} {R9 : Int32 → Mm → Prop} {K : Int32 → Mm → Prop} (hX : Ok X cX7_readText RX7 rm_X7_readText) (hQ : Rq X rm_X7_readText (some .boolean) (QI K)) (hnL : X.2.2.2.2.2.2.2.2.2.2.2.2.2.2 = 4) {cc0 ss0 : Nat} (hcs : cc0 + 13 ≤ 286 ∧ ss0 + 94 ≤ 2068) (hR9 : ∀ l1 M, R9 l1 M → Z X M (cc0 + 13) (ss0 + 94) 9 [(0, va_rf (some h0)), (1, .int l1)] []) {l1 : Int32} {s0 : Int32} {M : Mm} (h : bk_X7_readText_42 h0 R9 K l1 s0 M) : Z X M (cc0 + 0) (ss0 + 0) 42 [(0, va_rf (some h0)), (1, .int l1)] [.int s0] := by
  unfold bk_X7_readText_42 at h
  refine z_istore_n hX [(2, .int s0), (0, va_rf (some h0)), (1, .int l1)] dX7_readText_42 rfl (by rw [hnL]; decide) rfl ?_
  refine z_aload_n (r := (some h0)) hX dX7_readText_43 rfl 1 rfl ?_
  refine z_ldc2 (v := (418430674798 : Int64)) hX dX7_readText_44 kj_RX7_28 ?_
  obtain ⟨hk3, h⟩ := h
  refine z_callVI (As := [.long (418430674798 : Int64)]) (rest := []) (ci := 7) hX (ct_X7_isKeyword h) mw_RX7_30 rfl (by decide) rfl (by rfl) (by simp only [RoomC, rm_X7_readText, rm_X1_add, rm_X4_advance, rm_X7_isKeyword, rm_X7_readAlign, rm_X7_readBeginning, rm_X7_readKind, rm_X7_refuse]; omega) (by decide) dX7_readText_47 hk3 (fun r1 M2 h => ?_)
  obtain ⟨h1, h2⟩ := h
  refine z_if_eq (tgt := 73) hX dX7_readText_50 (by decide) (fun hc => ?_) (fun hc => ?_)
  · have h := h1 hc
    refine z_aload_n (r := (some h0)) hX dX7_readText_73 rfl 1 rfl ?_
    refine z_iload_n hX dX7_readText_74 rfl 0 rfl ?_
    obtain ⟨hk7, h⟩ := h
    refine z_callVR (As := [.int s0]) (rest := []) (ci := 7) hX (ct_X7_readBeginning h) mw_RX7_42 rfl (by decide) rfl (by rfl) (by simp only [RoomC, rm_X7_readText, rm_X1_add, rm_X4_advance, rm_X7_isKeyword, rm_X7_readAlign, rm_X7_readBeginning, rm_X7_readKind, rm_X7_refuse]; omega) (by decide) dX7_readText_75 hk7 (fun r5 M6 h => ?_)
    refine z_astore_n (r := r5) hX [(3, va_rf r5), (2, .int s0), (0, va_rf (some h0)), (1, .int l1)] dX7_readText_78 rfl (by rw [hnL]; decide) rfl ?_
    refine z_aload_n (r := r5) hX dX7_readText_79 rfl 0 rfl ?_
    obtain ⟨h1, h2⟩ := h
    refine z_ifnull (r := r5) (tgt := 91) hX dX7_readText_80 (by decide) (fun hc => ?_) (fun a9 ha10 => ?_)
    · have h := h1 hc
      refine z_loc [] rfl ?_
      refine z_widen 286 2068 (by first | omega | (simp only [rm_X1_add, rm_X4_advance, rm_X7_isKeyword, rm_X7_readAlign, rm_X7_readBeginning, rm_X7_readKind, rm_X7_refuse]; omega)) (by first | omega | (simp only [rm_X1_add, rm_X4_advance, rm_X7_isKeyword, rm_X7_readAlign, rm_X7_readBeginning, rm_X7_readKind, rm_X7_refuse]; omega)) ?_
      exact zb_X7_readText_91 hX hQ hnL h
    · have h := h2 a9 ha10
      refine z_aload_n (r := (some h0)) hX dX7_readText_83 rfl 2 rfl ?_
      refine z_aload_n (r := r5) hX dX7_readText_84 rfl 0 rfl ?_
      obtain ⟨hk13, h⟩ := h
      refine z_callVI (As := [va_rf r5]) (rest := []) (ci := 7) hX (ct_X7_readKind h) mw_RX7_46 rfl (by decide) rfl (by rfl) (by simp only [RoomC, rm_X7_readText, rm_X1_add, rm_X4_advance, rm_X7_isKeyword, rm_X7_readAlign, rm_X7_readBeginning, rm_X7_readKind, rm_X7_refuse]; omega) (by decide) dX7_readText_85 hk13 (fun r11 M12 h => ?_)
      obtain ⟨h1, h2⟩ := h
      refine z_if_ne (tgt := 93) hX dX7_readText_88 (by decide) (fun hc => ?_) (fun hc => ?_)
      · have h := h1 hc
        refine z_aload_n (r := (some h0)) hX dX7_readText_93 rfl 2 rfl ?_
        obtain ⟨hk15, h⟩ := h
        refine gf_RX7_15 (r := (some h0)) hX dX7_readText_94 rfl hk15 ?_
        refine z_aload_n (r := r5) hX dX7_readText_97 rfl 0 rfl ?_
        obtain ⟨a18, ha19, h⟩ := h
        obtain ⟨hk20, h⟩ := h
        refine z_callVV (As := [va_rf r5]) (rest := []) (ci := 1) hX (ct_X1_add h) mw_RX7_50 rfl (by decide) rfl (by rw [ha19]; rfl) (by simp only [RoomC, rm_X7_readText, rm_X1_add, rm_X4_advance, rm_X7_isKeyword, rm_X7_readAlign, rm_X7_readBeginning, rm_X7_readKind, rm_X7_refuse]; omega) (by decide) dX7_readText_98 hk20 (fun M17 h => ?_)
        refine z_loc [2, 3] rfl ?_
        refine z_widen (cc0 + 13) (ss0 + 94) (by first | omega | (simp only [rm_X1_add, rm_X4_advance, rm_X7_isKeyword, rm_X7_readAlign, rm_X7_readBeginning, rm_X7_readKind, rm_X7_refuse]; omega)) (by first | omega | (simp only [rm_X1_add, rm_X4_advance, rm_X7_isKeyword, rm_X7_readAlign, rm_X7_readBeginning, rm_X7_readKind, rm_X7_refuse]; omega)) ?_
        exact zb_X7_readText_101 hX hQ hnL hcs hR9 h
      · have h := h2 hc
        refine z_loc [] rfl ?_
        refine z_widen 286 2068 (by first | omega | (simp only [rm_X1_add, rm_X4_advance, rm_X7_isKeyword, rm_X7_readAlign, rm_X7_readBeginning, rm_X7_readKind, rm_X7_refuse]; omega)) (by first | omega | (simp only [rm_X1_add, rm_X4_advance, rm_X7_isKeyword, rm_X7_readAlign, rm_X7_readBeginning, rm_X7_readKind, rm_X7_refuse]; omega)) ?_
        exact zb_X7_readText_91 hX hQ hnL h
  · have h := h2 hc
    refine z_iload_n hX dX7_readText_53 rfl 0 rfl ?_
    obtain ⟨h1, h2⟩ := h
    refine z_if_eq (tgt := 64) hX dX7_readText_54 (by decide) (fun hc => ?_) (fun hc => ?_)
    · have h := h1 hc
      refine z_aload_n (r := (some h0)) hX dX7_readText_64 rfl 1 rfl ?_
      obtain ⟨hk24, h⟩ := h
      refine z_callVI (As := []) (rest := []) (ci := 7) hX (ct_X7_readAlign h) mw_RX7_38 rfl (by decide) rfl (by rfl) (by simp only [RoomC, rm_X7_readText, rm_X1_add, rm_X4_advance, rm_X7_isKeyword, rm_X7_readAlign, rm_X7_readBeginning, rm_X7_readKind, rm_X7_refuse]; omega) (by decide) dX7_readText_65 hk24 (fun r22 M23 h => ?_)
      obtain ⟨h1, h2⟩ := h
      refine z_if_ne (tgt := 101) hX dX7_readText_68 (by decide) (fun hc => ?_) (fun hc => ?_)
      · have h := h1 hc
        refine z_loc [1, 2] rfl ?_
        refine z_widen (cc0 + 13) (ss0 + 94) (by first | omega | (simp only [rm_X1_add, rm_X4_advance, rm_X7_isKeyword, rm_X7_readAlign, rm_X7_readBeginning, rm_X7_readKind, rm_X7_refuse]; omega)) (by first | omega | (simp only [rm_X1_add, rm_X4_advance, rm_X7_isKeyword, rm_X7_readAlign, rm_X7_readBeginning, rm_X7_readKind, rm_X7_refuse]; omega)) ?_
        exact zb_X7_readText_101 hX hQ hnL hcs hR9 h
      · have h := h2 hc
        refine z_iconst (v := (0 : Int32)) hX dX7_readText_71 (by decide) ?_
        refine z_widen 286 2068 (by first | omega | (simp only [rm_X1_add, rm_X4_advance, rm_X7_isKeyword, rm_X7_readAlign, rm_X7_readBeginning, rm_X7_readKind, rm_X7_refuse]; omega)) (by first | omega | (simp only [rm_X1_add, rm_X4_advance, rm_X7_isKeyword, rm_X7_readAlign, rm_X7_readBeginning, rm_X7_readKind, rm_X7_refuse]; omega)) ?_
        exact y_zret hX hQ dX7_readText_72 (Or.inl rfl) h
    · have h := h2 hc
      refine z_aload_n (r := (some h0)) hX dX7_readText_57 rfl 1 rfl ?_
      refine z_bipush (v := (6 : Int32)) hX dX7_readText_58 (by decide) ?_
      obtain ⟨hk28, h⟩ := h
      refine z_callVI (As := [.int (6 : Int32)]) (rest := []) (ci := 7) hX (ct_X7_refuse h) mw_RX7_34 rfl (by decide) rfl (by rfl) (by simp only [RoomC, rm_X7_readText, rm_X1_add, rm_X4_advance, rm_X7_isKeyword, rm_X7_readAlign, rm_X7_readBeginning, rm_X7_readKind, rm_X7_refuse]; omega) (by decide) dX7_readText_60 hk28 (fun r26 M27 h => ?_)
      refine z_widen 286 2068 (by first | omega | (simp only [rm_X1_add, rm_X4_advance, rm_X7_isKeyword, rm_X7_readAlign, rm_X7_readBeginning, rm_X7_readKind, rm_X7_refuse]; omega)) (by first | omega | (simp only [rm_X1_add, rm_X4_advance, rm_X7_isKeyword, rm_X7_readAlign, rm_X7_readBeginning, rm_X7_readKind, rm_X7_refuse]; omega)) ?_
      exact y_zret hX hQ dX7_readText_63 h.1 h.2
def bk_X7_readText_31 (h0 : Nat) (R9 : Int32 → Mm → Prop) (K : Int32 → Mm → Prop) (l1 : Int32) (M : Mm) : Prop := ((¬ l1 = (20 : Int32) → (bk_X7_readText_42 h0 R9 K l1 (0 : Int32) M)) ∧ (l1 = (20 : Int32) → (bk_X7_readText_42 h0 R9 K l1 (1 : Int32) M)))
set_option maxRecDepth 100000 in
set_option maxHeartbeats 4000000 in
theorem zb_X7_readText_31 {X : Cx} {h0 : Nat} {R9 : Int32 → Mm → Prop} {K : Int32 → Mm → Prop} (hX : Ok X cX7_readText RX7 rm_X7_readText) (hQ : Rq X rm_X7_readText (some .boolean) (QI K)) (hnL : X.2.2.2.2.2.2.2.2.2.2.2.2.2.2 = 4) {cc0 ss0 : Nat} (hcs : cc0 + 13 ≤ 286 ∧ ss0 + 94 ≤ 2068) (hR9 : ∀ l1 M, R9 l1 M → Z X M (cc0 + 13) (ss0 + 94) 9 [(0, va_rf (some h0)), (1, .int l1)] []) {l1 : Int32} {M : Mm} (h : bk_X7_readText_31 h0 R9 K l1 M) : Z X M (cc0 + 0) (ss0 + 0) 31 [(0, va_rf (some h0)), (1, .int l1)] [] := by
  unfold bk_X7_readText_31 at h
  refine z_iload_n hX dX7_readText_31 rfl 1 rfl ?_
  refine z_bipush (v := (20 : Int32)) hX dX7_readText_32 (by decide) ?_
  obtain ⟨h1, h2⟩ := h
  refine z_icmp_ne (tgt := 41) hX dX7_readText_34 (by decide) (fun hc => ?_) (fun hc => ?_)
  · have h := h1 hc
    refine z_iconst (v := (0 : Int32)) hX dX7_readText_41 (by decide) ?_
    refine z_widen (cc0 + 0) (ss0 + 0) (by first | omega | (simp only [rm_X1_add, rm_X4_advance, rm_X7_isKeyword, rm_X7_readAlign, rm_X7_readBeginning, rm_X7_readKind, rm_X7_refuse]; omega)) (by first | omega | (simp only [rm_X1_add, rm_X4_advance, rm_X7_isKeyword, rm_X7_readAlign, rm_X7_readBeginning, rm_X7_readKind, rm_X7_refuse]; omega)) ?_
    exact zb_X7_readText_42 hX hQ hnL hcs hR9 h
  · have h := h2 hc
    refine z_iconst (v := (1 : Int32)) hX dX7_readText_37 (by decide) ?_
    refine z_goto (tgt := 42) hX dX7_readText_38 (by decide) ?_
    refine z_widen (cc0 + 0) (ss0 + 0) (by first | omega | (simp only [rm_X1_add, rm_X4_advance, rm_X7_isKeyword, rm_X7_readAlign, rm_X7_readBeginning, rm_X7_readKind, rm_X7_refuse]; omega)) (by first | omega | (simp only [rm_X1_add, rm_X4_advance, rm_X7_isKeyword, rm_X7_readAlign, rm_X7_readBeginning, rm_X7_readKind, rm_X7_refuse]; omega)) ?_
    exact zb_X7_readText_42 hX hQ hnL hcs hR9 h
def lp_X7_readText_9 (h0 : Nat) (K : Int32 → Mm → Prop) : Nat → Int32 → Mm → Prop
  | 0, _, _ => False
  | n + 1, l1, M => (((20 : Int32) < l1 → (K (0 : Int32) M)) ∧ (¬ (20 : Int32) < l1 → ((l1 ≤ 0 → (bk_X7_readText_31 h0 (lp_X7_readText_9 h0 K n) K l1 M)) ∧ (¬ l1 ≤ 0 → mK M h0 = 8 ∧ ∃ a31, (mR M 448 h0) = some a31 ∧ mK M a31 = 5 ∧ ((¬ (mI M 258 a31) = 0 → (bk_X7_readText_31 h0 (lp_X7_readText_9 h0 K n) K l1 M)) ∧ ((mI M 258 a31) = 0 → (K (1 : Int32) M)))))))
set_option maxRecDepth 100000 in
set_option maxHeartbeats 4000000 in
theorem zl_X7_readText_9 {X : Cx} {h0 : Nat} {K : Int32 → Mm → Prop} (hX : Ok X cX7_readText RX7 rm_X7_readText) (hQ : Rq X rm_X7_readText (some .boolean) (QI K)) (hnL : X.2.2.2.2.2.2.2.2.2.2.2.2.2.2 = 4) : ∀ (n : Nat), n ≤ 22 → ∀ (l1 : Int32)  (M : Mm), lp_X7_readText_9 h0 K n l1 M → Z X M (0 + (22 - n) * 13) (0 + (22 - n) * 94) 9 [(0, va_rf (some h0)), (1, .int l1)] [] := by
  intro n
  induction n with
  | zero =>
    intro _ l1 M h
    exact False.elim h
  | succ n ih =>
    intro hn l1 M h
    obtain ⟨cc0, hc0⟩ : ∃ cc0, cc0 = 0 + (22 - (n + 1)) * 13 := ⟨_, rfl⟩
    obtain ⟨ss0, hs0⟩ : ∃ ss0, ss0 = 0 + (22 - (n + 1)) * 94 := ⟨_, rfl⟩
    have hcs : cc0 + 13 ≤ 286 ∧ ss0 + 94 ≤ 2068 := by constructor <;> omega
    have hR9 : ∀ l1 M, lp_X7_readText_9 h0 K n l1 M → Z X M (cc0 + 13) (ss0 + 94) 9 [(0, va_rf (some h0)), (1, .int l1)] [] := fun l1 M h => by
      have q := ih (by omega) l1 M h
      rw [show 0 + (22 - n) * 13 = cc0 + 13 by omega, show 0 + (22 - n) * 94 = ss0 + 94 by omega] at q
      exact q
    rw [← hc0, ← hs0]
    refine z_iload_n hX dX7_readText_9 rfl 1 rfl ?_
    refine z_bipush (v := (20 : Int32)) hX dX7_readText_10 (by decide) ?_
    obtain ⟨h1, h2⟩ := h
    refine z_icmp_gt (tgt := 107) hX dX7_readText_12 (by decide) (fun hc => ?_) (fun hc => ?_)
    · have h := h1 hc
      refine z_iconst (v := (0 : Int32)) hX dX7_readText_107 (by decide) ?_
      refine z_widen 286 2068 (by first | omega | (simp only [rm_X1_add, rm_X4_advance, rm_X7_isKeyword, rm_X7_readAlign, rm_X7_readBeginning, rm_X7_readKind, rm_X7_refuse]; omega)) (by first | omega | (simp only [rm_X1_add, rm_X4_advance, rm_X7_isKeyword, rm_X7_readAlign, rm_X7_readBeginning, rm_X7_readKind, rm_X7_refuse]; omega)) ?_
      exact y_zret hX hQ dX7_readText_108 (Or.inl rfl) h
    · have h := h2 hc
      refine z_iload_n hX dX7_readText_15 rfl 1 rfl ?_
      obtain ⟨h1, h2⟩ := h
      refine z_if_le (tgt := 31) hX dX7_readText_16 (by decide) (fun hc => ?_) (fun hc => ?_)
      · have h := h1 hc
        refine z_widen (cc0 + 0) (ss0 + 0) (by first | omega | (simp only [rm_X1_add, rm_X4_advance, rm_X7_isKeyword, rm_X7_readAlign, rm_X7_readBeginning, rm_X7_readKind, rm_X7_refuse]; omega)) (by first | omega | (simp only [rm_X1_add, rm_X4_advance, rm_X7_isKeyword, rm_X7_readAlign, rm_X7_readBeginning, rm_X7_readKind, rm_X7_refuse]; omega)) ?_
        exact zb_X7_readText_31 hX hQ hnL hcs hR9 h
      · have h := h2 hc
        refine z_aload_n (r := (some h0)) hX dX7_readText_19 rfl 0 rfl ?_
        obtain ⟨hk30, h⟩ := h
        refine gf_RX7_9 (r := (some h0)) hX dX7_readText_20 rfl hk30 ?_
        obtain ⟨a31, ha32, h⟩ := h
        obtain ⟨hk33, h⟩ := h
        refine gf_RX7_24 (r := (mR M 448 h0)) hX dX7_readText_23 ha32 hk33 ?_
        obtain ⟨h1, h2⟩ := h
        refine z_if_ne (tgt := 31) hX dX7_readText_26 (by decide) (fun hc => ?_) (fun hc => ?_)
        · have h := h1 hc
          refine z_widen (cc0 + 0) (ss0 + 0) (by first | omega | (simp only [rm_X1_add, rm_X4_advance, rm_X7_isKeyword, rm_X7_readAlign, rm_X7_readBeginning, rm_X7_readKind, rm_X7_refuse]; omega)) (by first | omega | (simp only [rm_X1_add, rm_X4_advance, rm_X7_isKeyword, rm_X7_readAlign, rm_X7_readBeginning, rm_X7_readKind, rm_X7_refuse]; omega)) ?_
          exact zb_X7_readText_31 hX hQ hnL hcs hR9 h
        · have h := h2 hc
          refine z_iconst (v := (1 : Int32)) hX dX7_readText_29 (by decide) ?_
          refine z_widen 286 2068 (by first | omega | (simp only [rm_X1_add, rm_X4_advance, rm_X7_isKeyword, rm_X7_readAlign, rm_X7_readBeginning, rm_X7_readKind, rm_X7_refuse]; omega)) (by first | omega | (simp only [rm_X1_add, rm_X4_advance, rm_X7_isKeyword, rm_X7_readAlign, rm_X7_readBeginning, rm_X7_readKind, rm_X7_refuse]; omega)) ?_
          exact y_zret hX hQ dX7_readText_30 (Or.inr rfl) h
def wp_X7_readText (M : Mm) (h0 : Nat) (K : Int32 → Mm → Prop) : Prop := mK M h0 = 8 ∧ ∃ a37, (mR M 448 h0) = some a37 ∧ mK M a37 = 5 ∧ (wp_X4_advance M a37 (fun M36 => (lp_X7_readText_9 h0 K 22 (0 : Int32) M36)))
set_option maxRecDepth 100000 in
set_option maxHeartbeats 4000000 in
theorem ct_X7_readText {M : Mm} {h0 : Nat} {K : Int32 → Mm → Prop} (h : wp_X7_readText M h0 K) : CtI yX7_readText cX7_readText 4 (some .boolean) rm_X7_readText [.ref h0] M K := by
  refine ct_any (QI K) (by decide) (by exact Nat.le_of_ble_eq_true rfl) (fun X hX hQ hnL hnm => ?_)
  rw [show lv_args 0 [.ref h0] = [(0, va_rf (some h0))] by rfl]
  have hX : Ok X cX7_readText RX7 rm_X7_readText := hX
  unfold wp_X7_readText at h
  refine z_aload_n (r := (some h0)) hX dX7_readText_0 rfl 0 rfl ?_
  obtain ⟨hk34, h⟩ := h
  refine gf_RX7_9 (r := (some h0)) hX dX7_readText_1 rfl hk34 ?_
  obtain ⟨a37, ha38, h⟩ := h
  obtain ⟨hk39, h⟩ := h
  refine z_callVV (As := []) (rest := []) (ci := 4) hX (ct_X4_advance h) mw_RX7_19 rfl (by decide) rfl (by rw [ha38]; rfl) (by simp only [RoomC, rm_X7_readText, rm_X1_add, rm_X4_advance, rm_X7_isKeyword, rm_X7_readAlign, rm_X7_readBeginning, rm_X7_readKind, rm_X7_refuse]; omega) (by decide) dX7_readText_4 hk39 (fun M36 h => ?_)
  refine z_iconst (v := (0 : Int32)) hX dX7_readText_7 (by decide) ?_
  refine z_istore_n hX [(1, .int (0 : Int32)), (0, va_rf (some h0))] dX7_readText_8 rfl (by rw [hnL]; decide) rfl ?_
  refine z_loc [1, 0] rfl ?_
  refine z_widen 0 0 (by first | omega | (simp only [rm_X1_add, rm_X4_advance, rm_X7_isKeyword, rm_X7_readAlign, rm_X7_readBeginning, rm_X7_readKind, rm_X7_refuse]; omega)) (by first | omega | (simp only [rm_X1_add, rm_X4_advance, rm_X7_isKeyword, rm_X7_readAlign, rm_X7_readBeginning, rm_X7_readKind, rm_X7_refuse]; omega)) ?_
  exact zl_X7_readText_9 hX hQ hnL 22 (by decide) _ _ h
def rm_X10_build : Room := { frames := 7, cells := 295, slots := 2288, locals := 159 }
def wp_X10_build (M : Mm) (h0 : Nat) (K : Int32 → Mm → Prop) : Prop := (∀ q1, mK M q1 = 0 → (∀ q4, mK (nw M q1 8) q4 = 0 → mK (nw (nw M q1 8) q4 5) h0 = 11 ∧ (wp_X4_init (nw (nw M q1 8) q4 5) q4 (mR (nw (nw M q1 8) q4 5) 640 h0) (fun M9 => (∀ q11, mK M9 q11 = 0 → mK (nw M9 q11 2) h0 = 11 ∧ (wp_X1_init (nw M9 q11 2) q11 (mR (nw M9 q11 2) 642 h0) (mR (nw M9 q11 2) 643 h0) (fun M16 => (wp_X7_init M16 q1 (some q4) (some q11) (fun M19 => mK M19 q1 = 8 ∧ (wp_X7_readText M19 q1 (fun r21 M22 => mK M22 h0 = 11 ∧ ∃ a28, (mR M22 640 h0) = some a28 ∧ mK M22 a28 = 1 ∧ (wp_X0_clear M22 a28 (fun M27 => mK M27 q1 = 8 ∧ mK M27 h0 = 11 ∧ ((¬ r21 = 0 → ∃ a38, (mR (sR (sI M27 645 h0 (mI M27 450 q1)) 644 h0 (mR (sI M27 645 h0 (mI M27 450 q1)) 449 q1)) 642 h0) = some a38 ∧ mK (sR (sI M27 645 h0 (mI M27 450 q1)) 644 h0 (mR (sI M27 645 h0 (mI M27 450 q1)) 449 q1)) a38 = 4 ∧ (wp_X3_clear (sR (sI M27 645 h0 (mI M27 450 q1)) 644 h0 (mR (sI M27 645 h0 (mI M27 450 q1)) 449 q1)) a38 (fun M37 => mK M37 h0 = 11 ∧ ∃ a45, (mR M37 643 h0) = some a45 ∧ mK M37 a45 = 4 ∧ (wp_X3_clear M37 a45 (fun M44 => mK M44 h0 = 11 ∧ ∃ a50, (mR M44 644 h0) = some a50 ∧ mK M44 a50 = 2 ∧ (K (mI M44 69 a50) M44)))))) ∧ (r21 = 0 → (K ((-10 : Int32) - (mI (sI M27 645 h0 (mI M27 450 q1)) 451 q1)) (sI M27 645 h0 (mI M27 450 q1))))))))))))))))))
set_option maxRecDepth 100000 in
set_option maxHeartbeats 4000000 in
theorem ct_X10_build {M : Mm} {h0 : Nat} {K : Int32 → Mm → Prop} (h : wp_X10_build M h0 K) : CtI yX10_build cX10_build 3 (some .int) rm_X10_build [.ref h0] M K := by
  refine ct_any (QI K) (by decide) (by exact Nat.le_of_ble_eq_true rfl) (fun X hX hQ hnL hnm => ?_)
  rw [show lv_args 0 [.ref h0] = [(0, va_rf (some h0))] by rfl]
  have hX : Ok X cX10_build RX10 rm_X10_build := hX
  unfold wp_X10_build at h
  refine nq_RX10_45 hX dX10_build_0 (by decide) (by decide) (fun q1 hq2 => ?_)
  have h := h q1 hq2
  refine z_dup hX dX10_build_3 (cat_rf _) ?_
  refine nq_RX10_47 hX dX10_build_4 (by decide) (by decide) (fun q4 hq5 => ?_)
  have h := h q4 hq5
  refine z_dup hX dX10_build_7 (cat_rf _) ?_
  refine z_aload_n (r := (some h0)) hX dX10_build_8 rfl 0 rfl ?_
  obtain ⟨hk7, h⟩ := h
  refine gf_RX10_14 (r := (some h0)) hX dX10_build_9 rfl hk7 ?_
  refine z_callIV (As := [va_rf (mR (nw (nw M q1 8) q4 5) 640 h0)]) (rest := [va_rf (some q4), va_rf (some q1), va_rf (some q1)]) hX (ct_X4_init h) mw_RX10_49 rfl (by rfl) (by unfold RoomC; decide) (by simp only [List.map_cons, List.map_nil, List.sum_cons, List.sum_nil, cat_rf, cat_i, cat_j]; decide) dX10_build_12 (fun M9 h => ?_)
  refine nq_RX10_52 hX dX10_build_15 (by decide) (by decide) (fun q11 hq12 => ?_)
  have h := h q11 hq12
  refine z_dup hX dX10_build_18 (cat_rf _) ?_
  refine z_aload_n (r := (some h0)) hX dX10_build_19 rfl 0 rfl ?_
  obtain ⟨hk14, h⟩ := h
  refine gf_RX10_24 (r := (some h0)) hX dX10_build_20 rfl hk14 ?_
  refine z_aload_n (r := (some h0)) hX dX10_build_23 rfl 0 rfl ?_
  refine gf_RX10_28 (r := (some h0)) hX dX10_build_24 rfl hk14 ?_
  refine z_callIV (As := [va_rf (mR (nw M9 q11 2) 642 h0), va_rf (mR (nw M9 q11 2) 643 h0)]) (rest := [va_rf (some q11), va_rf (some q4), va_rf (some q1), va_rf (some q1)]) hX (ct_X1_init h) mw_RX10_54 rfl (by rfl) (by unfold RoomC; decide) (by simp only [List.map_cons, List.map_nil, List.sum_cons, List.sum_nil, cat_rf, cat_i, cat_j]; decide) dX10_build_27 (fun M16 h => ?_)
  refine z_callIV (As := [va_rf (some q4), va_rf (some q11)]) (rest := [va_rf (some q1)]) hX (ct_X7_init h) mw_RX10_57 rfl (by rfl) (by unfold RoomC; decide) (by simp only [List.map_cons, List.map_nil, List.sum_cons, List.sum_nil, cat_rf, cat_i, cat_j]; decide) dX10_build_30 (fun M19 h => ?_)
  refine z_astore_n (r := (some q1)) hX [(1, va_rf (some q1)), (0, va_rf (some h0))] dX10_build_33 rfl (by rw [hnL]; decide) rfl ?_
  refine z_aload_n (r := (some q1)) hX dX10_build_34 rfl 0 rfl ?_
  obtain ⟨hk23, h⟩ := h
  refine z_callVI (As := []) (rest := []) (ci := 7) hX (ct_X7_readText h) mw_RX10_60 rfl (by decide) rfl (by rfl) (by unfold RoomC; decide) (by decide) dX10_build_35 hk23 (fun r21 M22 h => ?_)
  refine z_istore_n hX [(2, .int r21), (1, va_rf (some q1)), (0, va_rf (some h0))] dX10_build_38 rfl (by rw [hnL]; decide) rfl ?_
  refine z_aload_n (r := (some h0)) hX dX10_build_39 rfl 2 rfl ?_
  obtain ⟨hk25, h⟩ := h
  refine gf_RX10_14 (r := (some h0)) hX dX10_build_40 rfl hk25 ?_
  obtain ⟨a28, ha29, h⟩ := h
  obtain ⟨hk30, h⟩ := h
  refine z_callVV (As := []) (rest := []) (ci := 0) hX (ct_X0_clear h) mw_RX10_64 rfl (by decide) rfl (by rw [ha29]; rfl) (by unfold RoomC; decide) (by decide) dX10_build_43 hk30 (fun M27 h => ?_)
  refine z_aload_n (r := (some h0)) hX dX10_build_46 rfl 2 rfl ?_
  refine z_aload_n (r := (some q1)) hX dX10_build_47 rfl 1 rfl ?_
  obtain ⟨hk32, h⟩ := h
  refine gf_RX10_67 (r := (some q1)) hX dX10_build_48 rfl hk32 ?_
  obtain ⟨hk33, h⟩ := h
  refine pf_RX10_35 (r := (some h0)) (v := (mI M27 450 q1)) hX dX10_build_51 rfl hk33 ?_
  refine z_iload_n hX dX10_build_54 rfl 0 rfl ?_
  obtain ⟨h1, h2⟩ := h
  refine z_if_ne (tgt := 66) hX dX10_build_55 (by decide) (fun hc => ?_) (fun hc => ?_)
  · have h := h1 hc
    refine z_aload_n (r := (some h0)) hX dX10_build_66 rfl 2 rfl ?_
    refine z_aload_n (r := (some q1)) hX dX10_build_67 rfl 1 rfl ?_
    refine gf_RX10_71 (r := (some q1)) hX dX10_build_68 rfl hk32 ?_
    refine pf_RX10_31 (r := (some h0)) (v := (mR (sI M27 645 h0 (mI M27 450 q1)) 449 q1)) hX dX10_build_71 rfl hk33 ?_
    refine z_aload_n (r := (some h0)) hX dX10_build_74 rfl 2 rfl ?_
    refine gf_RX10_24 (r := (some h0)) hX dX10_build_75 rfl hk33 ?_
    obtain ⟨a38, ha39, h⟩ := h
    obtain ⟨hk40, h⟩ := h
    refine z_callVV (As := []) (rest := []) (ci := 3) hX (ct_X3_clear h) mw_RX10_72 rfl (by decide) rfl (by rw [ha39]; rfl) (by unfold RoomC; decide) (by decide) dX10_build_78 hk40 (fun M37 h => ?_)
    refine z_aload_n (r := (some h0)) hX dX10_build_81 rfl 2 rfl ?_
    obtain ⟨hk42, h⟩ := h
    refine gf_RX10_28 (r := (some h0)) hX dX10_build_82 rfl hk42 ?_
    obtain ⟨a45, ha46, h⟩ := h
    obtain ⟨hk47, h⟩ := h
    refine z_callVV (As := []) (rest := []) (ci := 3) hX (ct_X3_clear h) mw_RX10_72 rfl (by decide) rfl (by rw [ha46]; rfl) (by unfold RoomC; decide) (by decide) dX10_build_85 hk47 (fun M44 h => ?_)
    refine z_aload_n (r := (some h0)) hX dX10_build_88 rfl 2 rfl ?_
    obtain ⟨hk49, h⟩ := h
    refine gf_RX10_31 (r := (some h0)) hX dX10_build_89 rfl hk49 ?_
    obtain ⟨a50, ha51, h⟩ := h
    obtain ⟨hk52, h⟩ := h
    refine gf_RX10_73 (r := (mR M44 644 h0)) hX dX10_build_92 ha51 hk52 ?_
    refine z_widen 295 2288 (by decide) (by decide) ?_
    exact z_iret hX hQ dX10_build_95 h
  · have h := h2 hc
    refine z_bipush (v := (-10 : Int32)) hX dX10_build_58 (by decide) ?_
    refine z_aload_n (r := (some q1)) hX dX10_build_60 rfl 1 rfl ?_
    refine gf_RX10_68 (r := (some q1)) hX dX10_build_61 rfl hk32 ?_
    refine z_isub hX dX10_build_64 ?_
    refine z_widen 295 2288 (by decide) (by decide) ?_
    exact z_iret hX hQ dX10_build_65 h
