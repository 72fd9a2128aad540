def rm_X7_isNumber : Room := { frames := 2, cells := 0, slots := 0, locals := 41 }
def bk_X7_isNumber_58 (h0 : Nat) (K : Int32 → Mm → Prop) (s0 : Int32) (M : Mm) : Prop := (bz s0 ∧ K s0 M)
set_option maxRecDepth 100000 in
set_option maxHeartbeats 4000000 in
theorem zb_X7_isNumber_58 {X : Cx} {h0 : Nat} {K : Int32 → Mm → Prop} (hX : Ok X cX7_isNumber RX7 rm_X7_isNumber) (hQ : Rq X rm_X7_isNumber (some .boolean) (QI K)) (hnL : X.2.2.2.2.2.2.2.2.2.2.2.2.2.2 = 5) {s0 : Int32} {M : Mm} (h : bk_X7_isNumber_58 h0 K s0 M) : Z X M 0 0 58 [] [.int s0] := by
  unfold bk_X7_isNumber_58 at h
  exact y_zret hX hQ dX7_isNumber_58 h.1 h.2
def bk_X7_isNumber_53 (h0 : Nat) (K : Int32 → Mm → Prop) (M : Mm) : Prop := (bk_X7_isNumber_58 h0 K (1 : Int32) M)
set_option maxRecDepth 100000 in
set_option maxHeartbeats 4000000 in
theorem zb_X7_isNumber_53 {X : Cx} {h0 : Nat} {K : Int32 → Mm → Prop} (hX : Ok X cX7_isNumber RX7 rm_X7_isNumber) (hQ : Rq X rm_X7_isNumber (some .boolean) (QI K)) (hnL : X.2.2.2.2.2.2.2.2.2.2.2.2.2.2 = 5) {M : Mm} (h : bk_X7_isNumber_53 h0 K M) : Z X M 0 0 53 [] [] := by
  unfold bk_X7_isNumber_53 at h
  refine z_iconst (v := (1 : Int32)) hX dX7_isNumber_53 (by decide) ?_
  refine z_goto (tgt := 58) hX dX7_isNumber_54 (by decide) ?_
  exact zb_X7_isNumber_58 hX hQ hnL h
def bk_X7_isNumber_45 (h0 : Nat) (K : Int32 → Mm → Prop) (M : Mm) : Prop := mK M h0 = 8 ∧ (wp_X7_refuse M h0 (5 : Int32) (fun r1 M2 => ((r1 = 0 → (bk_X7_isNumber_58 h0 K (0 : Int32) M2)) ∧ (¬ r1 = 0 → (bk_X7_isNumber_53 h0 K M2)))))
set_option maxRecDepth 100000 in
set_option maxHeartbeats 4000000 in
theorem zb_X7_isNumber_45 {X : Cx} {h0 : Nat} {K : Int32 → Mm → Prop} (hX : Ok X cX7_isNumber RX7 rm_X7_isNumber) (hQ : Rq X rm_X7_isNumber (some .boolean) (QI K)) (hnL : X.2.2.2.2.2.2.2.2.2.2.2.2.2.2 = 5) {M : Mm} (h : bk_X7_isNumber_45 h0 K M) : Z X M 0 0 45 [(0, va_rf (some h0))] [] := by
  unfold bk_X7_isNumber_45 at h
  refine z_aload_n (r := (some h0)) hX dX7_isNumber_45 rfl 0 rfl ?_
  refine z_iconst (v := (5 : Int32)) hX dX7_isNumber_46 (by decide) ?_
  obtain ⟨hk3, h⟩ := h
  refine z_callVI (As := [.int (5 : Int32)]) (rest := []) (ci := 7) hX (ct_X7_refuse h) mw_RX7_34 rfl (by decide) rfl (by rfl) (by unfold RoomC; decide) (by decide) dX7_isNumber_47 hk3 (fun r1 M2 h => ?_)
  obtain ⟨h1, h2⟩ := h
  refine z_if_eq (tgt := 57) hX dX7_isNumber_50 (by decide) (fun hc => ?_) (fun hc => ?_)
  · have h := h1 hc
    refine z_iconst (v := (0 : Int32)) hX dX7_isNumber_57 (by decide) ?_
    refine z_loc [] rfl ?_
    exact zb_X7_isNumber_58 hX hQ hnL h
  · have h := h2 hc
    refine z_loc [] rfl ?_
    exact zb_X7_isNumber_53 hX hQ hnL h
def wp_X7_isNumber (M : Mm) (h0 : Nat) (p1 : Int64) (p2 : Int64) (K : Int32 → Mm → Prop) : Prop := mK M h0 = 8 ∧ ∃ a6, (mR M 448 h0) = some a6 ∧ mK M a6 = 5 ∧ (((mI M 258 a6) = (4 : Int32) → (((mJ (sJ M 454 h0 (mJ M 260 a6)) 454 h0) < p1 → (bk_X7_isNumber_45 h0 K (sJ M 454 h0 (mJ M 260 a6)))) ∧ (¬ (mJ (sJ M 454 h0 (mJ M 260 a6)) 454 h0) < p1 → (((mJ (sJ M 454 h0 (mJ M 260 a6)) 454 h0) ≤ p2 → (bk_X7_isNumber_53 h0 K (sJ M 454 h0 (mJ M 260 a6)))) ∧ (¬ (mJ (sJ M 454 h0 (mJ M 260 a6)) 454 h0) ≤ p2 → (bk_X7_isNumber_45 h0 K (sJ M 454 h0 (mJ M 260 a6)))))))) ∧ (¬ (mI M 258 a6) = (4 : Int32) → (wp_X7_refuseToken M h0 (fun r10 M11 => (bz r10 ∧ K r10 M11)))))
set_option maxRecDepth 100000 in
set_option maxHeartbeats 4000000 in
theorem ct_X7_isNumber {M : Mm} {h0 : Nat} {p1 : Int64} {p2 : Int64} {K : Int32 → Mm → Prop} (h : wp_X7_isNumber M h0 p1 p2 K) : CtI yX7_isNumber cX7_isNumber 5 (some .boolean) rm_X7_isNumber [.ref h0, .long p1, .long p2] M K := by
  refine ct_any (QI K) (by decide) (by exact Nat.le_of_ble_eq_true rfl) (fun X hX hQ hnL hnm => ?_)
  rw [show lv_args 0 [.ref h0, .long p1, .long p2] = [(0, va_rf (some h0)), (1, .long p1), (3, .long p2)] by rfl]
  have hX : Ok X cX7_isNumber RX7 rm_X7_isNumber := hX
  unfold wp_X7_isNumber at h
  refine z_aload_n (r := (some h0)) hX dX7_isNumber_0 rfl 0 rfl ?_
  obtain ⟨hk5, h⟩ := h
  refine gf_RX7_9 (r := (some h0)) hX dX7_isNumber_1 rfl hk5 ?_
  obtain ⟨a6, ha7, h⟩ := h
  obtain ⟨hk8, h⟩ := h
  refine gf_RX7_24 (r := (mR M 448 h0)) hX dX7_isNumber_4 ha7 hk8 ?_
  refine z_iconst (v := (4 : Int32)) hX dX7_isNumber_7 (by decide) ?_
  obtain ⟨h1, h2⟩ := h
  refine z_icmp_eq (tgt := 16) hX dX7_isNumber_8 (by decide) (fun hc => ?_) (fun hc => ?_)
  · have h := h1 hc
    refine z_aload_n (r := (some h0)) hX dX7_isNumber_16 rfl 0 rfl ?_
    refine z_aload_n (r := (some h0)) hX dX7_isNumber_17 rfl 0 rfl ?_
    refine gf_RX7_9 (r := (some h0)) hX dX7_isNumber_18 rfl hk5 ?_
    refine gf_RX7_81 (r := (mR M 448 h0)) hX dX7_isNumber_21 ha7 hk8 ?_
    refine pf_RX7_62 (r := (some h0)) (v := (mJ M 260 a6)) hX dX7_isNumber_24 rfl hk5 ?_
    refine z_aload_n (r := (some h0)) hX dX7_isNumber_27 rfl 0 rfl ?_
    refine gf_RX7_62 (r := (some h0)) hX dX7_isNumber_28 rfl hk5 ?_
    refine z_lload_n hX dX7_isNumber_31 rfl 1 rfl ?_
    refine z_lcmp hX dX7_isNumber_32 ?_
    obtain ⟨h1, h2⟩ := h
    refine z_if_lt (tgt := 45) hX dX7_isNumber_33 (by decide) (fun hc => ?_) (fun hc => ?_)
    · have h := h1 ((lg_cmp_lt _ _).mp hc)
      refine z_loc [0] rfl ?_
      exact zb_X7_isNumber_45 hX hQ hnL h
    · have h := h2 (fun q => hc ((lg_cmp_lt _ _).mpr q))
      refine z_aload_n (r := (some h0)) hX dX7_isNumber_36 rfl 0 rfl ?_
      refine gf_RX7_62 (r := (some h0)) hX dX7_isNumber_37 rfl hk5 ?_
      refine z_lload_n hX dX7_isNumber_40 rfl 2 rfl ?_
      refine z_lcmp hX dX7_isNumber_41 ?_
      obtain ⟨h1, h2⟩ := h
      refine z_if_le (tgt := 53) hX dX7_isNumber_42 (by decide) (fun hc => ?_) (fun hc => ?_)
      · have h := h1 ((lg_cmp_le _ _).mp hc)
        refine z_loc [] rfl ?_
        exact zb_X7_isNumber_53 hX hQ hnL h
      · have h := h2 (fun q => hc ((lg_cmp_le _ _).mpr q))
        refine z_loc [0] rfl ?_
        exact zb_X7_isNumber_45 hX hQ hnL h
  · have h := h2 hc
    refine z_aload_n (r := (some h0)) hX dX7_isNumber_11 rfl 0 rfl ?_
    refine z_callVI (As := []) (rest := []) (ci := 7) hX (ct_X7_refuseToken h) mw_RX7_84 rfl (by decide) rfl (by rfl) (by unfold RoomC; decide) (by decide) dX7_isNumber_12 hk5 (fun r10 M11 h => ?_)
    exact y_zret hX hQ dX7_isNumber_15 h.1 h.2
def rm_X7_readKeyword : Room := { frames := 3, cells := 0, slots := 0, locals := 65 }
def wp_X7_readKeyword (M : Mm) (h0 : Nat) (p1 : Int64) (K : Int32 → Mm → Prop) : Prop := mK M h0 = 8 ∧ (wp_X7_isKeyword M h0 p1 (fun r1 M2 => ((¬ r1 = 0 → mK M2 h0 = 8 ∧ ∃ a8, (mR M2 448 h0) = some a8 ∧ mK M2 a8 = 5 ∧ (wp_X4_advance M2 a8 (fun M7 => (K (1 : Int32) M7)))) ∧ (r1 = 0 → mK M2 h0 = 8 ∧ (wp_X7_refuseToken M2 h0 (fun r12 M13 => (bz r12 ∧ K r12 M13)))))))
set_option maxRecDepth 100000 in
set_option maxHeartbeats 4000000 in
theorem ct_X7_readKeyword {M : Mm} {h0 : Nat} {p1 : Int64} {K : Int32 → Mm → Prop} (h : wp_X7_readKeyword M h0 p1 K) : CtI yX7_readKeyword cX7_readKeyword 3 (some .boolean) rm_X7_readKeyword [.ref h0, .long p1] M K := by
  refine ct_any (QI K) (by decide) (by exact Nat.le_of_ble_eq_true rfl) (fun X hX hQ hnL hnm => ?_)
  rw [show lv_args 0 [.ref h0, .long p1] = [(0, va_rf (some h0)), (1, .long p1)] by rfl]
  have hX : Ok X cX7_readKeyword RX7 rm_X7_readKeyword := hX
  unfold wp_X7_readKeyword at h
  refine z_aload_n (r := (some h0)) hX dX7_readKeyword_0 rfl 0 rfl ?_
  refine z_lload_n hX dX7_readKeyword_1 rfl 1 rfl ?_
  obtain ⟨hk3, h⟩ := h
  refine z_callVI (As := [.long p1]) (rest := []) (ci := 7) hX (ct_X7_isKeyword h) mw_RX7_30 rfl (by decide) rfl (by rfl) (by unfold RoomC; decide) (by decide) dX7_readKeyword_2 hk3 (fun r1 M2 h => ?_)
  obtain ⟨h1, h2⟩ := h
  refine z_if_ne (tgt := 13) hX dX7_readKeyword_5 (by decide) (fun hc => ?_) (fun hc => ?_)
  · have h := h1 hc
    refine z_aload_n (r := (some h0)) hX dX7_readKeyword_13 rfl 0 rfl ?_
    obtain ⟨hk5, h⟩ := h
    refine gf_RX7_9 (r := (some h0)) hX dX7_readKeyword_14 rfl hk5 ?_
    obtain ⟨a8, ha9, h⟩ := h
    obtain ⟨hk10, h⟩ := h
    refine z_callVV (As := []) (rest := []) (ci := 4) hX (ct_X4_advance h) mw_RX7_19 rfl (by decide) rfl (by rw [ha9]; rfl) (by unfold RoomC; decide) (by decide) dX7_readKeyword_17 hk10 (fun M7 h => ?_)
    refine z_iconst (v := (1 : Int32)) hX dX7_readKeyword_20 (by decide) ?_
    exact y_zret hX hQ dX7_readKeyword_21 (Or.inr rfl) h
  · have h := h2 hc
    refine z_aload_n (r := (some h0)) hX dX7_readKeyword_8 rfl 0 rfl ?_
    obtain ⟨hk14, h⟩ := h
    refine z_callVI (As := []) (rest := []) (ci := 7) hX (ct_X7_refuseToken h) mw_RX7_84 rfl (by decide) rfl (by rfl) (by unfold RoomC; decide) (by decide) dX7_readKeyword_9 hk14 (fun r12 M13 h => ?_)
    exact y_zret hX hQ dX7_readKeyword_12 h.1 h.2
def rm_X7_readSign : Room := { frames := 3, cells := 0, slots := 0, locals := 65 }
def wp_X7_readSign (M : Mm) (h0 : Nat) (p1 : Int32) (K : Int32 → Mm → Prop) : Prop := mK M h0 = 8 ∧ (wp_X7_isSign M h0 p1 (fun r1 M2 => ((¬ r1 = 0 → mK M2 h0 = 8 ∧ ∃ a8, (mR M2 448 h0) = some a8 ∧ mK M2 a8 = 5 ∧ (wp_X4_advance M2 a8 (fun M7 => (K (1 : Int32) M7)))) ∧ (r1 = 0 → mK M2 h0 = 8 ∧ (wp_X7_refuseToken M2 h0 (fun r12 M13 => (bz r12 ∧ K r12 M13)))))))
set_option maxRecDepth 100000 in
set_option maxHeartbeats 4000000 in
theorem ct_X7_readSign {M : Mm} {h0 : Nat} {p1 : Int32} {K : Int32 → Mm → Prop} (h : wp_X7_readSign M h0 p1 K) : CtI yX7_readSign cX7_readSign 2 (some .boolean) rm_X7_readSign [.ref h0, .int p1] M K := by
  refine ct_any (QI K) (by decide) (by exact Nat.le_of_ble_eq_true rfl) (fun X hX hQ hnL hnm => ?_)
  rw [show lv_args 0 [.ref h0, .int p1] = [(0, va_rf (some h0)), (1, .int p1)] by rfl]
  have hX : Ok X cX7_readSign RX7 rm_X7_readSign := hX
  unfold wp_X7_readSign at h
  refine z_aload_n (r := (some h0)) hX dX7_readSign_0 rfl 0 rfl ?_
  refine z_iload_n hX dX7_readSign_1 rfl 1 rfl ?_
  obtain ⟨hk3, h⟩ := h
  refine z_callVI (As := [.int p1]) (rest := []) (ci := 7) hX (ct_X7_isSign h) mw_RX7_208 rfl (by decide) rfl (by rfl) (by unfold RoomC; decide) (by decide) dX7_readSign_2 hk3 (fun r1 M2 h => ?_)
  obtain ⟨h1, h2⟩ := h
  refine z_if_ne (tgt := 13) hX dX7_readSign_5 (by decide) (fun hc => ?_) (fun hc => ?_)
  · have h := h1 hc
    refine z_aload_n (r := (some h0)) hX dX7_readSign_13 rfl 0 rfl ?_
    obtain ⟨hk5, h⟩ := h
    refine gf_RX7_9 (r := (some h0)) hX dX7_readSign_14 rfl hk5 ?_
    obtain ⟨a8, ha9, h⟩ := h
    obtain ⟨hk10, h⟩ := h
    refine z_callVV (As := []) (rest := []) (ci := 4) hX (ct_X4_advance h) mw_RX7_19 rfl (by decide) rfl (by rw [ha9]; rfl) (by unfold RoomC; decide) (by decide) dX7_readSign_17 hk10 (fun M7 h => ?_)
    refine z_iconst (v := (1 : Int32)) hX dX7_readSign_20 (by decide) ?_
    exact y_zret hX hQ dX7_readSign_21 (Or.inr rfl) h
  · have h := h2 hc
    refine z_aload_n (r := (some h0)) hX dX7_readSign_8 rfl 0 rfl ?_
    obtain ⟨hk14, h⟩ := h
    refine z_callVI (As := []) (rest := []) (ci := 7) hX (ct_X7_refuseToken h) mw_RX7_84 rfl (by decide) rfl (by rfl) (by unfold RoomC; decide) (by decide) dX7_readSign_9 hk14 (fun r12 M13 h => ?_)
    exact y_zret hX hQ dX7_readSign_12 h.1 h.2
def rm_X9_add : Room := { frames := 2, cells := 0, slots := 0, locals := 51 }
def bk_X9_add_79 (h0 : Nat) (R32 : Int64 → Int32 → Int32 → Int64 → Int32 → Int32 → Mm → Prop) (K : Int32 → Mm → Prop) (l1 : Int64) (l3 : Int32) (l4 : Int32) (l5 : Int64) (l7 : Int32) (l8 : Int32) (M : Mm) : Prop := (R32 l1 l3 l4 l5 l7 (l8 + (-1)) M)
set_option maxRecDepth 100000 in
set_option maxHeartbeats 4000000 in
theorem zb_X9_add_79 {X : Cx} {h0 : Nat} {R32 : Int64 → Int32 → Int32 → Int64 → Int32 → Int32 → Mm → Prop} {K : Int32 → Mm → Prop} (hX : Ok X cX9_add RX9 rm_X9_add) (hQ : Rq X rm_X9_add (some .int) (QI K)) (hnL : X.2.2.2.2.2.2.2.2.2.2.2.2.2.2 = 11) (hR32 : ∀ l1 l3 l4 l5 l7 l8 M, R32 l1 l3 l4 l5 l7 l8 M → Z X M 0 0 32 [(0, va_rf (some h0)), (1, .long l1), (3, .int l3), (4, .int l4), (5, .long l5), (7, .int l7), (8, .int l8)] []) {l1 : Int64} {l3 : Int32} {l4 : Int32} {l5 : Int64} {l7 : Int32} {l8 : Int32} {M : Mm} (h : bk_X9_add_79 h0 R32 K l1 l3 l4 l5 l7 l8 M) : Z X M 0 0 79 [(0, va_rf (some h0)), (1, .long l1), (3, .int l3), (4, .int l4), (5, .long l5), (7, .int l7), (8, .int l8)] [] := by
  unfold bk_X9_add_79 at h
  refine z_iinc (v := (l8 + (-1))) hX [(8, .int (l8 + (-1))), (0, va_rf (some h0)), (1, .long l1), (3, .int l3), (4, .int l4), (5, .long l5), (7, .int l7)] dX9_add_79 6 rfl rfl (by rw [hnL]; decide) rfl ?_
  refine z_goto (tgt := 32) hX dX9_add_82 (by decide) ?_
  refine z_loc [1, 2, 3, 4, 5, 6, 0] rfl ?_
  exact hR32 _ _ _ _ _ _ _ h
def lp_X9_add_32 (h0 : Nat) (K : Int32 → Mm → Prop) : Nat → Int64 → Int32 → Int32 → Int64 → Int32 → Int32 → Mm → Prop
  | 0, _, _, _, _, _, _, _ => False
  | n + 1, l1, l3, l4, l5, l7, l8, M => ((l8 < 0 → (K l7 M)) ∧ (¬ l8 < 0 → mK M h0 = 10 ∧ (((((l5 - (((l8).toInt64) * (mJ M 577 h0))) + (mJ M 576 h0)) - (1 : Int64)) < l1 → (bk_X9_add_79 h0 (lp_X9_add_32 h0 K n) K l1 l3 l4 l5 l7 l8 M)) ∧ (¬ (((l5 - (((l8).toInt64) * (mJ M 577 h0))) + (mJ M 576 h0)) - (1 : Int64)) < l1 → (wp_X9_addTo M h0 (l5 - (((l8).toInt64) * (mJ M 577 h0))) l3 l4 (fun r2 M3 => ((¬ r2 = 0 → (bk_X9_add_79 h0 (lp_X9_add_32 h0 K n) K l1 l3 l4 l5 l7 l8 M3)) ∧ (r2 = 0 → (bk_X9_add_79 h0 (lp_X9_add_32 h0 K n) K l1 l3 l4 l5 (l7 + 1) l8 M3)))))))))
set_option maxRecDepth 100000 in
set_option maxHeartbeats 4000000 in
theorem zl_X9_add_32 {X : Cx} {h0 : Nat} {K : Int32 → Mm → Prop} (hX : Ok X cX9_add RX9 rm_X9_add) (hQ : Rq X rm_X9_add (some .int) (QI K)) (hnL : X.2.2.2.2.2.2.2.2.2.2.2.2.2.2 = 11) : ∀ (n : Nat) (l1 : Int64) (l3 : Int32) (l4 : Int32) (l5 : Int64) (l7 : Int32) (l8 : Int32) (M : Mm), lp_X9_add_32 h0 K n l1 l3 l4 l5 l7 l8 M → Z X M 0 0 32 [(0, va_rf (some h0)), (1, .long l1), (3, .int l3), (4, .int l4), (5, .long l5), (7, .int l7), (8, .int l8)] [] := by
  intro n
  induction n with
  | zero =>
    intro l1 l3 l4 l5 l7 l8 M h
    exact False.elim h
  | succ n hR32 =>
    intro l1 l3 l4 l5 l7 l8 M h
    refine z_iload hX dX9_add_32 6 rfl ?_
    obtain ⟨h1, h2⟩ := h
    refine z_if_lt (tgt := 85) hX dX9_add_34 (by decide) (fun hc => ?_) (fun hc => ?_)
    · have h := h1 hc
      refine z_iload hX dX9_add_85 5 rfl ?_
      exact z_iret hX hQ dX9_add_87 h
    · have h := h2 hc
      refine z_lload hX dX9_add_37 4 rfl ?_
      refine z_iload hX dX9_add_39 6 rfl ?_
      refine z_i2l hX dX9_add_41 ?_
      refine z_aload_n (r := (some h0)) hX dX9_add_42 rfl 0 rfl ?_
      obtain ⟨hk1, h⟩ := h
      refine gf_RX9_15 (r := (some h0)) hX dX9_add_43 rfl hk1 ?_
      refine z_lmul hX dX9_add_46 ?_
      refine z_lsub hX dX9_add_47 ?_
      refine z_lstore hX [(9, .long (l5 - (((l8).toInt64) * (mJ M 577 h0)))), (0, va_rf (some h0)), (1, .long l1), (3, .int l3), (4, .int l4), (5, .long l5), (7, .int l7), (8, .int l8)] dX9_add_48 (by rw [hnL]; decide) rfl ?_
      refine z_lload_n hX dX9_add_50 rfl 2 rfl ?_
      refine z_lload hX dX9_add_51 0 rfl ?_
      refine z_aload_n (r := (some h0)) hX dX9_add_53 rfl 1 rfl ?_
      refine gf_RX9_9 (r := (some h0)) hX dX9_add_54 rfl hk1 ?_
      refine z_ladd hX dX9_add_57 ?_
      refine z_lconst (v := (1 : Int64)) hX dX9_add_58 (by decide) ?_
      refine z_lsub hX dX9_add_59 ?_
      refine z_lcmp hX dX9_add_60 ?_
      obtain ⟨h1, h2⟩ := h
      refine z_if_gt (tgt := 79) hX dX9_add_61 (by decide) (fun hc => ?_) (fun hc => ?_)
      · have h := h1 ((lg_cmp_gt _ _).mp hc)
        refine z_loc [1, 2, 3, 4, 5, 6, 7] rfl ?_
        exact zb_X9_add_79 hX hQ hnL hR32 h
      · have h := h2 (fun q => hc ((lg_cmp_gt _ _).mpr q))
        refine z_aload_n (r := (some h0)) hX dX9_add_64 rfl 1 rfl ?_
        refine z_lload hX dX9_add_65 0 rfl ?_
        refine z_iload_n hX dX9_add_67 rfl 3 rfl ?_
        refine z_iload hX dX9_add_68 4 rfl ?_
        refine z_callVI (As := [.long (l5 - (((l8).toInt64) * (mJ M 577 h0))), .int l3, .int l4]) (rest := []) (ci := 9) hX (ct_X9_addTo h) mw_RX9_35 rfl (by decide) rfl (by rfl) (by unfold RoomC; decide) (by decide) dX9_add_70 hk1 (fun r2 M3 h => ?_)
        obtain ⟨h1, h2⟩ := h
        refine z_if_ne (tgt := 79) hX dX9_add_73 (by decide) (fun hc => ?_) (fun hc => ?_)
        · have h := h1 hc
          refine z_loc [1, 2, 3, 4, 5, 6, 7] rfl ?_
          exact zb_X9_add_79 hX hQ hnL hR32 h
        · have h := h2 hc
          refine z_iinc (v := (l7 + 1)) hX [(7, .int (l7 + 1)), (9, .long (l5 - (((l8).toInt64) * (mJ M 577 h0)))), (0, va_rf (some h0)), (1, .long l1), (3, .int l3), (4, .int l4), (5, .long l5), (8, .int l8)] dX9_add_76 6 rfl rfl (by rw [hnL]; decide) rfl ?_
          refine z_loc [2, 3, 4, 5, 6, 0, 7] rfl ?_
          exact zb_X9_add_79 hX hQ hnL hR32 h
def wp_X9_add (M : Mm) (h0 : Nat) (p1 : Int64) (p2 : Int32) (p3 : Int32) (K : Int32 → Mm → Prop) : Prop := mK M h0 = 10 ∧ (((1 : Int64) ≤ (mJ M 577 h0) → (wp_J9_floorDiv_f86c9 M p1 (mJ M 577 h0) (fun r6 M7 => mK M7 h0 = 10 ∧ (∃ kk, lp_X9_add_32 h0 K kk p1 p2 p3 (r6 * (mJ M7 577 h0)) (0 : Int32) (3 : Int32) M7)))) ∧ (¬ (1 : Int64) ≤ (mJ M 577 h0) → (K (0 : Int32) M)))
set_option maxRecDepth 100000 in
set_option maxHeartbeats 4000000 in
theorem ct_X9_add {M : Mm} {h0 : Nat} {p1 : Int64} {p2 : Int32} {p3 : Int32} {K : Int32 → Mm → Prop} (h : wp_X9_add M h0 p1 p2 p3 K) : CtI yX9_add cX9_add 11 (some .int) rm_X9_add [.ref h0, .long p1, .int p2, .int p3] M K := by
  refine ct_any (QI K) (by decide) (by exact Nat.le_of_ble_eq_true rfl) (fun X hX hQ hnL hnm => ?_)
  rw [show lv_args 0 [.ref h0, .long p1, .int p2, .int p3] = [(0, va_rf (some h0)), (1, .long p1), (3, .int p2), (4, .int p3)] by rfl]
  have hX : Ok X cX9_add RX9 rm_X9_add := hX
  unfold wp_X9_add at h
  refine z_aload_n (r := (some h0)) hX dX9_add_0 rfl 0 rfl ?_
  obtain ⟨hk5, h⟩ := h
  refine gf_RX9_15 (r := (some h0)) hX dX9_add_1 rfl hk5 ?_
  refine z_lconst (v := (1 : Int64)) hX dX9_add_4 (by decide) ?_
  refine z_lcmp hX dX9_add_5 ?_
  obtain ⟨h1, h2⟩ := h
  refine z_if_ge (tgt := 11) hX dX9_add_6 (by decide) (fun hc => ?_) (fun hc => ?_)
  · have h := h1 ((lg_cmp_ge _ _).mp hc)
    refine z_lload_n hX dX9_add_11 rfl 1 rfl ?_
    refine z_aload_n (r := (some h0)) hX dX9_add_12 rfl 0 rfl ?_
    refine gf_RX9_15 (r := (some h0)) hX dX9_add_13 rfl hk5 ?_
    refine z_callSJ (As := [.long p1, .long (mJ M 577 h0)]) (rest := []) hX (ct_J9_floorDiv_f86c9 h) mw_RX9_29 rfl (by rfl) (by unfold RoomC; decide) (by decide) dX9_add_16 (fun r6 M7 h => ?_)
    refine z_aload_n (r := (some h0)) hX dX9_add_19 rfl 0 rfl ?_
    obtain ⟨hk9, h⟩ := h
    refine gf_RX9_15 (r := (some h0)) hX dX9_add_20 rfl hk9 ?_
    refine z_lmul hX dX9_add_23 ?_
    refine z_lstore hX [(5, .long (r6 * (mJ M7 577 h0))), (0, va_rf (some h0)), (1, .long p1), (3, .int p2), (4, .int p3)] dX9_add_24 (by rw [hnL]; decide) rfl ?_
    refine z_iconst (v := (0 : Int32)) hX dX9_add_26 (by decide) ?_
    refine z_istore hX [(7, .int (0 : Int32)), (5, .long (r6 * (mJ M7 577 h0))), (0, va_rf (some h0)), (1, .long p1), (3, .int p2), (4, .int p3)] dX9_add_27 (by rw [hnL]; decide) rfl ?_
    refine z_iconst (v := (3 : Int32)) hX dX9_add_29 (by decide) ?_
    refine z_istore hX [(8, .int (3 : Int32)), (7, .int (0 : Int32)), (5, .long (r6 * (mJ M7 577 h0))), (0, va_rf (some h0)), (1, .long p1), (3, .int p2), (4, .int p3)] dX9_add_30 (by rw [hnL]; decide) rfl ?_
    refine z_loc [3, 4, 5, 6, 2, 1, 0] rfl ?_
    obtain ⟨n, h⟩ := h
    exact zl_X9_add_32 hX hQ hnL n _ _ _ _ _ _ _ h
  · have h := h2 (fun q => hc ((lg_cmp_ge _ _).mpr q))
    refine z_iconst (v := (0 : Int32)) hX dX9_add_9 (by decide) ?_
    exact z_iret hX hQ dX9_add_10 h
def rm_X11_join : Room := { frames := 7, cells := 0, slots := 0, locals := 184 }
def wp_X11_join (M : Mm) (h0 : Nat) (p1 : Int32) (K : Mm → Prop) : Prop := mK M h0 = 12 ∧ ((¬ (mI M 730 h0) = (3 : Int32) → (wp_X11_next (sI M 730 h0 ((mI M 730 h0) + (1 : Int32))) h0 (fun M4 => mK M4 h0 = 12 ∧ ∃ a7, (mR M4 715 h0) = some a7 ∧ isA M4 a7 1 ∧ vp_in p1 (aN M4 a7) ∧ (wp_X11_takeInput (tI M4 a7 (p1).toNatClampNeg (4 : Int32)) h0 p1 (fun M12 => mK M12 h0 = 12 ∧ (wp_X11_takeInput M12 h0 p1 (fun M15 => mK M15 h0 = 12 ∧ (wp_X11_takeKeyword M15 h0 (9 : Int32) (fun M19 => mK M19 h0 = 12 ∧ (wp_X11_takeSigned M19 h0 (-9223372036854775807 : Int64) (fun r23 M24 => ∃ a26, (mR M19 720 h0) = some a26 ∧ isA M24 a26 2 ∧ vp_in p1 (aN M24 a26) ∧ mK (tJ M24 a26 (p1).toNatClampNeg r23) h0 = 12 ∧ (wp_X11_takeKeyword (tJ M24 a26 (p1).toNatClampNeg r23) h0 (10 : Int32) (fun M31 => mK M31 h0 = 12 ∧ ∃ a35, (mR M31 720 h0) = some a35 ∧ isA M31 a35 2 ∧ vp_in p1 (aN M31 a35) ∧ (wp_X11_takeSigned M31 h0 (aJ M31 a35 (p1).toNatClampNeg) (fun r39 M40 => ∃ a42, (mR M31 721 h0) = some a42 ∧ isA M40 a42 2 ∧ vp_in p1 (aN M40 a42) ∧ (K (tJ M40 a42 (p1).toNatClampNeg r39))))))))))))))))) ∧ ((mI M 730 h0) = (3 : Int32) → (wp_X11_fault M h0 (6 : Int32) (fun M47 => (K M47)))))
set_option maxRecDepth 100000 in
set_option maxHeartbeats 4000000 in
theorem ct_X11_join {M : Mm} {h0 : Nat} {p1 : Int32} {K : Mm → Prop} (h : wp_X11_join M h0 p1 K) : CtV yX11_join cX11_join 2 none rm_X11_join [.ref h0, .int p1] M K := by
  refine ct_any (QV K) (by decide) (by exact Nat.le_of_ble_eq_true rfl) (fun X hX hQ hnL hnm => ?_)
  rw [show lv_args 0 [.ref h0, .int p1] = [(0, va_rf (some h0)), (1, .int p1)] by rfl]
  have hX : Ok X cX11_join RX11 rm_X11_join := hX
  unfold wp_X11_join at h
  refine z_aload_n (r := (some h0)) hX dX11_join_0 rfl 0 rfl ?_
  obtain ⟨hk1, h⟩ := h
  refine gf_RX11_246 (r := (some h0)) hX dX11_join_1 rfl hk1 ?_
  refine z_iconst (v := (3 : Int32)) hX dX11_join_4 (by decide) ?_
  obtain ⟨h1, h2⟩ := h
  refine z_icmp_ne (tgt := 15) hX dX11_join_5 (by decide) (fun hc => ?_) (fun hc => ?_)
  · have h := h1 hc
    refine z_aload_n (r := (some h0)) hX dX11_join_15 rfl 0 rfl ?_
    refine z_dup hX dX11_join_16 (cat_rf _) ?_
    refine gf_RX11_246 (r := (some h0)) hX dX11_join_17 rfl hk1 ?_
    refine z_iconst (v := (1 : Int32)) hX dX11_join_20 (by decide) ?_
    refine z_iadd hX dX11_join_21 ?_
    refine pf_RX11_246 (r := (some h0)) (v := ((mI M 730 h0) + (1 : Int32))) hX dX11_join_22 rfl hk1 ?_
    refine z_aload_n (r := (some h0)) hX dX11_join_25 rfl 0 rfl ?_
    refine z_callVV (As := []) (rest := []) (ci := 11) hX (ct_X11_next h) mw_RX11_200 rfl (by decide) rfl (by rfl) (by unfold RoomC; decide) (by decide) dX11_join_26 hk1 (fun M4 h => ?_)
    refine z_aload_n (r := (some h0)) hX dX11_join_29 rfl 0 rfl ?_
    obtain ⟨hk6, h⟩ := h
    refine gf_RX11_15 (r := (some h0)) hX dX11_join_30 rfl hk6 ?_
    refine z_iload_n hX dX11_join_33 rfl 1 rfl ?_
    refine z_iconst (v := (4 : Int32)) hX dX11_join_34 (by decide) ?_
    obtain ⟨a7, ha8, h⟩ := h
    obtain ⟨hk9, h⟩ := h
    obtain ⟨hc10, h⟩ := h
    refine y_iast (r := (mR M4 715 h0)) hX dX11_join_35 ha8 hk9 hc10 ?_
    refine z_aload_n (r := (some h0)) hX dX11_join_36 rfl 0 rfl ?_
    refine z_iload_n hX dX11_join_37 rfl 1 rfl ?_
    refine z_callVV (As := [.int p1]) (rest := []) (ci := 11) hX (ct_X11_takeInput h) mw_RX11_222 rfl (by decide) rfl (by rfl) (by unfold RoomC; decide) (by decide) dX11_join_38 hk6 (fun M12 h => ?_)
    refine z_aload_n (r := (some h0)) hX dX11_join_41 rfl 0 rfl ?_
    refine z_iload_n hX dX11_join_42 rfl 1 rfl ?_
    obtain ⟨hk16, h⟩ := h
    refine z_callVV (As := [.int p1]) (rest := []) (ci := 11) hX (ct_X11_takeInput h) mw_RX11_222 rfl (by decide) rfl (by rfl) (by unfold RoomC; decide) (by decide) dX11_join_43 hk16 (fun M15 h => ?_)
    refine z_aload_n (r := (some h0)) hX dX11_join_46 rfl 0 rfl ?_
    refine z_bipush (v := (9 : Int32)) hX dX11_join_47 (by decide) ?_
    obtain ⟨hk20, h⟩ := h
    refine z_callVV (As := [.int (9 : Int32)]) (rest := []) (ci := 11) hX (ct_X11_takeKeyword h) mw_RX11_239 rfl (by decide) rfl (by rfl) (by unfold RoomC; decide) (by decide) dX11_join_49 hk20 (fun M19 h => ?_)
    refine z_aload_n (r := (some h0)) hX dX11_join_52 rfl 0 rfl ?_
    obtain ⟨hk22, h⟩ := h
    refine gf_RX11_33 (r := (some h0)) hX dX11_join_53 rfl hk22 ?_
    refine z_iload_n hX dX11_join_56 rfl 1 rfl ?_
    refine z_aload_n (r := (some h0)) hX dX11_join_57 rfl 0 rfl ?_
    refine z_ldc2 (v := (-9223372036854775807 : Int64)) hX dX11_join_58 kj_RX11_249 ?_
    refine z_callVJ (As := [.long (-9223372036854775807 : Int64)]) (rest := [.int p1, va_rf (mR M19 720 h0)]) (ci := 11) hX (ct_X11_takeSigned h) mw_RX11_251 rfl (by decide) rfl (by rfl) (by unfold RoomC; decide) (by simp only [List.map_cons, List.map_nil, List.sum_cons, List.sum_nil, cat_rf, cat_i, cat_j]; decide) dX11_join_61 hk22 (fun r23 M24 h => ?_)
    obtain ⟨a26, ha27, h⟩ := h
    obtain ⟨hk28, h⟩ := h
    obtain ⟨hc29, h⟩ := h
    refine y_last (r := (mR M19 720 h0)) hX dX11_join_64 ha27 hk28 hc29 ?_
    refine z_aload_n (r := (some h0)) hX dX11_join_65 rfl 0 rfl ?_
    refine z_bipush (v := (10 : Int32)) hX dX11_join_66 (by decide) ?_
    obtain ⟨hk32, h⟩ := h
    refine z_callVV (As := [.int (10 : Int32)]) (rest := []) (ci := 11) hX (ct_X11_takeKeyword h) mw_RX11_239 rfl (by decide) rfl (by rfl) (by unfold RoomC; decide) (by decide) dX11_join_68 hk32 (fun M31 h => ?_)
    refine z_aload_n (r := (some h0)) hX dX11_join_71 rfl 0 rfl ?_
    obtain ⟨hk34, h⟩ := h
    refine gf_RX11_36 (r := (some h0)) hX dX11_join_72 rfl hk34 ?_
    refine z_iload_n hX dX11_join_75 rfl 1 rfl ?_
    refine z_aload_n (r := (some h0)) hX dX11_join_76 rfl 0 rfl ?_
    refine z_aload_n (r := (some h0)) hX dX11_join_77 rfl 0 rfl ?_
    refine gf_RX11_33 (r := (some h0)) hX dX11_join_78 rfl hk34 ?_
    refine z_iload_n hX dX11_join_81 rfl 1 rfl ?_
    obtain ⟨a35, ha36, h⟩ := h
    obtain ⟨hk37, h⟩ := h
    obtain ⟨hc38, h⟩ := h
    refine y_lald (r := (mR M31 720 h0)) hX dX11_join_82 ha36 hk37 hc38 ?_
    refine z_callVJ (As := [.long (aJ M31 a35 (p1).toNatClampNeg)]) (rest := [.int p1, va_rf (mR M31 721 h0)]) (ci := 11) hX (ct_X11_takeSigned h) mw_RX11_251 rfl (by decide) rfl (by rfl) (by unfold RoomC; decide) (by simp only [List.map_cons, List.map_nil, List.sum_cons, List.sum_nil, cat_rf, cat_i, cat_j]; decide) dX11_join_83 hk34 (fun r39 M40 h => ?_)
    obtain ⟨a42, ha43, h⟩ := h
    obtain ⟨hk44, h⟩ := h
    obtain ⟨hc45, h⟩ := h
    refine y_last (r := (mR M31 721 h0)) hX dX11_join_86 ha43 hk44 hc45 ?_
    exact z_vret hX hQ dX11_join_87 h
  · have h := h2 hc
    refine z_aload_n (r := (some h0)) hX dX11_join_8 rfl 0 rfl ?_
    refine z_bipush (v := (6 : Int32)) hX dX11_join_9 (by decide) ?_
    refine z_callVV (As := [.int (6 : Int32)]) (rest := []) (ci := 11) hX (ct_X11_fault h) mw_RX11_187 rfl (by decide) rfl (by rfl) (by unfold RoomC; decide) (by decide) dX11_join_11 hk1 (fun M47 h => ?_)
    exact z_vret hX hQ dX11_join_14 h
def bk_X11_pass_202 (P : Mm → Nat → Int32 → Int64 → Int32 → Int32 → (Mm → Prop) → Prop) (h0 : Nat) (K : Mm → Prop) (M : Mm) : Prop := (K M)
set_option maxRecDepth 100000 in
set_option maxHeartbeats 4000000 in
theorem zb_X11_pass_202 {X : Cx} {d : Nat} {P : Mm → Nat → Int32 → Int64 → Int32 → Int32 → (Mm → Prop) → Prop} {h0 : Nat} {K : Mm → Prop} (hP : ∀ {M : Mm} {h0 : Nat} {x1 : Int32} {x2 : Int64} {x3 : Int32} {x4 : Int32} {K : Mm → Prop}, P M h0 x1 x2 x3 x4 K → CtV yX11_pass cX11_pass 9 none (rm_X11_pass d) [.ref h0, .int x1, .long x2, .int x3, .int x4] M K) (hX : Ok X cX11_pass RX11 (rm_X11_pass (d + 1))) (hQ : Rq X (rm_X11_pass (d + 1)) none (QV K)) (hnL : X.2.2.2.2.2.2.2.2.2.2.2.2.2.2 = 9) {M : Mm} (h : bk_X11_pass_202 P h0 K M) : Z X M 0 0 202 [] [] := by
  unfold bk_X11_pass_202 at h
  exact z_vret hX hQ dX11_pass_202 h
def bk_X11_pass_163 (P : Mm → Nat → Int32 → Int64 → Int32 → Int32 → (Mm → Prop) → Prop) (h0 : Nat) (K : Mm → Prop) (l4 : Int32) (l5 : Int32) (l7 : Int64) (s0 : Int32) (s1 : Int32) (s2 : Option Nat) (M : Mm) : Prop := ∃ a3, s2 = some a3 ∧ mK M a3 = 12 ∧ (wp_X11_meet P M a3 s1 s0 l7 l4 l5 (fun M2 => (bk_X11_pass_202 P h0 K M2)))
set_option maxRecDepth 100000 in
set_option maxHeartbeats 4000000 in
theorem zb_X11_pass_163 {X : Cx} {d : Nat} {P : Mm → Nat → Int32 → Int64 → Int32 → Int32 → (Mm → Prop) → Prop} {h0 : Nat} {K : Mm → Prop} (hP : ∀ {M : Mm} {h0 : Nat} {x1 : Int32} {x2 : Int64} {x3 : Int32} {x4 : Int32} {K : Mm → Prop}, P M h0 x1 x2 x3 x4 K → CtV yX11_pass cX11_pass 9 none (rm_X11_pass d) [.ref h0, .int x1, .long x2, .int x3, .int x4] M K) (hX : Ok X cX11_pass RX11 (rm_X11_pass (d + 1))) (hQ : Rq X (rm_X11_pass (d + 1)) none (QV K)) (hnL : X.2.2.2.2.2.2.2.2.2.2.2.2.2.2 = 9) {l4 : Int32} {l5 : Int32} {l7 : Int64} {s0 : Int32} {s1 : Int32} {s2 : Option Nat} {M : Mm} (h : bk_X11_pass_163 P h0 K l4 l5 l7 s0 s1 s2 M) : Z X M 0 0 163 [(4, .int l4), (5, .int l5), (7, .long l7)] [.int s0, .int s1, va_rf s2] := by
  unfold bk_X11_pass_163 at h
  refine z_lload hX dX11_pass_163 2 rfl ?_
  refine z_iload hX dX11_pass_165 0 rfl ?_
  refine z_iload hX dX11_pass_167 1 rfl ?_
  obtain ⟨a3, ha4, h⟩ := h
  obtain ⟨hk5, h⟩ := h
  refine z_callVV (As := [.int s1, .int s0, .long l7, .int l4, .int l5]) (rest := []) (ci := 11) hX (ct_X11_meet hP h) mw_RX11_321 rfl (by decide) rfl (by rw [ha4]; rfl) (by simp only [RoomC, rm_X11_inputOf, rm_X11_kindOf, rm_X11_late, rm_X11_meet, rm_X11_note, rm_X11_pass, rm_X11_plus, rm_X11_put]; omega) (by decide) dX11_pass_169 hk5 (fun M2 h => ?_)
  refine z_goto (tgt := 202) hX dX11_pass_172 (by decide) ?_
  refine z_loc [] rfl ?_
  exact zb_X11_pass_202 hP hX hQ hnL h
def bk_X11_pass_44 (P : Mm → Nat → Int32 → Int64 → Int32 → Int32 → (Mm → Prop) → Prop) (h0 : Nat) (K : Mm → Prop) (l1 : Int32) (l4 : Int32) (l5 : Int32) (l6 : Int32) (s0 : Int64) (M : Mm) : Prop := ((0 ≤ l6 → mK M h0 = 12 ∧ ∃ a8, (mR M 733 h0) = some a8 ∧ isA M a8 2 ∧ vp_in l6 (aN M a8) ∧ (((aJ M a8 (l6).toNatClampNeg) < s0 → (wp_X11_kindOf M h0 l6 (fun r12 M13 => ((r12 = 4 → mK M13 h0 = 12 ∧ (wp_X11_inputOf M13 h0 l6 (0 : Int32) (fun r15 M16 => ((¬ r15 = l1 → (bk_X11_pass_163 P h0 K l4 l5 s0 (1 : Int32) l6 (some h0) M16)) ∧ (r15 = l1 → (bk_X11_pass_163 P h0 K l4 l5 s0 (0 : Int32) l6 (some h0) M16)))))) ∧ (r12 = 5 → mK M13 h0 = 12 ∧ (wp_X11_put M13 h0 l6 s0 l4 l5 (fun M20 => (bk_X11_pass_202 P h0 K M20)))) ∧ (¬ r12 = 4 → ¬ r12 = 5 → mK M13 h0 = 12 ∧ (P M13 h0 l6 s0 l4 l5 (fun M24 => (bk_X11_pass_202 P h0 K M24)))))))) ∧ (¬ (aJ M a8 (l6).toNatClampNeg) < s0 → (wp_X11_late M h0 l6 s0 l4 l5 (fun M28 => (K M28)))))) ∧ (¬ 0 ≤ l6 → mK M h0 = 12 ∧ (wp_X11_note M h0 (mR M 740 h0) (mI M 739 h0) (300 : Int32) l1 s0 l4 l5 (fun M32 => mK M32 h0 = 12 ∧ (K (sI M32 739 h0 ((mI M32 739 h0) + (1 : Int32))))))))
set_option maxRecDepth 100000 in
set_option maxHeartbeats 4000000 in
theorem zb_X11_pass_44 {X : Cx} {d : Nat} {P : Mm → Nat → Int32 → Int64 → Int32 → Int32 → (Mm → Prop) → Prop} {h0 : Nat} {K : Mm → Prop} (hP : ∀ {M : Mm} {h0 : Nat} {x1 : Int32} {x2 : Int64} {x3 : Int32} {x4 : Int32} {K : Mm → Prop}, P M h0 x1 x2 x3 x4 K → CtV yX11_pass cX11_pass 9 none (rm_X11_pass d) [.ref h0, .int x1, .long x2, .int x3, .int x4] M K) (hX : Ok X cX11_pass RX11 (rm_X11_pass (d + 1))) (hQ : Rq X (rm_X11_pass (d + 1)) none (QV K)) (hnL : X.2.2.2.2.2.2.2.2.2.2.2.2.2.2 = 9) {l1 : Int32} {l4 : Int32} {l5 : Int32} {l6 : Int32} {s0 : Int64} {M : Mm} (h : bk_X11_pass_44 P h0 K l1 l4 l5 l6 s0 M) : Z X M 0 0 44 [(0, va_rf (some h0)), (1, .int l1), (4, .int l4), (5, .int l5), (6, .int l6)] [.long s0] := by
  unfold bk_X11_pass_44 at h
  refine z_lstore hX [(7, .long s0), (0, va_rf (some h0)), (1, .int l1), (4, .int l4), (5, .int l5), (6, .int l6)] dX11_pass_44 (by rw [hnL]; decide) rfl ?_
  refine z_iload hX dX11_pass_46 5 rfl ?_
  obtain ⟨h1, h2⟩ := h
  refine z_if_ge (tgt := 84) hX dX11_pass_48 (by decide) (fun hc => ?_) (fun hc => ?_)
  · have h := h1 hc
    refine z_lload hX dX11_pass_84 0 rfl ?_
    refine z_aload_n (r := (some h0)) hX dX11_pass_86 rfl 1 rfl ?_
    obtain ⟨hk7, h⟩ := h
    refine gf_RX11_63 (r := (some h0)) hX dX11_pass_87 rfl hk7 ?_
    refine z_iload hX dX11_pass_90 5 rfl ?_
    obtain ⟨a8, ha9, h⟩ := h
    obtain ⟨hk10, h⟩ := h
    obtain ⟨hc11, h⟩ := h
    refine y_lald (r := (mR M 733 h0)) hX dX11_pass_92 ha9 hk10 hc11 ?_
    refine z_lcmp hX dX11_pass_93 ?_
    obtain ⟨h1, h2⟩ := h
    refine z_if_gt (tgt := 110) hX dX11_pass_94 (by decide) (fun hc => ?_) (fun hc => ?_)
    · have h := h1 ((lg_cmp_gt _ _).mp hc)
      refine z_aload_n (r := (some h0)) hX dX11_pass_110 rfl 1 rfl ?_
      refine z_iload hX dX11_pass_111 5 rfl ?_
      refine z_callVI (As := [.int l6]) (rest := []) (ci := 11) hX (ct_X11_kindOf h) mw_RX11_308 rfl (by decide) rfl (by rfl) (by simp only [RoomC, rm_X11_inputOf, rm_X11_kindOf, rm_X11_late, rm_X11_meet, rm_X11_note, rm_X11_pass, rm_X11_plus, rm_X11_put]; omega) (by decide) dX11_pass_113 hk7 (fun r12 M13 h => ?_)
      obtain ⟨hs0, hs1, hD⟩ := h
      by_cases hx0 : r12 = 4
      · have h := hs0 hx0
        refine z_lsw (off := 28) (tgt := 144) hX dX11_pass_116 (by decide) (by rw [hx0]; rfl) (by decide) ?_
        refine z_aload_n (r := (some h0)) hX dX11_pass_144 rfl 1 rfl ?_
        refine z_iload hX dX11_pass_145 5 rfl ?_
        refine z_aload_n (r := (some h0)) hX dX11_pass_147 rfl 1 rfl ?_
        refine z_iload hX dX11_pass_148 5 rfl ?_
        refine z_iconst (v := (0 : Int32)) hX dX11_pass_150 (by decide) ?_
        obtain ⟨hk17, h⟩ := h
        refine z_callVI (As := [.int l6, .int (0 : Int32)]) (rest := [.int l6, va_rf (some h0)]) (ci := 11) hX (ct_X11_inputOf h) mw_RX11_318 rfl (by decide) rfl (by rfl) (by simp only [RoomC, rm_X11_inputOf, rm_X11_kindOf, rm_X11_late, rm_X11_meet, rm_X11_note, rm_X11_pass, rm_X11_plus, rm_X11_put]; omega) (by simp only [List.map_cons, List.map_nil, List.sum_cons, List.sum_nil, cat_rf, cat_i, cat_j]; decide) dX11_pass_151 hk17 (fun r15 M16 h => ?_)
        refine z_iload_n hX dX11_pass_154 rfl 2 rfl ?_
        obtain ⟨h1, h2⟩ := h
        refine z_icmp_ne (tgt := 162) hX dX11_pass_155 (by decide) (fun hc => ?_) (fun hc => ?_)
        · have h := h1 hc
          refine z_iconst (v := (1 : Int32)) hX dX11_pass_162 (by decide) ?_
          refine z_loc [3, 4, 0] rfl ?_
          exact zb_X11_pass_163 hP hX hQ hnL h
        · have h := h2 hc
          refine z_iconst (v := (0 : Int32)) hX dX11_pass_158 (by decide) ?_
          refine z_goto (tgt := 163) hX dX11_pass_159 (by decide) ?_
          refine z_loc [3, 4, 0] rfl ?_
          exact zb_X11_pass_163 hP hX hQ hnL h
      · skip
        by_cases hx1 : r12 = 5
        · have h := hs1 hx1
          refine z_lsw (off := 59) (tgt := 175) hX dX11_pass_116 (by decide) (by rw [hx1]; rfl) (by decide) ?_
          refine z_aload_n (r := (some h0)) hX dX11_pass_175 rfl 1 rfl ?_
          refine z_iload hX dX11_pass_176 5 rfl ?_
          refine z_lload hX dX11_pass_178 0 rfl ?_
          refine z_iload hX dX11_pass_180 3 rfl ?_
          refine z_iload hX dX11_pass_182 4 rfl ?_
          obtain ⟨hk21, h⟩ := h
          refine z_callVV (As := [.int l6, .long s0, .int l4, .int l5]) (rest := []) (ci := 11) hX (ct_X11_put h) mw_RX11_325 rfl (by decide) rfl (by rfl) (by simp only [RoomC, rm_X11_inputOf, rm_X11_kindOf, rm_X11_late, rm_X11_meet, rm_X11_note, rm_X11_pass, rm_X11_plus, rm_X11_put]; omega) (by decide) dX11_pass_184 hk21 (fun M20 h => ?_)
          refine z_goto (tgt := 202) hX dX11_pass_187 (by decide) ?_
          refine z_loc [] rfl ?_
          exact zb_X11_pass_202 hP hX hQ hnL h
        · skip
          have h := hD hx0 hx1
          refine z_lsw (off := 74) (tgt := 190) hX dX11_pass_116 (by decide) (by show Op.lookupswitch.offset [(4, 28), (5, 59)] 74 _ = _; rw [lv_osw (k := 4) (a := 4) hx0 rfl, lv_osw (k := 5) (a := 5) hx1 rfl]; rfl) (by decide) ?_
          refine z_aload_n (r := (some h0)) hX dX11_pass_190 rfl 1 rfl ?_
          refine z_iload hX dX11_pass_191 5 rfl ?_
          refine z_lload hX dX11_pass_193 0 rfl ?_
          refine z_iload hX dX11_pass_195 3 rfl ?_
          refine z_iload hX dX11_pass_197 4 rfl ?_
          obtain ⟨hk25, h⟩ := h
          refine z_callVV (As := [.int l6, .long s0, .int l4, .int l5]) (rest := []) (ci := 11) hX (hP h) mw_RX11_328 rfl (by decide) rfl (by rfl) (by simp only [RoomC, rm_X11_inputOf, rm_X11_kindOf, rm_X11_late, rm_X11_meet, rm_X11_note, rm_X11_pass, rm_X11_plus, rm_X11_put]; omega) (by decide) dX11_pass_199 hk25 (fun M24 h => ?_)
          refine z_loc [] rfl ?_
          exact zb_X11_pass_202 hP hX hQ hnL h
    · have h := h2 (fun q => hc ((lg_cmp_gt _ _).mpr q))
      refine z_aload_n (r := (some h0)) hX dX11_pass_97 rfl 1 rfl ?_
      refine z_iload hX dX11_pass_98 5 rfl ?_
      refine z_lload hX dX11_pass_100 0 rfl ?_
      refine z_iload hX dX11_pass_102 3 rfl ?_
      refine z_iload hX dX11_pass_104 4 rfl ?_
      refine z_callVV (As := [.int l6, .long s0, .int l4, .int l5]) (rest := []) (ci := 11) hX (ct_X11_late h) mw_RX11_314 rfl (by decide) rfl (by rfl) (by simp only [RoomC, rm_X11_inputOf, rm_X11_kindOf, rm_X11_late, rm_X11_meet, rm_X11_note, rm_X11_pass, rm_X11_plus, rm_X11_put]; omega) (by decide) dX11_pass_106 hk7 (fun M28 h => ?_)
      exact z_vret hX hQ dX11_pass_109 h
  · have h := h2 hc
    refine z_aload_n (r := (some h0)) hX dX11_pass_51 rfl 1 rfl ?_
    refine z_aload_n (r := (some h0)) hX dX11_pass_52 rfl 1 rfl ?_
    obtain ⟨hk30, h⟩ := h
    refine gf_RX11_78 (r := (some h0)) hX dX11_pass_53 rfl hk30 ?_
    refine z_aload_n (r := (some h0)) hX dX11_pass_56 rfl 1 rfl ?_
    refine gf_RX11_283 (r := (some h0)) hX dX11_pass_57 rfl hk30 ?_
    refine z_sipush (v := (300 : Int32)) hX dX11_pass_60 (by decide) ?_
    refine z_iload_n hX dX11_pass_63 rfl 2 rfl ?_
    refine z_lload hX dX11_pass_64 0 rfl ?_
    refine z_iload hX dX11_pass_66 3 rfl ?_
    refine z_iload hX dX11_pass_68 4 rfl ?_
    refine z_callVV (As := [va_rf (mR M 740 h0), .int (mI M 739 h0), .int (300 : Int32), .int l1, .long s0, .int l4, .int l5]) (rest := []) (ci := 11) hX (ct_X11_note h) mw_RX11_304 rfl (by decide) rfl (by rfl) (by simp only [RoomC, rm_X11_inputOf, rm_X11_kindOf, rm_X11_late, rm_X11_meet, rm_X11_note, rm_X11_pass, rm_X11_plus, rm_X11_put]; omega) (by decide) dX11_pass_70 hk30 (fun M32 h => ?_)
    refine z_aload_n (r := (some h0)) hX dX11_pass_73 rfl 1 rfl ?_
    refine z_dup hX dX11_pass_74 (cat_rf _) ?_
    obtain ⟨hk34, h⟩ := h
    refine gf_RX11_283 (r := (some h0)) hX dX11_pass_75 rfl hk34 ?_
    refine z_iconst (v := (1 : Int32)) hX dX11_pass_78 (by decide) ?_
    refine z_iadd hX dX11_pass_79 ?_
    refine pf_RX11_283 (r := (some h0)) (v := ((mI M32 739 h0) + (1 : Int32))) hX dX11_pass_80 rfl hk34 ?_
    exact z_vret hX hQ dX11_pass_83 h
def bk_X11_pass_43 (P : Mm → Nat → Int32 → Int64 → Int32 → Int32 → (Mm → Prop) → Prop) (h0 : Nat) (K : Mm → Prop) (l1 : Int32) (l2 : Int64) (l4 : Int32) (l5 : Int32) (l6 : Int32) (M : Mm) : Prop := (bk_X11_pass_44 P h0 K l1 l4 l5 l6 l2 M)
set_option maxRecDepth 100000 in
set_option maxHeartbeats 4000000 in
theorem zb_X11_pass_43 {X : Cx} {d : Nat} {P : Mm → Nat → Int32 → Int64 → Int32 → Int32 → (Mm → Prop) → Prop} {h0 : Nat} {K : Mm → Prop} (hP : ∀ {M : Mm} {h0 : Nat} {x1 : Int32} {x2 : Int64} {x3 : Int32} {x4 : Int32} {K : Mm → Prop}, P M h0 x1 x2 x3 x4 K → CtV yX11_pass cX11_pass 9 none (rm_X11_pass d) [.ref h0, .int x1, .long x2, .int x3, .int x4] M K) (hX : Ok X cX11_pass RX11 (rm_X11_pass (d + 1))) (hQ : Rq X (rm_X11_pass (d + 1)) none (QV K)) (hnL : X.2.2.2.2.2.2.2.2.2.2.2.2.2.2 = 9) {l1 : Int32} {l2 : Int64} {l4 : Int32} {l5 : Int32} {l6 : Int32} {M : Mm} (h : bk_X11_pass_43 P h0 K l1 l2 l4 l5 l6 M) : Z X M 0 0 43 [(0, va_rf (some h0)), (1, .int l1), (2, .long l2), (4, .int l4), (5, .int l5), (6, .int l6)] [] := by
  unfold bk_X11_pass_43 at h
  refine z_lload_n hX dX11_pass_43 rfl 2 rfl ?_
  refine z_loc [0, 1, 3, 4, 5] rfl ?_
  exact zb_X11_pass_44 hP hX hQ hnL h
def wp_X11_pass : Nat → Mm → Nat → Int32 → Int64 → Int32 → Int32 → (Mm → Prop) → Prop
  | 0, _, _, _, _, _, _, _ => False
  | d + 1, M, h0, p1, p2, p3, p4, K => mK M h0 = 12 ∧ ∃ a37, (mR M 726 h0) = some a37 ∧ isA M a37 1 ∧ vp_in ((12 : Int32) + p1) (aN M a37) ∧ (((aI M a37 (((12 : Int32) + p1)).toNatClampNeg) < 0 → (bk_X11_pass_43 (wp_X11_pass d) h0 K p1 p2 p3 p4 (aI M a37 (((12 : Int32) + p1)).toNatClampNeg) M)) ∧ (¬ (aI M a37 (((12 : Int32) + p1)).toNatClampNeg) < 0 → (wp_X11_kindOf M h0 (aI M a37 (((12 : Int32) + p1)).toNatClampNeg) (fun r41 M42 => ((¬ r41 = (2 : Int32) → (bk_X11_pass_43 (wp_X11_pass d) h0 K p1 p2 p3 p4 (aI M a37 (((12 : Int32) + p1)).toNatClampNeg) M42)) ∧ (r41 = (2 : Int32) → mK M42 h0 = 12 ∧ ∃ a45, (mR M42 720 h0) = some a45 ∧ isA M42 a45 2 ∧ vp_in ((12 : Int32) + (aI M a37 (((12 : Int32) + p1)).toNatClampNeg)) (aN M42 a45) ∧ (wp_X11_plus M42 p2 (aJ M42 a45 (((12 : Int32) + (aI M a37 (((12 : Int32) + p1)).toNatClampNeg))).toNatClampNeg) (fun r49 M50 => (bk_X11_pass_44 (wp_X11_pass d) h0 K p1 p3 p4 (aI M a37 (((12 : Int32) + p1)).toNatClampNeg) r49 M50)))))))))
set_option maxRecDepth 100000 in
set_option maxHeartbeats 4000000 in
theorem ct_X11_pass : ∀ (d : Nat) {M : Mm} {h0 : Nat} {p1 : Int32} {p2 : Int64} {p3 : Int32} {p4 : Int32} {K : Mm → Prop}, wp_X11_pass d M h0 p1 p2 p3 p4 K → CtV yX11_pass cX11_pass 9 none (rm_X11_pass d) [.ref h0, .int p1, .long p2, .int p3, .int p4] M K := by
  intro d
  induction d with
  | zero =>
    intro M h0 p1 p2 p3 p4 K h
    exact False.elim h
  | succ d ih =>
    intro M h0 p1 p2 p3 p4 K h
    have hP := @ih
    refine ct_any (QV K) (by decide) (by exact Nat.le_of_ble_eq_true rfl) (fun X hX hQ hnL hnm => ?_)
    rw [show lv_args 0 [.ref h0, .int p1, .long p2, .int p3, .int p4] = [(0, va_rf (some h0)), (1, .int p1), (2, .long p2), (4, .int p3), (5, .int p4)] by rfl]
    have hX : Ok X cX11_pass RX11 (rm_X11_pass (d + 1)) := hX
    refine z_aload_n (r := (some h0)) hX dX11_pass_0 rfl 0 rfl ?_
    obtain ⟨hk36, h⟩ := h
    refine gf_RX11_51 (r := (some h0)) hX dX11_pass_1 rfl hk36 ?_
    refine z_bipush (v := (12 : Int32)) hX dX11_pass_4 (by decide) ?_
    refine z_iload_n hX dX11_pass_6 rfl 1 rfl ?_
    refine z_iadd hX dX11_pass_7 ?_
    obtain ⟨a37, ha38, h⟩ := h
    obtain ⟨hk39, h⟩ := h
    obtain ⟨hc40, h⟩ := h
    refine y_iald (r := (mR M 726 h0)) hX dX11_pass_8 ha38 hk39 hc40 ?_
    refine z_istore hX [(6, .int (aI M a37 (((12 : Int32) + p1)).toNatClampNeg)), (0, va_rf (some h0)), (1, .int p1), (2, .long p2), (4, .int p3), (5, .int p4)] dX11_pass_9 (by rw [hnL]; decide) rfl ?_
    refine z_iload hX dX11_pass_11 0 rfl ?_
    obtain ⟨h1, h2⟩ := h
    refine z_if_lt (tgt := 43) hX dX11_pass_13 (by decide) (fun hc => ?_) (fun hc => ?_)
    · have h := h1 hc
      refine z_loc [1, 2, 3, 4, 5, 0] rfl ?_
      exact zb_X11_pass_43 hP hX hQ hnL h
    · have h := h2 hc
      refine z_aload_n (r := (some h0)) hX dX11_pass_16 rfl 1 rfl ?_
      refine z_iload hX dX11_pass_17 0 rfl ?_
      refine z_callVI (As := [.int (aI M a37 (((12 : Int32) + p1)).toNatClampNeg)]) (rest := []) (ci := 11) hX (ct_X11_kindOf h) mw_RX11_308 rfl (by decide) rfl (by rfl) (by simp only [RoomC, rm_X11_inputOf, rm_X11_kindOf, rm_X11_late, rm_X11_meet, rm_X11_note, rm_X11_pass, rm_X11_plus, rm_X11_put]; omega) (by decide) dX11_pass_19 hk36 (fun r41 M42 h => ?_)
      refine z_iconst (v := (2 : Int32)) hX dX11_pass_22 (by decide) ?_
      obtain ⟨h1, h2⟩ := h
      refine z_icmp_ne (tgt := 43) hX dX11_pass_23 (by decide) (fun hc => ?_) (fun hc => ?_)
      · have h := h1 hc
        refine z_loc [1, 2, 3, 4, 5, 0] rfl ?_
        exact zb_X11_pass_43 hP hX hQ hnL h
      · have h := h2 hc
        refine z_lload_n hX dX11_pass_26 rfl 3 rfl ?_
        refine z_aload_n (r := (some h0)) hX dX11_pass_27 rfl 1 rfl ?_
        obtain ⟨hk44, h⟩ := h
        refine gf_RX11_33 (r := (some h0)) hX dX11_pass_28 rfl hk44 ?_
        refine z_bipush (v := (12 : Int32)) hX dX11_pass_31 (by decide) ?_
        refine z_iload hX dX11_pass_33 0 rfl ?_
        refine z_iadd hX dX11_pass_35 ?_
        obtain ⟨a45, ha46, h⟩ := h
        obtain ⟨hk47, h⟩ := h
        obtain ⟨hc48, h⟩ := h
        refine y_lald (r := (mR M42 720 h0)) hX dX11_pass_36 ha46 hk47 hc48 ?_
        refine z_callSJ (As := [.long p2, .long (aJ M42 a45 (((12 : Int32) + (aI M a37 (((12 : Int32) + p1)).toNatClampNeg))).toNatClampNeg)]) (rest := []) hX (ct_X11_plus h) mw_RX11_311 rfl (by rfl) (by simp only [RoomC, rm_X11_inputOf, rm_X11_kindOf, rm_X11_late, rm_X11_meet, rm_X11_note, rm_X11_pass, rm_X11_plus, rm_X11_put]; omega) (by decide) dX11_pass_37 (fun r49 M50 h => ?_)
        refine z_goto (tgt := 44) hX dX11_pass_40 (by decide) ?_
        refine z_loc [1, 2, 4, 5, 0] rfl ?_
        exact zb_X11_pass_44 hP hX hQ hnL h
def rm_X11_close : Room := { frames := 308, cells := 0, slots := 0, locals := 12187 }
def bk_X11_close_117 (h0 : Nat) (R0 : Int32 → Mm → Prop) (R7 : Int32 → Int32 → Int32 → Mm → Prop) (K : Mm → Prop) (l1 : Int32) (l2 : Int32) (l3 : Int32) (M : Mm) : Prop := (R7 l1 l2 (l3 + 1) M)
set_option maxRecDepth 100000 in
set_option maxHeartbeats 4000000 in
theorem zb_X11_close_117 {X : Cx} {h0 : Nat} {R0 : Int32 → Mm → Prop} {R7 : Int32 → Int32 → Int32 → Mm → Prop} {K : Mm → Prop} (hX : Ok X cX11_close RX11 rm_X11_close) (hQ : Rq X rm_X11_close none (QV K)) (hnL : X.2.2.2.2.2.2.2.2.2.2.2.2.2.2 = 8) (hR0 : ∀ l1 M, R0 l1 M → Z X M 0 0 0 [(0, va_rf (some h0)), (1, .int l1)] []) (hR7 : ∀ l1 l2 l3 M, R7 l1 l2 l3 M → Z X M 0 0 7 [(0, va_rf (some h0)), (1, .int l1), (2, .int l2), (3, .int l3)] []) {l1 : Int32} {l2 : Int32} {l3 : Int32} {M : Mm} (h : bk_X11_close_117 h0 R0 R7 K l1 l2 l3 M) : Z X M 0 0 117 [(0, va_rf (some h0)), (1, .int l1), (2, .int l2), (3, .int l3)] [] := by
  unfold bk_X11_close_117 at h
  refine z_iinc (v := (l3 + 1)) hX [(3, .int (l3 + 1)), (0, va_rf (some h0)), (1, .int l1), (2, .int l2)] dX11_close_117 3 rfl rfl (by rw [hnL]; decide) rfl ?_
  refine z_goto (tgt := 7) hX dX11_close_120 (by decide) ?_
  refine z_loc [1, 2, 3, 0] rfl ?_
  exact hR7 _ _ _ _ h
def bk_X11_close_115 (h0 : Nat) (R0 : Int32 → Mm → Prop) (R7 : Int32 → Int32 → Int32 → Mm → Prop) (K : Mm → Prop) (l1 : Int32) (l3 : Int32) (M : Mm) : Prop := (bk_X11_close_117 h0 R0 R7 K l1 l3 l3 M)
set_option maxRecDepth 100000 in
set_option maxHeartbeats 4000000 in
theorem zb_X11_close_115 {X : Cx} {h0 : Nat} {R0 : Int32 → Mm → Prop} {R7 : Int32 → Int32 → Int32 → Mm → Prop} {K : Mm → Prop} (hX : Ok X cX11_close RX11 rm_X11_close) (hQ : Rq X rm_X11_close none (QV K)) (hnL : X.2.2.2.2.2.2.2.2.2.2.2.2.2.2 = 8) (hR0 : ∀ l1 M, R0 l1 M → Z X M 0 0 0 [(0, va_rf (some h0)), (1, .int l1)] []) (hR7 : ∀ l1 l2 l3 M, R7 l1 l2 l3 M → Z X M 0 0 7 [(0, va_rf (some h0)), (1, .int l1), (2, .int l2), (3, .int l3)] []) {l1 : Int32} {l3 : Int32} {M : Mm} (h : bk_X11_close_115 h0 R0 R7 K l1 l3 M) : Z X M 0 0 115 [(0, va_rf (some h0)), (1, .int l1), (3, .int l3)] [] := by
  unfold bk_X11_close_115 at h
  refine z_iload_n hX dX11_close_115 rfl 2 rfl ?_
  refine z_istore_n hX [(2, .int l3), (0, va_rf (some h0)), (1, .int l1), (3, .int l3)] dX11_close_116 rfl (by rw [hnL]; decide) rfl ?_
  refine z_loc [1, 2, 0, 3] rfl ?_
  exact zb_X11_close_117 hX hQ hnL hR0 hR7 h
def bk_X11_close_57 (h0 : Nat) (R0 : Int32 → Mm → Prop) (R7 : Int32 → Int32 → Int32 → Mm → Prop) (K : Mm → Prop) (l1 : Int32) (l2 : Int32) (l3 : Int32) (s0 : Int32) (M : Mm) : Prop := ((s0 = 0 → (bk_X11_close_117 h0 R0 R7 K l1 l2 l3 M)) ∧ (¬ s0 = 0 → ((l2 < 0 → (bk_X11_close_115 h0 R0 R7 K l1 l3 M)) ∧ (¬ l2 < 0 → mK M h0 = 12 ∧ ∃ a2, (mR M 745 h0) = some a2 ∧ isA M a2 2 ∧ vp_in l3 (aN M a2) ∧ vp_in l2 (aN M a2) ∧ (((aJ M a2 (l3).toNatClampNeg) < (aJ M a2 (l2).toNatClampNeg) → (bk_X11_close_115 h0 R0 R7 K l1 l3 M)) ∧ (¬ (aJ M a2 (l3).toNatClampNeg) < (aJ M a2 (l2).toNatClampNeg) → vp_in l3 (aN M a2) ∧ vp_in l2 (aN M a2) ∧ ((¬ (aJ M a2 (l3).toNatClampNeg) = (aJ M a2 (l2).toNatClampNeg) → (bk_X11_close_117 h0 R0 R7 K l1 l2 l3 M)) ∧ ((aJ M a2 (l3).toNatClampNeg) = (aJ M a2 (l2).toNatClampNeg) → ∃ a9, (mR M 746 h0) = some a9 ∧ isA M a9 1 ∧ vp_in l3 (aN M a9) ∧ vp_in l2 (aN M a9) ∧ (((aI M a9 (l2).toNatClampNeg) ≤ (aI M a9 (l3).toNatClampNeg) → (bk_X11_close_117 h0 R0 R7 K l1 l2 l3 M)) ∧ (¬ (aI M a9 (l2).toNatClampNeg) ≤ (aI M a9 (l3).toNatClampNeg) → (bk_X11_close_115 h0 R0 R7 K l1 l3 M)))))))))))
set_option maxRecDepth 100000 in
set_option maxHeartbeats 4000000 in
theorem zb_X11_close_57 {X : Cx} {h0 : Nat} {R0 : Int32 → Mm → Prop} {R7 : Int32 → Int32 → Int32 → Mm → Prop} {K : Mm → Prop} (hX : Ok X cX11_close RX11 rm_X11_close) (hQ : Rq X rm_X11_close none (QV K)) (hnL : X.2.2.2.2.2.2.2.2.2.2.2.2.2.2 = 8) (hR0 : ∀ l1 M, R0 l1 M → Z X M 0 0 0 [(0, va_rf (some h0)), (1, .int l1)] []) (hR7 : ∀ l1 l2 l3 M, R7 l1 l2 l3 M → Z X M 0 0 7 [(0, va_rf (some h0)), (1, .int l1), (2, .int l2), (3, .int l3)] []) {l1 : Int32} {l2 : Int32} {l3 : Int32} {s0 : Int32} {M : Mm} (h : bk_X11_close_57 h0 R0 R7 K l1 l2 l3 s0 M) : Z X M 0 0 57 [(0, va_rf (some h0)), (1, .int l1), (2, .int l2), (3, .int l3)] [.int s0] := by
  unfold bk_X11_close_57 at h
  refine z_istore hX [(4, .int s0), (0, va_rf (some h0)), (1, .int l1), (2, .int l2), (3, .int l3)] dX11_close_57 (by rw [hnL]; decide) rfl ?_
  refine z_iload hX dX11_close_59 0 rfl ?_
  obtain ⟨h1, h2⟩ := h
  refine z_if_eq (tgt := 117) hX dX11_close_61 (by decide) (fun hc => ?_) (fun hc => ?_)
  · have h := h1 hc
    refine z_loc [1, 2, 3, 4] rfl ?_
    exact zb_X11_close_117 hX hQ hnL hR0 hR7 h
  · have h := h2 hc
    refine z_iload_n hX dX11_close_64 rfl 3 rfl ?_
    obtain ⟨h1, h2⟩ := h
    refine z_if_lt (tgt := 115) hX dX11_close_65 (by decide) (fun hc => ?_) (fun hc => ?_)
    · have h := h1 hc
      refine z_loc [1, 2, 4] rfl ?_
      exact zb_X11_close_115 hX hQ hnL hR0 hR7 h
    · have h := h2 hc
      refine z_aload_n (r := (some h0)) hX dX11_close_68 rfl 1 rfl ?_
      obtain ⟨hk1, h⟩ := h
      refine gf_RX11_87 (r := (some h0)) hX dX11_close_69 rfl hk1 ?_
      refine z_iload_n hX dX11_close_72 rfl 4 rfl ?_
      obtain ⟨a2, ha3, h⟩ := h
      obtain ⟨hk4, h⟩ := h
      obtain ⟨hc5, h⟩ := h
      refine y_lald (r := (mR M 745 h0)) hX dX11_close_73 ha3 hk4 hc5 ?_
      refine z_aload_n (r := (some h0)) hX dX11_close_74 rfl 1 rfl ?_
      refine gf_RX11_87 (r := (some h0)) hX dX11_close_75 rfl hk1 ?_
      refine z_iload_n hX dX11_close_78 rfl 3 rfl ?_
      obtain ⟨hc6, h⟩ := h
      refine y_lald (r := (mR M 745 h0)) hX dX11_close_79 ha3 hk4 hc6 ?_
      refine z_lcmp hX dX11_close_80 ?_
      obtain ⟨h1, h2⟩ := h
      refine z_if_lt (tgt := 115) hX dX11_close_81 (by decide) (fun hc => ?_) (fun hc => ?_)
      · have h := h1 ((lg_cmp_lt _ _).mp hc)
        refine z_loc [1, 2, 4] rfl ?_
        exact zb_X11_close_115 hX hQ hnL hR0 hR7 h
      · have h := h2 (fun q => hc ((lg_cmp_lt _ _).mpr q))
        refine z_aload_n (r := (some h0)) hX dX11_close_84 rfl 1 rfl ?_
        refine gf_RX11_87 (r := (some h0)) hX dX11_close_85 rfl hk1 ?_
        refine z_iload_n hX dX11_close_88 rfl 4 rfl ?_
        obtain ⟨hc7, h⟩ := h
        refine y_lald (r := (mR M 745 h0)) hX dX11_close_89 ha3 hk4 hc7 ?_
        refine z_aload_n (r := (some h0)) hX dX11_close_90 rfl 1 rfl ?_
        refine gf_RX11_87 (r := (some h0)) hX dX11_close_91 rfl hk1 ?_
        refine z_iload_n hX dX11_close_94 rfl 3 rfl ?_
        obtain ⟨hc8, h⟩ := h
        refine y_lald (r := (mR M 745 h0)) hX dX11_close_95 ha3 hk4 hc8 ?_
        refine z_lcmp hX dX11_close_96 ?_
        obtain ⟨h1, h2⟩ := h
        refine z_if_ne (tgt := 117) hX dX11_close_97 (by decide) (fun hc => ?_) (fun hc => ?_)
        · have h := h1 (fun q => hc ((lg_cmp_eq _ _).mpr q))
          refine z_loc [1, 2, 3, 4] rfl ?_
          exact zb_X11_close_117 hX hQ hnL hR0 hR7 h
        · have h := h2 ((lg_cmp_eq _ _).mp hc)
          refine z_aload_n (r := (some h0)) hX dX11_close_100 rfl 1 rfl ?_
          refine gf_RX11_90 (r := (some h0)) hX dX11_close_101 rfl hk1 ?_
          refine z_iload_n hX dX11_close_104 rfl 4 rfl ?_
          obtain ⟨a9, ha10, h⟩ := h
          obtain ⟨hk11, h⟩ := h
          obtain ⟨hc12, h⟩ := h
          refine y_iald (r := (mR M 746 h0)) hX dX11_close_105 ha10 hk11 hc12 ?_
          refine z_aload_n (r := (some h0)) hX dX11_close_106 rfl 1 rfl ?_
          refine gf_RX11_90 (r := (some h0)) hX dX11_close_107 rfl hk1 ?_
          refine z_iload_n hX dX11_close_110 rfl 3 rfl ?_
          obtain ⟨hc13, h⟩ := h
          refine y_iald (r := (mR M 746 h0)) hX dX11_close_111 ha10 hk11 hc13 ?_
          obtain ⟨h1, h2⟩ := h
          refine z_icmp_ge (tgt := 117) hX dX11_close_112 (by decide) (fun hc => ?_) (fun hc => ?_)
          · have h := h1 hc
            refine z_loc [1, 2, 3, 4] rfl ?_
            exact zb_X11_close_117 hX hQ hnL hR0 hR7 h
          · have h := h2 hc
            refine z_loc [1, 2, 4] rfl ?_
            exact zb_X11_close_115 hX hQ hnL hR0 hR7 h
def lp_X11_close_7 (h0 : Nat) (R0 : Int32 → Mm → Prop) (K : Mm → Prop) : Nat → Int32 → Int32 → Int32 → Mm → Prop
  | 0, _, _, _, _ => False
  | n + 1, l1, l2, l3, M => mK M h0 = 12 ∧ ∃ a15, (mR M 744 h0) = some a15 ∧ isA M a15 1 ∧ vp_in l1 (aN M a15) ∧ (((((24 : Int32) * l1) + (aI M a15 (l1).toNatClampNeg)) ≤ l3 → ((0 ≤ l2 → ∃ a19, (mR M 745 h0) = some a19 ∧ isA M a19 2 ∧ vp_in l2 (aN M a19) ∧ ∃ a23, (mR M 720 h0) = some a23 ∧ isA M a23 2 ∧ vp_in ((12 : Int32) + l1) (aN M a23) ∧ (wp_X11_plus M (aJ M a19 (l2).toNatClampNeg) ((aJ M a23 (((12 : Int32) + l1)).toNatClampNeg) - (1 : Int64)) (fun r27 M28 => mK M28 h0 = 12 ∧ ∃ a31, (mR M28 746 h0) = some a31 ∧ isA M28 a31 1 ∧ vp_in l2 (aN M28 a31) ∧ ∃ a35, (mR M28 747 h0) = some a35 ∧ isA M28 a35 1 ∧ vp_in l2 (aN M28 a35) ∧ ∃ a39, (mR M28 744 h0) = some a39 ∧ isA M28 a39 1 ∧ vp_in l1 (aN M28 a39) ∧ vp_in l1 (aN M28 a39) ∧ ∃ a44, (mR (tI M28 a39 (l1).toNatClampNeg ((aI M28 a39 (l1).toNatClampNeg) - (1 : Int32))) 744 h0) = some a44 ∧ isA (tI M28 a39 (l1).toNatClampNeg ((aI M28 a39 (l1).toNatClampNeg) - (1 : Int32))) a44 1 ∧ vp_in l1 (aN (tI M28 a39 (l1).toNatClampNeg ((aI M28 a39 (l1).toNatClampNeg) - (1 : Int32))) a44) ∧ ∃ a48, (mR (tI M28 a39 (l1).toNatClampNeg ((aI M28 a39 (l1).toNatClampNeg) - (1 : Int32))) 745 h0) = some a48 ∧ isA (tI M28 a39 (l1).toNatClampNeg ((aI M28 a39 (l1).toNatClampNeg) - (1 : Int32))) a48 2 ∧ vp_in (((24 : Int32) * l1) + (aI (tI M28 a39 (l1).toNatClampNeg ((aI M28 a39 (l1).toNatClampNeg) - (1 : Int32))) a44 (l1).toNatClampNeg)) (aN (tI M28 a39 (l1).toNatClampNeg ((aI M28 a39 (l1).toNatClampNeg) - (1 : Int32))) a48) ∧ vp_in l2 (aN (tI M28 a39 (l1).toNatClampNeg ((aI M28 a39 (l1).toNatClampNeg) - (1 : Int32))) a48) ∧ ∃ a53, (mR (tJ (tI M28 a39 (l1).toNatClampNeg ((aI M28 a39 (l1).toNatClampNeg) - (1 : Int32))) a48 (l2).toNatClampNeg (aJ (tI M28 a39 (l1).toNatClampNeg ((aI M28 a39 (l1).toNatClampNeg) - (1 : Int32))) a48 ((((24 : Int32) * l1) + (aI (tI M28 a39 (l1).toNatClampNeg ((aI M28 a39 (l1).toNatClampNeg) - (1 : Int32))) a44 (l1).toNatClampNeg))).toNatClampNeg)) 746 h0) = some a53 ∧ isA (tJ (tI M28 a39 (l1).toNatClampNeg ((aI M28 a39 (l1).toNatClampNeg) - (1 : Int32))) a48 (l2).toNatClampNeg (aJ (tI M28 a39 (l1).toNatClampNeg ((aI M28 a39 (l1).toNatClampNeg) - (1 : Int32))) a48 ((((24 : Int32) * l1) + (aI (tI M28 a39 (l1).toNatClampNeg ((aI M28 a39 (l1).toNatClampNeg) - (1 : Int32))) a44 (l1).toNatClampNeg))).toNatClampNeg)) a53 1 ∧ vp_in (((24 : Int32) * l1) + (aI (tI M28 a39 (l1).toNatClampNeg ((aI M28 a39 (l1).toNatClampNeg) - (1 : Int32))) a44 (l1).toNatClampNeg)) (aN (tJ (tI M28 a39 (l1).toNatClampNeg ((aI M28 a39 (l1).toNatClampNeg) - (1 : Int32))) a48 (l2).toNatClampNeg (aJ (tI M28 a39 (l1).toNatClampNeg ((aI M28 a39 (l1).toNatClampNeg) - (1 : Int32))) a48 ((((24 : Int32) * l1) + (aI (tI M28 a39 (l1).toNatClampNeg ((aI M28 a39 (l1).toNatClampNeg) - (1 : Int32))) a44 (l1).toNatClampNeg))).toNatClampNeg)) a53) ∧ vp_in l2 (aN (tJ (tI M28 a39 (l1).toNatClampNeg ((aI M28 a39 (l1).toNatClampNeg) - (1 : Int32))) a48 (l2).toNatClampNeg (aJ (tI M28 a39 (l1).toNatClampNeg ((aI M28 a39 (l1).toNatClampNeg) - (1 : Int32))) a48 ((((24 : Int32) * l1) + (aI (tI M28 a39 (l1).toNatClampNeg ((aI M28 a39 (l1).toNatClampNeg) - (1 : Int32))) a44 (l1).toNatClampNeg))).toNatClampNeg)) a53) ∧ ∃ a58, (mR (tI (tJ (tI M28 a39 (l1).toNatClampNeg ((aI M28 a39 (l1).toNatClampNeg) - (1 : Int32))) a48 (l2).toNatClampNeg (aJ (tI M28 a39 (l1).toNatClampNeg ((aI M28 a39 (l1).toNatClampNeg) - (1 : Int32))) a48 ((((24 : Int32) * l1) + (aI (tI M28 a39 (l1).toNatClampNeg ((aI M28 a39 (l1).toNatClampNeg) - (1 : Int32))) a44 (l1).toNatClampNeg))).toNatClampNeg)) a53 (l2).toNatClampNeg (aI (tJ (tI M28 a39 (l1).toNatClampNeg ((aI M28 a39 (l1).toNatClampNeg) - (1 : Int32))) a48 (l2).toNatClampNeg (aJ (tI M28 a39 (l1).toNatClampNeg ((aI M28 a39 (l1).toNatClampNeg) - (1 : Int32))) a48 ((((24 : Int32) * l1) + (aI (tI M28 a39 (l1).toNatClampNeg ((aI M28 a39 (l1).toNatClampNeg) - (1 : Int32))) a44 (l1).toNatClampNeg))).toNatClampNeg)) a53 ((((24 : Int32) * l1) + (aI (tI M28 a39 (l1).toNatClampNeg ((aI M28 a39 (l1).toNatClampNeg) - (1 : Int32))) a44 (l1).toNatClampNeg))).toNatClampNeg)) 747 h0) = some a58 ∧ isA (tI (tJ (tI M28 a39 (l1).toNatClampNeg ((aI M28 a39 (l1).toNatClampNeg) - (1 : Int32))) a48 (l2).toNatClampNeg (aJ (tI M28 a39 (l1).toNatClampNeg ((aI M28 a39 (l1).toNatClampNeg) - (1 : Int32))) a48 ((((24 : Int32) * l1) + (aI (tI M28 a39 (l1).toNatClampNeg ((aI M28 a39 (l1).toNatClampNeg) - (1 : Int32))) a44 (l1).toNatClampNeg))).toNatClampNeg)) a53 (l2).toNatClampNeg (aI (tJ (tI M28 a39 (l1).toNatClampNeg ((aI M28 a39 (l1).toNatClampNeg) - (1 : Int32))) a48 (l2).toNatClampNeg (aJ (tI M28 a39 (l1).toNatClampNeg ((aI M28 a39 (l1).toNatClampNeg) - (1 : Int32))) a48 ((((24 : Int32) * l1) + (aI (tI M28 a39 (l1).toNatClampNeg ((aI M28 a39 (l1).toNatClampNeg) - (1 : Int32))) a44 (l1).toNatClampNeg))).toNatClampNeg)) a53 ((((24 : Int32) * l1) + (aI (tI M28 a39 (l1).toNatClampNeg ((aI M28 a39 (l1).toNatClampNeg) - (1 : Int32))) a44 (l1).toNatClampNeg))).toNatClampNeg)) a58 1 ∧ vp_in (((24 : Int32) * l1) + (aI (tI M28 a39 (l1).toNatClampNeg ((aI M28 a39 (l1).toNatClampNeg) - (1 : Int32))) a44 (l1).toNatClampNeg)) (aN (tI (tJ (tI M28 a39 (l1).toNatClampNeg ((aI M28 a39 (l1).toNatClampNeg) - (1 : Int32))) a48 (l2).toNatClampNeg (aJ (tI M28 a39 (l1).toNatClampNeg ((aI M28 a39 (l1).toNatClampNeg) - (1 : Int32))) a48 ((((24 : Int32) * l1) + (aI (tI M28 a39 (l1).toNatClampNeg ((aI M28 a39 (l1).toNatClampNeg) - (1 : Int32))) a44 (l1).toNatClampNeg))).toNatClampNeg)) a53 (l2).toNatClampNeg (aI (tJ (tI M28 a39 (l1).toNatClampNeg ((aI M28 a39 (l1).toNatClampNeg) - (1 : Int32))) a48 (l2).toNatClampNeg (aJ (tI M28 a39 (l1).toNatClampNeg ((aI M28 a39 (l1).toNatClampNeg) - (1 : Int32))) a48 ((((24 : Int32) * l1) + (aI (tI M28 a39 (l1).toNatClampNeg ((aI M28 a39 (l1).toNatClampNeg) - (1 : Int32))) a44 (l1).toNatClampNeg))).toNatClampNeg)) a53 ((((24 : Int32) * l1) + (aI (tI M28 a39 (l1).toNatClampNeg ((aI M28 a39 (l1).toNatClampNeg) - (1 : Int32))) a44 (l1).toNatClampNeg))).toNatClampNeg)) a58) ∧ vp_in l2 (aN (tI (tJ (tI M28 a39 (l1).toNatClampNeg ((aI M28 a39 (l1).toNatClampNeg) - (1 : Int32))) a48 (l2).toNatClampNeg (aJ (tI M28 a39 (l1).toNatClampNeg ((aI M28 a39 (l1).toNatClampNeg) - (1 : Int32))) a48 ((((24 : Int32) * l1) + (aI (tI M28 a39 (l1).toNatClampNeg ((aI M28 a39 (l1).toNatClampNeg) - (1 : Int32))) a44 (l1).toNatClampNeg))).toNatClampNeg)) a53 (l2).toNatClampNeg (aI (tJ (tI M28 a39 (l1).toNatClampNeg ((aI M28 a39 (l1).toNatClampNeg) - (1 : Int32))) a48 (l2).toNatClampNeg (aJ (tI M28 a39 (l1).toNatClampNeg ((aI M28 a39 (l1).toNatClampNeg) - (1 : Int32))) a48 ((((24 : Int32) * l1) + (aI (tI M28 a39 (l1).toNatClampNeg ((aI M28 a39 (l1).toNatClampNeg) - (1 : Int32))) a44 (l1).toNatClampNeg))).toNatClampNeg)) a53 ((((24 : Int32) * l1) + (aI (tI M28 a39 (l1).toNatClampNeg ((aI M28 a39 (l1).toNatClampNeg) - (1 : Int32))) a44 (l1).toNatClampNeg))).toNatClampNeg)) a58) ∧ (wp_X11_pass 30 (tI (tI (tJ (tI M28 a39 (l1).toNatClampNeg ((aI M28 a39 (l1).toNatClampNeg) - (1 : Int32))) a48 (l2).toNatClampNeg (aJ (tI M28 a39 (l1).toNatClampNeg ((aI M28 a39 (l1).toNatClampNeg) - (1 : Int32))) a48 ((((24 : Int32) * l1) + (aI (tI M28 a39 (l1).toNatClampNeg ((aI M28 a39 (l1).toNatClampNeg) - (1 : Int32))) a44 (l1).toNatClampNeg))).toNatClampNeg)) a53 (l2).toNatClampNeg (aI (tJ (tI M28 a39 (l1).toNatClampNeg ((aI M28 a39 (l1).toNatClampNeg) - (1 : Int32))) a48 (l2).toNatClampNeg (aJ (tI M28 a39 (l1).toNatClampNeg ((aI M28 a39 (l1).toNatClampNeg) - (1 : Int32))) a48 ((((24 : Int32) * l1) + (aI (tI M28 a39 (l1).toNatClampNeg ((aI M28 a39 (l1).toNatClampNeg) - (1 : Int32))) a44 (l1).toNatClampNeg))).toNatClampNeg)) a53 ((((24 : Int32) * l1) + (aI (tI M28 a39 (l1).toNatClampNeg ((aI M28 a39 (l1).toNatClampNeg) - (1 : Int32))) a44 (l1).toNatClampNeg))).toNatClampNeg)) a58 (l2).toNatClampNeg (aI (tI (tJ (tI M28 a39 (l1).toNatClampNeg ((aI M28 a39 (l1).toNatClampNeg) - (1 : Int32))) a48 (l2).toNatClampNeg (aJ (tI M28 a39 (l1).toNatClampNeg ((aI M28 a39 (l1).toNatClampNeg) - (1 : Int32))) a48 ((((24 : Int32) * l1) + (aI (tI M28 a39 (l1).toNatClampNeg ((aI M28 a39 (l1).toNatClampNeg) - (1 : Int32))) a44 (l1).toNatClampNeg))).toNatClampNeg)) a53 (l2).toNatClampNeg (aI (tJ (tI M28 a39 (l1).toNatClampNeg ((aI M28 a39 (l1).toNatClampNeg) - (1 : Int32))) a48 (l2).toNatClampNeg (aJ (tI M28 a39 (l1).toNatClampNeg ((aI M28 a39 (l1).toNatClampNeg) - (1 : Int32))) a48 ((((24 : Int32) * l1) + (aI (tI M28 a39 (l1).toNatClampNeg ((aI M28 a39 (l1).toNatClampNeg) - (1 : Int32))) a44 (l1).toNatClampNeg))).toNatClampNeg)) a53 ((((24 : Int32) * l1) + (aI (tI M28 a39 (l1).toNatClampNeg ((aI M28 a39 (l1).toNatClampNeg) - (1 : Int32))) a44 (l1).toNatClampNeg))).toNatClampNeg)) a58 ((((24 : Int32) * l1) + (aI (tI M28 a39 (l1).toNatClampNeg ((aI M28 a39 (l1).toNatClampNeg) - (1 : Int32))) a44 (l1).toNatClampNeg))).toNatClampNeg)) h0 l1 r27 (aI M28 a31 (l2).toNatClampNeg) (aI M28 a35 (l2).toNatClampNeg) (fun M64 => (R0 l1 M64)))))) ∧ (¬ 0 ≤ l2 → (K M)))) ∧ (¬ (((24 : Int32) * l1) + (aI M a15 (l1).toNatClampNeg)) ≤ l3 → ∃ a66, (mR M 745 h0) = some a66 ∧ isA M a66 2 ∧ vp_in l3 (aN M a66) ∧ ∃ a70, (mR M 720 h0) = some a70 ∧ isA M a70 2 ∧ vp_in ((12 : Int32) + l1) (aN M a70) ∧ (wp_X11_plus M (aJ M a66 (l3).toNatClampNeg) ((aJ M a70 (((12 : Int32) + l1)).toNatClampNeg) - (1 : Int64)) (fun r74 M75 => mK M75 h0 = 12 ∧ ∃ a78, (mR M75 733 h0) = some a78 ∧ isA M75 a78 2 ∧ vp_in l1 (aN M75 a78) ∧ (((aJ M75 a78 (l1).toNatClampNeg) < r74 → (bk_X11_close_57 h0 R0 (lp_X11_close_7 h0 R0 K n) K l1 l2 l3 (0 : Int32) M75)) ∧ (¬ (aJ M75 a78 (l1).toNatClampNeg) < r74 → (bk_X11_close_57 h0 R0 (lp_X11_close_7 h0 R0 K n) K l1 l2 l3 (1 : Int32) M75)))))))
set_option maxRecDepth 100000 in
set_option maxHeartbeats 4000000 in
theorem zl_X11_close_7 {X : Cx} {h0 : Nat} {R0 : Int32 → Mm → Prop} {K : Mm → Prop} (hX : Ok X cX11_close RX11 rm_X11_close) (hQ : Rq X rm_X11_close none (QV K)) (hnL : X.2.2.2.2.2.2.2.2.2.2.2.2.2.2 = 8) (hR0 : ∀ l1 M, R0 l1 M → Z X M 0 0 0 [(0, va_rf (some h0)), (1, .int l1)] []) : ∀ (n : Nat) (l1 : Int32) (l2 : Int32) (l3 : Int32) (M : Mm), lp_X11_close_7 h0 R0 K n l1 l2 l3 M → Z X M 0 0 7 [(0, va_rf (some h0)), (1, .int l1), (2, .int l2), (3, .int l3)] [] := by
  intro n
  induction n with
  | zero =>
    intro l1 l2 l3 M h
    exact False.elim h
  | succ n hR7 =>
    intro l1 l2 l3 M h
    refine z_iload_n hX dX11_close_7 rfl 3 rfl ?_
    refine z_bipush (v := (24 : Int32)) hX dX11_close_8 (by decide) ?_
    refine z_iload_n hX dX11_close_10 rfl 1 rfl ?_
    refine z_imul hX dX11_close_11 ?_
    refine z_aload_n (r := (some h0)) hX dX11_close_12 rfl 0 rfl ?_
    obtain ⟨hk14, h⟩ := h
    refine gf_RX11_84 (r := (some h0)) hX dX11_close_13 rfl hk14 ?_
    refine z_iload_n hX dX11_close_16 rfl 1 rfl ?_
    obtain ⟨a15, ha16, h⟩ := h
    obtain ⟨hk17, h⟩ := h
    obtain ⟨hc18, h⟩ := h
    refine y_iald (r := (mR M 744 h0)) hX dX11_close_17 ha16 hk17 hc18 ?_
    refine z_iadd hX dX11_close_18 ?_
    obtain ⟨h1, h2⟩ := h
    refine z_icmp_ge (tgt := 123) hX dX11_close_19 (by decide) (fun hc => ?_) (fun hc => ?_)
    · have h := h1 hc
      refine z_iload_n hX dX11_close_123 rfl 2 rfl ?_
      obtain ⟨h1, h2⟩ := h
      refine z_if_ge (tgt := 128) hX dX11_close_124 (by decide) (fun hc => ?_) (fun hc => ?_)
      · have h := h1 hc
        refine z_aload_n (r := (some h0)) hX dX11_close_128 rfl 0 rfl ?_
        refine gf_RX11_87 (r := (some h0)) hX dX11_close_129 rfl hk14 ?_
        refine z_iload_n hX dX11_close_132 rfl 2 rfl ?_
        obtain ⟨a19, ha20, h⟩ := h
        obtain ⟨hk21, h⟩ := h
        obtain ⟨hc22, h⟩ := h
        refine y_lald (r := (mR M 745 h0)) hX dX11_close_133 ha20 hk21 hc22 ?_
        refine z_aload_n (r := (some h0)) hX dX11_close_134 rfl 0 rfl ?_
        refine gf_RX11_33 (r := (some h0)) hX dX11_close_135 rfl hk14 ?_
        refine z_bipush (v := (12 : Int32)) hX dX11_close_138 (by decide) ?_
        refine z_iload_n hX dX11_close_140 rfl 1 rfl ?_
        refine z_iadd hX dX11_close_141 ?_
        obtain ⟨a23, ha24, h⟩ := h
        obtain ⟨hk25, h⟩ := h
        obtain ⟨hc26, h⟩ := h
        refine y_lald (r := (mR M 720 h0)) hX dX11_close_142 ha24 hk25 hc26 ?_
        refine z_lconst (v := (1 : Int64)) hX dX11_close_143 (by decide) ?_
        refine z_lsub hX dX11_close_144 ?_
        refine z_callSJ (As := [.long (aJ M a19 (l2).toNatClampNeg), .long ((aJ M a23 (((12 : Int32) + l1)).toNatClampNeg) - (1 : Int64))]) (rest := []) hX (ct_X11_plus h) mw_RX11_311 rfl (by rfl) (by unfold RoomC; decide) (by decide) dX11_close_145 (fun r27 M28 h => ?_)
        refine z_lstore_n hX [(3, .long r27), (0, va_rf (some h0)), (1, .int l1), (2, .int l2)] dX11_close_148 rfl (by rw [hnL]; decide) rfl ?_
        refine z_aload_n (r := (some h0)) hX dX11_close_149 rfl 1 rfl ?_
        obtain ⟨hk30, h⟩ := h
        refine gf_RX11_90 (r := (some h0)) hX dX11_close_150 rfl hk30 ?_
        refine z_iload_n hX dX11_close_153 rfl 3 rfl ?_
        obtain ⟨a31, ha32, h⟩ := h
        obtain ⟨hk33, h⟩ := h
        obtain ⟨hc34, h⟩ := h
        refine y_iald (r := (mR M28 746 h0)) hX dX11_close_154 ha32 hk33 hc34 ?_
        refine z_istore hX [(5, .int (aI M28 a31 (l2).toNatClampNeg)), (3, .long r27), (0, va_rf (some h0)), (1, .int l1), (2, .int l2)] dX11_close_155 (by rw [hnL]; decide) rfl ?_
        refine z_aload_n (r := (some h0)) hX dX11_close_157 rfl 2 rfl ?_
        refine gf_RX11_93 (r := (some h0)) hX dX11_close_158 rfl hk30 ?_
        refine z_iload_n hX dX11_close_161 rfl 4 rfl ?_
        obtain ⟨a35, ha36, h⟩ := h
        obtain ⟨hk37, h⟩ := h
        obtain ⟨hc38, h⟩ := h
        refine y_iald (r := (mR M28 747 h0)) hX dX11_close_162 ha36 hk37 hc38 ?_
        refine z_istore hX [(6, .int (aI M28 a35 (l2).toNatClampNeg)), (5, .int (aI M28 a31 (l2).toNatClampNeg)), (3, .long r27), (0, va_rf (some h0)), (1, .int l1), (2, .int l2)] dX11_close_163 (by rw [hnL]; decide) rfl ?_
        refine z_aload_n (r := (some h0)) hX dX11_close_165 rfl 3 rfl ?_
        refine gf_RX11_84 (r := (some h0)) hX dX11_close_166 rfl hk30 ?_
        refine z_iload_n hX dX11_close_169 rfl 4 rfl ?_
        refine z_dup2_11 hX dX11_close_170 rfl (cat_rf _) ?_
        obtain ⟨a39, ha40, h⟩ := h
        obtain ⟨hk41, h⟩ := h
        obtain ⟨hc42, h⟩ := h
        refine y_iald (r := (mR M28 744 h0)) hX dX11_close_171 ha40 hk41 hc42 ?_
        refine z_iconst (v := (1 : Int32)) hX dX11_close_172 (by decide) ?_
        refine z_isub hX dX11_close_173 ?_
        obtain ⟨hc43, h⟩ := h
        refine y_iast (r := (mR M28 744 h0)) hX dX11_close_174 ha40 hk41 hc43 ?_
        refine z_bipush (v := (24 : Int32)) hX dX11_close_175 (by decide) ?_
        refine z_iload_n hX dX11_close_177 rfl 4 rfl ?_
        refine z_imul hX dX11_close_178 ?_
        refine z_aload_n (r := (some h0)) hX dX11_close_179 rfl 3 rfl ?_
        refine gf_RX11_84 (r := (some h0)) hX dX11_close_180 rfl hk30 ?_
        refine z_iload_n hX dX11_close_183 rfl 4 rfl ?_
        obtain ⟨a44, ha45, h⟩ := h
        obtain ⟨hk46, h⟩ := h
        obtain ⟨hc47, h⟩ := h
        refine y_iald (r := (mR (tI M28 a39 (l1).toNatClampNeg ((aI M28 a39 (l1).toNatClampNeg) - (1 : Int32))) 744 h0)) hX dX11_close_184 ha45 hk46 hc47 ?_
        refine z_iadd hX dX11_close_185 ?_
        refine z_istore hX [(7, .int (((24 : Int32) * l1) + (aI (tI M28 a39 (l1).toNatClampNeg ((aI M28 a39 (l1).toNatClampNeg) - (1 : Int32))) a44 (l1).toNatClampNeg))), (6, .int (aI M28 a35 (l2).toNatClampNeg)), (5, .int (aI M28 a31 (l2).toNatClampNeg)), (3, .long r27), (0, va_rf (some h0)), (1, .int l1), (2, .int l2)] dX11_close_186 (by rw [hnL]; decide) rfl ?_
        refine z_aload_n (r := (some h0)) hX dX11_close_188 rfl 4 rfl ?_
        refine gf_RX11_87 (r := (some h0)) hX dX11_close_189 rfl hk30 ?_
        refine z_iload_n hX dX11_close_192 rfl 6 rfl ?_
        refine z_aload_n (r := (some h0)) hX dX11_close_193 rfl 4 rfl ?_
        refine gf_RX11_87 (r := (some h0)) hX dX11_close_194 rfl hk30 ?_
        refine z_iload hX dX11_close_197 0 rfl ?_
        obtain ⟨a48, ha49, h⟩ := h
        obtain ⟨hk50, h⟩ := h
        obtain ⟨hc51, h⟩ := h
        refine y_lald (r := (mR (tI M28 a39 (l1).toNatClampNeg ((aI M28 a39 (l1).toNatClampNeg) - (1 : Int32))) 745 h0)) hX dX11_close_199 ha49 hk50 hc51 ?_
        obtain ⟨hc52, h⟩ := h
        refine y_last (r := (mR (tI M28 a39 (l1).toNatClampNeg ((aI M28 a39 (l1).toNatClampNeg) - (1 : Int32))) 745 h0)) hX dX11_close_200 ha49 hk50 hc52 ?_
        refine z_aload_n (r := (some h0)) hX dX11_close_201 rfl 4 rfl ?_
        refine gf_RX11_90 (r := (some h0)) hX dX11_close_202 rfl hk30 ?_
        refine z_iload_n hX dX11_close_205 rfl 6 rfl ?_
        refine z_aload_n (r := (some h0)) hX dX11_close_206 rfl 4 rfl ?_
        refine gf_RX11_90 (r := (some h0)) hX dX11_close_207 rfl hk30 ?_
        refine z_iload hX dX11_close_210 0 rfl ?_
        obtain ⟨a53, ha54, h⟩ := h
        obtain ⟨hk55, h⟩ := h
        obtain ⟨hc56, h⟩ := h
        refine y_iald (r := (mR (tJ (tI M28 a39 (l1).toNatClampNeg ((aI M28 a39 (l1).toNatClampNeg) - (1 : Int32))) a48 (l2).toNatClampNeg (aJ (tI M28 a39 (l1).toNatClampNeg ((aI M28 a39 (l1).toNatClampNeg) - (1 : Int32))) a48 ((((24 : Int32) * l1) + (aI (tI M28 a39 (l1).toNatClampNeg ((aI M28 a39 (l1).toNatClampNeg) - (1 : Int32))) a44 (l1).toNatClampNeg))).toNatClampNeg)) 746 h0)) hX dX11_close_212 ha54 hk55 hc56 ?_
        obtain ⟨hc57, h⟩ := h
        refine y_iast (r := (mR (tJ (tI M28 a39 (l1).toNatClampNeg ((aI M28 a39 (l1).toNatClampNeg) - (1 : Int32))) a48 (l2).toNatClampNeg (aJ (tI M28 a39 (l1).toNatClampNeg ((aI M28 a39 (l1).toNatClampNeg) - (1 : Int32))) a48 ((((24 : Int32) * l1) + (aI (tI M28 a39 (l1).toNatClampNeg ((aI M28 a39 (l1).toNatClampNeg) - (1 : Int32))) a44 (l1).toNatClampNeg))).toNatClampNeg)) 746 h0)) hX dX11_close_213 ha54 hk55 hc57 ?_
        refine z_aload_n (r := (some h0)) hX dX11_close_214 rfl 4 rfl ?_
        refine gf_RX11_93 (r := (some h0)) hX dX11_close_215 rfl hk30 ?_
        refine z_iload_n hX dX11_close_218 rfl 6 rfl ?_
        refine z_aload_n (r := (some h0)) hX dX11_close_219 rfl 4 rfl ?_
        refine gf_RX11_93 (r := (some h0)) hX dX11_close_220 rfl hk30 ?_
        refine z_iload hX dX11_close_223 0 rfl ?_
        obtain ⟨a58, ha59, h⟩ := h
        obtain ⟨hk60, h⟩ := h
        obtain ⟨hc61, h⟩ := h
        refine y_iald (r := (mR (tI (tJ (tI M28 a39 (l1).toNatClampNeg ((aI M28 a39 (l1).toNatClampNeg) - (1 : Int32))) a48 (l2).toNatClampNeg (aJ (tI M28 a39 (l1).toNatClampNeg ((aI M28 a39 (l1).toNatClampNeg) - (1 : Int32))) a48 ((((24 : Int32) * l1) + (aI (tI M28 a39 (l1).toNatClampNeg ((aI M28 a39 (l1).toNatClampNeg) - (1 : Int32))) a44 (l1).toNatClampNeg))).toNatClampNeg)) a53 (l2).toNatClampNeg (aI (tJ (tI M28 a39 (l1).toNatClampNeg ((aI M28 a39 (l1).toNatClampNeg) - (1 : Int32))) a48 (l2).toNatClampNeg (aJ (tI M28 a39 (l1).toNatClampNeg ((aI M28 a39 (l1).toNatClampNeg) - (1 : Int32))) a48 ((((24 : Int32) * l1) + (aI (tI M28 a39 (l1).toNatClampNeg ((aI M28 a39 (l1).toNatClampNeg) - (1 : Int32))) a44 (l1).toNatClampNeg))).toNatClampNeg)) a53 ((((24 : Int32) * l1) + (aI (tI M28 a39 (l1).toNatClampNeg ((aI M28 a39 (l1).toNatClampNeg) - (1 : Int32))) a44 (l1).toNatClampNeg))).toNatClampNeg)) 747 h0)) hX dX11_close_225 ha59 hk60 hc61 ?_
        obtain ⟨hc62, h⟩ := h
        refine y_iast (r := (mR (tI (tJ (tI M28 a39 (l1).toNatClampNeg ((aI M28 a39 (l1).toNatClampNeg) - (1 : Int32))) a48 (l2).toNatClampNeg (aJ (tI M28 a39 (l1).toNatClampNeg ((aI M28 a39 (l1).toNatClampNeg) - (1 : Int32))) a48 ((((24 : Int32) * l1) + (aI (tI M28 a39 (l1).toNatClampNeg ((aI M28 a39 (l1).toNatClampNeg) - (1 : Int32))) a44 (l1).toNatClampNeg))).toNatClampNeg)) a53 (l2).toNatClampNeg (aI (tJ (tI M28 a39 (l1).toNatClampNeg ((aI M28 a39 (l1).toNatClampNeg) - (1 : Int32))) a48 (l2).toNatClampNeg (aJ (tI M28 a39 (l1).toNatClampNeg ((aI M28 a39 (l1).toNatClampNeg) - (1 : Int32))) a48 ((((24 : Int32) * l1) + (aI (tI M28 a39 (l1).toNatClampNeg ((aI M28 a39 (l1).toNatClampNeg) - (1 : Int32))) a44 (l1).toNatClampNeg))).toNatClampNeg)) a53 ((((24 : Int32) * l1) + (aI (tI M28 a39 (l1).toNatClampNeg ((aI M28 a39 (l1).toNatClampNeg) - (1 : Int32))) a44 (l1).toNatClampNeg))).toNatClampNeg)) 747 h0)) hX dX11_close_226 ha59 hk60 hc62 ?_
        refine z_aload_n (r := (some h0)) hX dX11_close_227 rfl 4 rfl ?_
        refine z_iload_n hX dX11_close_228 rfl 5 rfl ?_
        refine z_lload_n hX dX11_close_229 rfl 3 rfl ?_
        refine z_iload hX dX11_close_230 2 rfl ?_
        refine z_iload hX dX11_close_232 1 rfl ?_
        refine z_callVV (As := [.int l1, .long r27, .int (aI M28 a31 (l2).toNatClampNeg), .int (aI M28 a35 (l2).toNatClampNeg)]) (rest := []) (ci := 11) hX (ct_X11_pass 30 h) mw_RX11_328 rfl (by decide) rfl (by rfl) (by unfold RoomC; decide) (by decide) dX11_close_234 hk30 (fun M64 h => ?_)
        refine z_goto (tgt := 0) hX dX11_close_237 (by decide) ?_
        refine z_loc [4, 5] rfl ?_
        exact hR0 _ _ h
      · have h := h2 hc
        exact z_vret hX hQ dX11_close_127 h
    · have h := h2 hc
      refine z_aload_n (r := (some h0)) hX dX11_close_22 rfl 0 rfl ?_
      refine gf_RX11_87 (r := (some h0)) hX dX11_close_23 rfl hk14 ?_
      refine z_iload_n hX dX11_close_26 rfl 3 rfl ?_
      obtain ⟨a66, ha67, h⟩ := h
      obtain ⟨hk68, h⟩ := h
      obtain ⟨hc69, h⟩ := h
      refine y_lald (r := (mR M 745 h0)) hX dX11_close_27 ha67 hk68 hc69 ?_
      refine z_aload_n (r := (some h0)) hX dX11_close_28 rfl 0 rfl ?_
      refine gf_RX11_33 (r := (some h0)) hX dX11_close_29 rfl hk14 ?_
      refine z_bipush (v := (12 : Int32)) hX dX11_close_32 (by decide) ?_
      refine z_iload_n hX dX11_close_34 rfl 1 rfl ?_
      refine z_iadd hX dX11_close_35 ?_
      obtain ⟨a70, ha71, h⟩ := h
      obtain ⟨hk72, h⟩ := h
      obtain ⟨hc73, h⟩ := h
      refine y_lald (r := (mR M 720 h0)) hX dX11_close_36 ha71 hk72 hc73 ?_
      refine z_lconst (v := (1 : Int64)) hX dX11_close_37 (by decide) ?_
      refine z_lsub hX dX11_close_38 ?_
      refine z_callSJ (As := [.long (aJ M a66 (l3).toNatClampNeg), .long ((aJ M a70 (((12 : Int32) + l1)).toNatClampNeg) - (1 : Int64))]) (rest := []) hX (ct_X11_plus h) mw_RX11_311 rfl (by rfl) (by unfold RoomC; decide) (by decide) dX11_close_39 (fun r74 M75 h => ?_)
      refine z_aload_n (r := (some h0)) hX dX11_close_42 rfl 0 rfl ?_
      obtain ⟨hk77, h⟩ := h
      refine gf_RX11_63 (r := (some h0)) hX dX11_close_43 rfl hk77 ?_
      refine z_iload_n hX dX11_close_46 rfl 1 rfl ?_
      obtain ⟨a78, ha79, h⟩ := h
      obtain ⟨hk80, h⟩ := h
      obtain ⟨hc81, h⟩ := h
      refine y_lald (r := (mR M75 733 h0)) hX dX11_close_47 ha79 hk80 hc81 ?_
      refine z_lcmp hX dX11_close_48 ?_
      obtain ⟨h1, h2⟩ := h
      refine z_if_gt (tgt := 56) hX dX11_close_49 (by decide) (fun hc => ?_) (fun hc => ?_)
      · have h := h1 ((lg_cmp_gt _ _).mp hc)
        refine z_iconst (v := (0 : Int32)) hX dX11_close_56 (by decide) ?_
        exact zb_X11_close_57 hX hQ hnL hR0 hR7 h
      · have h := h2 (fun q => hc ((lg_cmp_gt _ _).mpr q))
        refine z_iconst (v := (1 : Int32)) hX dX11_close_52 (by decide) ?_
        refine z_goto (tgt := 57) hX dX11_close_53 (by decide) ?_
        exact zb_X11_close_57 hX hQ hnL hR0 hR7 h
def lp_X11_close_0 (h0 : Nat) (K : Mm → Prop) : Nat → Int32 → Mm → Prop
  | 0, _, _ => False
  | n + 1, l1, M => (∃ kk, lp_X11_close_7 h0 (lp_X11_close_0 h0 K n) K kk l1 (-1 : Int32) ((24 : Int32) * l1) M)
set_option maxRecDepth 100000 in
set_option maxHeartbeats 4000000 in
theorem zl_X11_close_0 {X : Cx} {h0 : Nat} {K : Mm → Prop} (hX : Ok X cX11_close RX11 rm_X11_close) (hQ : Rq X rm_X11_close none (QV K)) (hnL : X.2.2.2.2.2.2.2.2.2.2.2.2.2.2 = 8) : ∀ (n : Nat) (l1 : Int32) (M : Mm), lp_X11_close_0 h0 K n l1 M → Z X M 0 0 0 [(0, va_rf (some h0)), (1, .int l1)] [] := by
  intro n
  induction n with
  | zero =>
    intro l1 M h
    exact False.elim h
  | succ n hR0 =>
    intro l1 M h
    refine z_iconst (v := (-1 : Int32)) hX dX11_close_0 (by decide) ?_
    refine z_istore_n hX [(2, .int (-1 : Int32)), (0, va_rf (some h0)), (1, .int l1)] dX11_close_1 rfl (by rw [hnL]; decide) rfl ?_
    refine z_bipush (v := (24 : Int32)) hX dX11_close_2 (by decide) ?_
    refine z_iload_n hX dX11_close_4 rfl 2 rfl ?_
    refine z_imul hX dX11_close_5 ?_
    refine z_istore_n hX [(3, .int ((24 : Int32) * l1)), (2, .int (-1 : Int32)), (0, va_rf (some h0)), (1, .int l1)] dX11_close_6 rfl (by rw [hnL]; decide) rfl ?_
    refine z_loc [2, 3, 1, 0] rfl ?_
    obtain ⟨n, h⟩ := h
    exact zl_X11_close_7 hX hQ hnL hR0 n _ _ _ _ h
def wp_X11_close (M : Mm) (h0 : Nat) (p1 : Int32) (K : Mm → Prop) : Prop := (∃ kk, lp_X11_close_0 h0 K kk p1 M)
set_option maxRecDepth 100000 in
set_option maxHeartbeats 4000000 in
theorem ct_X11_close {M : Mm} {h0 : Nat} {p1 : Int32} {K : Mm → Prop} (h : wp_X11_close M h0 p1 K) : CtV yX11_close cX11_close 8 none rm_X11_close [.ref h0, .int p1] M K := by
  refine ct_any (QV K) (by decide) (by exact Nat.le_of_ble_eq_true rfl) (fun X hX hQ hnL hnm => ?_)
  rw [show lv_args 0 [.ref h0, .int p1] = [(0, va_rf (some h0)), (1, .int p1)] by rfl]
  have hX : Ok X cX11_close RX11 rm_X11_close := hX
  unfold wp_X11_close at h
  obtain ⟨n, h⟩ := h
  exact zl_X11_close_0 hX hQ hnL n _ _ h
def rm_X1_passOn (d : Nat) : Room := { frames := 10 * d + 8, cells := 0, slots := 0, locals := 400 * d + 181 }
def rm_X1_comeToJoin (d : Nat) : Room := { frames := 10 * d + 8 + 3, cells := 0, slots := 0, locals := 400 * d + 181 + 150 }
def bk_X1_comeToJoin_121 (P : Mm → Nat → Option Nat → Int64 → Int32 → Int32 → Int32 → (Mm → Prop) → Prop) (h0 : Nat) (K : Mm → Prop) (M : Mm) : Prop := (K M)
set_option maxRecDepth 100000 in
set_option maxHeartbeats 4000000 in
theorem zb_X1_comeToJoin_121 {X : Cx} {d : Nat} {P : Mm → Nat → Option Nat → Int64 → Int32 → Int32 → Int32 → (Mm → Prop) → Prop} {h0 : Nat} {K : Mm → Prop} (hP : ∀ {M : Mm} {h0 : Nat} {x1 : Option Nat} {x2 : Int64} {x3 : Int32} {x4 : Int32} {x5 : Int32} {K : Mm → Prop}, P M h0 x1 x2 x3 x4 x5 K → CtV yX1_passOn cX1_passOn 10 none (rm_X1_passOn d) [.ref h0, va_rf x1, .long x2, .int x3, .int x4, .int x5] M K) (hX : Ok X cX1_comeToJoin RX1 (rm_X1_comeToJoin d)) (hQ : Rq X (rm_X1_comeToJoin d) none (QV K)) (hnL : X.2.2.2.2.2.2.2.2.2.2.2.2.2.2 = 13) {M : Mm} (h : bk_X1_comeToJoin_121 P h0 K M) : Z X M 0 0 121 [] [] := by
  unfold bk_X1_comeToJoin_121 at h
  exact z_vret hX hQ dX1_comeToJoin_121 h
def bk_X1_comeToJoin_85 (P : Mm → Nat → Option Nat → Int64 → Int32 → Int32 → Int32 → (Mm → Prop) → Prop) (h0 : Nat) (R14 : Option Nat → Int32 → Int64 → Int32 → Int32 → Int32 → Option Nat → Int32 → Int32 → Mm → Prop) (K : Mm → Prop) (l1 : Option Nat) (l2 : Int32) (l3 : Int64) (l5 : Int32) (l6 : Int32) (l7 : Int32) (l8 : Option Nat) (l9 : Int32) (l10 : Int32) (M : Mm) : Prop := (R14 l1 l2 l3 l5 l6 l7 l8 l9 (l10 + 1) M)
set_option maxRecDepth 100000 in
set_option maxHeartbeats 4000000 in
theorem zb_X1_comeToJoin_85 {X : Cx} {d : Nat} {P : Mm → Nat → Option Nat → Int64 → Int32 → Int32 → Int32 → (Mm → Prop) → Prop} {h0 : Nat} {R14 : Option Nat → Int32 → Int64 → Int32 → Int32 → Int32 → Option Nat → Int32 → Int32 → Mm → Prop} {K : Mm → Prop} (hP : ∀ {M : Mm} {h0 : Nat} {x1 : Option Nat} {x2 : Int64} {x3 : Int32} {x4 : Int32} {x5 : Int32} {K : Mm → Prop}, P M h0 x1 x2 x3 x4 x5 K → CtV yX1_passOn cX1_passOn 10 none (rm_X1_passOn d) [.ref h0, va_rf x1, .long x2, .int x3, .int x4, .int x5] M K) (hX : Ok X cX1_comeToJoin RX1 (rm_X1_comeToJoin d)) (hQ : Rq X (rm_X1_comeToJoin d) none (QV K)) (hnL : X.2.2.2.2.2.2.2.2.2.2.2.2.2.2 = 13) (hR14 : ∀ l1 l2 l3 l5 l6 l7 l8 l9 l10 M, R14 l1 l2 l3 l5 l6 l7 l8 l9 l10 M → Z X M 0 0 14 [(0, va_rf (some h0)), (1, va_rf l1), (2, .int l2), (3, .long l3), (5, .int l5), (6, .int l6), (7, .int l7), (8, va_rf l8), (9, .int l9), (10, .int l10)] []) {l1 : Option Nat} {l2 : Int32} {l3 : Int64} {l5 : Int32} {l6 : Int32} {l7 : Int32} {l8 : Option Nat} {l9 : Int32} {l10 : Int32} {M : Mm} (h : bk_X1_comeToJoin_85 P h0 R14 K l1 l2 l3 l5 l6 l7 l8 l9 l10 M) : Z X M 0 0 85 [(0, va_rf (some h0)), (1, va_rf l1), (2, .int l2), (3, .long l3), (5, .int l5), (6, .int l6), (7, .int l7), (8, va_rf l8), (9, .int l9), (10, .int l10)] [] := by
  unfold bk_X1_comeToJoin_85 at h
  refine z_iinc (v := (l10 + 1)) hX [(10, .int (l10 + 1)), (0, va_rf (some h0)), (1, va_rf l1), (2, .int l2), (3, .long l3), (5, .int l5), (6, .int l6), (7, .int l7), (8, va_rf l8), (9, .int l9)] dX1_comeToJoin_85 9 rfl rfl (by rw [hnL]; decide) rfl ?_
  refine z_goto (tgt := 14) hX dX1_comeToJoin_88 (by decide) ?_
  refine z_loc [1, 2, 3, 4, 5, 6, 7, 8, 9, 0] rfl ?_
  exact hR14 _ _ _ _ _ _ _ _ _ _ h
def lp_X1_comeToJoin_14 (P : Mm → Nat → Option Nat → Int64 → Int32 → Int32 → Int32 → (Mm → Prop) → Prop) (h0 : Nat) (K : Mm → Prop) : Nat → Option Nat → Int32 → Int64 → Int32 → Int32 → Int32 → Option Nat → Int32 → Int32 → Mm → Prop
  | 0, _, _, _, _, _, _, _, _, _, _ => False
  | n + 1, l1, l2, l3, l5, l6, l7, l8, l9, l10, M => ∃ a1, l8 = some a1 ∧ mK M a1 = 3 ∧ ∃ a4, (mR M 132 a1) = some a4 ∧ isA M a4 1 ∧ vp_in l9 (aN M a4) ∧ (((aI M a4 (l9).toNatClampNeg) ≤ l10 → (wp_X2_isFar M a1 l2 l3 (fun r8 M9 => ((¬ r8 = 0 → (bk_X1_comeToJoin_121 P h0 K M9)) ∧ (r8 = 0 → mK M9 h0 = 2 ∧ mK M9 a1 = 3 ∧ (wp_X2_keep M9 a1 l2 l3 l5 l6 (fun r12 M13 => mK M13 h0 = 2 ∧ (bk_X1_comeToJoin_121 P h0 K (sI M13 71 h0 ((mI M9 71 h0) + r12)))))))))) ∧ (¬ (aI M a4 (l9).toNatClampNeg) ≤ l10 → (wp_X2_meets M a1 l2 l3 l5 l10 (fun r18 M19 => ((r18 = 0 → (bk_X1_comeToJoin_85 P h0 (lp_X1_comeToJoin_14 P h0 K n) K l1 l2 l3 l5 l6 l7 l8 l9 l10 M19)) ∧ (¬ r18 = 0 → mK M19 a1 = 3 ∧ ∃ a22, (mR M19 133 a1) = some a22 ∧ isA M19 a22 6 ∧ vp_in l9 (aN M19 a22) ∧ ∃ a26, (aR M19 a22 (l9).toNatClampNeg) = some a26 ∧ isA M19 a26 2 ∧ vp_in l10 (aN M19 a26) ∧ ∃ a30, (mR M19 135 a1) = some a30 ∧ isA M19 a30 5 ∧ vp_in l9 (aN M19 a30) ∧ ∃ a34, (aR M19 a30 (l9).toNatClampNeg) = some a34 ∧ isA M19 a34 1 ∧ vp_in l10 (aN M19 a34) ∧ mK M19 h0 = 2 ∧ (P M19 h0 l1 (if (aJ M19 a26 (l10).toNatClampNeg) < l3 then l3 else (aJ M19 a26 (l10).toNatClampNeg)) l5 (l6 * (aI M19 a34 (l10).toNatClampNeg)) (l7 + (1 : Int32)) (fun M39 => (bk_X1_comeToJoin_85 P h0 (lp_X1_comeToJoin_14 P h0 K n) K l1 l2 l3 l5 l6 l7 l8 l9 l10 M39)))))))))
set_option maxRecDepth 100000 in
set_option maxHeartbeats 4000000 in
theorem zl_X1_comeToJoin_14 {X : Cx} {d : Nat} {P : Mm → Nat → Option Nat → Int64 → Int32 → Int32 → Int32 → (Mm → Prop) → Prop} {h0 : Nat} {K : Mm → Prop} (hP : ∀ {M : Mm} {h0 : Nat} {x1 : Option Nat} {x2 : Int64} {x3 : Int32} {x4 : Int32} {x5 : Int32} {K : Mm → Prop}, P M h0 x1 x2 x3 x4 x5 K → CtV yX1_passOn cX1_passOn 10 none (rm_X1_passOn d) [.ref h0, va_rf x1, .long x2, .int x3, .int x4, .int x5] M K) (hX : Ok X cX1_comeToJoin RX1 (rm_X1_comeToJoin d)) (hQ : Rq X (rm_X1_comeToJoin d) none (QV K)) (hnL : X.2.2.2.2.2.2.2.2.2.2.2.2.2.2 = 13) : ∀ (n : Nat) (l1 : Option Nat) (l2 : Int32) (l3 : Int64) (l5 : Int32) (l6 : Int32) (l7 : Int32) (l8 : Option Nat) (l9 : Int32) (l10 : Int32) (M : Mm), lp_X1_comeToJoin_14 P h0 K n l1 l2 l3 l5 l6 l7 l8 l9 l10 M → Z X M 0 0 14 [(0, va_rf (some h0)), (1, va_rf l1), (2, .int l2), (3, .long l3), (5, .int l5), (6, .int l6), (7, .int l7), (8, va_rf l8), (9, .int l9), (10, .int l10)] [] := by
  intro n
  induction n with
  | zero =>
    intro l1 l2 l3 l5 l6 l7 l8 l9 l10 M h
    exact False.elim h
  | succ n hR14 =>
    intro l1 l2 l3 l5 l6 l7 l8 l9 l10 M h
    refine z_iload hX dX1_comeToJoin_14 9 rfl ?_
    refine z_aload (r := l8) hX dX1_comeToJoin_16 7 rfl ?_
    obtain ⟨a1, ha2, h⟩ := h
    obtain ⟨hk3, h⟩ := h
    refine gf_RX1_166 (r := l8) hX dX1_comeToJoin_18 ha2 hk3 ?_
    refine z_iload hX dX1_comeToJoin_21 8 rfl ?_
    obtain ⟨a4, ha5, h⟩ := h
    obtain ⟨hk6, h⟩ := h
    obtain ⟨hc7, h⟩ := h
    refine y_iald (r := (mR M 132 a1)) hX dX1_comeToJoin_23 ha5 hk6 hc7 ?_
    obtain ⟨h1, h2⟩ := h
    refine z_icmp_ge (tgt := 91) hX dX1_comeToJoin_24 (by decide) (fun hc => ?_) (fun hc => ?_)
    · have h := h1 hc
      refine z_aload (r := l8) hX dX1_comeToJoin_91 7 rfl ?_
      refine z_iload_n hX dX1_comeToJoin_93 rfl 2 rfl ?_
      refine z_lload_n hX dX1_comeToJoin_94 rfl 3 rfl ?_
      refine z_callVI (As := [.int l2, .long l3]) (rest := []) (ci := 2) hX (ct_X2_isFar h) mw_RX1_185 rfl (by decide) rfl (by rw [ha2]; rfl) (by simp only [RoomC, rm_X1_comeToJoin, rm_X1_passOn, rm_X2_isFar, rm_X2_keep, rm_X2_meets]; omega) (by decide) dX1_comeToJoin_95 hk3 (fun r8 M9 h => ?_)
      obtain ⟨h1, h2⟩ := h
      refine z_if_ne (tgt := 121) hX dX1_comeToJoin_98 (by decide) (fun hc => ?_) (fun hc => ?_)
      · have h := h1 hc
        refine z_loc [] rfl ?_
        exact zb_X1_comeToJoin_121 hP hX hQ hnL h
      · have h := h2 hc
        refine z_aload_n (r := (some h0)) hX dX1_comeToJoin_101 rfl 0 rfl ?_
        refine z_dup hX dX1_comeToJoin_102 (cat_rf _) ?_
        obtain ⟨hk11, h⟩ := h
        refine gf_RX1_146 (r := (some h0)) hX dX1_comeToJoin_103 rfl hk11 ?_
        refine z_aload (r := l8) hX dX1_comeToJoin_106 7 rfl ?_
        refine z_iload_n hX dX1_comeToJoin_108 rfl 2 rfl ?_
        refine z_lload_n hX dX1_comeToJoin_109 rfl 3 rfl ?_
        refine z_iload hX dX1_comeToJoin_110 4 rfl ?_
        refine z_iload hX dX1_comeToJoin_112 5 rfl ?_
        obtain ⟨hk14, h⟩ := h
        refine z_callVI (As := [.int l2, .long l3, .int l5, .int l6]) (rest := [.int (mI M9 71 h0), va_rf (some h0)]) (ci := 2) hX (ct_X2_keep h) mw_RX1_188 rfl (by decide) rfl (by rw [ha2]; rfl) (by simp only [RoomC, rm_X1_comeToJoin, rm_X1_passOn, rm_X2_isFar, rm_X2_keep, rm_X2_meets]; omega) (by simp only [List.map_cons, List.map_nil, List.sum_cons, List.sum_nil, cat_rf, cat_i, cat_j]; decide) dX1_comeToJoin_114 hk14 (fun r12 M13 h => ?_)
        refine z_iadd hX dX1_comeToJoin_117 ?_
        obtain ⟨hk16, h⟩ := h
        refine pf_RX1_146 (r := (some h0)) (v := ((mI M9 71 h0) + r12)) hX dX1_comeToJoin_118 rfl hk16 ?_
        refine z_loc [] rfl ?_
        exact zb_X1_comeToJoin_121 hP hX hQ hnL h
    · have h := h2 hc
      refine z_aload (r := l8) hX dX1_comeToJoin_27 7 rfl ?_
      refine z_iload_n hX dX1_comeToJoin_29 rfl 2 rfl ?_
      refine z_lload_n hX dX1_comeToJoin_30 rfl 3 rfl ?_
      refine z_iload hX dX1_comeToJoin_31 4 rfl ?_
      refine z_iload hX dX1_comeToJoin_33 9 rfl ?_
      refine z_callVI (As := [.int l2, .long l3, .int l5, .int l10]) (rest := []) (ci := 2) hX (ct_X2_meets h) mw_RX1_171 rfl (by decide) rfl (by rw [ha2]; rfl) (by simp only [RoomC, rm_X1_comeToJoin, rm_X1_passOn, rm_X2_isFar, rm_X2_keep, rm_X2_meets]; omega) (by decide) dX1_comeToJoin_35 hk3 (fun r18 M19 h => ?_)
      obtain ⟨h1, h2⟩ := h
      refine z_if_eq (tgt := 85) hX dX1_comeToJoin_38 (by decide) (fun hc => ?_) (fun hc => ?_)
      · have h := h1 hc
        exact zb_X1_comeToJoin_85 hP hX hQ hnL hR14 h
      · have h := h2 hc
        refine z_lload_n hX dX1_comeToJoin_41 rfl 3 rfl ?_
        refine z_aload (r := l8) hX dX1_comeToJoin_42 7 rfl ?_
        obtain ⟨hk21, h⟩ := h
        refine gf_RX1_175 (r := l8) hX dX1_comeToJoin_44 ha2 hk21 ?_
        refine z_iload hX dX1_comeToJoin_47 8 rfl ?_
        obtain ⟨a22, ha23, h⟩ := h
        obtain ⟨hk24, h⟩ := h
        obtain ⟨hc25, h⟩ := h
        refine y_ald2 (r := (mR M19 133 a1)) hX dX1_comeToJoin_49 ha23 hk24 (Or.inr rfl) hc25 ?_
        refine z_iload hX dX1_comeToJoin_50 9 rfl ?_
        obtain ⟨a26, ha27, h⟩ := h
        obtain ⟨hk28, h⟩ := h
        obtain ⟨hc29, h⟩ := h
        refine y_lald (r := (aR M19 a22 (l9).toNatClampNeg)) hX dX1_comeToJoin_52 ha27 hk28 hc29 ?_
        refine mw_RX1_178 hX dX1_comeToJoin_53 (by simp only [rm_X1_comeToJoin, rm_X1_passOn, rm_X2_isFar, rm_X2_keep, rm_X2_meets]; omega) (by simp only [rm_X1_comeToJoin, rm_X1_passOn, rm_X2_isFar, rm_X2_keep, rm_X2_meets, List.map_cons, List.map_nil, List.sum_cons, List.sum_nil, cat_rf, cat_i, cat_j]; omega) (by simp only [rm_X1_comeToJoin, rm_X1_passOn, rm_X2_isFar, rm_X2_keep, rm_X2_meets]; omega) (by simp only [rm_X1_comeToJoin, rm_X1_passOn, rm_X2_isFar, rm_X2_keep, rm_X2_meets]; omega) ?_
        refine z_lstore hX [(11, .long (if (aJ M19 a26 (l10).toNatClampNeg) < l3 then l3 else (aJ M19 a26 (l10).toNatClampNeg))), (0, va_rf (some h0)), (1, va_rf l1), (2, .int l2), (3, .long l3), (5, .int l5), (6, .int l6), (7, .int l7), (8, va_rf l8), (9, .int l9), (10, .int l10)] dX1_comeToJoin_56 (by rw [hnL]; decide) rfl ?_
        refine z_aload_n (r := (some h0)) hX dX1_comeToJoin_58 rfl 1 rfl ?_
        refine z_aload_n (r := l1) hX dX1_comeToJoin_59 rfl 2 rfl ?_
        refine z_lload hX dX1_comeToJoin_60 0 rfl ?_
        refine z_iload hX dX1_comeToJoin_62 5 rfl ?_
        refine z_iload hX dX1_comeToJoin_64 6 rfl ?_
        refine z_aload (r := l8) hX dX1_comeToJoin_66 8 rfl ?_
        refine gf_RX1_181 (r := l8) hX dX1_comeToJoin_68 ha2 hk21 ?_
        refine z_iload hX dX1_comeToJoin_71 9 rfl ?_
        obtain ⟨a30, ha31, h⟩ := h
        obtain ⟨hk32, h⟩ := h
        obtain ⟨hc33, h⟩ := h
        refine y_ald2 (r := (mR M19 135 a1)) hX dX1_comeToJoin_73 ha31 hk32 (Or.inl rfl) hc33 ?_
        refine z_iload hX dX1_comeToJoin_74 10 rfl ?_
        obtain ⟨a34, ha35, h⟩ := h
        obtain ⟨hk36, h⟩ := h
        obtain ⟨hc37, h⟩ := h
        refine y_iald (r := (aR M19 a30 (l9).toNatClampNeg)) hX dX1_comeToJoin_76 ha35 hk36 hc37 ?_
        refine z_imul hX dX1_comeToJoin_77 ?_
        refine z_iload hX dX1_comeToJoin_78 7 rfl ?_
        refine z_iconst (v := (1 : Int32)) hX dX1_comeToJoin_80 (by decide) ?_
        refine z_iadd hX dX1_comeToJoin_81 ?_
        obtain ⟨hk40, h⟩ := h
        refine z_callVV (As := [va_rf l1, .long (if (aJ M19 a26 (l10).toNatClampNeg) < l3 then l3 else (aJ M19 a26 (l10).toNatClampNeg)), .int l5, .int (l6 * (aI M19 a34 (l10).toNatClampNeg)), .int (l7 + (1 : Int32))]) (rest := []) (ci := 1) hX (hP h) mw_RX1_110 rfl (by decide) rfl (by rfl) (by simp only [RoomC, rm_X1_comeToJoin, rm_X1_passOn, rm_X2_isFar, rm_X2_keep, rm_X2_meets]; omega) (by decide) dX1_comeToJoin_82 hk40 (fun M39 h => ?_)
        refine z_loc [1, 2, 3, 4, 5, 6, 7, 8, 9, 10] rfl ?_
        exact zb_X1_comeToJoin_85 hP hX hQ hnL hR14 h
def wp_X1_comeToJoin (P : Mm → Nat → Option Nat → Int64 → Int32 → Int32 → Int32 → (Mm → Prop) → Prop) (M : Mm) (h0 : Nat) (p1 : Option Nat) (p2 : Int32) (p3 : Int64) (p4 : Int32) (p5 : Int32) (p6 : Int32) (K : Mm → Prop) : Prop := ∃ a42, p1 = some a42 ∧ mK M a42 = 7 ∧ (∃ kk, lp_X1_comeToJoin_14 P h0 K kk p1 p2 p3 p4 p5 p6 (mR M 394 a42) ((1 : Int32) - p2) (0 : Int32) M)
set_option maxRecDepth 100000 in
set_option maxHeartbeats 4000000 in
theorem ct_X1_comeToJoin {d : Nat} {P : Mm → Nat → Option Nat → Int64 → Int32 → Int32 → Int32 → (Mm → Prop) → Prop} (hP : ∀ {M : Mm} {h0 : Nat} {x1 : Option Nat} {x2 : Int64} {x3 : Int32} {x4 : Int32} {x5 : Int32} {K : Mm → Prop}, P M h0 x1 x2 x3 x4 x5 K → CtV yX1_passOn cX1_passOn 10 none (rm_X1_passOn d) [.ref h0, va_rf x1, .long x2, .int x3, .int x4, .int x5] M K) {M : Mm} {h0 : Nat} {p1 : Option Nat} {p2 : Int32} {p3 : Int64} {p4 : Int32} {p5 : Int32} {p6 : Int32} {K : Mm → Prop} (h : wp_X1_comeToJoin P M h0 p1 p2 p3 p4 p5 p6 K) : CtV yX1_comeToJoin cX1_comeToJoin 13 none (rm_X1_comeToJoin d) [.ref h0, va_rf p1, .int p2, .long p3, .int p4, .int p5, .int p6] M K := by
  refine ct_any (QV K) (by decide) (by cases p1 <;> exact Nat.le_of_ble_eq_true rfl) (fun X hX hQ hnL hnm => ?_)
  rw [show lv_args 0 [.ref h0, va_rf p1, .int p2, .long p3, .int p4, .int p5, .int p6] = [(0, va_rf (some h0)), (1, va_rf p1), (2, .int p2), (3, .long p3), (5, .int p4), (6, .int p5), (7, .int p6)] by cases p1 <;> rfl]
  have hX : Ok X cX1_comeToJoin RX1 (rm_X1_comeToJoin d) := hX
  unfold wp_X1_comeToJoin at h
  refine z_aload_n (r := p1) hX dX1_comeToJoin_0 rfl 1 rfl ?_
  obtain ⟨a42, ha43, h⟩ := h
  obtain ⟨hk44, h⟩ := h
  refine gf_RX1_155 (r := p1) hX dX1_comeToJoin_1 ha43 hk44 ?_
  refine z_astore (r := (mR M 394 a42)) hX [(8, va_rf (mR M 394 a42)), (0, va_rf (some h0)), (1, va_rf p1), (2, .int p2), (3, .long p3), (5, .int p4), (6, .int p5), (7, .int p6)] dX1_comeToJoin_4 (by rw [hnL]; decide) rfl ?_
  refine z_iconst (v := (1 : Int32)) hX dX1_comeToJoin_6 (by decide) ?_
  refine z_iload_n hX dX1_comeToJoin_7 rfl 3 rfl ?_
  refine z_isub hX dX1_comeToJoin_8 ?_
  refine z_istore (i := 9) hX [(9, .int ((1 : Int32) - p2)), (8, va_rf (mR M 394 a42)), (0, va_rf (some h0)), (1, va_rf p1), (2, .int p2), (3, .long p3), (5, .int p4), (6, .int p5), (7, .int p6)] dX1_comeToJoin_9 (by rw [hnL]; decide) (by simp [cat_rf]) ?_
  refine z_iconst (v := (0 : Int32)) hX dX1_comeToJoin_11 (by decide) ?_
  refine z_istore hX [(10, .int (0 : Int32)), (9, .int ((1 : Int32) - p2)), (8, va_rf (mR M 394 a42)), (0, va_rf (some h0)), (1, va_rf p1), (2, .int p2), (3, .long p3), (5, .int p4), (6, .int p5), (7, .int p6)] dX1_comeToJoin_12 (by rw [hnL]; decide) rfl ?_
  refine z_loc [3, 4, 5, 6, 7, 8, 9, 2, 1, 0] rfl ?_
  obtain ⟨n, h⟩ := h
  exact zl_X1_comeToJoin_14 hP hX hQ hnL n _ _ _ _ _ _ _ _ _ _ h
def rm_X7_readBeginning : Room := { frames := 4, cells := 2, slots := 16, locals := 86 }
def bk_X7_readBeginning_61 (h0 : Nat) (K : Option Nat → Mm → Prop) (M : Mm) : Prop := mK M h0 = 8 ∧ (wp_X7_refuse M h0 (6 : Int32) (fun r1 M2 => (K none M2)))
set_option maxRecDepth 100000 in
set_option maxHeartbeats 4000000 in
theorem zb_X7_readBeginning_61 {X : Cx} {h0 : Nat} {K : Option Nat → Mm → Prop} (hX : Ok X cX7_readBeginning RX7 rm_X7_readBeginning) (hQ : Rq X rm_X7_readBeginning (some (.object "WatermarkJoin$Stream")) (QR K)) (hnL : X.2.2.2.2.2.2.2.2.2.2.2.2.2.2 = 4) {M : Mm} (h : bk_X7_readBeginning_61 h0 K M) : Z X M 0 0 61 [(0, va_rf (some h0))] [] := by
  unfold bk_X7_readBeginning_61 at h
  refine z_aload_n (r := (some h0)) hX dX7_readBeginning_61 rfl 0 rfl ?_
  refine z_bipush (v := (6 : Int32)) hX dX7_readBeginning_62 (by decide) ?_
  obtain ⟨hk3, h⟩ := h
  refine z_callVI (As := [.int (6 : Int32)]) (rest := []) (ci := 7) hX (ct_X7_refuse h) mw_RX7_34 rfl (by decide) rfl (by rfl) (by unfold RoomC; decide) (by decide) dX7_readBeginning_64 hk3 (fun r1 M2 h => ?_)
  refine z_pop hX dX7_readBeginning_67 rfl ?_
  refine z_null hX dX7_readBeginning_68 ?_
  refine z_widen 2 16 (by decide) (by decide) ?_
  exact z_aret hX hQ dX7_readBeginning_69 h
def wp_X7_readBeginning (M : Mm) (h0 : Nat) (p1 : Int32) (K : Option Nat → Mm → Prop) : Prop := mK M h0 = 8 ∧ ∃ a6, (mR M 448 h0) = some a6 ∧ mK M a6 = 5 ∧ (((mI M 258 a6) = (3 : Int32) → ∃ a11, (mR M 449 h0) = some a11 ∧ mK M a11 = 2 ∧ (wp_X1_named M a11 (mJ M 260 a6) (fun r9 M10 => ((r9 = none → ((¬ p1 = 0 → (bk_X7_readBeginning_61 h0 K M10)) ∧ (p1 = 0 → mK M10 h0 = 8 ∧ ∃ a18, (mR M10 449 h0) = some a18 ∧ mK M10 a18 = 2 ∧ (((mI M10 69 a18) < (12 : Int32) → ∃ a23, (mR M10 448 h0) = some a23 ∧ mK M10 a23 = 5 ∧ (wp_X4_advance M10 a23 (fun M22 => mK M22 h0 = 8 ∧ (wp_X7_readSign M22 h0 (61 : Int32) (fun r27 M28 => ((¬ r27 = 0 → (∀ q31, mK M28 q31 = 0 → mK (nw M28 q31 7) h0 = 8 ∧ ∃ a35, (mR (nw M28 q31 7) 449 h0) = some a35 ∧ mK (nw M28 q31 7) a35 = 2 ∧ ∃ a38, (mR (nw M28 q31 7) 448 h0) = some a38 ∧ mK (nw M28 q31 7) a38 = 5 ∧ (wp_X6_init (nw M28 q31 7) q31 (mI (nw M28 q31 7) 69 a35) (mJ M 260 a6) (mJ (nw M28 q31 7) 260 a38) (fun M42 => (K (some q31) M42))))) ∧ (r27 = 0 → (K none M28)))))))) ∧ (¬ (mI M10 69 a18) < (12 : Int32) → (bk_X7_readBeginning_61 h0 K M10)))))) ∧ (∀ a15, r9 = some a15 → mK M10 h0 = 8 ∧ (wp_X7_refuse M10 h0 (3 : Int32) (fun r44 M45 => (K none M45)))))))) ∧ (¬ (mI M 258 a6) = (3 : Int32) → (wp_X7_refuseToken M h0 (fun r48 M49 => (K none M49)))))
set_option maxRecDepth 100000 in
set_option maxHeartbeats 4000000 in
theorem ct_X7_readBeginning {M : Mm} {h0 : Nat} {p1 : Int32} {K : Option Nat → Mm → Prop} (h : wp_X7_readBeginning M h0 p1 K) : CtR yX7_readBeginning cX7_readBeginning 4 (some (.object "WatermarkJoin$Stream")) rm_X7_readBeginning [.ref h0, .int p1] M K := by
  refine ct_any (QR K) (by decide) (by exact Nat.le_of_ble_eq_true rfl) (fun X hX hQ hnL hnm => ?_)
  rw [show lv_args 0 [.ref h0, .int p1] = [(0, va_rf (some h0)), (1, .int p1)] by rfl]
  have hX : Ok X cX7_readBeginning RX7 rm_X7_readBeginning := hX
  unfold wp_X7_readBeginning at h
  refine z_aload_n (r := (some h0)) hX dX7_readBeginning_0 rfl 0 rfl ?_
  obtain ⟨hk5, h⟩ := h
  refine gf_RX7_9 (r := (some h0)) hX dX7_readBeginning_1 rfl hk5 ?_
  obtain ⟨a6, ha7, h⟩ := h
  obtain ⟨hk8, h⟩ := h
  refine gf_RX7_81 (r := (mR M 448 h0)) hX dX7_readBeginning_4 ha7 hk8 ?_
  refine z_lstore_n hX [(2, .long (mJ M 260 a6)), (0, va_rf (some h0)), (1, .int p1)] dX7_readBeginning_7 rfl (by rw [hnL]; decide) rfl ?_
  refine z_aload_n (r := (some h0)) hX dX7_readBeginning_8 rfl 1 rfl ?_
  refine gf_RX7_9 (r := (some h0)) hX dX7_readBeginning_9 rfl hk5 ?_
  refine gf_RX7_24 (r := (mR M 448 h0)) hX dX7_readBeginning_12 ha7 hk8 ?_
  refine z_iconst (v := (3 : Int32)) hX dX7_readBeginning_15 (by decide) ?_
  obtain ⟨h1, h2⟩ := h
  refine z_icmp_eq (tgt := 26) hX dX7_readBeginning_16 (by decide) (fun hc => ?_) (fun hc => ?_)
  · have h := h1 hc
    refine z_aload_n (r := (some h0)) hX dX7_readBeginning_26 rfl 1 rfl ?_
    refine gf_RX7_15 (r := (some h0)) hX dX7_readBeginning_27 rfl hk5 ?_
    refine z_lload_n hX dX7_readBeginning_30 rfl 0 rfl ?_
    obtain ⟨a11, ha12, h⟩ := h
    obtain ⟨hk13, h⟩ := h
    refine z_callVR (As := [.long (mJ M 260 a6)]) (rest := []) (ci := 1) hX (ct_X1_named h) mw_RX7_87 rfl (by decide) rfl (by rw [ha12]; rfl) (by unfold RoomC; decide) (by decide) dX7_readBeginning_31 hk13 (fun r9 M10 h => ?_)
    obtain ⟨h1, h2⟩ := h
    refine z_ifnull (r := r9) (tgt := 45) hX dX7_readBeginning_34 (by decide) (fun hc => ?_) (fun a15 ha16 => ?_)
    · have h := h1 hc
      refine z_iload_n hX dX7_readBeginning_45 rfl 2 rfl ?_
      obtain ⟨h1, h2⟩ := h
      refine z_if_ne (tgt := 61) hX dX7_readBeginning_46 (by decide) (fun hc => ?_) (fun hc => ?_)
      · have h := h1 hc
        refine z_loc [1] rfl ?_
        refine z_widen 0 0 (by decide) (by decide) ?_
        exact zb_X7_readBeginning_61 hX hQ hnL h
      · have h := h2 hc
        refine z_aload_n (r := (some h0)) hX dX7_readBeginning_49 rfl 1 rfl ?_
        obtain ⟨hk17, h⟩ := h
        refine gf_RX7_15 (r := (some h0)) hX dX7_readBeginning_50 rfl hk17 ?_
        obtain ⟨a18, ha19, h⟩ := h
        obtain ⟨hk20, h⟩ := h
        refine gf_RX7_91 (r := (mR M10 449 h0)) hX dX7_readBeginning_53 ha19 hk20 ?_
        refine z_bipush (v := (12 : Int32)) hX dX7_readBeginning_56 (by decide) ?_
        obtain ⟨h1, h2⟩ := h
        refine z_icmp_lt (tgt := 70) hX dX7_readBeginning_58 (by decide) (fun hc => ?_) (fun hc => ?_)
        · have h := h1 hc
          refine z_aload_n (r := (some h0)) hX dX7_readBeginning_70 rfl 1 rfl ?_
          refine gf_RX7_9 (r := (some h0)) hX dX7_readBeginning_71 rfl hk17 ?_
          obtain ⟨a23, ha24, h⟩ := h
          obtain ⟨hk25, h⟩ := h
          refine z_callVV (As := []) (rest := []) (ci := 4) hX (ct_X4_advance h) mw_RX7_19 rfl (by decide) rfl (by rw [ha24]; rfl) (by unfold RoomC; decide) (by decide) dX7_readBeginning_74 hk25 (fun M22 h => ?_)
          refine z_aload_n (r := (some h0)) hX dX7_readBeginning_77 rfl 1 rfl ?_
          refine z_bipush (v := (61 : Int32)) hX dX7_readBeginning_78 (by decide) ?_
          obtain ⟨hk29, h⟩ := h
          refine z_callVI (As := [.int (61 : Int32)]) (rest := []) (ci := 7) hX (ct_X7_readSign h) mw_RX7_78 rfl (by decide) rfl (by rfl) (by unfold RoomC; decide) (by decide) dX7_readBeginning_80 hk29 (fun r27 M28 h => ?_)
          obtain ⟨h1, h2⟩ := h
          refine z_if_ne (tgt := 88) hX dX7_readBeginning_83 (by decide) (fun hc => ?_) (fun hc => ?_)
          · have h := h1 hc
            refine nq_RX7_94 hX dX7_readBeginning_88 (by decide) (by decide) (fun q31 hq32 => ?_)
            have h := h q31 hq32
            refine z_dup hX dX7_readBeginning_91 (cat_rf _) ?_
            refine z_aload_n (r := (some h0)) hX dX7_readBeginning_92 rfl 1 rfl ?_
            obtain ⟨hk34, h⟩ := h
            refine gf_RX7_15 (r := (some h0)) hX dX7_readBeginning_93 rfl hk34 ?_
            obtain ⟨a35, ha36, h⟩ := h
            obtain ⟨hk37, h⟩ := h
            refine gf_RX7_91 (r := (mR (nw M28 q31 7) 449 h0)) hX dX7_readBeginning_96 ha36 hk37 ?_
            refine z_lload_n hX dX7_readBeginning_99 rfl 0 rfl ?_
            refine z_aload_n (r := (some h0)) hX dX7_readBeginning_100 rfl 1 rfl ?_
            refine gf_RX7_9 (r := (some h0)) hX dX7_readBeginning_101 rfl hk34 ?_
            obtain ⟨a38, ha39, h⟩ := h
            obtain ⟨hk40, h⟩ := h
            refine gf_RX7_81 (r := (mR (nw M28 q31 7) 448 h0)) hX dX7_readBeginning_104 ha39 hk40 ?_
            refine z_callIV (As := [.int (mI (nw M28 q31 7) 69 a35), .long (mJ M 260 a6), .long (mJ (nw M28 q31 7) 260 a38)]) (rest := [va_rf (some q31)]) hX (ct_X6_init h) mw_RX7_96 rfl (by rfl) (by unfold RoomC; decide) (by simp only [List.map_cons, List.map_nil, List.sum_cons, List.sum_nil, cat_rf, cat_i, cat_j]; decide) dX7_readBeginning_107 (fun M42 h => ?_)
            refine z_widen 2 16 (by decide) (by decide) ?_
            exact z_aret hX hQ dX7_readBeginning_110 h
          · have h := h2 hc
            refine z_null hX dX7_readBeginning_86 ?_
            refine z_widen 2 16 (by decide) (by decide) ?_
            exact z_aret hX hQ dX7_readBeginning_87 h
        · have h := h2 hc
          refine z_loc [1] rfl ?_
          refine z_widen 0 0 (by decide) (by decide) ?_
          exact zb_X7_readBeginning_61 hX hQ hnL h
    · have h := h2 a15 ha16
      refine z_aload_n (r := (some h0)) hX dX7_readBeginning_37 rfl 1 rfl ?_
      refine z_iconst (v := (3 : Int32)) hX dX7_readBeginning_38 (by decide) ?_
      obtain ⟨hk46, h⟩ := h
      refine z_callVI (As := [.int (3 : Int32)]) (rest := []) (ci := 7) hX (ct_X7_refuse h) mw_RX7_34 rfl (by decide) rfl (by rfl) (by unfold RoomC; decide) (by decide) dX7_readBeginning_39 hk46 (fun r44 M45 h => ?_)
      refine z_pop hX dX7_readBeginning_42 rfl ?_
      refine z_null hX dX7_readBeginning_43 ?_
      refine z_widen 2 16 (by decide) (by decide) ?_
      exact z_aret hX hQ dX7_readBeginning_44 h
  · have h := h2 hc
    refine z_aload_n (r := (some h0)) hX dX7_readBeginning_19 rfl 1 rfl ?_
    refine z_callVI (As := []) (rest := []) (ci := 7) hX (ct_X7_refuseToken h) mw_RX7_84 rfl (by decide) rfl (by rfl) (by unfold RoomC; decide) (by decide) dX7_readBeginning_20 hk5 (fun r48 M49 h => ?_)
    refine z_pop hX dX7_readBeginning_23 rfl ?_
    refine z_null hX dX7_readBeginning_24 ?_
    refine z_widen 2 16 (by decide) (by decide) ?_
    exact z_aret hX hQ dX7_readBeginning_25 h
def rm_X7_readUnion : Room := { frames := 4, cells := 0, slots := 0, locals := 87 }
def bk_X7_readUnion_49 (h0 : Nat) (K : Int32 → Mm → Prop) (M : Mm) : Prop := mK M h0 = 8 ∧ (wp_X7_readSign M h0 (59 : Int32) (fun r1 M2 => (bz r1 ∧ K r1 M2)))
set_option maxRecDepth 100000 in
set_option maxHeartbeats 4000000 in
theorem zb_X7_readUnion_49 {X : Cx} {h0 : Nat} {K : Int32 → Mm → Prop} (hX : Ok X cX7_readUnion RX7 rm_X7_readUnion) (hQ : Rq X rm_X7_readUnion (some .boolean) (QI K)) (hnL : X.2.2.2.2.2.2.2.2.2.2.2.2.2.2 = 3) {M : Mm} (h : bk_X7_readUnion_49 h0 K M) : Z X M 0 0 49 [(0, va_rf (some h0))] [] := by
  unfold bk_X7_readUnion_49 at h
  refine z_aload_n (r := (some h0)) hX dX7_readUnion_49 rfl 0 rfl ?_
  refine z_bipush (v := (59 : Int32)) hX dX7_readUnion_50 (by decide) ?_
  obtain ⟨hk3, h⟩ := h
  refine z_callVI (As := [.int (59 : Int32)]) (rest := []) (ci := 7) hX (ct_X7_readSign h) mw_RX7_78 rfl (by decide) rfl (by rfl) (by unfold RoomC; decide) (by decide) dX7_readUnion_52 hk3 (fun r1 M2 h => ?_)
  exact y_zret hX hQ dX7_readUnion_55 h.1 h.2
def bk_X7_readUnion_33 (h0 : Nat) (R9 : Option Nat → Int32 → Mm → Prop) (K : Int32 → Mm → Prop) (l1 : Option Nat) (l2 : Int32) (M : Mm) : Prop := mK M h0 = 8 ∧ (wp_X7_readInput M h0 l1 (fun r5 M6 => ((¬ r5 = 0 → (R9 l1 (l2 + 1) M6)) ∧ (r5 = 0 → (K (0 : Int32) M6)))))
set_option maxRecDepth 100000 in
set_option maxHeartbeats 4000000 in
theorem zb_X7_readUnion_33 {X : Cx} {h0 : Nat} {R9 : Option Nat → Int32 → Mm → Prop} {K : Int32 → Mm → Prop} (hX : Ok X cX7_readUnion RX7 rm_X7_readUnion) (hQ : Rq X rm_X7_readUnion (some .boolean) (QI K)) (hnL : X.2.2.2.2.2.2.2.2.2.2.2.2.2.2 = 3) (hR9 : ∀ l1 l2 M, R9 l1 l2 M → Z X M 0 0 9 [(0, va_rf (some h0)), (1, va_rf l1), (2, .int l2)] []) {l1 : Option Nat} {l2 : Int32} {M : Mm} (h : bk_X7_readUnion_33 h0 R9 K l1 l2 M) : Z X M 0 0 33 [(0, va_rf (some h0)), (1, va_rf l1), (2, .int l2)] [] := by
  unfold bk_X7_readUnion_33 at h
  refine z_aload_n (r := (some h0)) hX dX7_readUnion_33 rfl 0 rfl ?_
  refine z_aload_n (r := l1) hX dX7_readUnion_34 rfl 1 rfl ?_
  obtain ⟨hk7, h⟩ := h
  refine z_callVI (As := [va_rf l1]) (rest := []) (ci := 7) hX (ct_X7_readInput h) mw_RX7_116 rfl (by decide) rfl (by rfl) (by unfold RoomC; decide) (by decide) dX7_readUnion_35 hk7 (fun r5 M6 h => ?_)
  obtain ⟨h1, h2⟩ := h
  refine z_if_ne (tgt := 43) hX dX7_readUnion_38 (by decide) (fun hc => ?_) (fun hc => ?_)
  · have h := h1 hc
    refine z_iinc (v := (l2 + 1)) hX [(2, .int (l2 + 1)), (0, va_rf (some h0)), (1, va_rf l1)] dX7_readUnion_43 2 rfl rfl (by rw [hnL]; decide) (by simp [cat_rf]) ?_
    refine z_goto (tgt := 9) hX dX7_readUnion_46 (by decide) ?_
    refine z_loc [1, 2, 0] rfl ?_
    exact hR9 _ _ _ h
  · have h := h2 hc
    refine z_iconst (v := (0 : Int32)) hX dX7_readUnion_41 (by decide) ?_
    exact y_zret hX hQ dX7_readUnion_42 (Or.inl rfl) h
def lp_X7_readUnion_9 (h0 : Nat) (K : Int32 → Mm → Prop) : Nat → Option Nat → Int32 → Mm → Prop
  | 0, _, _, _ => False
  | n + 1, l1, l2, M => (((4 : Int32) ≤ l2 → (bk_X7_readUnion_49 h0 K M)) ∧ (¬ (4 : Int32) ≤ l2 → ((l2 < (2 : Int32) → (bk_X7_readUnion_33 h0 (lp_X7_readUnion_9 h0 K n) K l1 l2 M)) ∧ (¬ l2 < (2 : Int32) → mK M h0 = 8 ∧ ∃ a10, (mR M 448 h0) = some a10 ∧ mK M a10 = 5 ∧ (((mI M 258 a10) = (3 : Int32) → (bk_X7_readUnion_33 h0 (lp_X7_readUnion_9 h0 K n) K l1 l2 M)) ∧ (¬ (mI M 258 a10) = (3 : Int32) → (bk_X7_readUnion_49 h0 K M)))))))
set_option maxRecDepth 100000 in
set_option maxHeartbeats 4000000 in
theorem zl_X7_readUnion_9 {X : Cx} {h0 : Nat} {K : Int32 → Mm → Prop} (hX : Ok X cX7_readUnion RX7 rm_X7_readUnion) (hQ : Rq X rm_X7_readUnion (some .boolean) (QI K)) (hnL : X.2.2.2.2.2.2.2.2.2.2.2.2.2.2 = 3) : ∀ (n : Nat) (l1 : Option Nat) (l2 : Int32) (M : Mm), lp_X7_readUnion_9 h0 K n l1 l2 M → Z X M 0 0 9 [(0, va_rf (some h0)), (1, va_rf l1), (2, .int l2)] [] := by
  intro n
  induction n with
  | zero =>
    intro l1 l2 M h
    exact False.elim h
  | succ n hR9 =>
    intro l1 l2 M h
    refine z_iload_n hX dX7_readUnion_9 rfl 2 rfl ?_
    refine z_iconst (v := (4 : Int32)) hX dX7_readUnion_10 (by decide) ?_
    obtain ⟨h1, h2⟩ := h
    refine z_icmp_ge (tgt := 49) hX dX7_readUnion_11 (by decide) (fun hc => ?_) (fun hc => ?_)
    · have h := h1 hc
      refine z_loc [0] rfl ?_
      exact zb_X7_readUnion_49 hX hQ hnL h
    · have h := h2 hc
      refine z_iload_n hX dX7_readUnion_14 rfl 2 rfl ?_
      refine z_iconst (v := (2 : Int32)) hX dX7_readUnion_15 (by decide) ?_
      obtain ⟨h1, h2⟩ := h
      refine z_icmp_lt (tgt := 33) hX dX7_readUnion_16 (by decide) (fun hc => ?_) (fun hc => ?_)
      · have h := h1 hc
        exact zb_X7_readUnion_33 hX hQ hnL hR9 h
      · have h := h2 hc
        refine z_aload_n (r := (some h0)) hX dX7_readUnion_19 rfl 0 rfl ?_
        obtain ⟨hk9, h⟩ := h
        refine gf_RX7_9 (r := (some h0)) hX dX7_readUnion_20 rfl hk9 ?_
        obtain ⟨a10, ha11, h⟩ := h
        obtain ⟨hk12, h⟩ := h
        refine gf_RX7_24 (r := (mR M 448 h0)) hX dX7_readUnion_23 ha11 hk12 ?_
        refine z_iconst (v := (3 : Int32)) hX dX7_readUnion_26 (by decide) ?_
        obtain ⟨h1, h2⟩ := h
        refine z_icmp_eq (tgt := 33) hX dX7_readUnion_27 (by decide) (fun hc => ?_) (fun hc => ?_)
        · have h := h1 hc
          exact zb_X7_readUnion_33 hX hQ hnL hR9 h
        · have h := h2 hc
          refine z_goto (tgt := 49) hX dX7_readUnion_30 (by decide) ?_
          refine z_loc [0] rfl ?_
          exact zb_X7_readUnion_49 hX hQ hnL h
def wp_X7_readUnion (M : Mm) (h0 : Nat) (p1 : Option Nat) (K : Int32 → Mm → Prop) : Prop := mK M h0 = 8 ∧ ∃ a16, (mR M 448 h0) = some a16 ∧ mK M a16 = 5 ∧ (wp_X4_advance M a16 (fun M15 => (∃ kk, lp_X7_readUnion_9 h0 K kk p1 (0 : Int32) M15)))
set_option maxRecDepth 100000 in
set_option maxHeartbeats 4000000 in
theorem ct_X7_readUnion {M : Mm} {h0 : Nat} {p1 : Option Nat} {K : Int32 → Mm → Prop} (h : wp_X7_readUnion M h0 p1 K) : CtI yX7_readUnion cX7_readUnion 3 (some .boolean) rm_X7_readUnion [.ref h0, va_rf p1] M K := by
  refine ct_any (QI K) (by decide) (by cases p1 <;> exact Nat.le_of_ble_eq_true rfl) (fun X hX hQ hnL hnm => ?_)
  rw [show lv_args 0 [.ref h0, va_rf p1] = [(0, va_rf (some h0)), (1, va_rf p1)] by cases p1 <;> rfl]
  have hX : Ok X cX7_readUnion RX7 rm_X7_readUnion := hX
  unfold wp_X7_readUnion at h
  refine z_aload_n (r := (some h0)) hX dX7_readUnion_0 rfl 0 rfl ?_
  obtain ⟨hk13, h⟩ := h
  refine gf_RX7_9 (r := (some h0)) hX dX7_readUnion_1 rfl hk13 ?_
  obtain ⟨a16, ha17, h⟩ := h
  obtain ⟨hk18, h⟩ := h
  refine z_callVV (As := []) (rest := []) (ci := 4) hX (ct_X4_advance h) mw_RX7_19 rfl (by decide) rfl (by rw [ha17]; rfl) (by unfold RoomC; decide) (by decide) dX7_readUnion_4 hk18 (fun M15 h => ?_)
  refine z_iconst (v := (0 : Int32)) hX dX7_readUnion_7 (by decide) ?_
  refine z_istore_n (i := 2) hX [(2, .int (0 : Int32)), (0, va_rf (some h0)), (1, va_rf p1)] dX7_readUnion_8 rfl (by rw [hnL]; decide) (by simp [cat_rf]) ?_
  refine z_loc [1, 2, 0] rfl ?_
  obtain ⟨n, h⟩ := h
  exact zl_X7_readUnion_9 hX hQ hnL n _ _ _ h
def rm_X7_readSignedNumber : Room := { frames := 3, cells := 0, slots := 0, locals := 65 }
def bk_X7_readSignedNumber_61 (h0 : Nat) (K : Int32 → Mm → Prop) (M : Mm) : Prop := mK M h0 = 8 ∧ ∃ a4, (mR M 448 h0) = some a4 ∧ mK M a4 = 5 ∧ (wp_X4_advance M a4 (fun M3 => (K (1 : Int32) M3)))
set_option maxRecDepth 100000 in
set_option maxHeartbeats 4000000 in
theorem zb_X7_readSignedNumber_61 {X : Cx} {h0 : Nat} {K : Int32 → Mm → Prop} (hX : Ok X cX7_readSignedNumber RX7 rm_X7_readSignedNumber) (hQ : Rq X rm_X7_readSignedNumber (some .boolean) (QI K)) (hnL : X.2.2.2.2.2.2.2.2.2.2.2.2.2.2 = 4) {M : Mm} (h : bk_X7_readSignedNumber_61 h0 K M) : Z X M 0 0 61 [(0, va_rf (some h0))] [] := by
  unfold bk_X7_readSignedNumber_61 at h
  refine z_aload_n (r := (some h0)) hX dX7_readSignedNumber_61 rfl 0 rfl ?_
  obtain ⟨hk1, h⟩ := h
  refine gf_RX7_9 (r := (some h0)) hX dX7_readSignedNumber_62 rfl hk1 ?_
  obtain ⟨a4, ha5, h⟩ := h
  obtain ⟨hk6, h⟩ := h
  refine z_callVV (As := []) (rest := []) (ci := 4) hX (ct_X4_advance h) mw_RX7_19 rfl (by decide) rfl (by rw [ha5]; rfl) (by unfold RoomC; decide) (by decide) dX7_readSignedNumber_65 hk6 (fun M3 h => ?_)
  refine z_iconst (v := (1 : Int32)) hX dX7_readSignedNumber_68 (by decide) ?_
  exact y_zret hX hQ dX7_readSignedNumber_69 (Or.inr rfl) h
def bk_X7_readSignedNumber_48 (h0 : Nat) (K : Int32 → Mm → Prop) (l3 : Int32) (M : Mm) : Prop := ((l3 = 0 → (bk_X7_readSignedNumber_61 h0 K M)) ∧ (¬ l3 = 0 → mK M h0 = 8 ∧ (bk_X7_readSignedNumber_61 h0 K (sJ M 454 h0 (-(mJ M 454 h0))))))
set_option maxRecDepth 100000 in
set_option maxHeartbeats 4000000 in
theorem zb_X7_readSignedNumber_48 {X : Cx} {h0 : Nat} {K : Int32 → Mm → Prop} (hX : Ok X cX7_readSignedNumber RX7 rm_X7_readSignedNumber) (hQ : Rq X rm_X7_readSignedNumber (some .boolean) (QI K)) (hnL : X.2.2.2.2.2.2.2.2.2.2.2.2.2.2 = 4) {l3 : Int32} {M : Mm} (h : bk_X7_readSignedNumber_48 h0 K l3 M) : Z X M 0 0 48 [(0, va_rf (some h0)), (3, .int l3)] [] := by
  unfold bk_X7_readSignedNumber_48 at h
  refine z_iload_n hX dX7_readSignedNumber_48 rfl 1 rfl ?_
  obtain ⟨h1, h2⟩ := h
  refine z_if_eq (tgt := 61) hX dX7_readSignedNumber_49 (by decide) (fun hc => ?_) (fun hc => ?_)
  · have h := h1 hc
    refine z_loc [0] rfl ?_
    exact zb_X7_readSignedNumber_61 hX hQ hnL h
  · have h := h2 hc
    refine z_aload_n (r := (some h0)) hX dX7_readSignedNumber_52 rfl 0 rfl ?_
    refine z_aload_n (r := (some h0)) hX dX7_readSignedNumber_53 rfl 0 rfl ?_
    obtain ⟨hk8, h⟩ := h
    refine gf_RX7_62 (r := (some h0)) hX dX7_readSignedNumber_54 rfl hk8 ?_
    refine z_lneg hX dX7_readSignedNumber_57 ?_
    refine pf_RX7_62 (r := (some h0)) (v := (-(mJ M 454 h0))) hX dX7_readSignedNumber_58 rfl hk8 ?_
    refine z_loc [0] rfl ?_
    exact zb_X7_readSignedNumber_61 hX hQ hnL h
def bk_X7_readSignedNumber_46 (h0 : Nat) (K : Int32 → Mm → Prop) (M : Mm) : Prop := (K (0 : Int32) M)
set_option maxRecDepth 100000 in
set_option maxHeartbeats 4000000 in
theorem zb_X7_readSignedNumber_46 {X : Cx} {h0 : Nat} {K : Int32 → Mm → Prop} (hX : Ok X cX7_readSignedNumber RX7 rm_X7_readSignedNumber) (hQ : Rq X rm_X7_readSignedNumber (some .boolean) (QI K)) (hnL : X.2.2.2.2.2.2.2.2.2.2.2.2.2.2 = 4) {M : Mm} (h : bk_X7_readSignedNumber_46 h0 K M) : Z X M 0 0 46 [] [] := by
  unfold bk_X7_readSignedNumber_46 at h
  refine z_iconst (v := (0 : Int32)) hX dX7_readSignedNumber_46 (by decide) ?_
  exact y_zret hX hQ dX7_readSignedNumber_47 (Or.inl rfl) h
def bk_X7_readSignedNumber_18 (h0 : Nat) (K : Int32 → Mm → Prop) (l1 : Int64) (l3 : Int32) (M : Mm) : Prop := ((l3 = 0 → mK M h0 = 8 ∧ (wp_X7_isNumber M h0 l1 (999999999999999999 : Int64) (fun r10 M11 => ((¬ r10 = 0 → (bk_X7_readSignedNumber_48 h0 K l3 M11)) ∧ (r10 = 0 → (bk_X7_readSignedNumber_46 h0 K M11)))))) ∧ (¬ l3 = 0 → mK M h0 = 8 ∧ (wp_X7_isNumber M h0 (0 : Int64) (-l1) (fun r14 M15 => ((r14 = 0 → (bk_X7_readSignedNumber_46 h0 K M15)) ∧ (¬ r14 = 0 → (bk_X7_readSignedNumber_48 h0 K l3 M15)))))))
set_option maxRecDepth 100000 in
set_option maxHeartbeats 4000000 in
theorem zb_X7_readSignedNumber_18 {X : Cx} {h0 : Nat} {K : Int32 → Mm → Prop} (hX : Ok X cX7_readSignedNumber RX7 rm_X7_readSignedNumber) (hQ : Rq X rm_X7_readSignedNumber (some .boolean) (QI K)) (hnL : X.2.2.2.2.2.2.2.2.2.2.2.2.2.2 = 4) {l1 : Int64} {l3 : Int32} {M : Mm} (h : bk_X7_readSignedNumber_18 h0 K l1 l3 M) : Z X M 0 0 18 [(0, va_rf (some h0)), (1, .long l1), (3, .int l3)] [] := by
  unfold bk_X7_readSignedNumber_18 at h
  refine z_iload_n hX dX7_readSignedNumber_18 rfl 2 rfl ?_
  obtain ⟨h1, h2⟩ := h
  refine z_if_eq (tgt := 35) hX dX7_readSignedNumber_19 (by decide) (fun hc => ?_) (fun hc => ?_)
  · have h := h1 hc
    refine z_aload_n (r := (some h0)) hX dX7_readSignedNumber_35 rfl 0 rfl ?_
    refine z_lload_n hX dX7_readSignedNumber_36 rfl 1 rfl ?_
    refine z_ldc2 (v := (999999999999999999 : Int64)) hX dX7_readSignedNumber_37 kj_RX7_69 ?_
    obtain ⟨hk12, h⟩ := h
    refine z_callVI (As := [.long l1, .long (999999999999999999 : Int64)]) (rest := []) (ci := 7) hX (ct_X7_isNumber h) mw_RX7_58 rfl (by decide) rfl (by rfl) (by unfold RoomC; decide) (by decide) dX7_readSignedNumber_40 hk12 (fun r10 M11 h => ?_)
    obtain ⟨h1, h2⟩ := h
    refine z_if_ne (tgt := 48) hX dX7_readSignedNumber_43 (by decide) (fun hc => ?_) (fun hc => ?_)
    · have h := h1 hc
      refine z_loc [0, 2] rfl ?_
      exact zb_X7_readSignedNumber_48 hX hQ hnL h
    · have h := h2 hc
      refine z_loc [] rfl ?_
      exact zb_X7_readSignedNumber_46 hX hQ hnL h
  · have h := h2 hc
    refine z_aload_n (r := (some h0)) hX dX7_readSignedNumber_22 rfl 0 rfl ?_
    refine z_lconst (v := (0 : Int64)) hX dX7_readSignedNumber_23 (by decide) ?_
    refine z_lload_n hX dX7_readSignedNumber_24 rfl 1 rfl ?_
    refine z_lneg hX dX7_readSignedNumber_25 ?_
    obtain ⟨hk16, h⟩ := h
    refine z_callVI (As := [.long (0 : Int64), .long (-l1)]) (rest := []) (ci := 7) hX (ct_X7_isNumber h) mw_RX7_58 rfl (by decide) rfl (by rfl) (by unfold RoomC; decide) (by decide) dX7_readSignedNumber_26 hk16 (fun r14 M15 h => ?_)
    obtain ⟨h1, h2⟩ := h
    refine z_if_eq (tgt := 46) hX dX7_readSignedNumber_29 (by decide) (fun hc => ?_) (fun hc => ?_)
    · have h := h1 hc
      refine z_loc [] rfl ?_
      exact zb_X7_readSignedNumber_46 hX hQ hnL h
    · have h := h2 hc
      refine z_goto (tgt := 48) hX dX7_readSignedNumber_32 (by decide) ?_
      refine z_loc [0, 2] rfl ?_
      exact zb_X7_readSignedNumber_48 hX hQ hnL h
def wp_X7_readSignedNumber (M : Mm) (h0 : Nat) (p1 : Int64) (K : Int32 → Mm → Prop) : Prop := mK M h0 = 8 ∧ (wp_X7_isSign M h0 (45 : Int32) (fun r18 M19 => ((r18 = 0 → (bk_X7_readSignedNumber_18 h0 K p1 r18 M19)) ∧ (¬ r18 = 0 → mK M19 h0 = 8 ∧ ∃ a25, (mR M19 448 h0) = some a25 ∧ mK M19 a25 = 5 ∧ (wp_X4_advance M19 a25 (fun M24 => (bk_X7_readSignedNumber_18 h0 K p1 r18 M24)))))))
set_option maxRecDepth 100000 in
set_option maxHeartbeats 4000000 in
theorem ct_X7_readSignedNumber {M : Mm} {h0 : Nat} {p1 : Int64} {K : Int32 → Mm → Prop} (h : wp_X7_readSignedNumber M h0 p1 K) : CtI yX7_readSignedNumber cX7_readSignedNumber 4 (some .boolean) rm_X7_readSignedNumber [.ref h0, .long p1] M K := by
  refine ct_any (QI K) (by decide) (by exact Nat.le_of_ble_eq_true rfl) (fun X hX hQ hnL hnm => ?_)
  rw [show lv_args 0 [.ref h0, .long p1] = [(0, va_rf (some h0)), (1, .long p1)] by rfl]
  have hX : Ok X cX7_readSignedNumber RX7 rm_X7_readSignedNumber := hX
  unfold wp_X7_readSignedNumber at h
  refine z_aload_n (r := (some h0)) hX dX7_readSignedNumber_0 rfl 0 rfl ?_
  refine z_bipush (v := (45 : Int32)) hX dX7_readSignedNumber_1 (by decide) ?_
  obtain ⟨hk20, h⟩ := h
  refine z_callVI (As := [.int (45 : Int32)]) (rest := []) (ci := 7) hX (ct_X7_isSign h) mw_RX7_208 rfl (by decide) rfl (by rfl) (by unfold RoomC; decide) (by decide) dX7_readSignedNumber_3 hk20 (fun r18 M19 h => ?_)
  refine z_istore_n hX [(3, .int r18), (0, va_rf (some h0)), (1, .long p1)] dX7_readSignedNumber_6 rfl (by rw [hnL]; decide) rfl ?_
  refine z_iload_n hX dX7_readSignedNumber_7 rfl 0 rfl ?_
  obtain ⟨h1, h2⟩ := h
  refine z_if_eq (tgt := 18) hX dX7_readSignedNumber_8 (by decide) (fun hc => ?_) (fun hc => ?_)
  · have h := h1 hc
    refine z_loc [1, 2, 0] rfl ?_
    exact zb_X7_readSignedNumber_18 hX hQ hnL h
  · have h := h2 hc
    refine z_aload_n (r := (some h0)) hX dX7_readSignedNumber_11 rfl 1 rfl ?_
    obtain ⟨hk22, h⟩ := h
    refine gf_RX7_9 (r := (some h0)) hX dX7_readSignedNumber_12 rfl hk22 ?_
    obtain ⟨a25, ha26, h⟩ := h
    obtain ⟨hk27, h⟩ := h
    refine z_callVV (As := []) (rest := []) (ci := 4) hX (ct_X4_advance h) mw_RX7_19 rfl (by decide) rfl (by rw [ha26]; rfl) (by unfold RoomC; decide) (by decide) dX7_readSignedNumber_15 hk27 (fun M24 h => ?_)
    refine z_loc [1, 2, 0] rfl ?_
    exact zb_X7_readSignedNumber_18 hX hQ hnL h
def rm_X7_readNumber : Room := { frames := 3, cells := 0, slots := 0, locals := 65 }
def wp_X7_readNumber (M : Mm) (h0 : Nat) (p1 : Int64) (p2 : Int64) (K : Int32 → Mm → Prop) : Prop := mK M h0 = 8 ∧ (wp_X7_isNumber M h0 p1 p2 (fun r1 M2 => ((¬ r1 = 0 → mK M2 h0 = 8 ∧ ∃ a8, (mR M2 448 h0) = some a8 ∧ mK M2 a8 = 5 ∧ (wp_X4_advance M2 a8 (fun M7 => (K (1 : Int32) M7)))) ∧ (r1 = 0 → (K (0 : Int32) M2)))))
set_option maxRecDepth 100000 in
set_option maxHeartbeats 4000000 in
theorem ct_X7_readNumber {M : Mm} {h0 : Nat} {p1 : Int64} {p2 : Int64} {K : Int32 → Mm → Prop} (h : wp_X7_readNumber M h0 p1 p2 K) : CtI yX7_readNumber cX7_readNumber 5 (some .boolean) rm_X7_readNumber [.ref h0, .long p1, .long p2] M K := by
  refine ct_any (QI K) (by decide) (by exact Nat.le_of_ble_eq_true rfl) (fun X hX hQ hnL hnm => ?_)
  rw [show lv_args 0 [.ref h0, .long p1, .long p2] = [(0, va_rf (some h0)), (1, .long p1), (3, .long p2)] by rfl]
  have hX : Ok X cX7_readNumber RX7 rm_X7_readNumber := hX
  unfold wp_X7_readNumber at h
  refine z_aload_n (r := (some h0)) hX dX7_readNumber_0 rfl 0 rfl ?_
  refine z_lload_n hX dX7_readNumber_1 rfl 1 rfl ?_
  refine z_lload_n hX dX7_readNumber_2 rfl 2 rfl ?_
  obtain ⟨hk3, h⟩ := h
  refine z_callVI (As := [.long p1, .long p2]) (rest := []) (ci := 7) hX (ct_X7_isNumber h) mw_RX7_58 rfl (by decide) rfl (by rfl) (by unfold RoomC; decide) (by decide) dX7_readNumber_3 hk3 (fun r1 M2 h => ?_)
  obtain ⟨h1, h2⟩ := h
  refine z_if_ne (tgt := 11) hX dX7_readNumber_6 (by decide) (fun hc => ?_) (fun hc => ?_)
  · have h := h1 hc
    refine z_aload_n (r := (some h0)) hX dX7_readNumber_11 rfl 0 rfl ?_
    obtain ⟨hk5, h⟩ := h
    refine gf_RX7_9 (r := (some h0)) hX dX7_readNumber_12 rfl hk5 ?_
    obtain ⟨a8, ha9, h⟩ := h
    obtain ⟨hk10, h⟩ := h
    refine z_callVV (As := []) (rest := []) (ci := 4) hX (ct_X4_advance h) mw_RX7_19 rfl (by decide) rfl (by rw [ha9]; rfl) (by unfold RoomC; decide) (by decide) dX7_readNumber_15 hk10 (fun M7 h => ?_)
    refine z_iconst (v := (1 : Int32)) hX dX7_readNumber_18 (by decide) ?_
    exact y_zret hX hQ dX7_readNumber_19 (Or.inr rfl) h
  · have h := h2 hc
    refine z_iconst (v := (0 : Int32)) hX dX7_readNumber_9 (by decide) ?_
    exact y_zret hX hQ dX7_readNumber_10 (Or.inl rfl) h
def rm_X11_body : Room := { frames := 8, cells := 0, slots := 0, locals := 206 }
def bk_X11_body_224 (h0 : Nat) (K : Mm → Prop) (M : Mm) : Prop := (K M)
set_option maxRecDepth 100000 in
set_option maxHeartbeats 4000000 in
theorem zb_X11_body_224 {X : Cx} {h0 : Nat} {K : Mm → Prop} (hX : Ok X cX11_body RX11 rm_X11_body) (hQ : Rq X rm_X11_body none (QV K)) (hnL : X.2.2.2.2.2.2.2.2.2.2.2.2.2.2 = 2) {M : Mm} (h : bk_X11_body_224 h0 K M) : Z X M 0 0 224 [] [] := by
  unfold bk_X11_body_224 at h
  exact z_vret hX hQ dX11_body_224 h
def bk_X11_body_220 (h0 : Nat) (K : Mm → Prop) (M : Mm) : Prop := mK M h0 = 12 ∧ (wp_X11_misplaced M h0 (fun M2 => (bk_X11_body_224 h0 K M2)))
set_option maxRecDepth 100000 in
set_option maxHeartbeats 4000000 in
theorem zb_X11_body_220 {X : Cx} {h0 : Nat} {K : Mm → Prop} (hX : Ok X cX11_body RX11 rm_X11_body) (hQ : Rq X rm_X11_body none (QV K)) (hnL : X.2.2.2.2.2.2.2.2.2.2.2.2.2.2 = 2) {M : Mm} (h : bk_X11_body_220 h0 K M) : Z X M 0 0 220 [(0, va_rf (some h0))] [] := by
  unfold bk_X11_body_220 at h
  refine z_aload_n (r := (some h0)) hX dX11_body_220 rfl 0 rfl ?_
  obtain ⟨hk3, h⟩ := h
  refine z_callVV (As := []) (rest := []) (ci := 11) hX (ct_X11_misplaced h) mw_RX11_197 rfl (by decide) rfl (by rfl) (by unfold RoomC; decide) (by decide) dX11_body_221 hk3 (fun M2 h => ?_)
  refine z_loc [] rfl ?_
  exact zb_X11_body_224 hX hQ hnL h
def lp_X11_body_120 (h0 : Nat) (K : Mm → Prop) : Nat → Int32 → Mm → Prop
  | 0, _, _ => False
  | n + 1, l1, M => mK M h0 = 12 ∧ (wp_X11_good M h0 (fun r5 M6 => ((r5 = 0 → (bk_X11_body_224 h0 K M6)) ∧ (¬ r5 = 0 → mK M6 h0 = 12 ∧ ∃ a10, (mR M6 724 h0) = some a10 ∧ isA M6 a10 1 ∧ vp_in l1 (aN M6 a10) ∧ (((4 : Int32) ≤ (aI M6 a10 (l1).toNatClampNeg) → (bk_X11_body_224 h0 K M6)) ∧ (¬ (4 : Int32) ≤ (aI M6 a10 (l1).toNatClampNeg) → (wp_X11_isName M6 h0 (fun r14 M15 => ((r14 = 0 → (bk_X11_body_224 h0 K M15)) ∧ (¬ r14 = 0 → mK M15 h0 = 12 ∧ (wp_X11_takeInput M15 h0 l1 (fun M18 => ((lp_X11_body_120 h0 K n) l1 M18)))))))))))))
set_option maxRecDepth 100000 in
set_option maxHeartbeats 4000000 in
theorem zl_X11_body_120 {X : Cx} {h0 : Nat} {K : Mm → Prop} (hX : Ok X cX11_body RX11 rm_X11_body) (hQ : Rq X rm_X11_body none (QV K)) (hnL : X.2.2.2.2.2.2.2.2.2.2.2.2.2.2 = 2) : ∀ (n : Nat) (l1 : Int32) (M : Mm), lp_X11_body_120 h0 K n l1 M → Z X M 0 0 120 [(0, va_rf (some h0)), (1, .int l1)] [] := by
  intro n
  induction n with
  | zero =>
    intro l1 M h
    exact False.elim h
  | succ n hR120 =>
    intro l1 M h
    refine z_aload_n (r := (some h0)) hX dX11_body_120 rfl 0 rfl ?_
    obtain ⟨hk7, h⟩ := h
    refine z_callVI (As := []) (rest := []) (ci := 11) hX (ct_X11_good h) mw_RX11_190 rfl (by decide) rfl (by rfl) (by unfold RoomC; decide) (by decide) dX11_body_121 hk7 (fun r5 M6 h => ?_)
    obtain ⟨h1, h2⟩ := h
    refine z_if_eq (tgt := 224) hX dX11_body_124 (by decide) (fun hc => ?_) (fun hc => ?_)
    · have h := h1 hc
      refine z_loc [] rfl ?_
      exact zb_X11_body_224 hX hQ hnL h
    · have h := h2 hc
      refine z_aload_n (r := (some h0)) hX dX11_body_127 rfl 0 rfl ?_
      obtain ⟨hk9, h⟩ := h
      refine gf_RX11_45 (r := (some h0)) hX dX11_body_128 rfl hk9 ?_
      refine z_iload_n hX dX11_body_131 rfl 1 rfl ?_
      obtain ⟨a10, ha11, h⟩ := h
      obtain ⟨hk12, h⟩ := h
      obtain ⟨hc13, h⟩ := h
      refine y_iald (r := (mR M6 724 h0)) hX dX11_body_132 ha11 hk12 hc13 ?_
      refine z_iconst (v := (4 : Int32)) hX dX11_body_133 (by decide) ?_
      obtain ⟨h1, h2⟩ := h
      refine z_icmp_ge (tgt := 224) hX dX11_body_134 (by decide) (fun hc => ?_) (fun hc => ?_)
      · have h := h1 hc
        refine z_loc [] rfl ?_
        exact zb_X11_body_224 hX hQ hnL h
      · have h := h2 hc
        refine z_aload_n (r := (some h0)) hX dX11_body_137 rfl 0 rfl ?_
        refine z_callVI (As := []) (rest := []) (ci := 11) hX (ct_X11_isName h) mw_RX11_206 rfl (by decide) rfl (by rfl) (by unfold RoomC; decide) (by decide) dX11_body_138 hk9 (fun r14 M15 h => ?_)
        obtain ⟨h1, h2⟩ := h
        refine z_if_eq (tgt := 224) hX dX11_body_141 (by decide) (fun hc => ?_) (fun hc => ?_)
        · have h := h1 hc
          refine z_loc [] rfl ?_
          exact zb_X11_body_224 hX hQ hnL h
        · have h := h2 hc
          refine z_aload_n (r := (some h0)) hX dX11_body_144 rfl 0 rfl ?_
          refine z_iload_n hX dX11_body_145 rfl 1 rfl ?_
          obtain ⟨hk19, h⟩ := h
          refine z_callVV (As := [.int l1]) (rest := []) (ci := 11) hX (ct_X11_takeInput h) mw_RX11_222 rfl (by decide) rfl (by rfl) (by unfold RoomC; decide) (by decide) dX11_body_146 hk19 (fun M18 h => ?_)
          refine z_goto (tgt := 120) hX dX11_body_149 (by decide) ?_
          exact hR120 _ _ h
def bk_X11_body_16 (h0 : Nat) (K : Mm → Prop) (l1 : Int32) (s0 : Int32) (M : Mm) : Prop := (((s0).toInt < 0 ∨ 11 < (s0).toInt ∨ s0 = 1 ∨ s0 = 2 ∨ s0 = 3 ∨ s0 = 4 ∨ s0 = 9 ∨ s0 = 10 → (bk_X11_body_220 h0 K M)) ∧ (s0 = 0 → mK M h0 = 12 ∧ (wp_X11_next M h0 (fun M22 => mK M22 h0 = 12 ∧ ∃ a26, (mR M22 715 h0) = some a26 ∧ isA M22 a26 1 ∧ vp_in l1 (aN M22 a26) ∧ (wp_X11_source (tI M22 a26 (l1).toNatClampNeg (0 : Int32)) h0 l1 (fun M31 => (bk_X11_body_224 h0 K M31)))))) ∧ (s0 = 5 → mK M h0 = 12 ∧ (wp_X11_next M h0 (fun M34 => mK M34 h0 = 12 ∧ ∃ a38, (mR M34 715 h0) = some a38 ∧ isA M34 a38 1 ∧ vp_in l1 (aN M34 a38) ∧ (wp_X11_takeInput (tI M34 a38 (l1).toNatClampNeg (1 : Int32)) h0 l1 (fun M43 => mK M43 h0 = 12 ∧ (wp_X11_takeInput M43 h0 l1 (fun M46 => (∃ kk, lp_X11_body_120 h0 K kk l1 M46)))))))) ∧ (s0 = 6 → mK M h0 = 12 ∧ (wp_X11_next M h0 (fun M50 => mK M50 h0 = 12 ∧ ∃ a54, (mR M50 715 h0) = some a54 ∧ isA M50 a54 1 ∧ vp_in l1 (aN M50 a54) ∧ (wp_X11_takeInput (tI M50 a54 (l1).toNatClampNeg (2 : Int32)) h0 l1 (fun M59 => mK M59 h0 = 12 ∧ (wp_X11_takeNumber M59 h0 (0 : Int64) (9223372036854775807 : Int64) (fun r62 M63 => ∃ a65, (mR M59 720 h0) = some a65 ∧ isA M63 a65 2 ∧ vp_in l1 (aN M63 a65) ∧ (bk_X11_body_224 h0 K (tJ M63 a65 (l1).toNatClampNeg r62))))))))) ∧ (s0 = 7 → mK M h0 = 12 ∧ (wp_X11_next M h0 (fun M70 => mK M70 h0 = 12 ∧ ∃ a74, (mR M70 715 h0) = some a74 ∧ isA M70 a74 1 ∧ vp_in l1 (aN M70 a74) ∧ (wp_X11_takeInput (tI M70 a74 (l1).toNatClampNeg (3 : Int32)) h0 l1 (fun M79 => (bk_X11_body_224 h0 K M79)))))) ∧ (s0 = 8 → mK M h0 = 12 ∧ (wp_X11_join M h0 l1 (fun M82 => (bk_X11_body_224 h0 K M82)))) ∧ (s0 = 11 → mK M h0 = 12 ∧ (wp_X11_window M h0 l1 (fun M86 => (bk_X11_body_224 h0 K M86)))))
set_option maxRecDepth 100000 in
set_option maxHeartbeats 4000000 in
theorem zb_X11_body_16 {X : Cx} {h0 : Nat} {K : Mm → Prop} (hX : Ok X cX11_body RX11 rm_X11_body) (hQ : Rq X rm_X11_body none (QV K)) (hnL : X.2.2.2.2.2.2.2.2.2.2.2.2.2.2 = 2) {l1 : Int32} {s0 : Int32} {M : Mm} (h : bk_X11_body_16 h0 K l1 s0 M) : Z X M 0 0 16 [(0, va_rf (some h0)), (1, .int l1)] [.int s0] := by
  unfold bk_X11_body_16 at h
  obtain ⟨hD, h1, h2, h3, h4, h5, h6⟩ := h
  by_cases hlo : (s0).toInt < 0 ∨ 11 < (s0).toInt
  · have h := hD (hlo.elim Or.inl (fun q => Or.inr (Or.inl q)))
    refine z_tswD (tgt := 220) hX dX11_body_16 hlo (by decide) ?_
    refine z_loc [0] rfl ?_
    exact zb_X11_body_220 hX hQ hnL h
  · rcases (show (s0).toInt = 0 ∨ (s0).toInt = 1 ∨ (s0).toInt = 2 ∨ (s0).toInt = 3 ∨ (s0).toInt = 4 ∨ (s0).toInt = 5 ∨ (s0).toInt = 6 ∨ (s0).toInt = 7 ∨ (s0).toInt = 8 ∨ (s0).toInt = 9 ∨ (s0).toInt = 10 ∨ (s0).toInt = 11 by omega) with hj | hj | hj | hj | hj | hj | hj | hj | hj | hj | hj | hj
    · have hx9 : s0 = 0 := Int32.toInt_inj.mp (by rw [hj]; rfl)
      have h := h1 hx9
      refine z_tswI (off := 64) (tgt := 80) hX dX11_body_16 (by rw [hx9]; decide) (by rw [hx9]; decide) (by rw [hx9]; rfl) (by decide) ?_
      refine z_aload_n (r := (some h0)) hX dX11_body_80 rfl 0 rfl ?_
      obtain ⟨hk23, h⟩ := h
      refine z_callVV (As := []) (rest := []) (ci := 11) hX (ct_X11_next h) mw_RX11_200 rfl (by decide) rfl (by rfl) (by unfold RoomC; decide) (by decide) dX11_body_81 hk23 (fun M22 h => ?_)
      refine z_aload_n (r := (some h0)) hX dX11_body_84 rfl 0 rfl ?_
      obtain ⟨hk25, h⟩ := h
      refine gf_RX11_15 (r := (some h0)) hX dX11_body_85 rfl hk25 ?_
      refine z_iload_n hX dX11_body_88 rfl 1 rfl ?_
      refine z_iconst (v := (0 : Int32)) hX dX11_body_89 (by decide) ?_
      obtain ⟨a26, ha27, h⟩ := h
      obtain ⟨hk28, h⟩ := h
      obtain ⟨hc29, h⟩ := h
      refine y_iast (r := (mR M22 715 h0)) hX dX11_body_90 ha27 hk28 hc29 ?_
      refine z_aload_n (r := (some h0)) hX dX11_body_91 rfl 0 rfl ?_
      refine z_iload_n hX dX11_body_92 rfl 1 rfl ?_
      refine z_callVV (As := [.int l1]) (rest := []) (ci := 11) hX (ct_X11_source h) mw_RX11_219 rfl (by decide) rfl (by rfl) (by unfold RoomC; decide) (by decide) dX11_body_93 hk25 (fun M31 h => ?_)
      refine z_goto (tgt := 224) hX dX11_body_96 (by decide) ?_
      refine z_loc [] rfl ?_
      exact zb_X11_body_224 hX hQ hnL h
    · have hx9 : s0 = 1 := Int32.toInt_inj.mp (by rw [hj]; rfl)
      have h := hD (Or.inr (Or.inr (Or.inl hx9)))
      refine z_tswI (off := 204) (tgt := 220) hX dX11_body_16 (by rw [hx9]; decide) (by rw [hx9]; decide) (by rw [hx9]; rfl) (by decide) ?_
      refine z_loc [0] rfl ?_
      exact zb_X11_body_220 hX hQ hnL h
    · have hx9 : s0 = 2 := Int32.toInt_inj.mp (by rw [hj]; rfl)
      have h := hD (Or.inr (Or.inr (Or.inr (Or.inl hx9))))
      refine z_tswI (off := 204) (tgt := 220) hX dX11_body_16 (by rw [hx9]; decide) (by rw [hx9]; decide) (by rw [hx9]; rfl) (by decide) ?_
      refine z_loc [0] rfl ?_
      exact zb_X11_body_220 hX hQ hnL h
    · have hx9 : s0 = 3 := Int32.toInt_inj.mp (by rw [hj]; rfl)
      have h := hD (Or.inr (Or.inr (Or.inr (Or.inr (Or.inl hx9)))))
      refine z_tswI (off := 204) (tgt := 220) hX dX11_body_16 (by rw [hx9]; decide) (by rw [hx9]; decide) (by rw [hx9]; rfl) (by decide) ?_
      refine z_loc [0] rfl ?_
      exact zb_X11_body_220 hX hQ hnL h
    · have hx9 : s0 = 4 := Int32.toInt_inj.mp (by rw [hj]; rfl)
      have h := hD (Or.inr (Or.inr (Or.inr (Or.inr (Or.inr (Or.inl hx9))))))
      refine z_tswI (off := 204) (tgt := 220) hX dX11_body_16 (by rw [hx9]; decide) (by rw [hx9]; decide) (by rw [hx9]; rfl) (by decide) ?_
      refine z_loc [0] rfl ?_
      exact zb_X11_body_220 hX hQ hnL h
    · have hx9 : s0 = 5 := Int32.toInt_inj.mp (by rw [hj]; rfl)
      have h := h2 hx9
      refine z_tswI (off := 83) (tgt := 99) hX dX11_body_16 (by rw [hx9]; decide) (by rw [hx9]; decide) (by rw [hx9]; rfl) (by decide) ?_
      refine z_aload_n (r := (some h0)) hX dX11_body_99 rfl 0 rfl ?_
      obtain ⟨hk35, h⟩ := h
      refine z_callVV (As := []) (rest := []) (ci := 11) hX (ct_X11_next h) mw_RX11_200 rfl (by decide) rfl (by rfl) (by unfold RoomC; decide) (by decide) dX11_body_100 hk35 (fun M34 h => ?_)
      refine z_aload_n (r := (some h0)) hX dX11_body_103 rfl 0 rfl ?_
      obtain ⟨hk37, h⟩ := h
      refine gf_RX11_15 (r := (some h0)) hX dX11_body_104 rfl hk37 ?_
      refine z_iload_n hX dX11_body_107 rfl 1 rfl ?_
      refine z_iconst (v := (1 : Int32)) hX dX11_body_108 (by decide) ?_
      obtain ⟨a38, ha39, h⟩ := h
      obtain ⟨hk40, h⟩ := h
      obtain ⟨hc41, h⟩ := h
      refine y_iast (r := (mR M34 715 h0)) hX dX11_body_109 ha39 hk40 hc41 ?_
      refine z_aload_n (r := (some h0)) hX dX11_body_110 rfl 0 rfl ?_
      refine z_iload_n hX dX11_body_111 rfl 1 rfl ?_
      refine z_callVV (As := [.int l1]) (rest := []) (ci := 11) hX (ct_X11_takeInput h) mw_RX11_222 rfl (by decide) rfl (by rfl) (by unfold RoomC; decide) (by decide) dX11_body_112 hk37 (fun M43 h => ?_)
      refine z_aload_n (r := (some h0)) hX dX11_body_115 rfl 0 rfl ?_
      refine z_iload_n hX dX11_body_116 rfl 1 rfl ?_
      obtain ⟨hk47, h⟩ := h
      refine z_callVV (As := [.int l1]) (rest := []) (ci := 11) hX (ct_X11_takeInput h) mw_RX11_222 rfl (by decide) rfl (by rfl) (by unfold RoomC; decide) (by decide) dX11_body_117 hk47 (fun M46 h => ?_)
      obtain ⟨n, h⟩ := h
      exact zl_X11_body_120 hX hQ hnL n _ _ h
    · have hx9 : s0 = 6 := Int32.toInt_inj.mp (by rw [hj]; rfl)
      have h := h3 hx9
      refine z_tswI (off := 136) (tgt := 152) hX dX11_body_16 (by rw [hx9]; decide) (by rw [hx9]; decide) (by rw [hx9]; rfl) (by decide) ?_
      refine z_aload_n (r := (some h0)) hX dX11_body_152 rfl 0 rfl ?_
      obtain ⟨hk51, h⟩ := h
      refine z_callVV (As := []) (rest := []) (ci := 11) hX (ct_X11_next h) mw_RX11_200 rfl (by decide) rfl (by rfl) (by unfold RoomC; decide) (by decide) dX11_body_153 hk51 (fun M50 h => ?_)
      refine z_aload_n (r := (some h0)) hX dX11_body_156 rfl 0 rfl ?_
      obtain ⟨hk53, h⟩ := h
      refine gf_RX11_15 (r := (some h0)) hX dX11_body_157 rfl hk53 ?_
      refine z_iload_n hX dX11_body_160 rfl 1 rfl ?_
      refine z_iconst (v := (2 : Int32)) hX dX11_body_161 (by decide) ?_
      obtain ⟨a54, ha55, h⟩ := h
      obtain ⟨hk56, h⟩ := h
      obtain ⟨hc57, h⟩ := h
      refine y_iast (r := (mR M50 715 h0)) hX dX11_body_162 ha55 hk56 hc57 ?_
      refine z_aload_n (r := (some h0)) hX dX11_body_163 rfl 0 rfl ?_
      refine z_iload_n hX dX11_body_164 rfl 1 rfl ?_
      refine z_callVV (As := [.int l1]) (rest := []) (ci := 11) hX (ct_X11_takeInput h) mw_RX11_222 rfl (by decide) rfl (by rfl) (by unfold RoomC; decide) (by decide) dX11_body_165 hk53 (fun M59 h => ?_)
      refine z_aload_n (r := (some h0)) hX dX11_body_168 rfl 0 rfl ?_
      obtain ⟨hk61, h⟩ := h
      refine gf_RX11_33 (r := (some h0)) hX dX11_body_169 rfl hk61 ?_
      refine z_iload_n hX dX11_body_172 rfl 1 rfl ?_
      refine z_aload_n (r := (some h0)) hX dX11_body_173 rfl 0 rfl ?_
      refine z_lconst (v := (0 : Int64)) hX dX11_body_174 (by decide) ?_
      refine z_ldc2 (v := (9223372036854775807 : Int64)) hX dX11_body_175 kj_RX11_225 ?_
      refine z_callVJ (As := [.long (0 : Int64), .long (9223372036854775807 : Int64)]) (rest := [.int l1, va_rf (mR M59 720 h0)]) (ci := 11) hX (ct_X11_takeNumber h) mw_RX11_227 rfl (by decide) rfl (by rfl) (by unfold RoomC; decide) (by simp only [List.map_cons, List.map_nil, List.sum_cons, List.sum_nil, cat_rf, cat_i, cat_j]; decide) dX11_body_178 hk61 (fun r62 M63 h => ?_)
      obtain ⟨a65, ha66, h⟩ := h
      obtain ⟨hk67, h⟩ := h
      obtain ⟨hc68, h⟩ := h
      refine y_last (r := (mR M59 720 h0)) hX dX11_body_181 ha66 hk67 hc68 ?_
      refine z_goto (tgt := 224) hX dX11_body_182 (by decide) ?_
      refine z_loc [] rfl ?_
      exact zb_X11_body_224 hX hQ hnL h
    · have hx9 : s0 = 7 := Int32.toInt_inj.mp (by rw [hj]; rfl)
      have h := h4 hx9
      refine z_tswI (off := 169) (tgt := 185) hX dX11_body_16 (by rw [hx9]; decide) (by rw [hx9]; decide) (by rw [hx9]; rfl) (by decide) ?_
      refine z_aload_n (r := (some h0)) hX dX11_body_185 rfl 0 rfl ?_
      obtain ⟨hk71, h⟩ := h
      refine z_callVV (As := []) (rest := []) (ci := 11) hX (ct_X11_next h) mw_RX11_200 rfl (by decide) rfl (by rfl) (by unfold RoomC; decide) (by decide) dX11_body_186 hk71 (fun M70 h => ?_)
      refine z_aload_n (r := (some h0)) hX dX11_body_189 rfl 0 rfl ?_
      obtain ⟨hk73, h⟩ := h
      refine gf_RX11_15 (r := (some h0)) hX dX11_body_190 rfl hk73 ?_
      refine z_iload_n hX dX11_body_193 rfl 1 rfl ?_
      refine z_iconst (v := (3 : Int32)) hX dX11_body_194 (by decide) ?_
      obtain ⟨a74, ha75, h⟩ := h
      obtain ⟨hk76, h⟩ := h
      obtain ⟨hc77, h⟩ := h
      refine y_iast (r := (mR M70 715 h0)) hX dX11_body_195 ha75 hk76 hc77 ?_
      refine z_aload_n (r := (some h0)) hX dX11_body_196 rfl 0 rfl ?_
      refine z_iload_n hX dX11_body_197 rfl 1 rfl ?_
      refine z_callVV (As := [.int l1]) (rest := []) (ci := 11) hX (ct_X11_takeInput h) mw_RX11_222 rfl (by decide) rfl (by rfl) (by unfold RoomC; decide) (by decide) dX11_body_198 hk73 (fun M79 h => ?_)
      refine z_goto (tgt := 224) hX dX11_body_201 (by decide) ?_
      refine z_loc [] rfl ?_
      exact zb_X11_body_224 hX hQ hnL h
    · have hx9 : s0 = 8 := Int32.toInt_inj.mp (by rw [hj]; rfl)
      have h := h5 hx9
      refine z_tswI (off := 188) (tgt := 204) hX dX11_body_16 (by rw [hx9]; decide) (by rw [hx9]; decide) (by rw [hx9]; rfl) (by decide) ?_
      refine z_aload_n (r := (some h0)) hX dX11_body_204 rfl 0 rfl ?_
      refine z_iload_n hX dX11_body_205 rfl 1 rfl ?_
      obtain ⟨hk83, h⟩ := h
      refine z_callVV (As := [.int l1]) (rest := []) (ci := 11) hX (ct_X11_join h) mw_RX11_231 rfl (by decide) rfl (by rfl) (by unfold RoomC; decide) (by decide) dX11_body_206 hk83 (fun M82 h => ?_)
      refine z_goto (tgt := 224) hX dX11_body_209 (by decide) ?_
      refine z_loc [] rfl ?_
      exact zb_X11_body_224 hX hQ hnL h
    · have hx9 : s0 = 9 := Int32.toInt_inj.mp (by rw [hj]; rfl)
      have h := hD (Or.inr (Or.inr (Or.inr (Or.inr (Or.inr (Or.inr (Or.inl hx9)))))))
      refine z_tswI (off := 204) (tgt := 220) hX dX11_body_16 (by rw [hx9]; decide) (by rw [hx9]; decide) (by rw [hx9]; rfl) (by decide) ?_
      refine z_loc [0] rfl ?_
      exact zb_X11_body_220 hX hQ hnL h
    · have hx9 : s0 = 10 := Int32.toInt_inj.mp (by rw [hj]; rfl)
      have h := hD (Or.inr (Or.inr (Or.inr (Or.inr (Or.inr (Or.inr (Or.inr (hx9))))))))
      refine z_tswI (off := 204) (tgt := 220) hX dX11_body_16 (by rw [hx9]; decide) (by rw [hx9]; decide) (by rw [hx9]; rfl) (by decide) ?_
      refine z_loc [0] rfl ?_
      exact zb_X11_body_220 hX hQ hnL h
    · have hx9 : s0 = 11 := Int32.toInt_inj.mp (by rw [hj]; rfl)
      have h := h6 hx9
      refine z_tswI (off := 196) (tgt := 212) hX dX11_body_16 (by rw [hx9]; decide) (by rw [hx9]; decide) (by rw [hx9]; rfl) (by decide) ?_
      refine z_aload_n (r := (some h0)) hX dX11_body_212 rfl 0 rfl ?_
      refine z_iload_n hX dX11_body_213 rfl 1 rfl ?_
      obtain ⟨hk87, h⟩ := h
      refine z_callVV (As := [.int l1]) (rest := []) (ci := 11) hX (ct_X11_window h) mw_RX11_234 rfl (by decide) rfl (by rfl) (by unfold RoomC; decide) (by decide) dX11_body_214 hk87 (fun M86 h => ?_)
      refine z_goto (tgt := 224) hX dX11_body_217 (by decide) ?_
      refine z_loc [] rfl ?_
      exact zb_X11_body_224 hX hQ hnL h
def wp_X11_body (M : Mm) (h0 : Nat) (p1 : Int32) (K : Mm → Prop) : Prop := mK M h0 = 12 ∧ ((¬ (mI M 708 h0) = (1 : Int32) → (bk_X11_body_16 h0 K p1 (-1 : Int32) M)) ∧ ((mI M 708 h0) = (1 : Int32) → (bk_X11_body_16 h0 K p1 (mI M 711 h0) M)))
set_option maxRecDepth 100000 in
set_option maxHeartbeats 4000000 in
theorem ct_X11_body {M : Mm} {h0 : Nat} {p1 : Int32} {K : Mm → Prop} (h : wp_X11_body M h0 p1 K) : CtV yX11_body cX11_body 2 none rm_X11_body [.ref h0, .int p1] M K := by
  refine ct_any (QV K) (by decide) (by exact Nat.le_of_ble_eq_true rfl) (fun X hX hQ hnL hnm => ?_)
  rw [show lv_args 0 [.ref h0, .int p1] = [(0, va_rf (some h0)), (1, .int p1)] by rfl]
  have hX : Ok X cX11_body RX11 rm_X11_body := hX
  unfold wp_X11_body at h
  refine z_aload_n (r := (some h0)) hX dX11_body_0 rfl 0 rfl ?_
  obtain ⟨hk89, h⟩ := h
  refine gf_RX11_147 (r := (some h0)) hX dX11_body_1 rfl hk89 ?_
  refine z_iconst (v := (1 : Int32)) hX dX11_body_4 (by decide) ?_
  obtain ⟨h1, h2⟩ := h
  refine z_icmp_ne (tgt := 15) hX dX11_body_5 (by decide) (fun hc => ?_) (fun hc => ?_)
  · have h := h1 hc
    refine z_iconst (v := (-1 : Int32)) hX dX11_body_15 (by decide) ?_
    exact zb_X11_body_16 hX hQ hnL h
  · have h := h2 hc
    refine z_aload_n (r := (some h0)) hX dX11_body_8 rfl 0 rfl ?_
    refine gf_RX11_144 (r := (some h0)) hX dX11_body_9 rfl hk89 ?_
    refine z_goto (tgt := 16) hX dX11_body_12 (by decide) ?_
    exact zb_X11_body_16 hX hQ hnL h
def rm_X11_reckon : Room := { frames := 309, cells := 0, slots := 0, locals := 12214 }
def bk_X11_reckon_168 (h0 : Nat) (R2 : Int32 → Mm → Prop) (K : Mm → Prop) (l1 : Int32) (M : Mm) : Prop := (R2 (l1 + 1) M)
set_option maxRecDepth 100000 in
set_option maxHeartbeats 4000000 in
theorem zb_X11_reckon_168 {X : Cx} {h0 : Nat} {R2 : Int32 → Mm → Prop} {K : Mm → Prop} (hX : Ok X cX11_reckon RX11 rm_X11_reckon) (hQ : Rq X rm_X11_reckon none (QV K)) (hnL : X.2.2.2.2.2.2.2.2.2.2.2.2.2.2 = 4) (hR2 : ∀ l1 M, R2 l1 M → Z X M 0 0 2 [(0, va_rf (some h0)), (1, .int l1)] []) {l1 : Int32} {M : Mm} (h : bk_X11_reckon_168 h0 R2 K l1 M) : Z X M 0 0 168 [(0, va_rf (some h0)), (1, .int l1)] [] := by
  unfold bk_X11_reckon_168 at h
  refine z_iinc (v := (l1 + 1)) hX [(1, .int (l1 + 1)), (0, va_rf (some h0))] dX11_reckon_168 1 rfl rfl (by rw [hnL]; decide) rfl ?_
  refine z_goto (tgt := 2) hX dX11_reckon_171 (by decide) ?_
  refine z_loc [1, 0] rfl ?_
  exact hR2 _ _ h
def bk_X11_reckon_156 (h0 : Nat) (R2 : Int32 → Mm → Prop) (R91 : Int32 → Int32 → Mm → Prop) (R118 : Int32 → Int32 → Int32 → Mm → Prop) (K : Mm → Prop) (l1 : Int32) (l2 : Int32) (l3 : Int32) (M : Mm) : Prop := (R118 l1 l2 (l3 + (-1)) M)
set_option maxRecDepth 100000 in
set_option maxHeartbeats 4000000 in
theorem zb_X11_reckon_156 {X : Cx} {h0 : Nat} {R2 : Int32 → Mm → Prop} {R91 : Int32 → Int32 → Mm → Prop} {R118 : Int32 → Int32 → Int32 → Mm → Prop} {K : Mm → Prop} (hX : Ok X cX11_reckon RX11 rm_X11_reckon) (hQ : Rq X rm_X11_reckon none (QV K)) (hnL : X.2.2.2.2.2.2.2.2.2.2.2.2.2.2 = 4) (hR2 : ∀ l1 M, R2 l1 M → Z X M 0 0 2 [(0, va_rf (some h0)), (1, .int l1)] []) (hR91 : ∀ l1 l2 M, R91 l1 l2 M → Z X M 0 0 91 [(0, va_rf (some h0)), (1, .int l1), (2, .int l2)] []) (hR118 : ∀ l1 l2 l3 M, R118 l1 l2 l3 M → Z X M 0 0 118 [(0, va_rf (some h0)), (1, .int l1), (2, .int l2), (3, .int l3)] []) {l1 : Int32} {l2 : Int32} {l3 : Int32} {M : Mm} (h : bk_X11_reckon_156 h0 R2 R91 R118 K l1 l2 l3 M) : Z X M 0 0 156 [(0, va_rf (some h0)), (1, .int l1), (2, .int l2), (3, .int l3)] [] := by
  unfold bk_X11_reckon_156 at h
  refine z_iinc (v := (l3 + (-1))) hX [(3, .int (l3 + (-1))), (0, va_rf (some h0)), (1, .int l1), (2, .int l2)] dX11_reckon_156 3 rfl rfl (by rw [hnL]; decide) rfl ?_
  refine z_goto (tgt := 118) hX dX11_reckon_159 (by decide) ?_
  refine z_loc [1, 2, 3, 0] rfl ?_
  exact hR118 _ _ _ _ h
def lp_X11_reckon_118 (h0 : Nat) (R2 : Int32 → Mm → Prop) (R91 : Int32 → Int32 → Mm → Prop) (K : Mm → Prop) : Nat → Int32 → Int32 → Int32 → Mm → Prop
  | 0, _, _, _, _ => False
  | n + 1, l1, l2, l3, M => ((l3 < 0 → (R91 l1 (l2 + 1) M)) ∧ (¬ l3 < 0 → mK M h0 = 12 ∧ ∃ a2, (mR M 749 h0) = some a2 ∧ isA M a2 2 ∧ vp_in (((6 : Int32) * (((2 : Int32) * l1) + l2)) + l3) (aN M a2) ∧ (wp_X11_isFar M h0 l1 l2 (aJ M a2 ((((6 : Int32) * (((2 : Int32) * l1) + l2)) + l3)).toNatClampNeg) (fun r6 M7 => ((r6 = 0 → (bk_X11_reckon_156 h0 R2 R91 (lp_X11_reckon_118 h0 R2 R91 K n) K l1 l2 l3 M7)) ∧ (¬ r6 = 0 → mK M7 h0 = 12 ∧ (wp_X11_drop M7 h0 (((2 : Int32) * l1) + l2) l3 (fun M10 => (bk_X11_reckon_156 h0 R2 R91 (lp_X11_reckon_118 h0 R2 R91 K n) K l1 l2 l3 M10)))))))))
set_option maxRecDepth 100000 in
set_option maxHeartbeats 4000000 in
theorem zl_X11_reckon_118 {X : Cx} {h0 : Nat} {R2 : Int32 → Mm → Prop} {R91 : Int32 → Int32 → Mm → Prop} {K : Mm → Prop} (hX : Ok X cX11_reckon RX11 rm_X11_reckon) (hQ : Rq X rm_X11_reckon none (QV K)) (hnL : X.2.2.2.2.2.2.2.2.2.2.2.2.2.2 = 4) (hR2 : ∀ l1 M, R2 l1 M → Z X M 0 0 2 [(0, va_rf (some h0)), (1, .int l1)] []) (hR91 : ∀ l1 l2 M, R91 l1 l2 M → Z X M 0 0 91 [(0, va_rf (some h0)), (1, .int l1), (2, .int l2)] []) : ∀ (n : Nat) (l1 : Int32) (l2 : Int32) (l3 : Int32) (M : Mm), lp_X11_reckon_118 h0 R2 R91 K n l1 l2 l3 M → Z X M 0 0 118 [(0, va_rf (some h0)), (1, .int l1), (2, .int l2), (3, .int l3)] [] := by
  intro n
  induction n with
  | zero =>
    intro l1 l2 l3 M h
    exact False.elim h
  | succ n hR118 =>
    intro l1 l2 l3 M h
    refine z_iload_n hX dX11_reckon_118 rfl 3 rfl ?_
    obtain ⟨h1, h2⟩ := h
    refine z_if_lt (tgt := 162) hX dX11_reckon_119 (by decide) (fun hc => ?_) (fun hc => ?_)
    · have h := h1 hc
      refine z_iinc (v := (l2 + 1)) hX [(2, .int (l2 + 1)), (0, va_rf (some h0)), (1, .int l1), (3, .int l3)] dX11_reckon_162 2 rfl rfl (by rw [hnL]; decide) rfl ?_
      refine z_goto (tgt := 91) hX dX11_reckon_165 (by decide) ?_
      refine z_loc [1, 2, 0] rfl ?_
      exact hR91 _ _ _ h
    · have h := h2 hc
      refine z_aload_n (r := (some h0)) hX dX11_reckon_122 rfl 0 rfl ?_
      refine z_iload_n hX dX11_reckon_123 rfl 1 rfl ?_
      refine z_iload_n hX dX11_reckon_124 rfl 2 rfl ?_
      refine z_aload_n (r := (some h0)) hX dX11_reckon_125 rfl 0 rfl ?_
      obtain ⟨hk1, h⟩ := h
      refine gf_RX11_99 (r := (some h0)) hX dX11_reckon_126 rfl hk1 ?_
      refine z_bipush (v := (6 : Int32)) hX dX11_reckon_129 (by decide) ?_
      refine z_iconst (v := (2 : Int32)) hX dX11_reckon_131 (by decide) ?_
      refine z_iload_n hX dX11_reckon_132 rfl 1 rfl ?_
      refine z_imul hX dX11_reckon_133 ?_
      refine z_iload_n hX dX11_reckon_134 rfl 2 rfl ?_
      refine z_iadd hX dX11_reckon_135 ?_
      refine z_imul hX dX11_reckon_136 ?_
      refine z_iload_n hX dX11_reckon_137 rfl 3 rfl ?_
      refine z_iadd hX dX11_reckon_138 ?_
      obtain ⟨a2, ha3, h⟩ := h
      obtain ⟨hk4, h⟩ := h
      obtain ⟨hc5, h⟩ := h
      refine y_lald (r := (mR M 749 h0)) hX dX11_reckon_139 ha3 hk4 hc5 ?_
      refine z_callVI (As := [.int l1, .int l2, .long (aJ M a2 ((((6 : Int32) * (((2 : Int32) * l1) + l2)) + l3)).toNatClampNeg)]) (rest := []) (ci := 11) hX (ct_X11_isFar h) mw_RX11_339 rfl (by decide) rfl (by rfl) (by unfold RoomC; decide) (by decide) dX11_reckon_140 hk1 (fun r6 M7 h => ?_)
      obtain ⟨h1, h2⟩ := h
      refine z_if_eq (tgt := 156) hX dX11_reckon_143 (by decide) (fun hc => ?_) (fun hc => ?_)
      · have h := h1 hc
        exact zb_X11_reckon_156 hX hQ hnL hR2 hR91 hR118 h
      · have h := h2 hc
        refine z_aload_n (r := (some h0)) hX dX11_reckon_146 rfl 0 rfl ?_
        refine z_iconst (v := (2 : Int32)) hX dX11_reckon_147 (by decide) ?_
        refine z_iload_n hX dX11_reckon_148 rfl 1 rfl ?_
        refine z_imul hX dX11_reckon_149 ?_
        refine z_iload_n hX dX11_reckon_150 rfl 2 rfl ?_
        refine z_iadd hX dX11_reckon_151 ?_
        refine z_iload_n hX dX11_reckon_152 rfl 3 rfl ?_
        obtain ⟨hk11, h⟩ := h
        refine z_callVV (As := [.int (((2 : Int32) * l1) + l2), .int l3]) (rest := []) (ci := 11) hX (ct_X11_drop h) mw_RX11_343 rfl (by decide) rfl (by rfl) (by unfold RoomC; decide) (by decide) dX11_reckon_153 hk11 (fun M10 h => ?_)
        exact zb_X11_reckon_156 hX hQ hnL hR2 hR91 hR118 h
def lp_X11_reckon_91 (h0 : Nat) (R2 : Int32 → Mm → Prop) (K : Mm → Prop) : Nat → Int32 → Int32 → Mm → Prop
  | 0, _, _, _ => False
  | n + 1, l1, l2, M => (((2 : Int32) ≤ l2 → (bk_X11_reckon_168 h0 R2 K l1 M)) ∧ (¬ (2 : Int32) ≤ l2 → mK M h0 = 12 ∧ (wp_X11_kindOf M h0 l1 (fun r13 M14 => ((¬ r13 = (4 : Int32) → (bk_X11_reckon_168 h0 R2 K l1 M14)) ∧ (r13 = (4 : Int32) → mK M14 h0 = 12 ∧ ∃ a18, (mR M14 748 h0) = some a18 ∧ isA M14 a18 1 ∧ vp_in (((2 : Int32) * l1) + l2) (aN M14 a18) ∧ (∃ kk, lp_X11_reckon_118 h0 R2 (lp_X11_reckon_91 h0 R2 K n) K kk l1 l2 ((aI M14 a18 ((((2 : Int32) * l1) + l2)).toNatClampNeg) - (1 : Int32)) M14)))))))
set_option maxRecDepth 100000 in
set_option maxHeartbeats 4000000 in
theorem zl_X11_reckon_91 {X : Cx} {h0 : Nat} {R2 : Int32 → Mm → Prop} {K : Mm → Prop} (hX : Ok X cX11_reckon RX11 rm_X11_reckon) (hQ : Rq X rm_X11_reckon none (QV K)) (hnL : X.2.2.2.2.2.2.2.2.2.2.2.2.2.2 = 4) (hR2 : ∀ l1 M, R2 l1 M → Z X M 0 0 2 [(0, va_rf (some h0)), (1, .int l1)] []) : ∀ (n : Nat) (l1 : Int32) (l2 : Int32) (M : Mm), lp_X11_reckon_91 h0 R2 K n l1 l2 M → Z X M 0 0 91 [(0, va_rf (some h0)), (1, .int l1), (2, .int l2)] [] := by
  intro n
  induction n with
  | zero =>
    intro l1 l2 M h
    exact False.elim h
  | succ n hR91 =>
    intro l1 l2 M h
    refine z_iload_n hX dX11_reckon_91 rfl 2 rfl ?_
    refine z_iconst (v := (2 : Int32)) hX dX11_reckon_92 (by decide) ?_
    obtain ⟨h1, h2⟩ := h
    refine z_icmp_ge (tgt := 168) hX dX11_reckon_93 (by decide) (fun hc => ?_) (fun hc => ?_)
    · have h := h1 hc
      refine z_loc [0, 1] rfl ?_
      exact zb_X11_reckon_168 hX hQ hnL hR2 h
    · have h := h2 hc
      refine z_aload_n (r := (some h0)) hX dX11_reckon_96 rfl 0 rfl ?_
      refine z_iload_n hX dX11_reckon_97 rfl 1 rfl ?_
      obtain ⟨hk15, h⟩ := h
      refine z_callVI (As := [.int l1]) (rest := []) (ci := 11) hX (ct_X11_kindOf h) mw_RX11_308 rfl (by decide) rfl (by rfl) (by unfold RoomC; decide) (by decide) dX11_reckon_98 hk15 (fun r13 M14 h => ?_)
      refine z_iconst (v := (4 : Int32)) hX dX11_reckon_101 (by decide) ?_
      obtain ⟨h1, h2⟩ := h
      refine z_icmp_ne (tgt := 168) hX dX11_reckon_102 (by decide) (fun hc => ?_) (fun hc => ?_)
      · have h := h1 hc
        refine z_loc [0, 1] rfl ?_
        exact zb_X11_reckon_168 hX hQ hnL hR2 h
      · have h := h2 hc
        refine z_aload_n (r := (some h0)) hX dX11_reckon_105 rfl 0 rfl ?_
        obtain ⟨hk17, h⟩ := h
        refine gf_RX11_96 (r := (some h0)) hX dX11_reckon_106 rfl hk17 ?_
        refine z_iconst (v := (2 : Int32)) hX dX11_reckon_109 (by decide) ?_
        refine z_iload_n hX dX11_reckon_110 rfl 1 rfl ?_
        refine z_imul hX dX11_reckon_111 ?_
        refine z_iload_n hX dX11_reckon_112 rfl 2 rfl ?_
        refine z_iadd hX dX11_reckon_113 ?_
        obtain ⟨a18, ha19, h⟩ := h
        obtain ⟨hk20, h⟩ := h
        obtain ⟨hc21, h⟩ := h
        refine y_iald (r := (mR M14 748 h0)) hX dX11_reckon_114 ha19 hk20 hc21 ?_
        refine z_iconst (v := (1 : Int32)) hX dX11_reckon_115 (by decide) ?_
        refine z_isub hX dX11_reckon_116 ?_
        refine z_istore_n hX [(3, .int ((aI M14 a18 ((((2 : Int32) * l1) + l2)).toNatClampNeg) - (1 : Int32))), (0, va_rf (some h0)), (1, .int l1), (2, .int l2)] dX11_reckon_117 rfl (by rw [hnL]; decide) rfl ?_
        refine z_loc [1, 2, 3, 0] rfl ?_
        obtain ⟨n, h⟩ := h
        exact zl_X11_reckon_118 hX hQ hnL hR2 hR91 n _ _ _ _ h
def bk_X11_reckon_89 (h0 : Nat) (R2 : Int32 → Mm → Prop) (K : Mm → Prop) (l1 : Int32) (M : Mm) : Prop := (∃ kk, lp_X11_reckon_91 h0 R2 K kk l1 (0 : Int32) M)
set_option maxRecDepth 100000 in
set_option maxHeartbeats 4000000 in
theorem zb_X11_reckon_89 {X : Cx} {h0 : Nat} {R2 : Int32 → Mm → Prop} {K : Mm → Prop} (hX : Ok X cX11_reckon RX11 rm_X11_reckon) (hQ : Rq X rm_X11_reckon none (QV K)) (hnL : X.2.2.2.2.2.2.2.2.2.2.2.2.2.2 = 4) (hR2 : ∀ l1 M, R2 l1 M → Z X M 0 0 2 [(0, va_rf (some h0)), (1, .int l1)] []) {l1 : Int32} {M : Mm} (h : bk_X11_reckon_89 h0 R2 K l1 M) : Z X M 0 0 89 [(0, va_rf (some h0)), (1, .int l1)] [] := by
  unfold bk_X11_reckon_89 at h
  refine z_iconst (v := (0 : Int32)) hX dX11_reckon_89 (by decide) ?_
  refine z_istore_n hX [(2, .int (0 : Int32)), (0, va_rf (some h0)), (1, .int l1)] dX11_reckon_90 rfl (by rw [hnL]; decide) rfl ?_
  refine z_loc [1, 2, 0] rfl ?_
  obtain ⟨n, h⟩ := h
  exact zl_X11_reckon_91 hX hQ hnL hR2 n _ _ _ h
def bk_X11_reckon_74 (h0 : Nat) (R2 : Int32 → Mm → Prop) (K : Mm → Prop) (l1 : Int32) (s0 : Int64) (s1 : Int32) (s2 : Option Nat) (M : Mm) : Prop := ∃ a22, s2 = some a22 ∧ isA M a22 2 ∧ vp_in s1 (aN M a22) ∧ mK (tJ M a22 (s1).toNatClampNeg s0) h0 = 12 ∧ (wp_X11_kindOf (tJ M a22 (s1).toNatClampNeg s0) h0 l1 (fun r26 M27 => ((¬ r26 = (5 : Int32) → (bk_X11_reckon_89 h0 R2 K l1 M27)) ∧ (r26 = (5 : Int32) → mK M27 h0 = 12 ∧ (wp_X11_close M27 h0 l1 (fun M31 => (bk_X11_reckon_89 h0 R2 K l1 M31)))))))
set_option maxRecDepth 100000 in
set_option maxHeartbeats 4000000 in
theorem zb_X11_reckon_74 {X : Cx} {h0 : Nat} {R2 : Int32 → Mm → Prop} {K : Mm → Prop} (hX : Ok X cX11_reckon RX11 rm_X11_reckon) (hQ : Rq X rm_X11_reckon none (QV K)) (hnL : X.2.2.2.2.2.2.2.2.2.2.2.2.2.2 = 4) (hR2 : ∀ l1 M, R2 l1 M → Z X M 0 0 2 [(0, va_rf (some h0)), (1, .int l1)] []) {l1 : Int32} {s0 : Int64} {s1 : Int32} {s2 : Option Nat} {M : Mm} (h : bk_X11_reckon_74 h0 R2 K l1 s0 s1 s2 M) : Z X M 0 0 74 [(0, va_rf (some h0)), (1, .int l1)] [.long s0, .int s1, va_rf s2] := by
  unfold bk_X11_reckon_74 at h
  obtain ⟨a22, ha23, h⟩ := h
  obtain ⟨hk24, h⟩ := h
  obtain ⟨hc25, h⟩ := h
  refine y_last (r := s2) hX dX11_reckon_74 ha23 hk24 hc25 ?_
  refine z_aload_n (r := (some h0)) hX dX11_reckon_75 rfl 0 rfl ?_
  refine z_iload_n hX dX11_reckon_76 rfl 1 rfl ?_
  obtain ⟨hk28, h⟩ := h
  refine z_callVI (As := [.int l1]) (rest := []) (ci := 11) hX (ct_X11_kindOf h) mw_RX11_308 rfl (by decide) rfl (by rfl) (by unfold RoomC; decide) (by decide) dX11_reckon_77 hk28 (fun r26 M27 h => ?_)
  refine z_iconst (v := (5 : Int32)) hX dX11_reckon_80 (by decide) ?_
  obtain ⟨h1, h2⟩ := h
  refine z_icmp_ne (tgt := 89) hX dX11_reckon_81 (by decide) (fun hc => ?_) (fun hc => ?_)
  · have h := h1 hc
    exact zb_X11_reckon_89 hX hQ hnL hR2 h
  · have h := h2 hc
    refine z_aload_n (r := (some h0)) hX dX11_reckon_84 rfl 0 rfl ?_
    refine z_iload_n hX dX11_reckon_85 rfl 1 rfl ?_
    obtain ⟨hk32, h⟩ := h
    refine z_callVV (As := [.int l1]) (rest := []) (ci := 11) hX (ct_X11_close h) mw_RX11_368 rfl (by decide) rfl (by rfl) (by unfold RoomC; decide) (by decide) dX11_reckon_86 hk32 (fun M31 h => ?_)
    exact zb_X11_reckon_89 hX hQ hnL hR2 h
def bk_X11_reckon_68 (h0 : Nat) (R2 : Int32 → Mm → Prop) (K : Mm → Prop) (l1 : Int32) (s0 : Int32) (s1 : Option Nat) (M : Mm) : Prop := mK M h0 = 12 ∧ ∃ a35, (mR M 733 h0) = some a35 ∧ isA M a35 2 ∧ vp_in l1 (aN M a35) ∧ (bk_X11_reckon_74 h0 R2 K l1 (aJ M a35 (l1).toNatClampNeg) s0 s1 M)
set_option maxRecDepth 100000 in
set_option maxHeartbeats 4000000 in
theorem zb_X11_reckon_68 {X : Cx} {h0 : Nat} {R2 : Int32 → Mm → Prop} {K : Mm → Prop} (hX : Ok X cX11_reckon RX11 rm_X11_reckon) (hQ : Rq X rm_X11_reckon none (QV K)) (hnL : X.2.2.2.2.2.2.2.2.2.2.2.2.2.2 = 4) (hR2 : ∀ l1 M, R2 l1 M → Z X M 0 0 2 [(0, va_rf (some h0)), (1, .int l1)] []) {l1 : Int32} {s0 : Int32} {s1 : Option Nat} {M : Mm} (h : bk_X11_reckon_68 h0 R2 K l1 s0 s1 M) : Z X M 0 0 68 [(0, va_rf (some h0)), (1, .int l1)] [.int s0, va_rf s1] := by
  unfold bk_X11_reckon_68 at h
  refine z_aload_n (r := (some h0)) hX dX11_reckon_68 rfl 0 rfl ?_
  obtain ⟨hk34, h⟩ := h
  refine gf_RX11_63 (r := (some h0)) hX dX11_reckon_69 rfl hk34 ?_
  refine z_iload_n hX dX11_reckon_72 rfl 1 rfl ?_
  obtain ⟨a35, ha36, h⟩ := h
  obtain ⟨hk37, h⟩ := h
  obtain ⟨hc38, h⟩ := h
  refine y_lald (r := (mR M 733 h0)) hX dX11_reckon_73 ha36 hk37 hc38 ?_
  exact zb_X11_reckon_74 hX hQ hnL hR2 h
def bk_X11_reckon_34 (h0 : Nat) (R2 : Int32 → Mm → Prop) (K : Mm → Prop) (l1 : Int32) (s0 : Int32) (s1 : Int32) (s2 : Option Nat) (M : Mm) : Prop := ∃ a39, s2 = some a39 ∧ isA M a39 3 ∧ vp_in s1 (aN M a39) ∧ bz s0 ∧ mK (tI M a39 (s1).toNatClampNeg s0) h0 = 12 ∧ (((mI (tI M a39 (s1).toNatClampNeg s0) 756 h0) = 0 → (bk_X11_reckon_68 h0 R2 K l1 l1 (mR (tI M a39 (s1).toNatClampNeg s0) 733 h0) (tI M a39 (s1).toNatClampNeg s0))) ∧ (¬ (mI (tI M a39 (s1).toNatClampNeg s0) 756 h0) = 0 → ∃ a45, (mR (tI M a39 (s1).toNatClampNeg s0) 733 h0) = some a45 ∧ isA (tI M a39 (s1).toNatClampNeg s0) a45 2 ∧ vp_in l1 (aN (tI M a39 (s1).toNatClampNeg s0) a45) ∧ (((mJ (tI M a39 (s1).toNatClampNeg s0) 757 h0) ≤ (aJ (tI M a39 (s1).toNatClampNeg s0) a45 (l1).toNatClampNeg) → (bk_X11_reckon_68 h0 R2 K l1 l1 (mR (tI M a39 (s1).toNatClampNeg s0) 733 h0) (tI M a39 (s1).toNatClampNeg s0))) ∧ (¬ (mJ (tI M a39 (s1).toNatClampNeg s0) 757 h0) ≤ (aJ (tI M a39 (s1).toNatClampNeg s0) a45 (l1).toNatClampNeg) → (bk_X11_reckon_74 h0 R2 K l1 (mJ (tI M a39 (s1).toNatClampNeg s0) 757 h0) l1 (mR (tI M a39 (s1).toNatClampNeg s0) 733 h0) (tI M a39 (s1).toNatClampNeg s0))))))
set_option maxRecDepth 100000 in
set_option maxHeartbeats 4000000 in
theorem zb_X11_reckon_34 {X : Cx} {h0 : Nat} {R2 : Int32 → Mm → Prop} {K : Mm → Prop} (hX : Ok X cX11_reckon RX11 rm_X11_reckon) (hQ : Rq X rm_X11_reckon none (QV K)) (hnL : X.2.2.2.2.2.2.2.2.2.2.2.2.2.2 = 4) (hR2 : ∀ l1 M, R2 l1 M → Z X M 0 0 2 [(0, va_rf (some h0)), (1, .int l1)] []) {l1 : Int32} {s0 : Int32} {s1 : Int32} {s2 : Option Nat} {M : Mm} (h : bk_X11_reckon_34 h0 R2 K l1 s0 s1 s2 M) : Z X M 0 0 34 [(0, va_rf (some h0)), (1, .int l1)] [.int s0, .int s1, va_rf s2] := by
  unfold bk_X11_reckon_34 at h
  obtain ⟨a39, ha40, h⟩ := h
  obtain ⟨hk41, h⟩ := h
  obtain ⟨hc42, h⟩ := h
  obtain ⟨hc43, h⟩ := h
  refine y_zast (r := s2) hX dX11_reckon_34 ha40 hk41 hc42 hc43  ?_
  refine z_aload_n (r := (some h0)) hX dX11_reckon_35 rfl 0 rfl ?_
  obtain ⟨hk44, h⟩ := h
  refine gf_RX11_63 (r := (some h0)) hX dX11_reckon_36 rfl hk44 ?_
  refine z_iload_n hX dX11_reckon_39 rfl 1 rfl ?_
  refine z_aload_n (r := (some h0)) hX dX11_reckon_40 rfl 0 rfl ?_
  refine gf_RX11_347 (r := (some h0)) hX dX11_reckon_41 rfl hk44 ?_
  obtain ⟨h1, h2⟩ := h
  refine z_if_eq (tgt := 68) hX dX11_reckon_44 (by decide) (fun hc => ?_) (fun hc => ?_)
  · have h := h1 hc
    exact zb_X11_reckon_68 hX hQ hnL hR2 h
  · have h := h2 hc
    refine z_aload_n (r := (some h0)) hX dX11_reckon_47 rfl 0 rfl ?_
    refine gf_RX11_350 (r := (some h0)) hX dX11_reckon_48 rfl hk44 ?_
    refine z_aload_n (r := (some h0)) hX dX11_reckon_51 rfl 0 rfl ?_
    refine gf_RX11_63 (r := (some h0)) hX dX11_reckon_52 rfl hk44 ?_
    refine z_iload_n hX dX11_reckon_55 rfl 1 rfl ?_
    obtain ⟨a45, ha46, h⟩ := h
    obtain ⟨hk47, h⟩ := h
    obtain ⟨hc48, h⟩ := h
    refine y_lald (r := (mR (tI M a39 (s1).toNatClampNeg s0) 733 h0)) hX dX11_reckon_56 ha46 hk47 hc48 ?_
    refine z_lcmp hX dX11_reckon_57 ?_
    obtain ⟨h1, h2⟩ := h
    refine z_if_le (tgt := 68) hX dX11_reckon_58 (by decide) (fun hc => ?_) (fun hc => ?_)
    · have h := h1 ((lg_cmp_le _ _).mp hc)
      exact zb_X11_reckon_68 hX hQ hnL hR2 h
    · have h := h2 (fun q => hc ((lg_cmp_le _ _).mpr q))
      refine z_aload_n (r := (some h0)) hX dX11_reckon_61 rfl 0 rfl ?_
      refine gf_RX11_350 (r := (some h0)) hX dX11_reckon_62 rfl hk44 ?_
      refine z_goto (tgt := 74) hX dX11_reckon_65 (by decide) ?_
      exact zb_X11_reckon_74 hX hQ hnL hR2 h
def lp_X11_reckon_2 (h0 : Nat) (K : Mm → Prop) : Nat → Int32 → Mm → Prop
  | 0, _, _ => False
  | n + 1, l1, M => mK M h0 = 12 ∧ ∃ a50, (mR M 729 h0) = some a50 ∧ isA M a50 1 ∧ vp_in (1 : Int32) (aN M a50) ∧ (((aI M a50 ((1 : Int32)).toNatClampNeg) ≤ l1 → (K M)) ∧ (¬ (aI M a50 ((1 : Int32)).toNatClampNeg) ≤ l1 → (wp_X11_findGoal M h0 l1 (fun M55 => mK M55 h0 = 12 ∧ ((¬ (mI M55 756 h0) = 0 → (bk_X11_reckon_34 h0 (lp_X11_reckon_2 h0 K n) K l1 (0 : Int32) l1 (mR M55 734 h0) M55)) ∧ ((mI M55 756 h0) = 0 → (bk_X11_reckon_34 h0 (lp_X11_reckon_2 h0 K n) K l1 (1 : Int32) l1 (mR M55 734 h0) M55)))))))
set_option maxRecDepth 100000 in
set_option maxHeartbeats 4000000 in
theorem zl_X11_reckon_2 {X : Cx} {h0 : Nat} {K : Mm → Prop} (hX : Ok X cX11_reckon RX11 rm_X11_reckon) (hQ : Rq X rm_X11_reckon none (QV K)) (hnL : X.2.2.2.2.2.2.2.2.2.2.2.2.2.2 = 4) : ∀ (n : Nat) (l1 : Int32) (M : Mm), lp_X11_reckon_2 h0 K n l1 M → Z X M 0 0 2 [(0, va_rf (some h0)), (1, .int l1)] [] := by
  intro n
  induction n with
  | zero =>
    intro l1 M h
    exact False.elim h
  | succ n hR2 =>
    intro l1 M h
    refine z_iload_n hX dX11_reckon_2 rfl 1 rfl ?_
    refine z_aload_n (r := (some h0)) hX dX11_reckon_3 rfl 0 rfl ?_
    obtain ⟨hk49, h⟩ := h
    refine gf_RX11_60 (r := (some h0)) hX dX11_reckon_4 rfl hk49 ?_
    refine z_iconst (v := (1 : Int32)) hX dX11_reckon_7 (by decide) ?_
    obtain ⟨a50, ha51, h⟩ := h
    obtain ⟨hk52, h⟩ := h
    obtain ⟨hc53, h⟩ := h
    refine y_iald (r := (mR M 729 h0)) hX dX11_reckon_8 ha51 hk52 hc53 ?_
    obtain ⟨h1, h2⟩ := h
    refine z_icmp_ge (tgt := 174) hX dX11_reckon_9 (by decide) (fun hc => ?_) (fun hc => ?_)
    · have h := h1 hc
      exact z_vret hX hQ dX11_reckon_174 h
    · have h := h2 hc
      refine z_aload_n (r := (some h0)) hX dX11_reckon_12 rfl 0 rfl ?_
      refine z_iload_n hX dX11_reckon_13 rfl 1 rfl ?_
      refine z_callVV (As := [.int l1]) (rest := []) (ci := 11) hX (ct_X11_findGoal h) mw_RX11_365 rfl (by decide) rfl (by rfl) (by unfold RoomC; decide) (by decide) dX11_reckon_14 hk49 (fun M55 h => ?_)
      refine z_aload_n (r := (some h0)) hX dX11_reckon_17 rfl 0 rfl ?_
      obtain ⟨hk57, h⟩ := h
      refine gf_RX11_66 (r := (some h0)) hX dX11_reckon_18 rfl hk57 ?_
      refine z_iload_n hX dX11_reckon_21 rfl 1 rfl ?_
      refine z_aload_n (r := (some h0)) hX dX11_reckon_22 rfl 0 rfl ?_
      refine gf_RX11_347 (r := (some h0)) hX dX11_reckon_23 rfl hk57 ?_
      obtain ⟨h1, h2⟩ := h
      refine z_if_ne (tgt := 33) hX dX11_reckon_26 (by decide) (fun hc => ?_) (fun hc => ?_)
      · have h := h1 hc
        refine z_iconst (v := (0 : Int32)) hX dX11_reckon_33 (by decide) ?_
        exact zb_X11_reckon_34 hX hQ hnL hR2 h
      · have h := h2 hc
        refine z_iconst (v := (1 : Int32)) hX dX11_reckon_29 (by decide) ?_
        refine z_goto (tgt := 34) hX dX11_reckon_30 (by decide) ?_
        exact zb_X11_reckon_34 hX hQ hnL hR2 h
def wp_X11_reckon (M : Mm) (h0 : Nat) (K : Mm → Prop) : Prop := (∃ kk, lp_X11_reckon_2 h0 K kk (0 : Int32) M)
set_option maxRecDepth 100000 in
set_option maxHeartbeats 4000000 in
theorem ct_X11_reckon {M : Mm} {h0 : Nat} {K : Mm → Prop} (h : wp_X11_reckon M h0 K) : CtV yX11_reckon cX11_reckon 4 none rm_X11_reckon [.ref h0] M K := by
  refine ct_any (QV K) (by decide) (by exact Nat.le_of_ble_eq_true rfl) (fun X hX hQ hnL hnm => ?_)
  rw [show lv_args 0 [.ref h0] = [(0, va_rf (some h0))] by rfl]
  have hX : Ok X cX11_reckon RX11 rm_X11_reckon := hX
  unfold wp_X11_reckon at h
  refine z_iconst (v := (0 : Int32)) hX dX11_reckon_0 (by decide) ?_
  refine z_istore_n hX [(1, .int (0 : Int32)), (0, va_rf (some h0))] dX11_reckon_1 rfl (by rw [hnL]; decide) rfl ?_
  refine z_loc [1, 0] rfl ?_
  obtain ⟨n, h⟩ := h
  exact zl_X11_reckon_2 hX hQ hnL n _ _ h
def rm_X11_row : Room := { frames := 310, cells := 0, slots := 0, locals := 12237 }
def bk_X11_row_33 (h0 : Nat) (K : Int32 → Mm → Prop) (M : Mm) : Prop := (K (-1 : Int32) M)
set_option maxRecDepth 100000 in
set_option maxHeartbeats 4000000 in
theorem zb_X11_row_33 {X : Cx} {h0 : Nat} {K : Int32 → Mm → Prop} (hX : Ok X cX11_row RX11 rm_X11_row) (hQ : Rq X rm_X11_row (some .int) (QI K)) (hnL : X.2.2.2.2.2.2.2.2.2.2.2.2.2.2 = 8) {M : Mm} (h : bk_X11_row_33 h0 K M) : Z X M 0 0 33 [] [] := by
  unfold bk_X11_row_33 at h
  refine z_iconst (v := (-1 : Int32)) hX dX11_row_33 (by decide) ?_
  exact z_iret hX hQ dX11_row_34 h
def bk_X11_row_196 (h0 : Nat) (K : Int32 → Mm → Prop) (s0 : Int32) (M : Mm) : Prop := (K s0 M)
set_option maxRecDepth 100000 in
set_option maxHeartbeats 4000000 in
theorem zb_X11_row_196 {X : Cx} {h0 : Nat} {K : Int32 → Mm → Prop} (hX : Ok X cX11_row RX11 rm_X11_row) (hQ : Rq X rm_X11_row (some .int) (QI K)) (hnL : X.2.2.2.2.2.2.2.2.2.2.2.2.2.2 = 8) {s0 : Int32} {M : Mm} (h : bk_X11_row_196 h0 K s0 M) : Z X M 0 0 196 [] [.int s0] := by
  unfold bk_X11_row_196 at h
  exact z_iret hX hQ dX11_row_196 h
def bk_X11_row_182 (h0 : Nat) (K : Int32 → Mm → Prop) (l7 : Int32) (M : Mm) : Prop := mK M h0 = 12 ∧ (wp_X11_reckon M h0 (fun M2 => ((l7 = 0 → (bk_X11_row_196 h0 K (0 : Int32) M2)) ∧ (¬ l7 = 0 → (bk_X11_row_196 h0 K (1 : Int32) M2)))))
set_option maxRecDepth 100000 in
set_option maxHeartbeats 4000000 in
theorem zb_X11_row_182 {X : Cx} {h0 : Nat} {K : Int32 → Mm → Prop} (hX : Ok X cX11_row RX11 rm_X11_row) (hQ : Rq X rm_X11_row (some .int) (QI K)) (hnL : X.2.2.2.2.2.2.2.2.2.2.2.2.2.2 = 8) {l7 : Int32} {M : Mm} (h : bk_X11_row_182 h0 K l7 M) : Z X M 0 0 182 [(0, va_rf (some h0)), (7, .int l7)] [] := by
  unfold bk_X11_row_182 at h
  refine z_aload_n (r := (some h0)) hX dX11_row_182 rfl 0 rfl ?_
  obtain ⟨hk3, h⟩ := h
  refine z_callVV (As := []) (rest := []) (ci := 11) hX (ct_X11_reckon h) mw_RX11_395 rfl (by decide) rfl (by rfl) (by unfold RoomC; decide) (by decide) dX11_row_183 hk3 (fun M2 h => ?_)
  refine z_iload hX dX11_row_186 1 rfl ?_
  obtain ⟨h1, h2⟩ := h
  refine z_if_eq (tgt := 195) hX dX11_row_188 (by decide) (fun hc => ?_) (fun hc => ?_)
  · have h := h1 hc
    refine z_iconst (v := (0 : Int32)) hX dX11_row_195 (by decide) ?_
    refine z_loc [] rfl ?_
    exact zb_X11_row_196 hX hQ hnL h
  · have h := h2 hc
    refine z_iconst (v := (1 : Int32)) hX dX11_row_191 (by decide) ?_
    refine z_goto (tgt := 196) hX dX11_row_192 (by decide) ?_
    refine z_loc [] rfl ?_
    exact zb_X11_row_196 hX hQ hnL h
def bk_X11_row_105 (h0 : Nat) (K : Int32 → Mm → Prop) (l1 : Int32) (l3 : Int64) (l5 : Int32) (l6 : Int32) (s0 : Int32) (M : Mm) : Prop := ((s0 = 0 → mK M h0 = 12 ∧ (wp_X11_late M h0 l1 l3 l5 (1 : Int32) (fun M6 => (bk_X11_row_182 h0 K s0 M6)))) ∧ (¬ s0 = 0 → mK M h0 = 12 ∧ (wp_X11_pass 30 M h0 l1 l3 l5 (1 : Int32) (fun M10 => mK M10 h0 = 12 ∧ ∃ a14, (mR M10 719 h0) = some a14 ∧ isA M10 a14 3 ∧ vp_in ((12 : Int32) + l1) (aN M10 a14) ∧ (((aI M10 a14 (((12 : Int32) + l1)).toNatClampNeg) = 0 → (bk_X11_row_182 h0 K s0 M10)) ∧ (¬ (aI M10 a14 (((12 : Int32) + l1)).toNatClampNeg) = 0 → ∃ a18, (mR M10 736 h0) = some a18 ∧ isA M10 a18 2 ∧ vp_in l6 (aN M10 a18) ∧ ∃ a22, (mR M10 720 h0) = some a22 ∧ isA M10 a22 2 ∧ vp_in ((12 : Int32) + l1) (aN M10 a22) ∧ (wp_X11_plus M10 l3 (-(aJ M10 a22 (((12 : Int32) + l1)).toNatClampNeg)) (fun r26 M27 => (wp_X11_plus M27 r26 (-1 : Int64) (fun r29 M30 => isA M30 a18 2 ∧ vp_in l6 (aN M30 a18) ∧ (bk_X11_row_182 h0 K s0 (tJ M30 a18 (l6).toNatClampNeg (if r29 < (aJ M10 a18 (l6).toNatClampNeg) then (aJ M10 a18 (l6).toNatClampNeg) else r29)))))))))))))
set_option maxRecDepth 100000 in
set_option maxHeartbeats 4000000 in
theorem zb_X11_row_105 {X : Cx} {h0 : Nat} {K : Int32 → Mm → Prop} (hX : Ok X cX11_row RX11 rm_X11_row) (hQ : Rq X rm_X11_row (some .int) (QI K)) (hnL : X.2.2.2.2.2.2.2.2.2.2.2.2.2.2 = 8) {l1 : Int32} {l3 : Int64} {l5 : Int32} {l6 : Int32} {s0 : Int32} {M : Mm} (h : bk_X11_row_105 h0 K l1 l3 l5 l6 s0 M) : Z X M 0 0 105 [(0, va_rf (some h0)), (1, .int l1), (3, .long l3), (5, .int l5), (6, .int l6)] [.int s0] := by
  unfold bk_X11_row_105 at h
  refine z_istore hX [(7, .int s0), (0, va_rf (some h0)), (1, .int l1), (3, .long l3), (5, .int l5), (6, .int l6)] dX11_row_105 (by rw [hnL]; decide) rfl ?_
  refine z_iload hX dX11_row_107 0 rfl ?_
  obtain ⟨h1, h2⟩ := h
  refine z_if_eq (tgt := 173) hX dX11_row_109 (by decide) (fun hc => ?_) (fun hc => ?_)
  · have h := h1 hc
    refine z_aload_n (r := (some h0)) hX dX11_row_173 rfl 1 rfl ?_
    refine z_iload_n hX dX11_row_174 rfl 2 rfl ?_
    refine z_lload_n hX dX11_row_175 rfl 3 rfl ?_
    refine z_iload hX dX11_row_176 4 rfl ?_
    refine z_iconst (v := (1 : Int32)) hX dX11_row_178 (by decide) ?_
    obtain ⟨hk7, h⟩ := h
    refine z_callVV (As := [.int l1, .long l3, .int l5, .int (1 : Int32)]) (rest := []) (ci := 11) hX (ct_X11_late h) mw_RX11_314 rfl (by decide) rfl (by rfl) (by unfold RoomC; decide) (by decide) dX11_row_179 hk7 (fun M6 h => ?_)
    refine z_loc [1, 0] rfl ?_
    exact zb_X11_row_182 hX hQ hnL h
  · have h := h2 hc
    refine z_aload_n (r := (some h0)) hX dX11_row_112 rfl 1 rfl ?_
    refine z_iload_n hX dX11_row_113 rfl 2 rfl ?_
    refine z_lload_n hX dX11_row_114 rfl 3 rfl ?_
    refine z_iload hX dX11_row_115 4 rfl ?_
    refine z_iconst (v := (1 : Int32)) hX dX11_row_117 (by decide) ?_
    obtain ⟨hk11, h⟩ := h
    refine z_callVV (As := [.int l1, .long l3, .int l5, .int (1 : Int32)]) (rest := []) (ci := 11) hX (ct_X11_pass 30 h) mw_RX11_328 rfl (by decide) rfl (by rfl) (by unfold RoomC; decide) (by decide) dX11_row_118 hk11 (fun M10 h => ?_)
    refine z_aload_n (r := (some h0)) hX dX11_row_121 rfl 1 rfl ?_
    obtain ⟨hk13, h⟩ := h
    refine gf_RX11_29 (r := (some h0)) hX dX11_row_122 rfl hk13 ?_
    refine z_bipush (v := (12 : Int32)) hX dX11_row_125 (by decide) ?_
    refine z_iload_n hX dX11_row_127 rfl 2 rfl ?_
    refine z_iadd hX dX11_row_128 ?_
    obtain ⟨a14, ha15, h⟩ := h
    obtain ⟨hk16, h⟩ := h
    obtain ⟨hc17, h⟩ := h
    refine y_zald (r := (mR M10 719 h0)) hX dX11_row_129 ha15 hk16 hc17 ?_
    obtain ⟨h1, h2⟩ := h
    refine z_if_eq (tgt := 182) hX dX11_row_130 (by decide) (fun hc => ?_) (fun hc => ?_)
    · have h := h1 hc
      refine z_loc [1, 0] rfl ?_
      exact zb_X11_row_182 hX hQ hnL h
    · have h := h2 hc
      refine z_aload_n (r := (some h0)) hX dX11_row_133 rfl 1 rfl ?_
      refine gf_RX11_72 (r := (some h0)) hX dX11_row_134 rfl hk13 ?_
      refine z_iload hX dX11_row_137 5 rfl ?_
      refine z_aload_n (r := (some h0)) hX dX11_row_139 rfl 1 rfl ?_
      refine gf_RX11_72 (r := (some h0)) hX dX11_row_140 rfl hk13 ?_
      refine z_iload hX dX11_row_143 5 rfl ?_
      obtain ⟨a18, ha19, h⟩ := h
      obtain ⟨hk20, h⟩ := h
      obtain ⟨hc21, h⟩ := h
      refine y_lald (r := (mR M10 736 h0)) hX dX11_row_145 ha19 hk20 hc21 ?_
      refine z_lload_n hX dX11_row_146 rfl 3 rfl ?_
      refine z_aload_n (r := (some h0)) hX dX11_row_147 rfl 1 rfl ?_
      refine gf_RX11_33 (r := (some h0)) hX dX11_row_148 rfl hk13 ?_
      refine z_bipush (v := (12 : Int32)) hX dX11_row_151 (by decide) ?_
      refine z_iload_n hX dX11_row_153 rfl 2 rfl ?_
      refine z_iadd hX dX11_row_154 ?_
      obtain ⟨a22, ha23, h⟩ := h
      obtain ⟨hk24, h⟩ := h
      obtain ⟨hc25, h⟩ := h
      refine y_lald (r := (mR M10 720 h0)) hX dX11_row_155 ha23 hk24 hc25 ?_
      refine z_lneg hX dX11_row_156 ?_
      refine z_callSJ (As := [.long l3, .long (-(aJ M10 a22 (((12 : Int32) + l1)).toNatClampNeg))]) (rest := [.long (aJ M10 a18 (l6).toNatClampNeg), .int l6, va_rf (mR M10 736 h0)]) hX (ct_X11_plus h) mw_RX11_311 rfl (by rfl) (by unfold RoomC; decide) (by simp only [List.map_cons, List.map_nil, List.sum_cons, List.sum_nil, cat_rf, cat_i, cat_j]; decide) dX11_row_157 (fun r26 M27 h => ?_)
      refine z_ldc2 (v := (-1 : Int64)) hX dX11_row_160 kj_RX11_363 ?_
      refine z_callSJ (As := [.long r26, .long (-1 : Int64)]) (rest := [.long (aJ M10 a18 (l6).toNatClampNeg), .int l6, va_rf (mR M10 736 h0)]) hX (ct_X11_plus h) mw_RX11_311 rfl (by rfl) (by unfold RoomC; decide) (by simp only [List.map_cons, List.map_nil, List.sum_cons, List.sum_nil, cat_rf, cat_i, cat_j]; decide) dX11_row_163 (fun r29 M30 h => ?_)
      refine mw_RX11_336 hX dX11_row_166 (by decide) (by simp only [List.map_cons, List.map_nil, List.sum_cons, List.sum_nil, cat_rf, cat_i, cat_j]; decide) (by decide) (by decide) ?_
      obtain ⟨hk32, h⟩ := h
      obtain ⟨hc33, h⟩ := h
      refine y_last (r := (mR M10 736 h0)) hX dX11_row_169 ha19 hk32 hc33 ?_
      refine z_goto (tgt := 182) hX dX11_row_170 (by decide) ?_
      refine z_loc [1, 0] rfl ?_
      exact zb_X11_row_182 hX hQ hnL h
def bk_X11_row_104 (h0 : Nat) (K : Int32 → Mm → Prop) (l1 : Int32) (l3 : Int64) (l5 : Int32) (l6 : Int32) (M : Mm) : Prop := (bk_X11_row_105 h0 K l1 l3 l5 l6 (0 : Int32) M)
set_option maxRecDepth 100000 in
set_option maxHeartbeats 4000000 in
theorem zb_X11_row_104 {X : Cx} {h0 : Nat} {K : Int32 → Mm → Prop} (hX : Ok X cX11_row RX11 rm_X11_row) (hQ : Rq X rm_X11_row (some .int) (QI K)) (hnL : X.2.2.2.2.2.2.2.2.2.2.2.2.2.2 = 8) {l1 : Int32} {l3 : Int64} {l5 : Int32} {l6 : Int32} {M : Mm} (h : bk_X11_row_104 h0 K l1 l3 l5 l6 M) : Z X M 0 0 104 [(0, va_rf (some h0)), (1, .int l1), (3, .long l3), (5, .int l5), (6, .int l6)] [] := by
  unfold bk_X11_row_104 at h
  refine z_iconst (v := (0 : Int32)) hX dX11_row_104 (by decide) ?_
  exact zb_X11_row_105 hX hQ hnL h
def wp_X11_row (M : Mm) (h0 : Nat) (p1 : Int32) (p2 : Int32) (p3 : Int64) (p4 : Int32) (K : Int32 → Mm → Prop) : Prop := mK M h0 = 12 ∧ (wp_X11_isPart (sI M 704 h0 (0 : Int32)) h0 p1 p2 (fun r36 M37 => ((r36 = 0 → (bk_X11_row_33 h0 K M37)) ∧ (¬ r36 = 0 → (wp_X11_isTime M37 p3 (fun r39 M40 => ((r39 = 0 → (bk_X11_row_33 h0 K M40)) ∧ (¬ r39 = 0 → ((p4 < 0 → (bk_X11_row_33 h0 K M40)) ∧ (¬ p4 < 0 → ((p4 ≤ (9 : Int32) → mK M40 h0 = 12 ∧ ∃ a43, (mR M40 735 h0) = some a43 ∧ isA M40 a43 1 ∧ vp_in (((4 : Int32) * p1) + p2) (aN M40 a43) ∧ ((¬ (aI M40 a43 ((((4 : Int32) * p1) + p2)).toNatClampNeg) = (2 : Int32) → (wp_X11_isStopped M40 h0 p1 p2 (fun r47 M48 => ((r47 = 0 → mK M48 h0 = 12 ∧ (wp_X11_hear M48 h0 p1 p2 (fun M51 => mK M51 h0 = 12 ∧ ∃ a55, (mR M51 736 h0) = some a55 ∧ isA M51 a55 2 ∧ vp_in (((4 : Int32) * p1) + p2) (aN M51 a55) ∧ ((p3 ≤ (aJ M51 a55 ((((4 : Int32) * p1) + p2)).toNatClampNeg) → (bk_X11_row_104 h0 K p1 p3 p4 (((4 : Int32) * p1) + p2) M51)) ∧ (¬ p3 ≤ (aJ M51 a55 ((((4 : Int32) * p1) + p2)).toNatClampNeg) → ∃ a59, (mR M51 733 h0) = some a59 ∧ isA M51 a59 2 ∧ vp_in p1 (aN M51 a59) ∧ ((p3 ≤ (aJ M51 a59 (p1).toNatClampNeg) → (bk_X11_row_104 h0 K p1 p3 p4 (((4 : Int32) * p1) + p2) M51)) ∧ (¬ p3 ≤ (aJ M51 a59 (p1).toNatClampNeg) → (bk_X11_row_105 h0 K p1 p3 p4 (((4 : Int32) * p1) + p2) (1 : Int32) M51)))))))) ∧ (¬ r47 = 0 → (K (-3 : Int32) M48)))))) ∧ ((aI M40 a43 ((((4 : Int32) * p1) + p2)).toNatClampNeg) = (2 : Int32) → (K (-2 : Int32) M40)))) ∧ (¬ p4 ≤ (9 : Int32) → (bk_X11_row_33 h0 K M40)))))))))))))
set_option maxRecDepth 100000 in
set_option maxHeartbeats 4000000 in
theorem ct_X11_row {M : Mm} {h0 : Nat} {p1 : Int32} {p2 : Int32} {p3 : Int64} {p4 : Int32} {K : Int32 → Mm → Prop} (h : wp_X11_row M h0 p1 p2 p3 p4 K) : CtI yX11_row cX11_row 8 (some .int) rm_X11_row [.ref h0, .int p1, .int p2, .long p3, .int p4] M K := by
  refine ct_any (QI K) (by decide) (by exact Nat.le_of_ble_eq_true rfl) (fun X hX hQ hnL hnm => ?_)
  rw [show lv_args 0 [.ref h0, .int p1, .int p2, .long p3, .int p4] = [(0, va_rf (some h0)), (1, .int p1), (2, .int p2), (3, .long p3), (5, .int p4)] by rfl]
  have hX : Ok X cX11_row RX11 rm_X11_row := hX
  unfold wp_X11_row at h
  refine z_aload_n (r := (some h0)) hX dX11_row_0 rfl 0 rfl ?_
  refine z_iconst (v := (0 : Int32)) hX dX11_row_1 (by decide) ?_
  obtain ⟨hk34, h⟩ := h
  refine pf_RX11_123 (r := (some h0)) (v := (0 : Int32)) hX dX11_row_2 rfl hk34 ?_
  refine z_aload_n (r := (some h0)) hX dX11_row_5 rfl 0 rfl ?_
  refine z_iload_n hX dX11_row_6 rfl 1 rfl ?_
  refine z_iload_n hX dX11_row_7 rfl 2 rfl ?_
  refine z_callVI (As := [.int p1, .int p2]) (rest := []) (ci := 11) hX (ct_X11_isPart h) mw_RX11_381 rfl (by decide) rfl (by rfl) (by unfold RoomC; decide) (by decide) dX11_row_8 hk34 (fun r36 M37 h => ?_)
  obtain ⟨h1, h2⟩ := h
  refine z_if_eq (tgt := 33) hX dX11_row_11 (by decide) (fun hc => ?_) (fun hc => ?_)
  · have h := h1 hc
    refine z_loc [] rfl ?_
    exact zb_X11_row_33 hX hQ hnL h
  · have h := h2 hc
    refine z_lload_n hX dX11_row_14 rfl 3 rfl ?_
    refine z_callSI (As := [.long p3]) (rest := []) hX (ct_X11_isTime h) mw_RX11_385 rfl (by rfl) (by unfold RoomC; decide) (by decide) dX11_row_15 (fun r39 M40 h => ?_)
    obtain ⟨h1, h2⟩ := h
    refine z_if_eq (tgt := 33) hX dX11_row_18 (by decide) (fun hc => ?_) (fun hc => ?_)
    · have h := h1 hc
      refine z_loc [] rfl ?_
      exact zb_X11_row_33 hX hQ hnL h
    · have h := h2 hc
      refine z_iload hX dX11_row_21 4 rfl ?_
      obtain ⟨h1, h2⟩ := h
      refine z_if_lt (tgt := 33) hX dX11_row_23 (by decide) (fun hc => ?_) (fun hc => ?_)
      · have h := h1 hc
        refine z_loc [] rfl ?_
        exact zb_X11_row_33 hX hQ hnL h
      · have h := h2 hc
        refine z_iload hX dX11_row_26 4 rfl ?_
        refine z_bipush (v := (9 : Int32)) hX dX11_row_28 (by decide) ?_
        obtain ⟨h1, h2⟩ := h
        refine z_icmp_le (tgt := 35) hX dX11_row_30 (by decide) (fun hc => ?_) (fun hc => ?_)
        · have h := h1 hc
          refine z_aload_n (r := (some h0)) hX dX11_row_35 rfl 0 rfl ?_
          obtain ⟨hk42, h⟩ := h
          refine gf_RX11_69 (r := (some h0)) hX dX11_row_36 rfl hk42 ?_
          refine z_iconst (v := (4 : Int32)) hX dX11_row_39 (by decide) ?_
          refine z_iload_n hX dX11_row_40 rfl 1 rfl ?_
          refine z_imul hX dX11_row_41 ?_
          refine z_iload_n hX dX11_row_42 rfl 2 rfl ?_
          refine z_iadd hX dX11_row_43 ?_
          obtain ⟨a43, ha44, h⟩ := h
          obtain ⟨hk45, h⟩ := h
          obtain ⟨hc46, h⟩ := h
          refine y_iald (r := (mR M40 735 h0)) hX dX11_row_44 ha44 hk45 hc46 ?_
          refine z_iconst (v := (2 : Int32)) hX dX11_row_45 (by decide) ?_
          obtain ⟨h1, h2⟩ := h
          refine z_icmp_ne (tgt := 52) hX dX11_row_46 (by decide) (fun hc => ?_) (fun hc => ?_)
          · have h := h1 hc
            refine z_aload_n (r := (some h0)) hX dX11_row_52 rfl 0 rfl ?_
            refine z_iload_n hX dX11_row_53 rfl 1 rfl ?_
            refine z_iload_n hX dX11_row_54 rfl 2 rfl ?_
            refine z_callVI (As := [.int p1, .int p2]) (rest := []) (ci := 11) hX (ct_X11_isStopped h) mw_RX11_389 rfl (by decide) rfl (by rfl) (by unfold RoomC; decide) (by decide) dX11_row_55 hk42 (fun r47 M48 h => ?_)
            obtain ⟨h1, h2⟩ := h
            refine z_if_eq (tgt := 64) hX dX11_row_58 (by decide) (fun hc => ?_) (fun hc => ?_)
            · have h := h1 hc
              refine z_aload_n (r := (some h0)) hX dX11_row_64 rfl 0 rfl ?_
              refine z_iload_n hX dX11_row_65 rfl 1 rfl ?_
              refine z_iload_n hX dX11_row_66 rfl 2 rfl ?_
              obtain ⟨hk52, h⟩ := h
              refine z_callVV (As := [.int p1, .int p2]) (rest := []) (ci := 11) hX (ct_X11_hear h) mw_RX11_392 rfl (by decide) rfl (by rfl) (by unfold RoomC; decide) (by decide) dX11_row_67 hk52 (fun M51 h => ?_)
              refine z_iconst (v := (4 : Int32)) hX dX11_row_70 (by decide) ?_
              refine z_iload_n hX dX11_row_71 rfl 1 rfl ?_
              refine z_imul hX dX11_row_72 ?_
              refine z_iload_n hX dX11_row_73 rfl 2 rfl ?_
              refine z_iadd hX dX11_row_74 ?_
              refine z_istore hX [(6, .int (((4 : Int32) * p1) + p2)), (0, va_rf (some h0)), (1, .int p1), (2, .int p2), (3, .long p3), (5, .int p4)] dX11_row_75 (by rw [hnL]; decide) rfl ?_
              refine z_lload_n hX dX11_row_77 rfl 4 rfl ?_
              refine z_aload_n (r := (some h0)) hX dX11_row_78 rfl 1 rfl ?_
              obtain ⟨hk54, h⟩ := h
              refine gf_RX11_72 (r := (some h0)) hX dX11_row_79 rfl hk54 ?_
              refine z_iload hX dX11_row_82 0 rfl ?_
              obtain ⟨a55, ha56, h⟩ := h
              obtain ⟨hk57, h⟩ := h
              obtain ⟨hc58, h⟩ := h
              refine y_lald (r := (mR M51 736 h0)) hX dX11_row_84 ha56 hk57 hc58 ?_
              refine z_lcmp hX dX11_row_85 ?_
              obtain ⟨h1, h2⟩ := h
              refine z_if_le (tgt := 104) hX dX11_row_86 (by decide) (fun hc => ?_) (fun hc => ?_)
              · have h := h1 ((lg_cmp_le _ _).mp hc)
                refine z_loc [1, 2, 4, 5, 0] rfl ?_
                exact zb_X11_row_104 hX hQ hnL h
              · have h := h2 (fun q => hc ((lg_cmp_le _ _).mpr q))
                refine z_lload_n hX dX11_row_89 rfl 4 rfl ?_
                refine z_aload_n (r := (some h0)) hX dX11_row_90 rfl 1 rfl ?_
                refine gf_RX11_63 (r := (some h0)) hX dX11_row_91 rfl hk54 ?_
                refine z_iload_n hX dX11_row_94 rfl 2 rfl ?_
                obtain ⟨a59, ha60, h⟩ := h
                obtain ⟨hk61, h⟩ := h
                obtain ⟨hc62, h⟩ := h
                refine y_lald (r := (mR M51 733 h0)) hX dX11_row_95 ha60 hk61 hc62 ?_
                refine z_lcmp hX dX11_row_96 ?_
                obtain ⟨h1, h2⟩ := h
                refine z_if_le (tgt := 104) hX dX11_row_97 (by decide) (fun hc => ?_) (fun hc => ?_)
                · have h := h1 ((lg_cmp_le _ _).mp hc)
                  refine z_loc [1, 2, 4, 5, 0] rfl ?_
                  exact zb_X11_row_104 hX hQ hnL h
                · have h := h2 (fun q => hc ((lg_cmp_le _ _).mpr q))
                  refine z_iconst (v := (1 : Int32)) hX dX11_row_100 (by decide) ?_
                  refine z_goto (tgt := 105) hX dX11_row_101 (by decide) ?_
                  refine z_loc [1, 2, 4, 5, 0] rfl ?_
                  exact zb_X11_row_105 hX hQ hnL h
            · have h := h2 hc
              refine z_bipush (v := (-3 : Int32)) hX dX11_row_61 (by decide) ?_
              exact z_iret hX hQ dX11_row_63 h
          · have h := h2 hc
            refine z_bipush (v := (-2 : Int32)) hX dX11_row_49 (by decide) ?_
            exact z_iret hX hQ dX11_row_51 h
        · have h := h2 hc
          refine z_loc [] rfl ?_
          exact zb_X11_row_33 hX hQ hnL h
def rm_X11_mark : Room := { frames := 310, cells := 0, slots := 0, locals := 12237 }
def bk_X11_mark_21 (h0 : Nat) (K : Int32 → Mm → Prop) (M : Mm) : Prop := (K (-1 : Int32) M)
set_option maxRecDepth 100000 in
set_option maxHeartbeats 4000000 in
theorem zb_X11_mark_21 {X : Cx} {h0 : Nat} {K : Int32 → Mm → Prop} (hX : Ok X cX11_mark RX11 rm_X11_mark) (hQ : Rq X rm_X11_mark (some .int) (QI K)) (hnL : X.2.2.2.2.2.2.2.2.2.2.2.2.2.2 = 7) {M : Mm} (h : bk_X11_mark_21 h0 K M) : Z X M 0 0 21 [] [] := by
  unfold bk_X11_mark_21 at h
  refine z_iconst (v := (-1 : Int32)) hX dX11_mark_21 (by decide) ?_
  exact z_iret hX hQ dX11_mark_22 h
def bk_X11_mark_118 (h0 : Nat) (K : Int32 → Mm → Prop) (s0 : Int32) (M : Mm) : Prop := (K s0 M)
set_option maxRecDepth 100000 in
set_option maxHeartbeats 4000000 in
theorem zb_X11_mark_118 {X : Cx} {h0 : Nat} {K : Int32 → Mm → Prop} (hX : Ok X cX11_mark RX11 rm_X11_mark) (hQ : Rq X rm_X11_mark (some .int) (QI K)) (hnL : X.2.2.2.2.2.2.2.2.2.2.2.2.2.2 = 7) {s0 : Int32} {M : Mm} (h : bk_X11_mark_118 h0 K s0 M) : Z X M 0 0 118 [] [.int s0] := by
  unfold bk_X11_mark_118 at h
  exact z_iret hX hQ dX11_mark_118 h
def bk_X11_mark_103 (h0 : Nat) (K : Int32 → Mm → Prop) (l6 : Int32) (s0 : Int64) (s1 : Int32) (s2 : Option Nat) (M : Mm) : Prop := ∃ a1, s2 = some a1 ∧ isA M a1 2 ∧ vp_in s1 (aN M a1) ∧ mK (tJ M a1 (s1).toNatClampNeg s0) h0 = 12 ∧ (wp_X11_reckon (tJ M a1 (s1).toNatClampNeg s0) h0 (fun M6 => ((l6 = 0 → (bk_X11_mark_118 h0 K (0 : Int32) M6)) ∧ (¬ l6 = 0 → (bk_X11_mark_118 h0 K (1 : Int32) M6)))))
set_option maxRecDepth 100000 in
set_option maxHeartbeats 4000000 in
theorem zb_X11_mark_103 {X : Cx} {h0 : Nat} {K : Int32 → Mm → Prop} (hX : Ok X cX11_mark RX11 rm_X11_mark) (hQ : Rq X rm_X11_mark (some .int) (QI K)) (hnL : X.2.2.2.2.2.2.2.2.2.2.2.2.2.2 = 7) {l6 : Int32} {s0 : Int64} {s1 : Int32} {s2 : Option Nat} {M : Mm} (h : bk_X11_mark_103 h0 K l6 s0 s1 s2 M) : Z X M 0 0 103 [(0, va_rf (some h0)), (6, .int l6)] [.long s0, .int s1, va_rf s2] := by
  unfold bk_X11_mark_103 at h
  obtain ⟨a1, ha2, h⟩ := h
  obtain ⟨hk3, h⟩ := h
  obtain ⟨hc4, h⟩ := h
  refine y_last (r := s2) hX dX11_mark_103 ha2 hk3 hc4 ?_
  refine z_aload_n (r := (some h0)) hX dX11_mark_104 rfl 0 rfl ?_
  obtain ⟨hk7, h⟩ := h
  refine z_callVV (As := []) (rest := []) (ci := 11) hX (ct_X11_reckon h) mw_RX11_395 rfl (by decide) rfl (by rfl) (by unfold RoomC; decide) (by decide) dX11_mark_105 hk7 (fun M6 h => ?_)
  refine z_iload hX dX11_mark_108 1 rfl ?_
  obtain ⟨h1, h2⟩ := h
  refine z_if_eq (tgt := 117) hX dX11_mark_110 (by decide) (fun hc => ?_) (fun hc => ?_)
  · have h := h1 hc
    refine z_iconst (v := (0 : Int32)) hX dX11_mark_117 (by decide) ?_
    refine z_loc [] rfl ?_
    exact zb_X11_mark_118 hX hQ hnL h
  · have h := h2 hc
    refine z_iconst (v := (1 : Int32)) hX dX11_mark_113 (by decide) ?_
    refine z_goto (tgt := 118) hX dX11_mark_114 (by decide) ?_
    refine z_loc [] rfl ?_
    exact zb_X11_mark_118 hX hQ hnL h
def bk_X11_mark_79 (h0 : Nat) (K : Int32 → Mm → Prop) (l3 : Int64) (l5 : Int32) (s0 : Int32) (M : Mm) : Prop := mK M h0 = 12 ∧ ((s0 = 0 → ∃ a10, (mR M 736 h0) = some a10 ∧ isA M a10 2 ∧ vp_in l5 (aN M a10) ∧ (bk_X11_mark_103 h0 K s0 (aJ M a10 (l5).toNatClampNeg) l5 (mR M 736 h0) M)) ∧ (¬ s0 = 0 → (bk_X11_mark_103 h0 K s0 l3 l5 (mR M 736 h0) M)))
set_option maxRecDepth 100000 in
set_option maxHeartbeats 4000000 in
theorem zb_X11_mark_79 {X : Cx} {h0 : Nat} {K : Int32 → Mm → Prop} (hX : Ok X cX11_mark RX11 rm_X11_mark) (hQ : Rq X rm_X11_mark (some .int) (QI K)) (hnL : X.2.2.2.2.2.2.2.2.2.2.2.2.2.2 = 7) {l3 : Int64} {l5 : Int32} {s0 : Int32} {M : Mm} (h : bk_X11_mark_79 h0 K l3 l5 s0 M) : Z X M 0 0 79 [(0, va_rf (some h0)), (3, .long l3), (5, .int l5)] [.int s0] := by
  unfold bk_X11_mark_79 at h
  refine z_istore hX [(6, .int s0), (0, va_rf (some h0)), (3, .long l3), (5, .int l5)] dX11_mark_79 (by rw [hnL]; decide) rfl ?_
  refine z_aload_n (r := (some h0)) hX dX11_mark_81 rfl 1 rfl ?_
  obtain ⟨hk9, h⟩ := h
  refine gf_RX11_72 (r := (some h0)) hX dX11_mark_82 rfl hk9 ?_
  refine z_iload hX dX11_mark_85 3 rfl ?_
  refine z_iload hX dX11_mark_87 0 rfl ?_
  obtain ⟨h1, h2⟩ := h
  refine z_if_eq (tgt := 96) hX dX11_mark_89 (by decide) (fun hc => ?_) (fun hc => ?_)
  · have h := h1 hc
    refine z_aload_n (r := (some h0)) hX dX11_mark_96 rfl 1 rfl ?_
    refine gf_RX11_72 (r := (some h0)) hX dX11_mark_97 rfl hk9 ?_
    refine z_iload hX dX11_mark_100 3 rfl ?_
    obtain ⟨a10, ha11, h⟩ := h
    obtain ⟨hk12, h⟩ := h
    obtain ⟨hc13, h⟩ := h
    refine y_lald (r := (mR M 736 h0)) hX dX11_mark_102 ha11 hk12 hc13 ?_
    refine z_loc [1, 0] rfl ?_
    exact zb_X11_mark_103 hX hQ hnL h
  · have h := h2 hc
    refine z_lload_n hX dX11_mark_92 rfl 2 rfl ?_
    refine z_goto (tgt := 103) hX dX11_mark_93 (by decide) ?_
    refine z_loc [1, 0] rfl ?_
    exact zb_X11_mark_103 hX hQ hnL h
def wp_X11_mark (M : Mm) (h0 : Nat) (p1 : Int32) (p2 : Int32) (p3 : Int64) (K : Int32 → Mm → Prop) : Prop := mK M h0 = 12 ∧ (wp_X11_isPart (sI M 704 h0 (0 : Int32)) h0 p1 p2 (fun r16 M17 => ((r16 = 0 → (bk_X11_mark_21 h0 K M17)) ∧ (¬ r16 = 0 → (wp_X11_isTime M17 p3 (fun r19 M20 => ((¬ r19 = 0 → mK M20 h0 = 12 ∧ ∃ a23, (mR M20 735 h0) = some a23 ∧ isA M20 a23 1 ∧ vp_in (((4 : Int32) * p1) + p2) (aN M20 a23) ∧ ((¬ (aI M20 a23 ((((4 : Int32) * p1) + p2)).toNatClampNeg) = (2 : Int32) → (wp_X11_isStopped M20 h0 p1 p2 (fun r27 M28 => ((r27 = 0 → mK M28 h0 = 12 ∧ (wp_X11_hear M28 h0 p1 p2 (fun M31 => mK M31 h0 = 12 ∧ ∃ a35, (mR M31 736 h0) = some a35 ∧ isA M31 a35 2 ∧ vp_in (((4 : Int32) * p1) + p2) (aN M31 a35) ∧ ((p3 ≤ (aJ M31 a35 ((((4 : Int32) * p1) + p2)).toNatClampNeg) → (bk_X11_mark_79 h0 K p3 (((4 : Int32) * p1) + p2) (0 : Int32) M31)) ∧ (¬ p3 ≤ (aJ M31 a35 ((((4 : Int32) * p1) + p2)).toNatClampNeg) → (bk_X11_mark_79 h0 K p3 (((4 : Int32) * p1) + p2) (1 : Int32) M31)))))) ∧ (¬ r27 = 0 → (K (-3 : Int32) M28)))))) ∧ ((aI M20 a23 ((((4 : Int32) * p1) + p2)).toNatClampNeg) = (2 : Int32) → (K (-2 : Int32) M20)))) ∧ (r19 = 0 → (bk_X11_mark_21 h0 K M20)))))))))
set_option maxRecDepth 100000 in
set_option maxHeartbeats 4000000 in
theorem ct_X11_mark {M : Mm} {h0 : Nat} {p1 : Int32} {p2 : Int32} {p3 : Int64} {K : Int32 → Mm → Prop} (h : wp_X11_mark M h0 p1 p2 p3 K) : CtI yX11_mark cX11_mark 7 (some .int) rm_X11_mark [.ref h0, .int p1, .int p2, .long p3] M K := by
  refine ct_any (QI K) (by decide) (by exact Nat.le_of_ble_eq_true rfl) (fun X hX hQ hnL hnm => ?_)
  rw [show lv_args 0 [.ref h0, .int p1, .int p2, .long p3] = [(0, va_rf (some h0)), (1, .int p1), (2, .int p2), (3, .long p3)] by rfl]
  have hX : Ok X cX11_mark RX11 rm_X11_mark := hX
  unfold wp_X11_mark at h
  refine z_aload_n (r := (some h0)) hX dX11_mark_0 rfl 0 rfl ?_
  refine z_iconst (v := (0 : Int32)) hX dX11_mark_1 (by decide) ?_
  obtain ⟨hk14, h⟩ := h
  refine pf_RX11_123 (r := (some h0)) (v := (0 : Int32)) hX dX11_mark_2 rfl hk14 ?_
  refine z_aload_n (r := (some h0)) hX dX11_mark_5 rfl 0 rfl ?_
  refine z_iload_n hX dX11_mark_6 rfl 1 rfl ?_
  refine z_iload_n hX dX11_mark_7 rfl 2 rfl ?_
  refine z_callVI (As := [.int p1, .int p2]) (rest := []) (ci := 11) hX (ct_X11_isPart h) mw_RX11_381 rfl (by decide) rfl (by rfl) (by unfold RoomC; decide) (by decide) dX11_mark_8 hk14 (fun r16 M17 h => ?_)
  obtain ⟨h1, h2⟩ := h
  refine z_if_eq (tgt := 21) hX dX11_mark_11 (by decide) (fun hc => ?_) (fun hc => ?_)
  · have h := h1 hc
    refine z_loc [] rfl ?_
    exact zb_X11_mark_21 hX hQ hnL h
  · have h := h2 hc
    refine z_lload_n hX dX11_mark_14 rfl 3 rfl ?_
    refine z_callSI (As := [.long p3]) (rest := []) hX (ct_X11_isTime h) mw_RX11_385 rfl (by rfl) (by unfold RoomC; decide) (by decide) dX11_mark_15 (fun r19 M20 h => ?_)
    obtain ⟨h1, h2⟩ := h
    refine z_if_ne (tgt := 23) hX dX11_mark_18 (by decide) (fun hc => ?_) (fun hc => ?_)
    · have h := h1 hc
      refine z_iconst (v := (4 : Int32)) hX dX11_mark_23 (by decide) ?_
      refine z_iload_n hX dX11_mark_24 rfl 1 rfl ?_
      refine z_imul hX dX11_mark_25 ?_
      refine z_iload_n hX dX11_mark_26 rfl 2 rfl ?_
      refine z_iadd hX dX11_mark_27 ?_
      refine z_istore hX [(5, .int (((4 : Int32) * p1) + p2)), (0, va_rf (some h0)), (1, .int p1), (2, .int p2), (3, .long p3)] dX11_mark_28 (by rw [hnL]; decide) rfl ?_
      refine z_aload_n (r := (some h0)) hX dX11_mark_30 rfl 1 rfl ?_
      obtain ⟨hk22, h⟩ := h
      refine gf_RX11_69 (r := (some h0)) hX dX11_mark_31 rfl hk22 ?_
      refine z_iload hX dX11_mark_34 0 rfl ?_
      obtain ⟨a23, ha24, h⟩ := h
      obtain ⟨hk25, h⟩ := h
      obtain ⟨hc26, h⟩ := h
      refine y_iald (r := (mR M20 735 h0)) hX dX11_mark_36 ha24 hk25 hc26 ?_
      refine z_iconst (v := (2 : Int32)) hX dX11_mark_37 (by decide) ?_
      obtain ⟨h1, h2⟩ := h
      refine z_icmp_ne (tgt := 44) hX dX11_mark_38 (by decide) (fun hc => ?_) (fun hc => ?_)
      · have h := h1 hc
        refine z_aload_n (r := (some h0)) hX dX11_mark_44 rfl 1 rfl ?_
        refine z_iload_n hX dX11_mark_45 rfl 2 rfl ?_
        refine z_iload_n hX dX11_mark_46 rfl 3 rfl ?_
        refine z_callVI (As := [.int p1, .int p2]) (rest := []) (ci := 11) hX (ct_X11_isStopped h) mw_RX11_389 rfl (by decide) rfl (by rfl) (by unfold RoomC; decide) (by decide) dX11_mark_47 hk22 (fun r27 M28 h => ?_)
        obtain ⟨h1, h2⟩ := h
        refine z_if_eq (tgt := 56) hX dX11_mark_50 (by decide) (fun hc => ?_) (fun hc => ?_)
        · have h := h1 hc
          refine z_aload_n (r := (some h0)) hX dX11_mark_56 rfl 1 rfl ?_
          refine z_iload_n hX dX11_mark_57 rfl 2 rfl ?_
          refine z_iload_n hX dX11_mark_58 rfl 3 rfl ?_
          obtain ⟨hk32, h⟩ := h
          refine z_callVV (As := [.int p1, .int p2]) (rest := []) (ci := 11) hX (ct_X11_hear h) mw_RX11_392 rfl (by decide) rfl (by rfl) (by unfold RoomC; decide) (by decide) dX11_mark_59 hk32 (fun M31 h => ?_)
          refine z_lload_n hX dX11_mark_62 rfl 4 rfl ?_
          refine z_aload_n (r := (some h0)) hX dX11_mark_63 rfl 1 rfl ?_
          obtain ⟨hk34, h⟩ := h
          refine gf_RX11_72 (r := (some h0)) hX dX11_mark_64 rfl hk34 ?_
          refine z_iload hX dX11_mark_67 0 rfl ?_
          obtain ⟨a35, ha36, h⟩ := h
          obtain ⟨hk37, h⟩ := h
          obtain ⟨hc38, h⟩ := h
          refine y_lald (r := (mR M31 736 h0)) hX dX11_mark_69 ha36 hk37 hc38 ?_
          refine z_lcmp hX dX11_mark_70 ?_
          obtain ⟨h1, h2⟩ := h
          refine z_if_le (tgt := 78) hX dX11_mark_71 (by decide) (fun hc => ?_) (fun hc => ?_)
          · have h := h1 ((lg_cmp_le _ _).mp hc)
            refine z_iconst (v := (0 : Int32)) hX dX11_mark_78 (by decide) ?_
            refine z_loc [1, 4, 0] rfl ?_
            exact zb_X11_mark_79 hX hQ hnL h
          · have h := h2 (fun q => hc ((lg_cmp_le _ _).mpr q))
            refine z_iconst (v := (1 : Int32)) hX dX11_mark_74 (by decide) ?_
            refine z_goto (tgt := 79) hX dX11_mark_75 (by decide) ?_
            refine z_loc [1, 4, 0] rfl ?_
            exact zb_X11_mark_79 hX hQ hnL h
        · have h := h2 hc
          refine z_bipush (v := (-3 : Int32)) hX dX11_mark_53 (by decide) ?_
          exact z_iret hX hQ dX11_mark_55 h
      · have h := h2 hc
        refine z_bipush (v := (-2 : Int32)) hX dX11_mark_41 (by decide) ?_
        exact z_iret hX hQ dX11_mark_43 h
    · have h := h2 hc
      refine z_loc [] rfl ?_
      exact zb_X11_mark_21 hX hQ hnL h
def rm_X11_end : Room := { frames := 310, cells := 0, slots := 0, locals := 12237 }
def wp_X11_end (M : Mm) (h0 : Nat) (p1 : Int32) (p2 : Int32) (K : Int32 → Mm → Prop) : Prop := mK M h0 = 12 ∧ (wp_X11_isPart (sI M 704 h0 (0 : Int32)) h0 p1 p2 (fun r3 M4 => ((¬ r3 = 0 → mK M4 h0 = 12 ∧ ∃ a7, (mR M4 735 h0) = some a7 ∧ isA M4 a7 1 ∧ vp_in (((4 : Int32) * p1) + p2) (aN M4 a7) ∧ ((¬ (aI M4 a7 ((((4 : Int32) * p1) + p2)).toNatClampNeg) = (2 : Int32) → vp_in (((4 : Int32) * p1) + p2) (aN M4 a7) ∧ ∃ a12, (mR (tI M4 a7 ((((4 : Int32) * p1) + p2)).toNatClampNeg (2 : Int32)) 736 h0) = some a12 ∧ isA (tI M4 a7 ((((4 : Int32) * p1) + p2)).toNatClampNeg (2 : Int32)) a12 2 ∧ vp_in (((4 : Int32) * p1) + p2) (aN (tI M4 a7 ((((4 : Int32) * p1) + p2)).toNatClampNeg (2 : Int32)) a12) ∧ (wp_X11_reckon (tJ (tI M4 a7 ((((4 : Int32) * p1) + p2)).toNatClampNeg (2 : Int32)) a12 ((((4 : Int32) * p1) + p2)).toNatClampNeg (9000000000000000000 : Int64)) h0 (fun M17 => (K (1 : Int32) M17)))) ∧ ((aI M4 a7 ((((4 : Int32) * p1) + p2)).toNatClampNeg) = (2 : Int32) → (K (-2 : Int32) M4)))) ∧ (r3 = 0 → (K (-1 : Int32) M4)))))
set_option maxRecDepth 100000 in
set_option maxHeartbeats 4000000 in
theorem ct_X11_end {M : Mm} {h0 : Nat} {p1 : Int32} {p2 : Int32} {K : Int32 → Mm → Prop} (h : wp_X11_end M h0 p1 p2 K) : CtI yX11_end cX11_end 4 (some .int) rm_X11_end [.ref h0, .int p1, .int p2] M K := by
  refine ct_any (QI K) (by decide) (by exact Nat.le_of_ble_eq_true rfl) (fun X hX hQ hnL hnm => ?_)
  rw [show lv_args 0 [.ref h0, .int p1, .int p2] = [(0, va_rf (some h0)), (1, .int p1), (2, .int p2)] by rfl]
  have hX : Ok X cX11_end RX11 rm_X11_end := hX
  unfold wp_X11_end at h
  refine z_aload_n (r := (some h0)) hX dX11_end_0 rfl 0 rfl ?_
  refine z_iconst (v := (0 : Int32)) hX dX11_end_1 (by decide) ?_
  obtain ⟨hk1, h⟩ := h
  refine pf_RX11_123 (r := (some h0)) (v := (0 : Int32)) hX dX11_end_2 rfl hk1 ?_
  refine z_aload_n (r := (some h0)) hX dX11_end_5 rfl 0 rfl ?_
  refine z_iload_n hX dX11_end_6 rfl 1 rfl ?_
  refine z_iload_n hX dX11_end_7 rfl 2 rfl ?_
  refine z_callVI (As := [.int p1, .int p2]) (rest := []) (ci := 11) hX (ct_X11_isPart h) mw_RX11_381 rfl (by decide) rfl (by rfl) (by unfold RoomC; decide) (by decide) dX11_end_8 hk1 (fun r3 M4 h => ?_)
  obtain ⟨h1, h2⟩ := h
  refine z_if_ne (tgt := 16) hX dX11_end_11 (by decide) (fun hc => ?_) (fun hc => ?_)
  · have h := h1 hc
    refine z_iconst (v := (4 : Int32)) hX dX11_end_16 (by decide) ?_
    refine z_iload_n hX dX11_end_17 rfl 1 rfl ?_
    refine z_imul hX dX11_end_18 ?_
    refine z_iload_n hX dX11_end_19 rfl 2 rfl ?_
    refine z_iadd hX dX11_end_20 ?_
    refine z_istore_n hX [(3, .int (((4 : Int32) * p1) + p2)), (0, va_rf (some h0)), (1, .int p1), (2, .int p2)] dX11_end_21 rfl (by rw [hnL]; decide) rfl ?_
    refine z_aload_n (r := (some h0)) hX dX11_end_22 rfl 1 rfl ?_
    obtain ⟨hk6, h⟩ := h
    refine gf_RX11_69 (r := (some h0)) hX dX11_end_23 rfl hk6 ?_
    refine z_iload_n hX dX11_end_26 rfl 0 rfl ?_
    obtain ⟨a7, ha8, h⟩ := h
    obtain ⟨hk9, h⟩ := h
    obtain ⟨hc10, h⟩ := h
    refine y_iald (r := (mR M4 735 h0)) hX dX11_end_27 ha8 hk9 hc10 ?_
    refine z_iconst (v := (2 : Int32)) hX dX11_end_28 (by decide) ?_
    obtain ⟨h1, h2⟩ := h
    refine z_icmp_ne (tgt := 35) hX dX11_end_29 (by decide) (fun hc => ?_) (fun hc => ?_)
    · have h := h1 hc
      refine z_aload_n (r := (some h0)) hX dX11_end_35 rfl 1 rfl ?_
      refine gf_RX11_69 (r := (some h0)) hX dX11_end_36 rfl hk6 ?_
      refine z_iload_n hX dX11_end_39 rfl 0 rfl ?_
      refine z_iconst (v := (2 : Int32)) hX dX11_end_40 (by decide) ?_
      obtain ⟨hc11, h⟩ := h
      refine y_iast (r := (mR M4 735 h0)) hX dX11_end_41 ha8 hk9 hc11 ?_
      refine z_aload_n (r := (some h0)) hX dX11_end_42 rfl 1 rfl ?_
      refine gf_RX11_72 (r := (some h0)) hX dX11_end_43 rfl hk6 ?_
      refine z_iload_n hX dX11_end_46 rfl 0 rfl ?_
      refine z_ldc2 (v := (9000000000000000000 : Int64)) hX dX11_end_47 kj_RX11_298 ?_
      obtain ⟨a12, ha13, h⟩ := h
      obtain ⟨hk14, h⟩ := h
      obtain ⟨hc15, h⟩ := h
      refine y_last (r := (mR (tI M4 a7 ((((4 : Int32) * p1) + p2)).toNatClampNeg (2 : Int32)) 736 h0)) hX dX11_end_50 ha13 hk14 hc15 ?_
      refine z_aload_n (r := (some h0)) hX dX11_end_51 rfl 1 rfl ?_
      refine z_callVV (As := []) (rest := []) (ci := 11) hX (ct_X11_reckon h) mw_RX11_395 rfl (by decide) rfl (by rfl) (by unfold RoomC; decide) (by decide) dX11_end_52 hk6 (fun M17 h => ?_)
      refine z_iconst (v := (1 : Int32)) hX dX11_end_55 (by decide) ?_
      exact z_iret hX hQ dX11_end_56 h
    · have h := h2 hc
      refine z_bipush (v := (-2 : Int32)) hX dX11_end_32 (by decide) ?_
      exact z_iret hX hQ dX11_end_34 h
  · have h := h2 hc
    refine z_iconst (v := (-1 : Int32)) hX dX11_end_14 (by decide) ?_
    exact z_iret hX hQ dX11_end_15 h
def rm_X11_idle : Room := { frames := 310, cells := 0, slots := 0, locals := 12237 }
def bk_X11_idle_109 (h0 : Nat) (K : Int32 → Mm → Prop) (s0 : Int32) (M : Mm) : Prop := (K s0 M)
set_option maxRecDepth 100000 in
set_option maxHeartbeats 4000000 in
theorem zb_X11_idle_109 {X : Cx} {h0 : Nat} {K : Int32 → Mm → Prop} (hX : Ok X cX11_idle RX11 rm_X11_idle) (hQ : Rq X rm_X11_idle (some .int) (QI K)) (hnL : X.2.2.2.2.2.2.2.2.2.2.2.2.2.2 = 6) {s0 : Int32} {M : Mm} (h : bk_X11_idle_109 h0 K s0 M) : Z X M 0 0 109 [] [.int s0] := by
  unfold bk_X11_idle_109 at h
  exact z_iret hX hQ dX11_idle_109 h
def bk_X11_idle_95 (h0 : Nat) (K : Int32 → Mm → Prop) (l5 : Int32) (M : Mm) : Prop := mK M h0 = 12 ∧ (wp_X11_reckon M h0 (fun M2 => ((l5 = 0 → (bk_X11_idle_109 h0 K (0 : Int32) M2)) ∧ (¬ l5 = 0 → (bk_X11_idle_109 h0 K (1 : Int32) M2)))))
set_option maxRecDepth 100000 in
set_option maxHeartbeats 4000000 in
theorem zb_X11_idle_95 {X : Cx} {h0 : Nat} {K : Int32 → Mm → Prop} (hX : Ok X cX11_idle RX11 rm_X11_idle) (hQ : Rq X rm_X11_idle (some .int) (QI K)) (hnL : X.2.2.2.2.2.2.2.2.2.2.2.2.2.2 = 6) {l5 : Int32} {M : Mm} (h : bk_X11_idle_95 h0 K l5 M) : Z X M 0 0 95 [(0, va_rf (some h0)), (5, .int l5)] [] := by
  unfold bk_X11_idle_95 at h
  refine z_aload_n (r := (some h0)) hX dX11_idle_95 rfl 0 rfl ?_
  obtain ⟨hk3, h⟩ := h
  refine z_callVV (As := []) (rest := []) (ci := 11) hX (ct_X11_reckon h) mw_RX11_395 rfl (by decide) rfl (by rfl) (by unfold RoomC; decide) (by decide) dX11_idle_96 hk3 (fun M2 h => ?_)
  refine z_iload hX dX11_idle_99 1 rfl ?_
  obtain ⟨h1, h2⟩ := h
  refine z_if_eq (tgt := 108) hX dX11_idle_101 (by decide) (fun hc => ?_) (fun hc => ?_)
  · have h := h1 hc
    refine z_iconst (v := (0 : Int32)) hX dX11_idle_108 (by decide) ?_
    refine z_loc [] rfl ?_
    exact zb_X11_idle_109 hX hQ hnL h
  · have h := h2 hc
    refine z_iconst (v := (1 : Int32)) hX dX11_idle_104 (by decide) ?_
    refine z_goto (tgt := 109) hX dX11_idle_105 (by decide) ?_
    refine z_loc [] rfl ?_
    exact zb_X11_idle_109 hX hQ hnL h
def bk_X11_idle_84 (h0 : Nat) (K : Int32 → Mm → Prop) (l1 : Int32) (l2 : Int32) (l5 : Int32) (M : Mm) : Prop := ((l5 = 0 → (bk_X11_idle_95 h0 K l5 M)) ∧ (¬ l5 = 0 → mK M h0 = 12 ∧ (wp_X11_hear M h0 l1 l2 (fun M6 => (bk_X11_idle_95 h0 K l5 M6)))))
set_option maxRecDepth 100000 in
set_option maxHeartbeats 4000000 in
theorem zb_X11_idle_84 {X : Cx} {h0 : Nat} {K : Int32 → Mm → Prop} (hX : Ok X cX11_idle RX11 rm_X11_idle) (hQ : Rq X rm_X11_idle (some .int) (QI K)) (hnL : X.2.2.2.2.2.2.2.2.2.2.2.2.2.2 = 6) {l1 : Int32} {l2 : Int32} {l5 : Int32} {M : Mm} (h : bk_X11_idle_84 h0 K l1 l2 l5 M) : Z X M 0 0 84 [(0, va_rf (some h0)), (1, .int l1), (2, .int l2), (5, .int l5)] [] := by
  unfold bk_X11_idle_84 at h
  refine z_iload hX dX11_idle_84 3 rfl ?_
  obtain ⟨h1, h2⟩ := h
  refine z_if_eq (tgt := 95) hX dX11_idle_86 (by decide) (fun hc => ?_) (fun hc => ?_)
  · have h := h1 hc
    refine z_loc [0, 3] rfl ?_
    exact zb_X11_idle_95 hX hQ hnL h
  · have h := h2 hc
    refine z_aload_n (r := (some h0)) hX dX11_idle_89 rfl 0 rfl ?_
    refine z_iload_n hX dX11_idle_90 rfl 1 rfl ?_
    refine z_iload_n hX dX11_idle_91 rfl 2 rfl ?_
    obtain ⟨hk7, h⟩ := h
    refine z_callVV (As := [.int l1, .int l2]) (rest := []) (ci := 11) hX (ct_X11_hear h) mw_RX11_392 rfl (by decide) rfl (by rfl) (by unfold RoomC; decide) (by decide) dX11_idle_92 hk7 (fun M6 h => ?_)
    refine z_loc [0, 3] rfl ?_
    exact zb_X11_idle_95 hX hQ hnL h
def bk_X11_idle_62 (h0 : Nat) (K : Int32 → Mm → Prop) (l1 : Int32) (l2 : Int32) (l3 : Int32) (l4 : Int32) (s0 : Int32) (M : Mm) : Prop := ((s0 = 0 → (bk_X11_idle_84 h0 K l1 l2 s0 M)) ∧ (¬ s0 = 0 → ((l3 = 0 → (bk_X11_idle_84 h0 K l1 l2 s0 M)) ∧ (¬ l3 = 0 → mK M h0 = 12 ∧ ∃ a10, (mR M 735 h0) = some a10 ∧ isA M a10 1 ∧ vp_in l4 (aN M a10) ∧ (bk_X11_idle_95 h0 K s0 (tI M a10 (l4).toNatClampNeg (1 : Int32)))))))
set_option maxRecDepth 100000 in
set_option maxHeartbeats 4000000 in
theorem zb_X11_idle_62 {X : Cx} {h0 : Nat} {K : Int32 → Mm → Prop} (hX : Ok X cX11_idle RX11 rm_X11_idle) (hQ : Rq X rm_X11_idle (some .int) (QI K)) (hnL : X.2.2.2.2.2.2.2.2.2.2.2.2.2.2 = 6) {l1 : Int32} {l2 : Int32} {l3 : Int32} {l4 : Int32} {s0 : Int32} {M : Mm} (h : bk_X11_idle_62 h0 K l1 l2 l3 l4 s0 M) : Z X M 0 0 62 [(0, va_rf (some h0)), (1, .int l1), (2, .int l2), (3, .int l3), (4, .int l4)] [.int s0] := by
  unfold bk_X11_idle_62 at h
  refine z_istore hX [(5, .int s0), (0, va_rf (some h0)), (1, .int l1), (2, .int l2), (3, .int l3), (4, .int l4)] dX11_idle_62 (by rw [hnL]; decide) rfl ?_
  refine z_iload hX dX11_idle_64 0 rfl ?_
  obtain ⟨h1, h2⟩ := h
  refine z_if_eq (tgt := 84) hX dX11_idle_66 (by decide) (fun hc => ?_) (fun hc => ?_)
  · have h := h1 hc
    refine z_loc [1, 2, 3, 0] rfl ?_
    exact zb_X11_idle_84 hX hQ hnL h
  · have h := h2 hc
    refine z_iload_n hX dX11_idle_69 rfl 4 rfl ?_
    obtain ⟨h1, h2⟩ := h
    refine z_if_eq (tgt := 84) hX dX11_idle_70 (by decide) (fun hc => ?_) (fun hc => ?_)
    · have h := h1 hc
      refine z_loc [1, 2, 3, 0] rfl ?_
      exact zb_X11_idle_84 hX hQ hnL h
    · have h := h2 hc
      refine z_aload_n (r := (some h0)) hX dX11_idle_73 rfl 1 rfl ?_
      obtain ⟨hk9, h⟩ := h
      refine gf_RX11_69 (r := (some h0)) hX dX11_idle_74 rfl hk9 ?_
      refine z_iload hX dX11_idle_77 5 rfl ?_
      refine z_iconst (v := (1 : Int32)) hX dX11_idle_79 (by decide) ?_
      obtain ⟨a10, ha11, h⟩ := h
      obtain ⟨hk12, h⟩ := h
      obtain ⟨hc13, h⟩ := h
      refine y_iast (r := (mR M 735 h0)) hX dX11_idle_80 ha11 hk12 hc13 ?_
      refine z_goto (tgt := 95) hX dX11_idle_81 (by decide) ?_
      refine z_loc [1, 0] rfl ?_
      exact zb_X11_idle_95 hX hQ hnL h
def bk_X11_idle_54 (h0 : Nat) (K : Int32 → Mm → Prop) (l1 : Int32) (l2 : Int32) (l3 : Int32) (l4 : Int32) (s0 : Int32) (s1 : Int32) (M : Mm) : Prop := ((s1 = s0 → (bk_X11_idle_62 h0 K l1 l2 l3 l4 (0 : Int32) M)) ∧ (¬ s1 = s0 → (bk_X11_idle_62 h0 K l1 l2 l3 l4 (1 : Int32) M)))
set_option maxRecDepth 100000 in
set_option maxHeartbeats 4000000 in
theorem zb_X11_idle_54 {X : Cx} {h0 : Nat} {K : Int32 → Mm → Prop} (hX : Ok X cX11_idle RX11 rm_X11_idle) (hQ : Rq X rm_X11_idle (some .int) (QI K)) (hnL : X.2.2.2.2.2.2.2.2.2.2.2.2.2.2 = 6) {l1 : Int32} {l2 : Int32} {l3 : Int32} {l4 : Int32} {s0 : Int32} {s1 : Int32} {M : Mm} (h : bk_X11_idle_54 h0 K l1 l2 l3 l4 s0 s1 M) : Z X M 0 0 54 [(0, va_rf (some h0)), (1, .int l1), (2, .int l2), (3, .int l3), (4, .int l4)] [.int s0, .int s1] := by
  unfold bk_X11_idle_54 at h
  obtain ⟨h1, h2⟩ := h
  refine z_icmp_eq (tgt := 61) hX dX11_idle_54 (by decide) (fun hc => ?_) (fun hc => ?_)
  · have h := h1 hc
    refine z_iconst (v := (0 : Int32)) hX dX11_idle_61 (by decide) ?_
    exact zb_X11_idle_62 hX hQ hnL h
  · have h := h2 hc
    refine z_iconst (v := (1 : Int32)) hX dX11_idle_57 (by decide) ?_
    refine z_goto (tgt := 62) hX dX11_idle_58 (by decide) ?_
    exact zb_X11_idle_62 hX hQ hnL h
def wp_X11_idle (M : Mm) (h0 : Nat) (p1 : Int32) (p2 : Int32) (p3 : Int32) (K : Int32 → Mm → Prop) : Prop := mK M h0 = 12 ∧ (wp_X11_isPart (sI M 704 h0 (0 : Int32)) h0 p1 p2 (fun r16 M17 => ((¬ r16 = 0 → mK M17 h0 = 12 ∧ ∃ a20, (mR M17 735 h0) = some a20 ∧ isA M17 a20 1 ∧ vp_in (((4 : Int32) * p1) + p2) (aN M17 a20) ∧ ((¬ (aI M17 a20 ((((4 : Int32) * p1) + p2)).toNatClampNeg) = (2 : Int32) → vp_in (((4 : Int32) * p1) + p2) (aN M17 a20) ∧ ((¬ (aI M17 a20 ((((4 : Int32) * p1) + p2)).toNatClampNeg) = (1 : Int32) → (bk_X11_idle_54 h0 K p1 p2 p3 (((4 : Int32) * p1) + p2) (0 : Int32) p3 M17)) ∧ ((aI M17 a20 ((((4 : Int32) * p1) + p2)).toNatClampNeg) = (1 : Int32) → (bk_X11_idle_54 h0 K p1 p2 p3 (((4 : Int32) * p1) + p2) (1 : Int32) p3 M17)))) ∧ ((aI M17 a20 ((((4 : Int32) * p1) + p2)).toNatClampNeg) = (2 : Int32) → (K (-2 : Int32) M17)))) ∧ (r16 = 0 → (K (-1 : Int32) M17)))))
set_option maxRecDepth 100000 in
set_option maxHeartbeats 4000000 in
theorem ct_X11_idle {M : Mm} {h0 : Nat} {p1 : Int32} {p2 : Int32} {p3 : Int32} {K : Int32 → Mm → Prop} (h : wp_X11_idle M h0 p1 p2 p3 K) : CtI yX11_idle cX11_idle 6 (some .int) rm_X11_idle [.ref h0, .int p1, .int p2, .int p3] M K := by
  refine ct_any (QI K) (by decide) (by exact Nat.le_of_ble_eq_true rfl) (fun X hX hQ hnL hnm => ?_)
  rw [show lv_args 0 [.ref h0, .int p1, .int p2, .int p3] = [(0, va_rf (some h0)), (1, .int p1), (2, .int p2), (3, .int p3)] by rfl]
  have hX : Ok X cX11_idle RX11 rm_X11_idle := hX
  unfold wp_X11_idle at h
  refine z_aload_n (r := (some h0)) hX dX11_idle_0 rfl 0 rfl ?_
  refine z_iconst (v := (0 : Int32)) hX dX11_idle_1 (by decide) ?_
  obtain ⟨hk14, h⟩ := h
  refine pf_RX11_123 (r := (some h0)) (v := (0 : Int32)) hX dX11_idle_2 rfl hk14 ?_
  refine z_aload_n (r := (some h0)) hX dX11_idle_5 rfl 0 rfl ?_
  refine z_iload_n hX dX11_idle_6 rfl 1 rfl ?_
  refine z_iload_n hX dX11_idle_7 rfl 2 rfl ?_
  refine z_callVI (As := [.int p1, .int p2]) (rest := []) (ci := 11) hX (ct_X11_isPart h) mw_RX11_381 rfl (by decide) rfl (by rfl) (by unfold RoomC; decide) (by decide) dX11_idle_8 hk14 (fun r16 M17 h => ?_)
  obtain ⟨h1, h2⟩ := h
  refine z_if_ne (tgt := 16) hX dX11_idle_11 (by decide) (fun hc => ?_) (fun hc => ?_)
  · have h := h1 hc
    refine z_iconst (v := (4 : Int32)) hX dX11_idle_16 (by decide) ?_
    refine z_iload_n hX dX11_idle_17 rfl 1 rfl ?_
    refine z_imul hX dX11_idle_18 ?_
    refine z_iload_n hX dX11_idle_19 rfl 2 rfl ?_
    refine z_iadd hX dX11_idle_20 ?_
    refine z_istore hX [(4, .int (((4 : Int32) * p1) + p2)), (0, va_rf (some h0)), (1, .int p1), (2, .int p2), (3, .int p3)] dX11_idle_21 (by rw [hnL]; decide) rfl ?_
    refine z_aload_n (r := (some h0)) hX dX11_idle_23 rfl 1 rfl ?_
    obtain ⟨hk19, h⟩ := h
    refine gf_RX11_69 (r := (some h0)) hX dX11_idle_24 rfl hk19 ?_
    refine z_iload hX dX11_idle_27 0 rfl ?_
    obtain ⟨a20, ha21, h⟩ := h
    obtain ⟨hk22, h⟩ := h
    obtain ⟨hc23, h⟩ := h
    refine y_iald (r := (mR M17 735 h0)) hX dX11_idle_29 ha21 hk22 hc23 ?_
    refine z_iconst (v := (2 : Int32)) hX dX11_idle_30 (by decide) ?_
    obtain ⟨h1, h2⟩ := h
    refine z_icmp_ne (tgt := 37) hX dX11_idle_31 (by decide) (fun hc => ?_) (fun hc => ?_)
    · have h := h1 hc
      refine z_iload_n hX dX11_idle_37 rfl 4 rfl ?_
      refine z_aload_n (r := (some h0)) hX dX11_idle_38 rfl 1 rfl ?_
      refine gf_RX11_69 (r := (some h0)) hX dX11_idle_39 rfl hk19 ?_
      refine z_iload hX dX11_idle_42 0 rfl ?_
      obtain ⟨hc24, h⟩ := h
      refine y_iald (r := (mR M17 735 h0)) hX dX11_idle_44 ha21 hk22 hc24 ?_
      refine z_iconst (v := (1 : Int32)) hX dX11_idle_45 (by decide) ?_
      obtain ⟨h1, h2⟩ := h
      refine z_icmp_ne (tgt := 53) hX dX11_idle_46 (by decide) (fun hc => ?_) (fun hc => ?_)
      · have h := h1 hc
        refine z_iconst (v := (0 : Int32)) hX dX11_idle_53 (by decide) ?_
        refine z_loc [1, 2, 3, 4, 0] rfl ?_
        exact zb_X11_idle_54 hX hQ hnL h
      · have h := h2 hc
        refine z_iconst (v := (1 : Int32)) hX dX11_idle_49 (by decide) ?_
        refine z_goto (tgt := 54) hX dX11_idle_50 (by decide) ?_
        refine z_loc [1, 2, 3, 4, 0] rfl ?_
        exact zb_X11_idle_54 hX hQ hnL h
    · have h := h2 hc
      refine z_bipush (v := (-2 : Int32)) hX dX11_idle_34 (by decide) ?_
      exact z_iret hX hQ dX11_idle_36 h
  · have h := h2 hc
    refine z_iconst (v := (-1 : Int32)) hX dX11_idle_14 (by decide) ?_
    exact z_iret hX hQ dX11_idle_15 h
