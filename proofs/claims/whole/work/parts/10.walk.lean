def rm_X0_init : Room := { frames := 1, cells := 1, slots := 800, locals := 20 }
def wp_X0_init (M : Mm) (h0 : Nat) (p1 : Int32) (K : Mm → Prop) : Prop := ¬ p1 < 0 ∧ (p1).toNatClampNeg ≤ 800 ∧ (∀ q1, mK M q1 = 0 → mK (na M q1 16 (p1).toNatClampNeg) h0 = 1 ∧ (K (sR (na M q1 16 (p1).toNatClampNeg) 0 h0 (some q1))))
set_option maxRecDepth 100000 in
set_option maxHeartbeats 4000000 in
theorem ct_X0_init {M : Mm} {h0 : Nat} {p1 : Int32} {K : Mm → Prop} (h : wp_X0_init M h0 p1 K) : CtV yX0_init cX0_init 2 none rm_X0_init [.ref h0, .int p1] M K := by
  refine ct_any (QV K) (by decide) (by exact Nat.le_of_ble_eq_true rfl) (fun X hX hQ hnL hnm => ?_)
  rw [show lv_args 0 [.ref h0, .int p1] = [(0, va_rf (some h0)), (1, .int p1)] by rfl]
  have hX : Ok X cX0_init RX0 rm_X0_init := hX
  unfold wp_X0_init at h
  refine z_aload_n (r := (some h0)) hX dX0_init_0 rfl 0 rfl ?_
  refine mw_RX0_3 (a := h0) hX dX0_init_1 (by decide) (by decide) ?_
  refine z_aload_n (r := (some h0)) hX dX0_init_4 rfl 0 rfl ?_
  refine z_iload_n hX dX0_init_5 rfl 1 rfl ?_
  obtain ⟨hc4, h⟩ := h
  obtain ⟨hc5, h⟩ := h
  refine y_newa_byte (n := (p1).toNatClampNeg) hX 16 (by decide) (by decide) hc4 rfl (by show _ * 1 ≤ _; omega) dX0_init_6 (by decide) (by show _ ≤ 800; omega) (fun q1 hq2 => ?_)
  refine z_widen 1 800 (by omega) (by omega) ?_
  have h := h q1 hq2
  obtain ⟨hk6, h⟩ := h
  refine pf_RX0_9 (r := (some h0)) (v := (some q1)) hX hnm dX0_init_8 rfl hk6 ?_
  refine z_widen 1 800 (by decide) (by decide) ?_
  exact z_vret hX hQ dX0_init_11 h
def rm_X0_clear : Room := { frames := 0, cells := 0, slots := 0, locals := 0 }
def wp_X0_clear (M : Mm) (h0 : Nat) (K : Mm → Prop) : Prop := mK M h0 = 1 ∧ (K (sI M 1 h0 (0 : Int32)))
set_option maxRecDepth 100000 in
set_option maxHeartbeats 4000000 in
theorem ct_X0_clear {M : Mm} {h0 : Nat} {K : Mm → Prop} (h : wp_X0_clear M h0 K) : CtV yX0_clear cX0_clear 1 none rm_X0_clear [.ref h0] M K := by
  refine ct_any (QV K) (by decide) (by exact Nat.le_of_ble_eq_true rfl) (fun X hX hQ hnL hnm => ?_)
  rw [show lv_args 0 [.ref h0] = [(0, va_rf (some h0))] by rfl]
  have hX : Ok X cX0_clear RX0 rm_X0_clear := hX
  unfold wp_X0_clear at h
  refine z_aload_n (r := (some h0)) hX dX0_clear_0 rfl 0 rfl ?_
  refine z_iconst (v := (0 : Int32)) hX dX0_clear_1 (by decide) ?_
  obtain ⟨hk1, h⟩ := h
  refine pf_RX0_15 (r := (some h0)) (v := (0 : Int32)) hX dX0_clear_2 rfl hk1 ?_
  exact z_vret hX hQ dX0_clear_5 h
def rm_X0_add : Room := { frames := 0, cells := 0, slots := 0, locals := 0 }
def bk_X0_add_33 (h0 : Nat) (K : Mm → Prop) (M : Mm) : Prop := (K M)
set_option maxRecDepth 100000 in
set_option maxHeartbeats 4000000 in
theorem zb_X0_add_33 {X : Cx} {h0 : Nat} {K : Mm → Prop} (hX : Ok X cX0_add RX0 rm_X0_add) (hQ : Rq X rm_X0_add none (QV K)) (hnL : X.2.2.2.2.2.2.2.2.2.2.2.2.2.2 = 2) {M : Mm} (h : bk_X0_add_33 h0 K M) : Z X M 0 0 33 [] [] := by
  unfold bk_X0_add_33 at h
  exact z_vret hX hQ dX0_add_33 h
def wp_X0_add (M : Mm) (h0 : Nat) (p1 : Int32) (K : Mm → Prop) : Prop := mK M h0 = 1 ∧ ∃ a2, (mR M 0 h0) = some a2 ∧ isA M a2 0 ∧ (((nI (aN M a2)) ≤ (mI M 1 h0) → (bk_X0_add_33 h0 K M)) ∧ (¬ (nI (aN M a2)) ≤ (mI M 1 h0) → vp_in (mI M 1 h0) (aN M a2) ∧ (bk_X0_add_33 h0 K (sI (tI M a2 ((mI M 1 h0)).toNatClampNeg ((((p1).toInt8.toInt32)).toInt8.toInt32)) 1 h0 ((mI (tI M a2 ((mI M 1 h0)).toNatClampNeg ((((p1).toInt8.toInt32)).toInt8.toInt32)) 1 h0) + (1 : Int32))))))
set_option maxRecDepth 100000 in
set_option maxHeartbeats 4000000 in
theorem ct_X0_add {M : Mm} {h0 : Nat} {p1 : Int32} {K : Mm → Prop} (h : wp_X0_add M h0 p1 K) : CtV yX0_add cX0_add 2 none rm_X0_add [.ref h0, .int p1] M K := by
  refine ct_any (QV K) (by decide) (by exact Nat.le_of_ble_eq_true rfl) (fun X hX hQ hnL hnm => ?_)
  rw [show lv_args 0 [.ref h0, .int p1] = [(0, va_rf (some h0)), (1, .int p1)] by rfl]
  have hX : Ok X cX0_add RX0 rm_X0_add := hX
  unfold wp_X0_add at h
  refine z_aload_n (r := (some h0)) hX dX0_add_0 rfl 0 rfl ?_
  obtain ⟨hk1, h⟩ := h
  refine gf_RX0_15 (r := (some h0)) hX dX0_add_1 rfl hk1 ?_
  refine z_aload_n (r := (some h0)) hX dX0_add_4 rfl 0 rfl ?_
  refine gf_RX0_9 (r := (some h0)) hX dX0_add_5 rfl hk1 ?_
  obtain ⟨a2, ha3, h⟩ := h
  obtain ⟨hk4, h⟩ := h
  refine y_alen (r := (mR M 0 h0)) hX dX0_add_8 ha3 hk4 (by decide) ?_
  obtain ⟨h1, h2⟩ := h
  refine z_icmp_ge (tgt := 33) hX dX0_add_9 (by decide) (fun hc => ?_) (fun hc => ?_)
  · have h := h1 hc
    refine z_loc [] rfl ?_
    exact zb_X0_add_33 hX hQ hnL h
  · have h := h2 hc
    refine z_aload_n (r := (some h0)) hX dX0_add_12 rfl 0 rfl ?_
    refine gf_RX0_9 (r := (some h0)) hX dX0_add_13 rfl hk1 ?_
    refine z_aload_n (r := (some h0)) hX dX0_add_16 rfl 0 rfl ?_
    refine gf_RX0_15 (r := (some h0)) hX dX0_add_17 rfl hk1 ?_
    refine z_iload_n hX dX0_add_20 rfl 1 rfl ?_
    refine z_i2b hX dX0_add_21 ?_
    obtain ⟨hc5, h⟩ := h
    refine y_bast (r := (mR M 0 h0)) hX dX0_add_22 ha3 hk4 hc5 ?_
    refine z_aload_n (r := (some h0)) hX dX0_add_23 rfl 0 rfl ?_
    refine z_dup hX dX0_add_24 (cat_rf _) ?_
    refine gf_RX0_15 (r := (some h0)) hX dX0_add_25 rfl hk1 ?_
    refine z_iconst (v := (1 : Int32)) hX dX0_add_28 (by decide) ?_
    refine z_iadd hX dX0_add_29 ?_
    refine pf_RX0_15 (r := (some h0)) (v := ((mI (tI M a2 ((mI M 1 h0)).toNatClampNeg ((((p1).toInt8.toInt32)).toInt8.toInt32)) 1 h0) + (1 : Int32))) hX dX0_add_30 rfl hk1 ?_
    refine z_loc [] rfl ?_
    exact zb_X0_add_33 hX hQ hnL h
def rm_X0_at : Room := { frames := 0, cells := 0, slots := 0, locals := 0 }
def bk_X0_at_26 (h0 : Nat) (K : Int32 → Mm → Prop) (s0 : Int32) (M : Mm) : Prop := (K s0 M)
set_option maxRecDepth 100000 in
set_option maxHeartbeats 4000000 in
theorem zb_X0_at_26 {X : Cx} {h0 : Nat} {K : Int32 → Mm → Prop} (hX : Ok X cX0_at RX0 rm_X0_at) (hQ : Rq X rm_X0_at (some .int) (QI K)) (hnL : X.2.2.2.2.2.2.2.2.2.2.2.2.2.2 = 2) {s0 : Int32} {M : Mm} (h : bk_X0_at_26 h0 K s0 M) : Z X M 0 0 26 [] [.int s0] := by
  unfold bk_X0_at_26 at h
  exact z_iret hX hQ dX0_at_26 h
def bk_X0_at_25 (h0 : Nat) (K : Int32 → Mm → Prop) (M : Mm) : Prop := (bk_X0_at_26 h0 K (-1 : Int32) M)
set_option maxRecDepth 100000 in
set_option maxHeartbeats 4000000 in
theorem zb_X0_at_25 {X : Cx} {h0 : Nat} {K : Int32 → Mm → Prop} (hX : Ok X cX0_at RX0 rm_X0_at) (hQ : Rq X rm_X0_at (some .int) (QI K)) (hnL : X.2.2.2.2.2.2.2.2.2.2.2.2.2.2 = 2) {M : Mm} (h : bk_X0_at_25 h0 K M) : Z X M 0 0 25 [] [] := by
  unfold bk_X0_at_25 at h
  refine z_iconst (v := (-1 : Int32)) hX dX0_at_25 (by decide) ?_
  exact zb_X0_at_26 hX hQ hnL h
def wp_X0_at (M : Mm) (h0 : Nat) (p1 : Int32) (K : Int32 → Mm → Prop) : Prop := ((p1 < 0 → (bk_X0_at_25 h0 K M)) ∧ (¬ p1 < 0 → mK M h0 = 1 ∧ (((mI M 1 h0) ≤ p1 → (bk_X0_at_25 h0 K M)) ∧ (¬ (mI M 1 h0) ≤ p1 → ∃ a2, (mR M 0 h0) = some a2 ∧ isA M a2 0 ∧ vp_in p1 (aN M a2) ∧ (bk_X0_at_26 h0 K ((aI M a2 (p1).toNatClampNeg) &&& (255 : Int32)) M)))))
set_option maxRecDepth 100000 in
set_option maxHeartbeats 4000000 in
theorem ct_X0_at {M : Mm} {h0 : Nat} {p1 : Int32} {K : Int32 → Mm → Prop} (h : wp_X0_at M h0 p1 K) : CtI yX0_at cX0_at 2 (some .int) rm_X0_at [.ref h0, .int p1] M K := by
  refine ct_any (QI K) (by decide) (by exact Nat.le_of_ble_eq_true rfl) (fun X hX hQ hnL hnm => ?_)
  rw [show lv_args 0 [.ref h0, .int p1] = [(0, va_rf (some h0)), (1, .int p1)] by rfl]
  have hX : Ok X cX0_at RX0 rm_X0_at := hX
  unfold wp_X0_at at h
  refine z_iload_n hX dX0_at_0 rfl 1 rfl ?_
  obtain ⟨h1, h2⟩ := h
  refine z_if_lt (tgt := 25) hX dX0_at_1 (by decide) (fun hc => ?_) (fun hc => ?_)
  · have h := h1 hc
    refine z_loc [] rfl ?_
    exact zb_X0_at_25 hX hQ hnL h
  · have h := h2 hc
    refine z_iload_n hX dX0_at_4 rfl 1 rfl ?_
    refine z_aload_n (r := (some h0)) hX dX0_at_5 rfl 0 rfl ?_
    obtain ⟨hk1, h⟩ := h
    refine gf_RX0_15 (r := (some h0)) hX dX0_at_6 rfl hk1 ?_
    obtain ⟨h1, h2⟩ := h
    refine z_icmp_ge (tgt := 25) hX dX0_at_9 (by decide) (fun hc => ?_) (fun hc => ?_)
    · have h := h1 hc
      refine z_loc [] rfl ?_
      exact zb_X0_at_25 hX hQ hnL h
    · have h := h2 hc
      refine z_aload_n (r := (some h0)) hX dX0_at_12 rfl 0 rfl ?_
      refine gf_RX0_9 (r := (some h0)) hX dX0_at_13 rfl hk1 ?_
      refine z_iload_n hX dX0_at_16 rfl 1 rfl ?_
      obtain ⟨a2, ha3, h⟩ := h
      obtain ⟨hk4, h⟩ := h
      obtain ⟨hc5, h⟩ := h
      refine y_bald (r := (mR M 0 h0)) hX dX0_at_17 ha3 hk4 hc5 ?_
      refine z_sipush (v := (255 : Int32)) hX dX0_at_18 (by decide) ?_
      refine z_iand hX dX0_at_21 ?_
      refine z_goto (tgt := 26) hX dX0_at_22 (by decide) ?_
      refine z_loc [] rfl ?_
      exact zb_X0_at_26 hX hQ hnL h
def rm_X0_addWord : Room := { frames := 1, cells := 0, slots := 0, locals := 21 }
def bk_X0_addWord_28 (h0 : Nat) (R3 : Int64 → Int32 → Mm → Prop) (K : Mm → Prop) (l1 : Int64) (l3 : Int32) (M : Mm) : Prop := (R3 l1 (l3 + (-8)) M)
set_option maxRecDepth 100000 in
set_option maxHeartbeats 4000000 in
theorem zb_X0_addWord_28 {X : Cx} {h0 : Nat} {R3 : Int64 → Int32 → Mm → Prop} {K : Mm → Prop} (hX : Ok X cX0_addWord RX0 rm_X0_addWord) (hQ : Rq X rm_X0_addWord none (QV K)) (hnL : X.2.2.2.2.2.2.2.2.2.2.2.2.2.2 = 5) (hR3 : ∀ l1 l3 M, R3 l1 l3 M → Z X M 0 0 3 [(0, va_rf (some h0)), (1, .long l1), (3, .int l3)] []) {l1 : Int64} {l3 : Int32} {M : Mm} (h : bk_X0_addWord_28 h0 R3 K l1 l3 M) : Z X M 0 0 28 [(0, va_rf (some h0)), (1, .long l1), (3, .int l3)] [] := by
  unfold bk_X0_addWord_28 at h
  refine z_iinc (v := (l3 + (-8))) hX [(3, .int (l3 + (-8))), (0, va_rf (some h0)), (1, .long l1)] dX0_addWord_28 2 rfl rfl (by rw [hnL]; decide) rfl ?_
  refine z_goto (tgt := 3) hX dX0_addWord_31 (by decide) ?_
  refine z_loc [1, 2, 0] rfl ?_
  exact hR3 _ _ _ h
def lp_X0_addWord_3 (h0 : Nat) (K : Mm → Prop) : Nat → Int64 → Int32 → Mm → Prop
  | 0, _, _, _ => False
  | n + 1, l1, l3, M => ((l3 < 0 → (K M)) ∧ (¬ l3 < 0 → ((((((((l1).toUInt64 >>> ((l3).toInt64.toUInt64 &&& Int64.toUInt64 63)).toInt64)).toInt32) &&& (255 : Int32)) = 0 → (bk_X0_addWord_28 h0 (lp_X0_addWord_3 h0 K n) K l1 l3 M)) ∧ (¬ ((((((l1).toUInt64 >>> ((l3).toInt64.toUInt64 &&& Int64.toUInt64 63)).toInt64)).toInt32) &&& (255 : Int32)) = 0 → mK M h0 = 1 ∧ (wp_X0_add M h0 ((((((l1).toUInt64 >>> ((l3).toInt64.toUInt64 &&& Int64.toUInt64 63)).toInt64)).toInt32) &&& (255 : Int32)) (fun M2 => (bk_X0_addWord_28 h0 (lp_X0_addWord_3 h0 K n) K l1 l3 M2)))))))
set_option maxRecDepth 100000 in
set_option maxHeartbeats 4000000 in
theorem zl_X0_addWord_3 {X : Cx} {h0 : Nat} {K : Mm → Prop} (hX : Ok X cX0_addWord RX0 rm_X0_addWord) (hQ : Rq X rm_X0_addWord none (QV K)) (hnL : X.2.2.2.2.2.2.2.2.2.2.2.2.2.2 = 5) : ∀ (n : Nat) (l1 : Int64) (l3 : Int32) (M : Mm), lp_X0_addWord_3 h0 K n l1 l3 M → Z X M 0 0 3 [(0, va_rf (some h0)), (1, .long l1), (3, .int l3)] [] := by
  intro n
  induction n with
  | zero =>
    intro l1 l3 M h
    exact False.elim h
  | succ n hR3 =>
    intro l1 l3 M h
    refine z_iload_n hX dX0_addWord_3 rfl 2 rfl ?_
    obtain ⟨h1, h2⟩ := h
    refine z_if_lt (tgt := 34) hX dX0_addWord_4 (by decide) (fun hc => ?_) (fun hc => ?_)
    · have h := h1 hc
      exact z_vret hX hQ dX0_addWord_34 h
    · have h := h2 hc
      refine z_lload_n hX dX0_addWord_7 rfl 1 rfl ?_
      refine z_iload_n hX dX0_addWord_8 rfl 2 rfl ?_
      refine z_lushr hX dX0_addWord_9 ?_
      refine z_l2i hX dX0_addWord_10 ?_
      refine z_sipush (v := (255 : Int32)) hX dX0_addWord_11 (by decide) ?_
      refine z_iand hX dX0_addWord_14 ?_
      refine z_istore hX [(4, .int ((((((l1).toUInt64 >>> ((l3).toInt64.toUInt64 &&& Int64.toUInt64 63)).toInt64)).toInt32) &&& (255 : Int32))), (0, va_rf (some h0)), (1, .long l1), (3, .int l3)] dX0_addWord_15 (by rw [hnL]; decide) rfl ?_
      refine z_iload hX dX0_addWord_17 0 rfl ?_
      obtain ⟨h1, h2⟩ := h
      refine z_if_eq (tgt := 28) hX dX0_addWord_19 (by decide) (fun hc => ?_) (fun hc => ?_)
      · have h := h1 hc
        refine z_loc [1, 2, 3] rfl ?_
        exact zb_X0_addWord_28 hX hQ hnL hR3 h
      · have h := h2 hc
        refine z_aload_n (r := (some h0)) hX dX0_addWord_22 rfl 1 rfl ?_
        refine z_iload hX dX0_addWord_23 0 rfl ?_
        obtain ⟨hk3, h⟩ := h
        refine z_callVV (As := [.int ((((((l1).toUInt64 >>> ((l3).toInt64.toUInt64 &&& Int64.toUInt64 63)).toInt64)).toInt32) &&& (255 : Int32))]) (rest := []) (ci := 0) hX (ct_X0_add h) mw_RX0_19 rfl (by decide) rfl (by rfl) (by unfold RoomC; decide) (by decide) dX0_addWord_25 hk3 (fun M2 h => ?_)
        refine z_loc [1, 2, 3] rfl ?_
        exact zb_X0_addWord_28 hX hQ hnL hR3 h
def wp_X0_addWord (M : Mm) (h0 : Nat) (p1 : Int64) (K : Mm → Prop) : Prop := (∃ kk, lp_X0_addWord_3 h0 K kk p1 (56 : Int32) M)
set_option maxRecDepth 100000 in
set_option maxHeartbeats 4000000 in
theorem ct_X0_addWord {M : Mm} {h0 : Nat} {p1 : Int64} {K : Mm → Prop} (h : wp_X0_addWord M h0 p1 K) : CtV yX0_addWord cX0_addWord 5 none rm_X0_addWord [.ref h0, .long p1] M K := by
  refine ct_any (QV K) (by decide) (by exact Nat.le_of_ble_eq_true rfl) (fun X hX hQ hnL hnm => ?_)
  rw [show lv_args 0 [.ref h0, .long p1] = [(0, va_rf (some h0)), (1, .long p1)] by rfl]
  have hX : Ok X cX0_addWord RX0 rm_X0_addWord := hX
  unfold wp_X0_addWord at h
  refine z_bipush (v := (56 : Int32)) hX dX0_addWord_0 (by decide) ?_
  refine z_istore_n hX [(3, .int (56 : Int32)), (0, va_rf (some h0)), (1, .long p1)] dX0_addWord_2 rfl (by rw [hnL]; decide) rfl ?_
  refine z_loc [1, 2, 0] rfl ?_
  obtain ⟨n, h⟩ := h
  exact zl_X0_addWord_3 hX hQ hnL n _ _ _ h
def rm_X0_addNumber : Room := { frames := 1, cells := 0, slots := 0, locals := 21 }
def lp_X0_addNumber_90 (h0 : Nat) (K : Mm → Prop) : Nat → Int64 → Int32 → Int32 → Mm → Prop
  | 0, _, _, _, _ => False
  | n + 1, l3, l5, l6, M => mK M h0 = 1 ∧ ((l6 < (mI M 1 h0) → (K (sI M 1 h0 ((mI M 1 h0) + l5)))) ∧ (¬ l6 < (mI M 1 h0) → ∃ a3, (mR M 0 h0) = some a3 ∧ isA M a3 0 ∧ vp_in l6 (aN M a3) ∧ ((lp_X0_addNumber_90 h0 K n) (l3 / (10 : Int64)) l5 (l6 + (-1)) (tI M a3 (l6).toNatClampNeg ((((((((48 : Int64) + (l3 - l3 / (10 : Int64) * (10 : Int64)))).toInt32)).toInt8.toInt32)).toInt8.toInt32)))))
set_option maxRecDepth 100000 in
set_option maxHeartbeats 4000000 in
theorem zl_X0_addNumber_90 {X : Cx} {h0 : Nat} {K : Mm → Prop} (hX : Ok X cX0_addNumber RX0 rm_X0_addNumber) (hQ : Rq X rm_X0_addNumber none (QV K)) (hnL : X.2.2.2.2.2.2.2.2.2.2.2.2.2.2 = 8) : ∀ (n : Nat) (l3 : Int64) (l5 : Int32) (l6 : Int32) (M : Mm), lp_X0_addNumber_90 h0 K n l3 l5 l6 M → Z X M 0 0 90 [(0, va_rf (some h0)), (3, .long l3), (5, .int l5), (6, .int l6)] [] := by
  intro n
  induction n with
  | zero =>
    intro l3 l5 l6 M h
    exact False.elim h
  | succ n hR90 =>
    intro l3 l5 l6 M h
    refine z_iload hX dX0_addNumber_90 3 rfl ?_
    refine z_aload_n (r := (some h0)) hX dX0_addNumber_92 rfl 0 rfl ?_
    obtain ⟨hk1, h⟩ := h
    refine gf_RX0_15 (r := (some h0)) hX dX0_addNumber_93 rfl hk1 ?_
    obtain ⟨h1, h2⟩ := h
    refine z_icmp_lt (tgt := 129) hX dX0_addNumber_96 (by decide) (fun hc => ?_) (fun hc => ?_)
    · have h := h1 hc
      refine z_aload_n (r := (some h0)) hX dX0_addNumber_129 rfl 0 rfl ?_
      refine z_dup hX dX0_addNumber_130 (cat_rf _) ?_
      refine gf_RX0_15 (r := (some h0)) hX dX0_addNumber_131 rfl hk1 ?_
      refine z_iload hX dX0_addNumber_134 2 rfl ?_
      refine z_iadd hX dX0_addNumber_136 ?_
      refine pf_RX0_15 (r := (some h0)) (v := ((mI M 1 h0) + l5)) hX dX0_addNumber_137 rfl hk1 ?_
      exact z_vret hX hQ dX0_addNumber_140 h
    · have h := h2 hc
      refine z_aload_n (r := (some h0)) hX dX0_addNumber_99 rfl 0 rfl ?_
      refine gf_RX0_9 (r := (some h0)) hX dX0_addNumber_100 rfl hk1 ?_
      refine z_iload hX dX0_addNumber_103 3 rfl ?_
      refine z_ldc2 (v := (48 : Int64)) hX dX0_addNumber_105 kj_RX0_25 ?_
      refine z_lload_n hX dX0_addNumber_108 rfl 1 rfl ?_
      refine z_ldc2 (v := (10 : Int64)) hX dX0_addNumber_109 kj_RX0_23 ?_
      refine z_lrem hX dX0_addNumber_112 (by decide) ?_
      refine z_ladd hX dX0_addNumber_113 ?_
      refine z_l2i hX dX0_addNumber_114 ?_
      refine z_i2b hX dX0_addNumber_115 ?_
      obtain ⟨a3, ha4, h⟩ := h
      obtain ⟨hk5, h⟩ := h
      obtain ⟨hc6, h⟩ := h
      refine y_bast (r := (mR M 0 h0)) hX dX0_addNumber_116 ha4 hk5 hc6 ?_
      refine z_lload_n hX dX0_addNumber_117 rfl 1 rfl ?_
      refine z_ldc2 (v := (10 : Int64)) hX dX0_addNumber_118 kj_RX0_23 ?_
      refine z_ldiv hX dX0_addNumber_121 (by decide) ?_
      refine z_lstore_n hX [(3, .long (l3 / (10 : Int64))), (0, va_rf (some h0)), (5, .int l5), (6, .int l6)] dX0_addNumber_122 rfl (by rw [hnL]; decide) rfl ?_
      refine z_iinc (v := (l6 + (-1))) hX [(6, .int (l6 + (-1))), (3, .long (l3 / (10 : Int64))), (0, va_rf (some h0)), (5, .int l5)] dX0_addNumber_123 3 rfl rfl (by rw [hnL]; decide) rfl ?_
      refine z_goto (tgt := 90) hX dX0_addNumber_126 (by decide) ?_
      refine z_loc [2, 1, 3, 0] rfl ?_
      exact hR90 _ _ _ _ h
def bk_X0_addNumber_63 (h0 : Nat) (K : Mm → Prop) (l3 : Int64) (l5 : Int32) (M : Mm) : Prop := mK M h0 = 1 ∧ ∃ a8, (mR M 0 h0) = some a8 ∧ isA M a8 0 ∧ ((l5 ≤ ((nI (aN M a8)) - (mI M 1 h0)) → (∃ kk, lp_X0_addNumber_90 h0 K kk l3 l5 (((mI M 1 h0) + l5) - (1 : Int32)) M)) ∧ (¬ l5 ≤ ((nI (aN M a8)) - (mI M 1 h0)) → (K M)))
set_option maxRecDepth 100000 in
set_option maxHeartbeats 4000000 in
theorem zb_X0_addNumber_63 {X : Cx} {h0 : Nat} {K : Mm → Prop} (hX : Ok X cX0_addNumber RX0 rm_X0_addNumber) (hQ : Rq X rm_X0_addNumber none (QV K)) (hnL : X.2.2.2.2.2.2.2.2.2.2.2.2.2.2 = 8) {l3 : Int64} {l5 : Int32} {M : Mm} (h : bk_X0_addNumber_63 h0 K l3 l5 M) : Z X M 0 0 63 [(0, va_rf (some h0)), (3, .long l3), (5, .int l5)] [] := by
  unfold bk_X0_addNumber_63 at h
  refine z_iload hX dX0_addNumber_63 2 rfl ?_
  refine z_aload_n (r := (some h0)) hX dX0_addNumber_65 rfl 0 rfl ?_
  obtain ⟨hk7, h⟩ := h
  refine gf_RX0_9 (r := (some h0)) hX dX0_addNumber_66 rfl hk7 ?_
  obtain ⟨a8, ha9, h⟩ := h
  obtain ⟨hk10, h⟩ := h
  refine y_alen (r := (mR M 0 h0)) hX dX0_addNumber_69 ha9 hk10 (by decide) ?_
  refine z_aload_n (r := (some h0)) hX dX0_addNumber_70 rfl 0 rfl ?_
  refine gf_RX0_15 (r := (some h0)) hX dX0_addNumber_71 rfl hk7 ?_
  refine z_isub hX dX0_addNumber_74 ?_
  obtain ⟨h1, h2⟩ := h
  refine z_icmp_le (tgt := 79) hX dX0_addNumber_75 (by decide) (fun hc => ?_) (fun hc => ?_)
  · have h := h1 hc
    refine z_aload_n (r := (some h0)) hX dX0_addNumber_79 rfl 0 rfl ?_
    refine gf_RX0_15 (r := (some h0)) hX dX0_addNumber_80 rfl hk7 ?_
    refine z_iload hX dX0_addNumber_83 2 rfl ?_
    refine z_iadd hX dX0_addNumber_85 ?_
    refine z_iconst (v := (1 : Int32)) hX dX0_addNumber_86 (by decide) ?_
    refine z_isub hX dX0_addNumber_87 ?_
    refine z_istore hX [(6, .int (((mI M 1 h0) + l5) - (1 : Int32))), (0, va_rf (some h0)), (3, .long l3), (5, .int l5)] dX0_addNumber_88 (by rw [hnL]; decide) rfl ?_
    refine z_loc [1, 2, 3, 0] rfl ?_
    obtain ⟨n, h⟩ := h
    exact zl_X0_addNumber_90 hX hQ hnL n _ _ _ _ h
  · have h := h2 hc
    exact z_vret hX hQ dX0_addNumber_78 h
def lp_X0_addNumber_35 (h0 : Nat) (K : Mm → Prop) : Nat → Int64 → Int32 → Int64 → Mm → Prop
  | 0, _, _, _, _ => False
  | n + 1, l3, l5, l6, M => ((l6 ≤ (0 : Int64) → (bk_X0_addNumber_63 h0 K l3 l5 M)) ∧ (¬ l6 ≤ (0 : Int64) → (((19 : Int32) ≤ l5 → (bk_X0_addNumber_63 h0 K l3 l5 M)) ∧ (¬ (19 : Int32) ≤ l5 → ((lp_X0_addNumber_35 h0 K n) l3 (l5 + 1) (l6 / (10 : Int64)) M)))))
set_option maxRecDepth 100000 in
set_option maxHeartbeats 4000000 in
theorem zl_X0_addNumber_35 {X : Cx} {h0 : Nat} {K : Mm → Prop} (hX : Ok X cX0_addNumber RX0 rm_X0_addNumber) (hQ : Rq X rm_X0_addNumber none (QV K)) (hnL : X.2.2.2.2.2.2.2.2.2.2.2.2.2.2 = 8) : ∀ (n : Nat) (l3 : Int64) (l5 : Int32) (l6 : Int64) (M : Mm), lp_X0_addNumber_35 h0 K n l3 l5 l6 M → Z X M 0 0 35 [(0, va_rf (some h0)), (3, .long l3), (5, .int l5), (6, .long l6)] [] := by
  intro n
  induction n with
  | zero =>
    intro l3 l5 l6 M h
    exact False.elim h
  | succ n hR35 =>
    intro l3 l5 l6 M h
    refine z_lload hX dX0_addNumber_35 3 rfl ?_
    refine z_lconst (v := (0 : Int64)) hX dX0_addNumber_37 (by decide) ?_
    refine z_lcmp hX dX0_addNumber_38 ?_
    obtain ⟨h1, h2⟩ := h
    refine z_if_le (tgt := 63) hX dX0_addNumber_39 (by decide) (fun hc => ?_) (fun hc => ?_)
    · have h := h1 ((lg_cmp_le _ _).mp hc)
      refine z_loc [0, 1, 2] rfl ?_
      exact zb_X0_addNumber_63 hX hQ hnL h
    · have h := h2 (fun q => hc ((lg_cmp_le _ _).mpr q))
      refine z_iload hX dX0_addNumber_42 2 rfl ?_
      refine z_bipush (v := (19 : Int32)) hX dX0_addNumber_44 (by decide) ?_
      obtain ⟨h1, h2⟩ := h
      refine z_icmp_ge (tgt := 63) hX dX0_addNumber_46 (by decide) (fun hc => ?_) (fun hc => ?_)
      · have h := h1 hc
        refine z_loc [0, 1, 2] rfl ?_
        exact zb_X0_addNumber_63 hX hQ hnL h
      · have h := h2 hc
        refine z_iinc (v := (l5 + 1)) hX [(5, .int (l5 + 1)), (0, va_rf (some h0)), (3, .long l3), (6, .long l6)] dX0_addNumber_49 2 rfl rfl (by rw [hnL]; decide) rfl ?_
        refine z_lload hX dX0_addNumber_52 3 rfl ?_
        refine z_ldc2 (v := (10 : Int64)) hX dX0_addNumber_54 kj_RX0_23 ?_
        refine z_ldiv hX dX0_addNumber_57 (by decide) ?_
        refine z_lstore hX [(6, .long (l6 / (10 : Int64))), (5, .int (l5 + 1)), (0, va_rf (some h0)), (3, .long l3)] dX0_addNumber_58 (by rw [hnL]; decide) rfl ?_
        refine z_goto (tgt := 35) hX dX0_addNumber_60 (by decide) ?_
        refine z_loc [2, 3, 1, 0] rfl ?_
        exact hR35 _ _ _ _ h
def bk_X0_addNumber_24 (h0 : Nat) (K : Mm → Prop) (s0 : Int64) (M : Mm) : Prop := (∃ kk, lp_X0_addNumber_35 h0 K kk s0 (1 : Int32) (s0 / (10 : Int64)) M)
set_option maxRecDepth 100000 in
set_option maxHeartbeats 4000000 in
theorem zb_X0_addNumber_24 {X : Cx} {h0 : Nat} {K : Mm → Prop} (hX : Ok X cX0_addNumber RX0 rm_X0_addNumber) (hQ : Rq X rm_X0_addNumber none (QV K)) (hnL : X.2.2.2.2.2.2.2.2.2.2.2.2.2.2 = 8) {s0 : Int64} {M : Mm} (h : bk_X0_addNumber_24 h0 K s0 M) : Z X M 0 0 24 [(0, va_rf (some h0))] [.long s0] := by
  unfold bk_X0_addNumber_24 at h
  refine z_lstore_n hX [(3, .long s0), (0, va_rf (some h0))] dX0_addNumber_24 rfl (by rw [hnL]; decide) rfl ?_
  refine z_iconst (v := (1 : Int32)) hX dX0_addNumber_25 (by decide) ?_
  refine z_istore hX [(5, .int (1 : Int32)), (3, .long s0), (0, va_rf (some h0))] dX0_addNumber_26 (by rw [hnL]; decide) rfl ?_
  refine z_lload_n hX dX0_addNumber_28 rfl 1 rfl ?_
  refine z_ldc2 (v := (10 : Int64)) hX dX0_addNumber_29 kj_RX0_23 ?_
  refine z_ldiv hX dX0_addNumber_32 (by decide) ?_
  refine z_lstore hX [(6, .long (s0 / (10 : Int64))), (5, .int (1 : Int32)), (3, .long s0), (0, va_rf (some h0))] dX0_addNumber_33 (by rw [hnL]; decide) rfl ?_
  refine z_loc [3, 2, 1, 0] rfl ?_
  obtain ⟨n, h⟩ := h
  exact zl_X0_addNumber_35 hX hQ hnL n _ _ _ _ h
def bk_X0_addNumber_12 (h0 : Nat) (K : Mm → Prop) (l1 : Int64) (M : Mm) : Prop := (((0 : Int64) ≤ l1 → (bk_X0_addNumber_24 h0 K l1 M)) ∧ (¬ (0 : Int64) ≤ l1 → (bk_X0_addNumber_24 h0 K (-l1) M)))
set_option maxRecDepth 100000 in
set_option maxHeartbeats 4000000 in
theorem zb_X0_addNumber_12 {X : Cx} {h0 : Nat} {K : Mm → Prop} (hX : Ok X cX0_addNumber RX0 rm_X0_addNumber) (hQ : Rq X rm_X0_addNumber none (QV K)) (hnL : X.2.2.2.2.2.2.2.2.2.2.2.2.2.2 = 8) {l1 : Int64} {M : Mm} (h : bk_X0_addNumber_12 h0 K l1 M) : Z X M 0 0 12 [(0, va_rf (some h0)), (1, .long l1)] [] := by
  unfold bk_X0_addNumber_12 at h
  refine z_lload_n hX dX0_addNumber_12 rfl 1 rfl ?_
  refine z_lconst (v := (0 : Int64)) hX dX0_addNumber_13 (by decide) ?_
  refine z_lcmp hX dX0_addNumber_14 ?_
  obtain ⟨h1, h2⟩ := h
  refine z_if_ge (tgt := 23) hX dX0_addNumber_15 (by decide) (fun hc => ?_) (fun hc => ?_)
  · have h := h1 ((lg_cmp_ge _ _).mp hc)
    refine z_lload_n hX dX0_addNumber_23 rfl 1 rfl ?_
    refine z_loc [0] rfl ?_
    exact zb_X0_addNumber_24 hX hQ hnL h
  · have h := h2 (fun q => hc ((lg_cmp_ge _ _).mpr q))
    refine z_lload_n hX dX0_addNumber_18 rfl 1 rfl ?_
    refine z_lneg hX dX0_addNumber_19 ?_
    refine z_goto (tgt := 24) hX dX0_addNumber_20 (by decide) ?_
    refine z_loc [0] rfl ?_
    exact zb_X0_addNumber_24 hX hQ hnL h
def wp_X0_addNumber (M : Mm) (h0 : Nat) (p1 : Int64) (K : Mm → Prop) : Prop := (((0 : Int64) ≤ p1 → (bk_X0_addNumber_12 h0 K p1 M)) ∧ (¬ (0 : Int64) ≤ p1 → mK M h0 = 1 ∧ (wp_X0_add M h0 (45 : Int32) (fun M12 => (bk_X0_addNumber_12 h0 K p1 M12)))))
set_option maxRecDepth 100000 in
set_option maxHeartbeats 4000000 in
theorem ct_X0_addNumber {M : Mm} {h0 : Nat} {p1 : Int64} {K : Mm → Prop} (h : wp_X0_addNumber M h0 p1 K) : CtV yX0_addNumber cX0_addNumber 8 none rm_X0_addNumber [.ref h0, .long p1] M K := by
  refine ct_any (QV K) (by decide) (by exact Nat.le_of_ble_eq_true rfl) (fun X hX hQ hnL hnm => ?_)
  rw [show lv_args 0 [.ref h0, .long p1] = [(0, va_rf (some h0)), (1, .long p1)] by rfl]
  have hX : Ok X cX0_addNumber RX0 rm_X0_addNumber := hX
  unfold wp_X0_addNumber at h
  refine z_lload_n hX dX0_addNumber_0 rfl 1 rfl ?_
  refine z_lconst (v := (0 : Int64)) hX dX0_addNumber_1 (by decide) ?_
  refine z_lcmp hX dX0_addNumber_2 ?_
  obtain ⟨h1, h2⟩ := h
  refine z_if_ge (tgt := 12) hX dX0_addNumber_3 (by decide) (fun hc => ?_) (fun hc => ?_)
  · have h := h1 ((lg_cmp_ge _ _).mp hc)
    exact zb_X0_addNumber_12 hX hQ hnL h
  · have h := h2 (fun q => hc ((lg_cmp_ge _ _).mpr q))
    refine z_aload_n (r := (some h0)) hX dX0_addNumber_6 rfl 0 rfl ?_
    refine z_bipush (v := (45 : Int32)) hX dX0_addNumber_7 (by decide) ?_
    obtain ⟨hk13, h⟩ := h
    refine z_callVV (As := [.int (45 : Int32)]) (rest := []) (ci := 0) hX (ct_X0_add h) mw_RX0_19 rfl (by decide) rfl (by rfl) (by unfold RoomC; decide) (by decide) dX0_addNumber_9 hk13 (fun M12 h => ?_)
    exact zb_X0_addNumber_12 hX hQ hnL h
def rm_X0_addTime : Room := { frames := 2, cells := 0, slots := 0, locals := 48 }
def bk_X0_addTime_41 (h0 : Nat) (K : Mm → Prop) (M : Mm) : Prop := (K M)
set_option maxRecDepth 100000 in
set_option maxHeartbeats 4000000 in
theorem zb_X0_addTime_41 {X : Cx} {h0 : Nat} {K : Mm → Prop} (hX : Ok X cX0_addTime RX0 rm_X0_addTime) (hQ : Rq X rm_X0_addTime none (QV K)) (hnL : X.2.2.2.2.2.2.2.2.2.2.2.2.2.2 = 3) {M : Mm} (h : bk_X0_addTime_41 h0 K M) : Z X M 0 0 41 [] [] := by
  unfold bk_X0_addTime_41 at h
  exact z_vret hX hQ dX0_addTime_41 h
def wp_X0_addTime (M : Mm) (h0 : Nat) (p1 : Int64) (K : Mm → Prop) : Prop := ((¬ p1 = (-9000000000000000000 : Int64) → ((¬ p1 = (9000000000000000000 : Int64) → mK M h0 = 1 ∧ (wp_X0_addNumber M h0 p1 (fun M2 => (bk_X0_addTime_41 h0 K M2)))) ∧ (p1 = (9000000000000000000 : Int64) → mK M h0 = 1 ∧ (wp_X0_addWord M h0 (6647396 : Int64) (fun M6 => (bk_X0_addTime_41 h0 K M6)))))) ∧ (p1 = (-9000000000000000000 : Int64) → mK M h0 = 1 ∧ (wp_X0_addWord M h0 (495873782388 : Int64) (fun M10 => (bk_X0_addTime_41 h0 K M10)))))
set_option maxRecDepth 100000 in
set_option maxHeartbeats 4000000 in
theorem ct_X0_addTime {M : Mm} {h0 : Nat} {p1 : Int64} {K : Mm → Prop} (h : wp_X0_addTime M h0 p1 K) : CtV yX0_addTime cX0_addTime 3 none rm_X0_addTime [.ref h0, .long p1] M K := by
  refine ct_any (QV K) (by decide) (by exact Nat.le_of_ble_eq_true rfl) (fun X hX hQ hnL hnm => ?_)
  rw [show lv_args 0 [.ref h0, .long p1] = [(0, va_rf (some h0)), (1, .long p1)] by rfl]
  have hX : Ok X cX0_addTime RX0 rm_X0_addTime := hX
  unfold wp_X0_addTime at h
  refine z_lload_n hX dX0_addTime_0 rfl 1 rfl ?_
  refine z_ldc2 (v := (-9000000000000000000 : Int64)) hX dX0_addTime_1 kj_RX0_27 ?_
  refine z_lcmp hX dX0_addTime_4 ?_
  obtain ⟨h1, h2⟩ := h
  refine z_if_ne (tgt := 18) hX dX0_addTime_5 (by decide) (fun hc => ?_) (fun hc => ?_)
  · have h := h1 (fun q => hc ((lg_cmp_eq _ _).mpr q))
    refine z_lload_n hX dX0_addTime_18 rfl 1 rfl ?_
    refine z_ldc2 (v := (9000000000000000000 : Int64)) hX dX0_addTime_19 kj_RX0_35 ?_
    refine z_lcmp hX dX0_addTime_22 ?_
    obtain ⟨h1, h2⟩ := h
    refine z_if_ne (tgt := 36) hX dX0_addTime_23 (by decide) (fun hc => ?_) (fun hc => ?_)
    · have h := h1 (fun q => hc ((lg_cmp_eq _ _).mpr q))
      refine z_aload_n (r := (some h0)) hX dX0_addTime_36 rfl 0 rfl ?_
      refine z_lload_n hX dX0_addTime_37 rfl 1 rfl ?_
      obtain ⟨hk3, h⟩ := h
      refine z_callVV (As := [.long p1]) (rest := []) (ci := 0) hX (ct_X0_addNumber h) mw_RX0_39 rfl (by decide) rfl (by rfl) (by unfold RoomC; decide) (by decide) dX0_addTime_38 hk3 (fun M2 h => ?_)
      refine z_loc [] rfl ?_
      exact zb_X0_addTime_41 hX hQ hnL h
    · have h := h2 ((lg_cmp_eq _ _).mp hc)
      refine z_aload_n (r := (some h0)) hX dX0_addTime_26 rfl 0 rfl ?_
      refine z_ldc2 (v := (6647396 : Int64)) hX dX0_addTime_27 kj_RX0_37 ?_
      obtain ⟨hk7, h⟩ := h
      refine z_callVV (As := [.long (6647396 : Int64)]) (rest := []) (ci := 0) hX (ct_X0_addWord h) mw_RX0_31 rfl (by decide) rfl (by rfl) (by unfold RoomC; decide) (by decide) dX0_addTime_30 hk7 (fun M6 h => ?_)
      refine z_goto (tgt := 41) hX dX0_addTime_33 (by decide) ?_
      refine z_loc [] rfl ?_
      exact zb_X0_addTime_41 hX hQ hnL h
  · have h := h2 ((lg_cmp_eq _ _).mp hc)
    refine z_aload_n (r := (some h0)) hX dX0_addTime_8 rfl 0 rfl ?_
    refine z_ldc2 (v := (495873782388 : Int64)) hX dX0_addTime_9 kj_RX0_29 ?_
    obtain ⟨hk11, h⟩ := h
    refine z_callVV (As := [.long (495873782388 : Int64)]) (rest := []) (ci := 0) hX (ct_X0_addWord h) mw_RX0_31 rfl (by decide) rfl (by rfl) (by unfold RoomC; decide) (by decide) dX0_addTime_12 hk11 (fun M10 h => ?_)
    refine z_goto (tgt := 41) hX dX0_addTime_15 (by decide) ?_
    refine z_loc [] rfl ?_
    exact zb_X0_addTime_41 hX hQ hnL h
def rm_X1_add : Room := { frames := 0, cells := 0, slots := 0, locals := 0 }
def bk_X1_add_32 (h0 : Nat) (K : Mm → Prop) (M : Mm) : Prop := (K M)
set_option maxRecDepth 100000 in
set_option maxHeartbeats 4000000 in
theorem zb_X1_add_32 {X : Cx} {h0 : Nat} {K : Mm → Prop} (hX : Ok X cX1_add RX1 rm_X1_add) (hQ : Rq X rm_X1_add none (QV K)) (hnL : X.2.2.2.2.2.2.2.2.2.2.2.2.2.2 = 2) {M : Mm} (h : bk_X1_add_32 h0 K M) : Z X M 0 0 32 [] [] := by
  unfold bk_X1_add_32 at h
  exact z_vret hX hQ dX1_add_32 h
def wp_X1_add (M : Mm) (h0 : Nat) (p1 : Option Nat) (K : Mm → Prop) : Prop := mK M h0 = 2 ∧ ∃ a2, (mR M 66 h0) = some a2 ∧ isA M a2 4 ∧ (((nI (aN M a2)) ≤ (mI M 69 h0) → (bk_X1_add_32 h0 K M)) ∧ (¬ (nI (aN M a2)) ≤ (mI M 69 h0) → ∃ a5, p1 = some a5 ∧ mK M a5 = 7 ∧ vp_in (mI M 69 h0) (aN M a2) ∧ (bk_X1_add_32 h0 K (sI (tR M a2 ((mI M 69 h0)).toNatClampNeg p1) 69 h0 ((mI (tR M a2 ((mI M 69 h0)).toNatClampNeg p1) 69 h0) + (1 : Int32))))))
set_option maxRecDepth 100000 in
set_option maxHeartbeats 4000000 in
theorem ct_X1_add {M : Mm} {h0 : Nat} {p1 : Option Nat} {K : Mm → Prop} (h : wp_X1_add M h0 p1 K) : CtV yX1_add cX1_add 2 none rm_X1_add [.ref h0, va_rf p1] M K := by
  refine ct_any (QV K) (by decide) (by cases p1 <;> exact Nat.le_of_ble_eq_true rfl) (fun X hX hQ hnL hnm => ?_)
  rw [show lv_args 0 [.ref h0, va_rf p1] = [(0, va_rf (some h0)), (1, va_rf p1)] by cases p1 <;> rfl]
  have hX : Ok X cX1_add RX1 rm_X1_add := hX
  unfold wp_X1_add at h
  refine z_aload_n (r := (some h0)) hX dX1_add_0 rfl 0 rfl ?_
  obtain ⟨hk1, h⟩ := h
  refine gf_RX1_37 (r := (some h0)) hX dX1_add_1 rfl hk1 ?_
  refine z_aload_n (r := (some h0)) hX dX1_add_4 rfl 0 rfl ?_
  refine gf_RX1_20 (r := (some h0)) hX dX1_add_5 rfl hk1 ?_
  obtain ⟨a2, ha3, h⟩ := h
  obtain ⟨hk4, h⟩ := h
  refine y_alen (r := (mR M 66 h0)) hX dX1_add_8 ha3 hk4 (by decide) ?_
  obtain ⟨h1, h2⟩ := h
  refine z_icmp_ge (tgt := 32) hX dX1_add_9 (by decide) (fun hc => ?_) (fun hc => ?_)
  · have h := h1 hc
    refine z_loc [] rfl ?_
    exact zb_X1_add_32 hX hQ hnL h
  · have h := h2 hc
    refine z_aload_n (r := (some h0)) hX dX1_add_12 rfl 0 rfl ?_
    refine gf_RX1_20 (r := (some h0)) hX dX1_add_13 rfl hk1 ?_
    refine z_aload_n (r := (some h0)) hX dX1_add_16 rfl 0 rfl ?_
    refine gf_RX1_37 (r := (some h0)) hX dX1_add_17 rfl hk1 ?_
    refine z_aload_n (r := p1) hX dX1_add_20 rfl 1 rfl ?_
    obtain ⟨a5, ha6, h⟩ := h
    obtain ⟨hk7, h⟩ := h
    obtain ⟨hc8, h⟩ := h
    refine y_astq (r := (mR M 66 h0)) (rb := p1) hX dX1_add_21 ha3 hk4 ha6 hk7 hc8 ?_
    refine z_aload_n (r := (some h0)) hX dX1_add_22 rfl 0 rfl ?_
    refine z_dup hX dX1_add_23 (cat_rf _) ?_
    refine gf_RX1_37 (r := (some h0)) hX dX1_add_24 rfl hk1 ?_
    refine z_iconst (v := (1 : Int32)) hX dX1_add_27 (by decide) ?_
    refine z_iadd hX dX1_add_28 ?_
    refine pf_RX1_37 (r := (some h0)) (v := ((mI (tR M a2 ((mI M 69 h0)).toNatClampNeg p1) 69 h0) + (1 : Int32))) hX dX1_add_29 rfl hk1 ?_
    refine z_loc [] rfl ?_
    exact zb_X1_add_32 hX hQ hnL h
def rm_X1_named : Room := { frames := 0, cells := 0, slots := 0, locals := 0 }
def lp_X1_named_2 (h0 : Nat) (K : Option Nat → Mm → Prop) : Nat → Int64 → Int32 → Mm → Prop
  | 0, _, _, _ => False
  | n + 1, l1, l3, M => mK M h0 = 2 ∧ (((mI M 69 h0) ≤ l3 → (K none M)) ∧ (¬ (mI M 69 h0) ≤ l3 → ∃ a2, (mR M 66 h0) = some a2 ∧ isA M a2 4 ∧ vp_in l3 (aN M a2) ∧ ∃ a6, (aR M a2 (l3).toNatClampNeg) = some a6 ∧ mK M a6 = 7 ∧ ((¬ (mJ M 385 a6) = l1 → ((lp_X1_named_2 h0 K n) l1 (l3 + 1) M)) ∧ ((mJ M 385 a6) = l1 → vp_in l3 (aN M a2) ∧ (K (aR M a2 (l3).toNatClampNeg) M)))))
set_option maxRecDepth 100000 in
set_option maxHeartbeats 4000000 in
theorem zl_X1_named_2 {X : Cx} {h0 : Nat} {K : Option Nat → Mm → Prop} (hX : Ok X cX1_named RX1 rm_X1_named) (hQ : Rq X rm_X1_named (some (.object "WatermarkJoin$Stream")) (QR K)) (hnL : X.2.2.2.2.2.2.2.2.2.2.2.2.2.2 = 4) : ∀ (n : Nat) (l1 : Int64) (l3 : Int32) (M : Mm), lp_X1_named_2 h0 K n l1 l3 M → Z X M 0 0 2 [(0, va_rf (some h0)), (1, .long l1), (3, .int l3)] [] := by
  intro n
  induction n with
  | zero =>
    intro l1 l3 M h
    exact False.elim h
  | succ n hR2 =>
    intro l1 l3 M h
    refine z_iload_n hX dX1_named_2 rfl 2 rfl ?_
    refine z_aload_n (r := (some h0)) hX dX1_named_3 rfl 0 rfl ?_
    obtain ⟨hk1, h⟩ := h
    refine gf_RX1_37 (r := (some h0)) hX dX1_named_4 rfl hk1 ?_
    obtain ⟨h1, h2⟩ := h
    refine z_icmp_ge (tgt := 37) hX dX1_named_7 (by decide) (fun hc => ?_) (fun hc => ?_)
    · have h := h1 hc
      refine z_null hX dX1_named_37 ?_
      exact z_aret hX hQ dX1_named_38 h
    · have h := h2 hc
      refine z_aload_n (r := (some h0)) hX dX1_named_10 rfl 0 rfl ?_
      refine gf_RX1_20 (r := (some h0)) hX dX1_named_11 rfl hk1 ?_
      refine z_iload_n hX dX1_named_14 rfl 2 rfl ?_
      obtain ⟨a2, ha3, h⟩ := h
      obtain ⟨hk4, h⟩ := h
      obtain ⟨hc5, h⟩ := h
      refine y_aldq (r := (mR M 66 h0)) hX dX1_named_15 ha3 hk4 hc5 ?_
      obtain ⟨a6, ha7, h⟩ := h
      obtain ⟨hk8, h⟩ := h
      refine gf_RX1_41 (r := (aR M a2 (l3).toNatClampNeg)) hX dX1_named_16 ha7 hk8 ?_
      refine z_lload_n hX dX1_named_19 rfl 1 rfl ?_
      refine z_lcmp hX dX1_named_20 ?_
      obtain ⟨h1, h2⟩ := h
      refine z_if_ne (tgt := 31) hX dX1_named_21 (by decide) (fun hc => ?_) (fun hc => ?_)
      · have h := h1 (fun q => hc ((lg_cmp_eq _ _).mpr q))
        refine z_iinc (v := (l3 + 1)) hX [(3, .int (l3 + 1)), (0, va_rf (some h0)), (1, .long l1)] dX1_named_31 2 rfl rfl (by rw [hnL]; decide) rfl ?_
        refine z_goto (tgt := 2) hX dX1_named_34 (by decide) ?_
        refine z_loc [1, 2, 0] rfl ?_
        exact hR2 _ _ _ h
      · have h := h2 ((lg_cmp_eq _ _).mp hc)
        refine z_aload_n (r := (some h0)) hX dX1_named_24 rfl 0 rfl ?_
        refine gf_RX1_20 (r := (some h0)) hX dX1_named_25 rfl hk1 ?_
        refine z_iload_n hX dX1_named_28 rfl 2 rfl ?_
        obtain ⟨hc9, h⟩ := h
        refine y_aldq (r := (mR M 66 h0)) hX dX1_named_29 ha3 hk4 hc9 ?_
        exact z_aret hX hQ dX1_named_30 h
def wp_X1_named (M : Mm) (h0 : Nat) (p1 : Int64) (K : Option Nat → Mm → Prop) : Prop := (∃ kk, lp_X1_named_2 h0 K kk p1 (0 : Int32) M)
set_option maxRecDepth 100000 in
set_option maxHeartbeats 4000000 in
theorem ct_X1_named {M : Mm} {h0 : Nat} {p1 : Int64} {K : Option Nat → Mm → Prop} (h : wp_X1_named M h0 p1 K) : CtR yX1_named cX1_named 4 (some (.object "WatermarkJoin$Stream")) rm_X1_named [.ref h0, .long p1] M K := by
  refine ct_any (QR K) (by decide) (by exact Nat.le_of_ble_eq_true rfl) (fun X hX hQ hnL hnm => ?_)
  rw [show lv_args 0 [.ref h0, .long p1] = [(0, va_rf (some h0)), (1, .long p1)] by rfl]
  have hX : Ok X cX1_named RX1 rm_X1_named := hX
  unfold wp_X1_named at h
  refine z_iconst (v := (0 : Int32)) hX dX1_named_0 (by decide) ?_
  refine z_istore_n hX [(3, .int (0 : Int32)), (0, va_rf (some h0)), (1, .long p1)] dX1_named_1 rfl (by rw [hnL]; decide) rfl ?_
  refine z_loc [1, 2, 0] rfl ?_
  obtain ⟨n, h⟩ := h
  exact zl_X1_named_2 hX hQ hnL n _ _ _ h
def rm_X1_isAligned : Room := { frames := 0, cells := 0, slots := 0, locals := 0 }
def bk_X1_isAligned_31 (h0 : Nat) (K : Int32 → Mm → Prop) (s0 : Int32) (M : Mm) : Prop := (bz s0 ∧ K s0 M)
set_option maxRecDepth 100000 in
set_option maxHeartbeats 4000000 in
theorem zb_X1_isAligned_31 {X : Cx} {h0 : Nat} {K : Int32 → Mm → Prop} (hX : Ok X cX1_isAligned RX1 rm_X1_isAligned) (hQ : Rq X rm_X1_isAligned (some .boolean) (QI K)) (hnL : X.2.2.2.2.2.2.2.2.2.2.2.2.2.2 = 2) {s0 : Int32} {M : Mm} (h : bk_X1_isAligned_31 h0 K s0 M) : Z X M 0 0 31 [] [.int s0] := by
  unfold bk_X1_isAligned_31 at h
  exact y_zret hX hQ dX1_isAligned_31 h.1 h.2
def bk_X1_isAligned_30 (h0 : Nat) (K : Int32 → Mm → Prop) (M : Mm) : Prop := (bk_X1_isAligned_31 h0 K (0 : Int32) M)
set_option maxRecDepth 100000 in
set_option maxHeartbeats 4000000 in
theorem zb_X1_isAligned_30 {X : Cx} {h0 : Nat} {K : Int32 → Mm → Prop} (hX : Ok X cX1_isAligned RX1 rm_X1_isAligned) (hQ : Rq X rm_X1_isAligned (some .boolean) (QI K)) (hnL : X.2.2.2.2.2.2.2.2.2.2.2.2.2.2 = 2) {M : Mm} (h : bk_X1_isAligned_30 h0 K M) : Z X M 0 0 30 [] [] := by
  unfold bk_X1_isAligned_30 at h
  refine z_iconst (v := (0 : Int32)) hX dX1_isAligned_30 (by decide) ?_
  exact zb_X1_isAligned_31 hX hQ hnL h
def wp_X1_isAligned (M : Mm) (h0 : Nat) (p1 : Int32) (K : Int32 → Mm → Prop) : Prop := ((p1 < 0 → (bk_X1_isAligned_30 h0 K M)) ∧ (¬ p1 < 0 → mK M h0 = 2 ∧ ∃ a2, (mR M 67 h0) = some a2 ∧ isA M a2 2 ∧ (((nI (aN M a2)) ≤ p1 → (bk_X1_isAligned_30 h0 K M)) ∧ (¬ (nI (aN M a2)) ≤ p1 → vp_in p1 (aN M a2) ∧ (((aJ M a2 (p1).toNatClampNeg) = (-1 : Int64) → (bk_X1_isAligned_30 h0 K M)) ∧ (¬ (aJ M a2 (p1).toNatClampNeg) = (-1 : Int64) → (bk_X1_isAligned_31 h0 K (1 : Int32) M)))))))
set_option maxRecDepth 100000 in
set_option maxHeartbeats 4000000 in
theorem ct_X1_isAligned {M : Mm} {h0 : Nat} {p1 : Int32} {K : Int32 → Mm → Prop} (h : wp_X1_isAligned M h0 p1 K) : CtI yX1_isAligned cX1_isAligned 2 (some .boolean) rm_X1_isAligned [.ref h0, .int p1] M K := by
  refine ct_any (QI K) (by decide) (by exact Nat.le_of_ble_eq_true rfl) (fun X hX hQ hnL hnm => ?_)
  rw [show lv_args 0 [.ref h0, .int p1] = [(0, va_rf (some h0)), (1, .int p1)] by rfl]
  have hX : Ok X cX1_isAligned RX1 rm_X1_isAligned := hX
  unfold wp_X1_isAligned at h
  refine z_iload_n hX dX1_isAligned_0 rfl 1 rfl ?_
  obtain ⟨h1, h2⟩ := h
  refine z_if_lt (tgt := 30) hX dX1_isAligned_1 (by decide) (fun hc => ?_) (fun hc => ?_)
  · have h := h1 hc
    refine z_loc [] rfl ?_
    exact zb_X1_isAligned_30 hX hQ hnL h
  · have h := h2 hc
    refine z_iload_n hX dX1_isAligned_4 rfl 1 rfl ?_
    refine z_aload_n (r := (some h0)) hX dX1_isAligned_5 rfl 0 rfl ?_
    obtain ⟨hk1, h⟩ := h
    refine gf_RX1_24 (r := (some h0)) hX dX1_isAligned_6 rfl hk1 ?_
    obtain ⟨a2, ha3, h⟩ := h
    obtain ⟨hk4, h⟩ := h
    refine y_alen (r := (mR M 67 h0)) hX dX1_isAligned_9 ha3 hk4 (by decide) ?_
    obtain ⟨h1, h2⟩ := h
    refine z_icmp_ge (tgt := 30) hX dX1_isAligned_10 (by decide) (fun hc => ?_) (fun hc => ?_)
    · have h := h1 hc
      refine z_loc [] rfl ?_
      exact zb_X1_isAligned_30 hX hQ hnL h
    · have h := h2 hc
      refine z_aload_n (r := (some h0)) hX dX1_isAligned_13 rfl 0 rfl ?_
      refine gf_RX1_24 (r := (some h0)) hX dX1_isAligned_14 rfl hk1 ?_
      refine z_iload_n hX dX1_isAligned_17 rfl 1 rfl ?_
      obtain ⟨hc5, h⟩ := h
      refine y_lald (r := (mR M 67 h0)) hX dX1_isAligned_18 ha3 hk4 hc5 ?_
      refine z_ldc2 (v := (-1 : Int64)) hX dX1_isAligned_19 kj_RX1_28 ?_
      refine z_lcmp hX dX1_isAligned_22 ?_
      obtain ⟨h1, h2⟩ := h
      refine z_if_eq (tgt := 30) hX dX1_isAligned_23 (by decide) (fun hc => ?_) (fun hc => ?_)
      · have h := h1 ((lg_cmp_eq _ _).mp hc)
        refine z_loc [] rfl ?_
        exact zb_X1_isAligned_30 hX hQ hnL h
      · have h := h2 (fun q => hc ((lg_cmp_eq _ _).mpr q))
        refine z_iconst (v := (1 : Int32)) hX dX1_isAligned_26 (by decide) ?_
        refine z_goto (tgt := 31) hX dX1_isAligned_27 (by decide) ?_
        refine z_loc [] rfl ?_
        exact zb_X1_isAligned_31 hX hQ hnL h
def rm_X2_put : Room := { frames := 0, cells := 0, slots := 0, locals := 0 }
def wp_X2_put (M : Mm) (h0 : Nat) (p1 : Int32) (p2 : Int32) (p3 : Int64) (p4 : Int32) (p5 : Int32) (K : Mm → Prop) : Prop := mK M h0 = 3 ∧ ∃ a2, (mR M 133 h0) = some a2 ∧ isA M a2 6 ∧ vp_in p1 (aN M a2) ∧ ∃ a6, (aR M a2 (p1).toNatClampNeg) = some a6 ∧ isA M a6 2 ∧ vp_in p2 (aN M a6) ∧ ∃ a10, (mR (tJ M a6 (p2).toNatClampNeg p3) 134 h0) = some a10 ∧ isA (tJ M a6 (p2).toNatClampNeg p3) a10 5 ∧ vp_in p1 (aN (tJ M a6 (p2).toNatClampNeg p3) a10) ∧ ∃ a14, (aR (tJ M a6 (p2).toNatClampNeg p3) a10 (p1).toNatClampNeg) = some a14 ∧ isA (tJ M a6 (p2).toNatClampNeg p3) a14 1 ∧ vp_in p2 (aN (tJ M a6 (p2).toNatClampNeg p3) a14) ∧ ∃ a18, (mR (tI (tJ M a6 (p2).toNatClampNeg p3) a14 (p2).toNatClampNeg p4) 135 h0) = some a18 ∧ isA (tI (tJ M a6 (p2).toNatClampNeg p3) a14 (p2).toNatClampNeg p4) a18 5 ∧ vp_in p1 (aN (tI (tJ M a6 (p2).toNatClampNeg p3) a14 (p2).toNatClampNeg p4) a18) ∧ ∃ a22, (aR (tI (tJ M a6 (p2).toNatClampNeg p3) a14 (p2).toNatClampNeg p4) a18 (p1).toNatClampNeg) = some a22 ∧ isA (tI (tJ M a6 (p2).toNatClampNeg p3) a14 (p2).toNatClampNeg p4) a22 1 ∧ vp_in p2 (aN (tI (tJ M a6 (p2).toNatClampNeg p3) a14 (p2).toNatClampNeg p4) a22) ∧ (K (tI (tI (tJ M a6 (p2).toNatClampNeg p3) a14 (p2).toNatClampNeg p4) a22 (p2).toNatClampNeg p5))
set_option maxRecDepth 100000 in
set_option maxHeartbeats 4000000 in
theorem ct_X2_put {M : Mm} {h0 : Nat} {p1 : Int32} {p2 : Int32} {p3 : Int64} {p4 : Int32} {p5 : Int32} {K : Mm → Prop} (h : wp_X2_put M h0 p1 p2 p3 p4 p5 K) : CtV yX2_put cX2_put 7 none rm_X2_put [.ref h0, .int p1, .int p2, .long p3, .int p4, .int p5] M K := by
  refine ct_any (QV K) (by decide) (by exact Nat.le_of_ble_eq_true rfl) (fun X hX hQ hnL hnm => ?_)
  rw [show lv_args 0 [.ref h0, .int p1, .int p2, .long p3, .int p4, .int p5] = [(0, va_rf (some h0)), (1, .int p1), (2, .int p2), (3, .long p3), (5, .int p4), (6, .int p5)] by rfl]
  have hX : Ok X cX2_put RX2 rm_X2_put := hX
  unfold wp_X2_put at h
  refine z_aload_n (r := (some h0)) hX dX2_put_0 rfl 0 rfl ?_
  obtain ⟨hk1, h⟩ := h
  refine gf_RX2_31 (r := (some h0)) hX dX2_put_1 rfl hk1 ?_
  refine z_iload_n hX dX2_put_4 rfl 1 rfl ?_
  obtain ⟨a2, ha3, h⟩ := h
  obtain ⟨hk4, h⟩ := h
  obtain ⟨hc5, h⟩ := h
  refine y_ald2 (r := (mR M 133 h0)) hX dX2_put_5 ha3 hk4 (Or.inr rfl) hc5 ?_
  refine z_iload_n hX dX2_put_6 rfl 2 rfl ?_
  refine z_lload_n hX dX2_put_7 rfl 3 rfl ?_
  obtain ⟨a6, ha7, h⟩ := h
  obtain ⟨hk8, h⟩ := h
  obtain ⟨hc9, h⟩ := h
  refine y_last (r := (aR M a2 (p1).toNatClampNeg)) hX dX2_put_8 ha7 hk8 hc9 ?_
  refine z_aload_n (r := (some h0)) hX dX2_put_9 rfl 0 rfl ?_
  refine gf_RX2_36 (r := (some h0)) hX dX2_put_10 rfl hk1 ?_
  refine z_iload_n hX dX2_put_13 rfl 1 rfl ?_
  obtain ⟨a10, ha11, h⟩ := h
  obtain ⟨hk12, h⟩ := h
  obtain ⟨hc13, h⟩ := h
  refine y_ald2 (r := (mR (tJ M a6 (p2).toNatClampNeg p3) 134 h0)) hX dX2_put_14 ha11 hk12 (Or.inl rfl) hc13 ?_
  refine z_iload_n hX dX2_put_15 rfl 2 rfl ?_
  refine z_iload hX dX2_put_16 4 rfl ?_
  obtain ⟨a14, ha15, h⟩ := h
  obtain ⟨hk16, h⟩ := h
  obtain ⟨hc17, h⟩ := h
  refine y_iast (r := (aR (tJ M a6 (p2).toNatClampNeg p3) a10 (p1).toNatClampNeg)) hX dX2_put_18 ha15 hk16 hc17 ?_
  refine z_aload_n (r := (some h0)) hX dX2_put_19 rfl 0 rfl ?_
  refine gf_RX2_39 (r := (some h0)) hX dX2_put_20 rfl hk1 ?_
  refine z_iload_n hX dX2_put_23 rfl 1 rfl ?_
  obtain ⟨a18, ha19, h⟩ := h
  obtain ⟨hk20, h⟩ := h
  obtain ⟨hc21, h⟩ := h
  refine y_ald2 (r := (mR (tI (tJ M a6 (p2).toNatClampNeg p3) a14 (p2).toNatClampNeg p4) 135 h0)) hX dX2_put_24 ha19 hk20 (Or.inl rfl) hc21 ?_
  refine z_iload_n hX dX2_put_25 rfl 2 rfl ?_
  refine z_iload hX dX2_put_26 5 rfl ?_
  obtain ⟨a22, ha23, h⟩ := h
  obtain ⟨hk24, h⟩ := h
  obtain ⟨hc25, h⟩ := h
  refine y_iast (r := (aR (tI (tJ M a6 (p2).toNatClampNeg p3) a14 (p2).toNatClampNeg p4) a18 (p1).toNatClampNeg)) hX dX2_put_28 ha23 hk24 hc25 ?_
  exact z_vret hX hQ dX2_put_29 h
def rm_X3_init : Room := { frames := 1, cells := 1, slots := 1200, locals := 20 }
def wp_X3_init (M : Mm) (h0 : Nat) (p1 : Int32) (K : Mm → Prop) : Prop := mK M h0 = 4 ∧ ¬ ((4 : Int32) * p1) < 0 ∧ (((4 : Int32) * p1)).toNatClampNeg ≤ 1200 ∧ (∀ q3, mK (sI M 193 h0 p1) q3 = 0 → mK (na (sI M 193 h0 p1) q3 26 (((4 : Int32) * p1)).toNatClampNeg) h0 = 4 ∧ (K (sR (na (sI M 193 h0 p1) q3 26 (((4 : Int32) * p1)).toNatClampNeg) 192 h0 (some q3))))
set_option maxRecDepth 100000 in
set_option maxHeartbeats 4000000 in
theorem ct_X3_init {M : Mm} {h0 : Nat} {p1 : Int32} {K : Mm → Prop} (h : wp_X3_init M h0 p1 K) : CtV yX3_init cX3_init 2 none rm_X3_init [.ref h0, .int p1] M K := by
  refine ct_any (QV K) (by decide) (by exact Nat.le_of_ble_eq_true rfl) (fun X hX hQ hnL hnm => ?_)
  rw [show lv_args 0 [.ref h0, .int p1] = [(0, va_rf (some h0)), (1, .int p1)] by rfl]
  have hX : Ok X cX3_init RX3 rm_X3_init := hX
  unfold wp_X3_init at h
  refine z_aload_n (r := (some h0)) hX dX3_init_0 rfl 0 rfl ?_
  refine mw_RX3_1 (a := h0) hX dX3_init_1 (by decide) (by decide) ?_
  refine z_aload_n (r := (some h0)) hX dX3_init_4 rfl 0 rfl ?_
  refine z_iload_n hX dX3_init_5 rfl 1 rfl ?_
  obtain ⟨hk1, h⟩ := h
  refine pf_RX3_7 (r := (some h0)) (v := p1) hX hnm dX3_init_6 rfl hk1 ?_
  refine z_aload_n (r := (some h0)) hX dX3_init_9 rfl 0 rfl ?_
  refine z_iconst (v := (4 : Int32)) hX dX3_init_10 (by decide) ?_
  refine z_iload_n hX dX3_init_11 rfl 1 rfl ?_
  refine z_imul hX dX3_init_12 ?_
  obtain ⟨hc6, h⟩ := h
  obtain ⟨hc7, h⟩ := h
  refine y_newa_long (n := (((4 : Int32) * p1)).toNatClampNeg) hX 26 (by decide) (by decide) hc6 rfl (by show _ * 8 ≤ _; omega) dX3_init_13 (by decide) (by show _ ≤ 1200; omega) (fun q3 hq4 => ?_)
  refine z_widen 1 1200 (by omega) (by omega) ?_
  have h := h q3 hq4
  obtain ⟨hk8, h⟩ := h
  refine pf_RX3_13 (r := (some h0)) (v := (some q3)) hX hnm dX3_init_15 rfl hk8 ?_
  refine z_widen 1 1200 (by decide) (by decide) ?_
  exact z_vret hX hQ dX3_init_18 h
def rm_X3_clear : Room := { frames := 0, cells := 0, slots := 0, locals := 0 }
def wp_X3_clear (M : Mm) (h0 : Nat) (K : Mm → Prop) : Prop := mK M h0 = 4 ∧ (K (sI M 194 h0 (0 : Int32)))
set_option maxRecDepth 100000 in
set_option maxHeartbeats 4000000 in
theorem ct_X3_clear {M : Mm} {h0 : Nat} {K : Mm → Prop} (h : wp_X3_clear M h0 K) : CtV yX3_clear cX3_clear 1 none rm_X3_clear [.ref h0] M K := by
  refine ct_any (QV K) (by decide) (by exact Nat.le_of_ble_eq_true rfl) (fun X hX hQ hnL hnm => ?_)
  rw [show lv_args 0 [.ref h0] = [(0, va_rf (some h0))] by rfl]
  have hX : Ok X cX3_clear RX3 rm_X3_clear := hX
  unfold wp_X3_clear at h
  refine z_aload_n (r := (some h0)) hX dX3_clear_0 rfl 0 rfl ?_
  refine z_iconst (v := (0 : Int32)) hX dX3_clear_1 (by decide) ?_
  obtain ⟨hk1, h⟩ := h
  refine pf_RX3_17 (r := (some h0)) (v := (0 : Int32)) hX dX3_clear_2 rfl hk1 ?_
  exact z_vret hX hQ dX3_clear_5 h
def rm_X3_note : Room := { frames := 0, cells := 0, slots := 0, locals := 0 }
def bk_X3_note_70 (h0 : Nat) (K : Mm → Prop) (M : Mm) : Prop := mK M h0 = 4 ∧ (K (sI M 194 h0 ((mI M 194 h0) + (1 : Int32))))
set_option maxRecDepth 100000 in
set_option maxHeartbeats 4000000 in
theorem zb_X3_note_70 {X : Cx} {h0 : Nat} {K : Mm → Prop} (hX : Ok X cX3_note RX3 rm_X3_note) (hQ : Rq X rm_X3_note none (QV K)) (hnL : X.2.2.2.2.2.2.2.2.2.2.2.2.2.2 = 6) {M : Mm} (h : bk_X3_note_70 h0 K M) : Z X M 0 0 70 [(0, va_rf (some h0))] [] := by
  unfold bk_X3_note_70 at h
  refine z_aload_n (r := (some h0)) hX dX3_note_70 rfl 0 rfl ?_
  refine z_dup hX dX3_note_71 (cat_rf _) ?_
  obtain ⟨hk1, h⟩ := h
  refine gf_RX3_17 (r := (some h0)) hX dX3_note_72 rfl hk1 ?_
  refine z_iconst (v := (1 : Int32)) hX dX3_note_75 (by decide) ?_
  refine z_iadd hX dX3_note_76 ?_
  refine pf_RX3_17 (r := (some h0)) (v := ((mI M 194 h0) + (1 : Int32))) hX dX3_note_77 rfl hk1 ?_
  exact z_vret hX hQ dX3_note_80 h
def wp_X3_note (M : Mm) (h0 : Nat) (p1 : Int32) (p2 : Int64) (p3 : Int32) (p4 : Int32) (K : Mm → Prop) : Prop := mK M h0 = 4 ∧ (((mI M 193 h0) ≤ (mI M 194 h0) → (bk_X3_note_70 h0 K M)) ∧ (¬ (mI M 193 h0) ≤ (mI M 194 h0) → ∃ a4, (mR M 192 h0) = some a4 ∧ isA M a4 2 ∧ vp_in ((4 : Int32) * (mI M 194 h0)) (aN M a4) ∧ ∃ a8, (mR (tJ M a4 (((4 : Int32) * (mI M 194 h0))).toNatClampNeg ((p1).toInt64)) 192 h0) = some a8 ∧ isA (tJ M a4 (((4 : Int32) * (mI M 194 h0))).toNatClampNeg ((p1).toInt64)) a8 2 ∧ vp_in (((4 : Int32) * (mI (tJ M a4 (((4 : Int32) * (mI M 194 h0))).toNatClampNeg ((p1).toInt64)) 194 h0)) + (1 : Int32)) (aN (tJ M a4 (((4 : Int32) * (mI M 194 h0))).toNatClampNeg ((p1).toInt64)) a8) ∧ ∃ a12, (mR (tJ (tJ M a4 (((4 : Int32) * (mI M 194 h0))).toNatClampNeg ((p1).toInt64)) a8 ((((4 : Int32) * (mI (tJ M a4 (((4 : Int32) * (mI M 194 h0))).toNatClampNeg ((p1).toInt64)) 194 h0)) + (1 : Int32))).toNatClampNeg p2) 192 h0) = some a12 ∧ isA (tJ (tJ M a4 (((4 : Int32) * (mI M 194 h0))).toNatClampNeg ((p1).toInt64)) a8 ((((4 : Int32) * (mI (tJ M a4 (((4 : Int32) * (mI M 194 h0))).toNatClampNeg ((p1).toInt64)) 194 h0)) + (1 : Int32))).toNatClampNeg p2) a12 2 ∧ vp_in (((4 : Int32) * (mI (tJ (tJ M a4 (((4 : Int32) * (mI M 194 h0))).toNatClampNeg ((p1).toInt64)) a8 ((((4 : Int32) * (mI (tJ M a4 (((4 : Int32) * (mI M 194 h0))).toNatClampNeg ((p1).toInt64)) 194 h0)) + (1 : Int32))).toNatClampNeg p2) 194 h0)) + (2 : Int32)) (aN (tJ (tJ M a4 (((4 : Int32) * (mI M 194 h0))).toNatClampNeg ((p1).toInt64)) a8 ((((4 : Int32) * (mI (tJ M a4 (((4 : Int32) * (mI M 194 h0))).toNatClampNeg ((p1).toInt64)) 194 h0)) + (1 : Int32))).toNatClampNeg p2) a12) ∧ ∃ a16, (mR (tJ (tJ (tJ M a4 (((4 : Int32) * (mI M 194 h0))).toNatClampNeg ((p1).toInt64)) a8 ((((4 : Int32) * (mI (tJ M a4 (((4 : Int32) * (mI M 194 h0))).toNatClampNeg ((p1).toInt64)) 194 h0)) + (1 : Int32))).toNatClampNeg p2) a12 ((((4 : Int32) * (mI (tJ (tJ M a4 (((4 : Int32) * (mI M 194 h0))).toNatClampNeg ((p1).toInt64)) a8 ((((4 : Int32) * (mI (tJ M a4 (((4 : Int32) * (mI M 194 h0))).toNatClampNeg ((p1).toInt64)) 194 h0)) + (1 : Int32))).toNatClampNeg p2) 194 h0)) + (2 : Int32))).toNatClampNeg ((p3).toInt64)) 192 h0) = some a16 ∧ isA (tJ (tJ (tJ M a4 (((4 : Int32) * (mI M 194 h0))).toNatClampNeg ((p1).toInt64)) a8 ((((4 : Int32) * (mI (tJ M a4 (((4 : Int32) * (mI M 194 h0))).toNatClampNeg ((p1).toInt64)) 194 h0)) + (1 : Int32))).toNatClampNeg p2) a12 ((((4 : Int32) * (mI (tJ (tJ M a4 (((4 : Int32) * (mI M 194 h0))).toNatClampNeg ((p1).toInt64)) a8 ((((4 : Int32) * (mI (tJ M a4 (((4 : Int32) * (mI M 194 h0))).toNatClampNeg ((p1).toInt64)) 194 h0)) + (1 : Int32))).toNatClampNeg p2) 194 h0)) + (2 : Int32))).toNatClampNeg ((p3).toInt64)) a16 2 ∧ vp_in (((4 : Int32) * (mI (tJ (tJ (tJ M a4 (((4 : Int32) * (mI M 194 h0))).toNatClampNeg ((p1).toInt64)) a8 ((((4 : Int32) * (mI (tJ M a4 (((4 : Int32) * (mI M 194 h0))).toNatClampNeg ((p1).toInt64)) 194 h0)) + (1 : Int32))).toNatClampNeg p2) a12 ((((4 : Int32) * (mI (tJ (tJ M a4 (((4 : Int32) * (mI M 194 h0))).toNatClampNeg ((p1).toInt64)) a8 ((((4 : Int32) * (mI (tJ M a4 (((4 : Int32) * (mI M 194 h0))).toNatClampNeg ((p1).toInt64)) 194 h0)) + (1 : Int32))).toNatClampNeg p2) 194 h0)) + (2 : Int32))).toNatClampNeg ((p3).toInt64)) 194 h0)) + (3 : Int32)) (aN (tJ (tJ (tJ M a4 (((4 : Int32) * (mI M 194 h0))).toNatClampNeg ((p1).toInt64)) a8 ((((4 : Int32) * (mI (tJ M a4 (((4 : Int32) * (mI M 194 h0))).toNatClampNeg ((p1).toInt64)) 194 h0)) + (1 : Int32))).toNatClampNeg p2) a12 ((((4 : Int32) * (mI (tJ (tJ M a4 (((4 : Int32) * (mI M 194 h0))).toNatClampNeg ((p1).toInt64)) a8 ((((4 : Int32) * (mI (tJ M a4 (((4 : Int32) * (mI M 194 h0))).toNatClampNeg ((p1).toInt64)) 194 h0)) + (1 : Int32))).toNatClampNeg p2) 194 h0)) + (2 : Int32))).toNatClampNeg ((p3).toInt64)) a16) ∧ (bk_X3_note_70 h0 K (tJ (tJ (tJ (tJ M a4 (((4 : Int32) * (mI M 194 h0))).toNatClampNeg ((p1).toInt64)) a8 ((((4 : Int32) * (mI (tJ M a4 (((4 : Int32) * (mI M 194 h0))).toNatClampNeg ((p1).toInt64)) 194 h0)) + (1 : Int32))).toNatClampNeg p2) a12 ((((4 : Int32) * (mI (tJ (tJ M a4 (((4 : Int32) * (mI M 194 h0))).toNatClampNeg ((p1).toInt64)) a8 ((((4 : Int32) * (mI (tJ M a4 (((4 : Int32) * (mI M 194 h0))).toNatClampNeg ((p1).toInt64)) 194 h0)) + (1 : Int32))).toNatClampNeg p2) 194 h0)) + (2 : Int32))).toNatClampNeg ((p3).toInt64)) a16 ((((4 : Int32) * (mI (tJ (tJ (tJ M a4 (((4 : Int32) * (mI M 194 h0))).toNatClampNeg ((p1).toInt64)) a8 ((((4 : Int32) * (mI (tJ M a4 (((4 : Int32) * (mI M 194 h0))).toNatClampNeg ((p1).toInt64)) 194 h0)) + (1 : Int32))).toNatClampNeg p2) a12 ((((4 : Int32) * (mI (tJ (tJ M a4 (((4 : Int32) * (mI M 194 h0))).toNatClampNeg ((p1).toInt64)) a8 ((((4 : Int32) * (mI (tJ M a4 (((4 : Int32) * (mI M 194 h0))).toNatClampNeg ((p1).toInt64)) 194 h0)) + (1 : Int32))).toNatClampNeg p2) 194 h0)) + (2 : Int32))).toNatClampNeg ((p3).toInt64)) 194 h0)) + (3 : Int32))).toNatClampNeg ((p4).toInt64)))))
set_option maxRecDepth 100000 in
set_option maxHeartbeats 4000000 in
theorem ct_X3_note {M : Mm} {h0 : Nat} {p1 : Int32} {p2 : Int64} {p3 : Int32} {p4 : Int32} {K : Mm → Prop} (h : wp_X3_note M h0 p1 p2 p3 p4 K) : CtV yX3_note cX3_note 6 none rm_X3_note [.ref h0, .int p1, .long p2, .int p3, .int p4] M K := by
  refine ct_any (QV K) (by decide) (by exact Nat.le_of_ble_eq_true rfl) (fun X hX hQ hnL hnm => ?_)
  rw [show lv_args 0 [.ref h0, .int p1, .long p2, .int p3, .int p4] = [(0, va_rf (some h0)), (1, .int p1), (2, .long p2), (4, .int p3), (5, .int p4)] by rfl]
  have hX : Ok X cX3_note RX3 rm_X3_note := hX
  unfold wp_X3_note at h
  refine z_aload_n (r := (some h0)) hX dX3_note_0 rfl 0 rfl ?_
  obtain ⟨hk3, h⟩ := h
  refine gf_RX3_17 (r := (some h0)) hX dX3_note_1 rfl hk3 ?_
  refine z_aload_n (r := (some h0)) hX dX3_note_4 rfl 0 rfl ?_
  refine gf_RX3_7 (r := (some h0)) hX dX3_note_5 rfl hk3 ?_
  obtain ⟨h1, h2⟩ := h
  refine z_icmp_ge (tgt := 70) hX dX3_note_8 (by decide) (fun hc => ?_) (fun hc => ?_)
  · have h := h1 hc
    refine z_loc [0] rfl ?_
    exact zb_X3_note_70 hX hQ hnL h
  · have h := h2 hc
    refine z_aload_n (r := (some h0)) hX dX3_note_11 rfl 0 rfl ?_
    refine gf_RX3_13 (r := (some h0)) hX dX3_note_12 rfl hk3 ?_
    refine z_iconst (v := (4 : Int32)) hX dX3_note_15 (by decide) ?_
    refine z_aload_n (r := (some h0)) hX dX3_note_16 rfl 0 rfl ?_
    refine gf_RX3_17 (r := (some h0)) hX dX3_note_17 rfl hk3 ?_
    refine z_imul hX dX3_note_20 ?_
    refine z_iload_n hX dX3_note_21 rfl 1 rfl ?_
    refine z_i2l hX dX3_note_22 ?_
    obtain ⟨a4, ha5, h⟩ := h
    obtain ⟨hk6, h⟩ := h
    obtain ⟨hc7, h⟩ := h
    refine y_last (r := (mR M 192 h0)) hX dX3_note_23 ha5 hk6 hc7 ?_
    refine z_aload_n (r := (some h0)) hX dX3_note_24 rfl 0 rfl ?_
    refine gf_RX3_13 (r := (some h0)) hX dX3_note_25 rfl hk3 ?_
    refine z_iconst (v := (4 : Int32)) hX dX3_note_28 (by decide) ?_
    refine z_aload_n (r := (some h0)) hX dX3_note_29 rfl 0 rfl ?_
    refine gf_RX3_17 (r := (some h0)) hX dX3_note_30 rfl hk3 ?_
    refine z_imul hX dX3_note_33 ?_
    refine z_iconst (v := (1 : Int32)) hX dX3_note_34 (by decide) ?_
    refine z_iadd hX dX3_note_35 ?_
    refine z_lload_n hX dX3_note_36 rfl 2 rfl ?_
    obtain ⟨a8, ha9, h⟩ := h
    obtain ⟨hk10, h⟩ := h
    obtain ⟨hc11, h⟩ := h
    refine y_last (r := (mR (tJ M a4 (((4 : Int32) * (mI M 194 h0))).toNatClampNeg ((p1).toInt64)) 192 h0)) hX dX3_note_37 ha9 hk10 hc11 ?_
    refine z_aload_n (r := (some h0)) hX dX3_note_38 rfl 0 rfl ?_
    refine gf_RX3_13 (r := (some h0)) hX dX3_note_39 rfl hk3 ?_
    refine z_iconst (v := (4 : Int32)) hX dX3_note_42 (by decide) ?_
    refine z_aload_n (r := (some h0)) hX dX3_note_43 rfl 0 rfl ?_
    refine gf_RX3_17 (r := (some h0)) hX dX3_note_44 rfl hk3 ?_
    refine z_imul hX dX3_note_47 ?_
    refine z_iconst (v := (2 : Int32)) hX dX3_note_48 (by decide) ?_
    refine z_iadd hX dX3_note_49 ?_
    refine z_iload hX dX3_note_50 3 rfl ?_
    refine z_i2l hX dX3_note_52 ?_
    obtain ⟨a12, ha13, h⟩ := h
    obtain ⟨hk14, h⟩ := h
    obtain ⟨hc15, h⟩ := h
    refine y_last (r := (mR (tJ (tJ M a4 (((4 : Int32) * (mI M 194 h0))).toNatClampNeg ((p1).toInt64)) a8 ((((4 : Int32) * (mI (tJ M a4 (((4 : Int32) * (mI M 194 h0))).toNatClampNeg ((p1).toInt64)) 194 h0)) + (1 : Int32))).toNatClampNeg p2) 192 h0)) hX dX3_note_53 ha13 hk14 hc15 ?_
    refine z_aload_n (r := (some h0)) hX dX3_note_54 rfl 0 rfl ?_
    refine gf_RX3_13 (r := (some h0)) hX dX3_note_55 rfl hk3 ?_
    refine z_iconst (v := (4 : Int32)) hX dX3_note_58 (by decide) ?_
    refine z_aload_n (r := (some h0)) hX dX3_note_59 rfl 0 rfl ?_
    refine gf_RX3_17 (r := (some h0)) hX dX3_note_60 rfl hk3 ?_
    refine z_imul hX dX3_note_63 ?_
    refine z_iconst (v := (3 : Int32)) hX dX3_note_64 (by decide) ?_
    refine z_iadd hX dX3_note_65 ?_
    refine z_iload hX dX3_note_66 4 rfl ?_
    refine z_i2l hX dX3_note_68 ?_
    obtain ⟨a16, ha17, h⟩ := h
    obtain ⟨hk18, h⟩ := h
    obtain ⟨hc19, h⟩ := h
    refine y_last (r := (mR (tJ (tJ (tJ M a4 (((4 : Int32) * (mI M 194 h0))).toNatClampNeg ((p1).toInt64)) a8 ((((4 : Int32) * (mI (tJ M a4 (((4 : Int32) * (mI M 194 h0))).toNatClampNeg ((p1).toInt64)) 194 h0)) + (1 : Int32))).toNatClampNeg p2) a12 ((((4 : Int32) * (mI (tJ (tJ M a4 (((4 : Int32) * (mI M 194 h0))).toNatClampNeg ((p1).toInt64)) a8 ((((4 : Int32) * (mI (tJ M a4 (((4 : Int32) * (mI M 194 h0))).toNatClampNeg ((p1).toInt64)) 194 h0)) + (1 : Int32))).toNatClampNeg p2) 194 h0)) + (2 : Int32))).toNatClampNeg ((p3).toInt64)) 192 h0)) hX dX3_note_69 ha17 hk18 hc19 ?_
    refine z_loc [0] rfl ?_
    exact zb_X3_note_70 hX hQ hnL h
def rm_X3_has : Room := { frames := 0, cells := 0, slots := 0, locals := 0 }
def bk_X3_has_34 (h0 : Nat) (K : Int32 → Mm → Prop) (s0 : Int32) (M : Mm) : Prop := (bz s0 ∧ K s0 M)
set_option maxRecDepth 100000 in
set_option maxHeartbeats 4000000 in
theorem zb_X3_has_34 {X : Cx} {h0 : Nat} {K : Int32 → Mm → Prop} (hX : Ok X cX3_has RX3 rm_X3_has) (hQ : Rq X rm_X3_has (some .boolean) (QI K)) (hnL : X.2.2.2.2.2.2.2.2.2.2.2.2.2.2 = 3) {s0 : Int32} {M : Mm} (h : bk_X3_has_34 h0 K s0 M) : Z X M 0 0 34 [] [.int s0] := by
  unfold bk_X3_has_34 at h
  exact y_zret hX hQ dX3_has_34 h.1 h.2
def bk_X3_has_33 (h0 : Nat) (K : Int32 → Mm → Prop) (M : Mm) : Prop := (bk_X3_has_34 h0 K (0 : Int32) M)
set_option maxRecDepth 100000 in
set_option maxHeartbeats 4000000 in
theorem zb_X3_has_33 {X : Cx} {h0 : Nat} {K : Int32 → Mm → Prop} (hX : Ok X cX3_has RX3 rm_X3_has) (hQ : Rq X rm_X3_has (some .boolean) (QI K)) (hnL : X.2.2.2.2.2.2.2.2.2.2.2.2.2.2 = 3) {M : Mm} (h : bk_X3_has_33 h0 K M) : Z X M 0 0 33 [] [] := by
  unfold bk_X3_has_33 at h
  refine z_iconst (v := (0 : Int32)) hX dX3_has_33 (by decide) ?_
  exact zb_X3_has_34 hX hQ hnL h
def wp_X3_has (M : Mm) (h0 : Nat) (p1 : Int32) (p2 : Int32) (K : Int32 → Mm → Prop) : Prop := ((p1 < 0 → (bk_X3_has_33 h0 K M)) ∧ (¬ p1 < 0 → mK M h0 = 4 ∧ (((mI M 194 h0) ≤ p1 → (bk_X3_has_33 h0 K M)) ∧ (¬ (mI M 194 h0) ≤ p1 → (((mI M 193 h0) ≤ p1 → (bk_X3_has_33 h0 K M)) ∧ (¬ (mI M 193 h0) ≤ p1 → ((p2 < 0 → (bk_X3_has_33 h0 K M)) ∧ (¬ p2 < 0 → (((3 : Int32) < p2 → (bk_X3_has_33 h0 K M)) ∧ (¬ (3 : Int32) < p2 → (bk_X3_has_34 h0 K (1 : Int32) M)))))))))))
set_option maxRecDepth 100000 in
set_option maxHeartbeats 4000000 in
theorem ct_X3_has {M : Mm} {h0 : Nat} {p1 : Int32} {p2 : Int32} {K : Int32 → Mm → Prop} (h : wp_X3_has M h0 p1 p2 K) : CtI yX3_has cX3_has 3 (some .boolean) rm_X3_has [.ref h0, .int p1, .int p2] M K := by
  refine ct_any (QI K) (by decide) (by exact Nat.le_of_ble_eq_true rfl) (fun X hX hQ hnL hnm => ?_)
  rw [show lv_args 0 [.ref h0, .int p1, .int p2] = [(0, va_rf (some h0)), (1, .int p1), (2, .int p2)] by rfl]
  have hX : Ok X cX3_has RX3 rm_X3_has := hX
  unfold wp_X3_has at h
  refine z_iload_n hX dX3_has_0 rfl 1 rfl ?_
  obtain ⟨h1, h2⟩ := h
  refine z_if_lt (tgt := 33) hX dX3_has_1 (by decide) (fun hc => ?_) (fun hc => ?_)
  · have h := h1 hc
    refine z_loc [] rfl ?_
    exact zb_X3_has_33 hX hQ hnL h
  · have h := h2 hc
    refine z_iload_n hX dX3_has_4 rfl 1 rfl ?_
    refine z_aload_n (r := (some h0)) hX dX3_has_5 rfl 0 rfl ?_
    obtain ⟨hk1, h⟩ := h
    refine gf_RX3_17 (r := (some h0)) hX dX3_has_6 rfl hk1 ?_
    obtain ⟨h1, h2⟩ := h
    refine z_icmp_ge (tgt := 33) hX dX3_has_9 (by decide) (fun hc => ?_) (fun hc => ?_)
    · have h := h1 hc
      refine z_loc [] rfl ?_
      exact zb_X3_has_33 hX hQ hnL h
    · have h := h2 hc
      refine z_iload_n hX dX3_has_12 rfl 1 rfl ?_
      refine z_aload_n (r := (some h0)) hX dX3_has_13 rfl 0 rfl ?_
      refine gf_RX3_7 (r := (some h0)) hX dX3_has_14 rfl hk1 ?_
      obtain ⟨h1, h2⟩ := h
      refine z_icmp_ge (tgt := 33) hX dX3_has_17 (by decide) (fun hc => ?_) (fun hc => ?_)
      · have h := h1 hc
        refine z_loc [] rfl ?_
        exact zb_X3_has_33 hX hQ hnL h
      · have h := h2 hc
        refine z_iload_n hX dX3_has_20 rfl 2 rfl ?_
        obtain ⟨h1, h2⟩ := h
        refine z_if_lt (tgt := 33) hX dX3_has_21 (by decide) (fun hc => ?_) (fun hc => ?_)
        · have h := h1 hc
          refine z_loc [] rfl ?_
          exact zb_X3_has_33 hX hQ hnL h
        · have h := h2 hc
          refine z_iload_n hX dX3_has_24 rfl 2 rfl ?_
          refine z_iconst (v := (3 : Int32)) hX dX3_has_25 (by decide) ?_
          obtain ⟨h1, h2⟩ := h
          refine z_icmp_gt (tgt := 33) hX dX3_has_26 (by decide) (fun hc => ?_) (fun hc => ?_)
          · have h := h1 hc
            refine z_loc [] rfl ?_
            exact zb_X3_has_33 hX hQ hnL h
          · have h := h2 hc
            refine z_iconst (v := (1 : Int32)) hX dX3_has_29 (by decide) ?_
            refine z_goto (tgt := 34) hX dX3_has_30 (by decide) ?_
            refine z_loc [] rfl ?_
            exact zb_X3_has_34 hX hQ hnL h
def rm_X3_get : Room := { frames := 0, cells := 0, slots := 0, locals := 0 }
def wp_X3_get (M : Mm) (h0 : Nat) (p1 : Int32) (p2 : Int32) (K : Int64 → Mm → Prop) : Prop := mK M h0 = 4 ∧ ∃ a2, (mR M 192 h0) = some a2 ∧ isA M a2 2 ∧ vp_in (((4 : Int32) * p1) + p2) (aN M a2) ∧ (K (aJ M a2 ((((4 : Int32) * p1) + p2)).toNatClampNeg) M)
set_option maxRecDepth 100000 in
set_option maxHeartbeats 4000000 in
theorem ct_X3_get {M : Mm} {h0 : Nat} {p1 : Int32} {p2 : Int32} {K : Int64 → Mm → Prop} (h : wp_X3_get M h0 p1 p2 K) : CtJ yX3_get cX3_get 3 (some .long) rm_X3_get [.ref h0, .int p1, .int p2] M K := by
  refine ct_any (QJ K) (by decide) (by exact Nat.le_of_ble_eq_true rfl) (fun X hX hQ hnL hnm => ?_)
  rw [show lv_args 0 [.ref h0, .int p1, .int p2] = [(0, va_rf (some h0)), (1, .int p1), (2, .int p2)] by rfl]
  have hX : Ok X cX3_get RX3 rm_X3_get := hX
  unfold wp_X3_get at h
  refine z_aload_n (r := (some h0)) hX dX3_get_0 rfl 0 rfl ?_
  obtain ⟨hk1, h⟩ := h
  refine gf_RX3_13 (r := (some h0)) hX dX3_get_1 rfl hk1 ?_
  refine z_iconst (v := (4 : Int32)) hX dX3_get_4 (by decide) ?_
  refine z_iload_n hX dX3_get_5 rfl 1 rfl ?_
  refine z_imul hX dX3_get_6 ?_
  refine z_iload_n hX dX3_get_7 rfl 2 rfl ?_
  refine z_iadd hX dX3_get_8 ?_
  obtain ⟨a2, ha3, h⟩ := h
  obtain ⟨hk4, h⟩ := h
  obtain ⟨hc5, h⟩ := h
  refine y_lald (r := (mR M 192 h0)) hX dX3_get_9 ha3 hk4 hc5 ?_
  exact z_lret hX hQ dX3_get_10 h
def rm_X4_init : Room := { frames := 1, cells := 0, slots := 0, locals := 20 }
def wp_X4_init (M : Mm) (h0 : Nat) (p1 : Option Nat) (K : Mm → Prop) : Prop := mK M h0 = 5 ∧ (K (sR M 256 h0 p1))
set_option maxRecDepth 100000 in
set_option maxHeartbeats 4000000 in
theorem ct_X4_init {M : Mm} {h0 : Nat} {p1 : Option Nat} {K : Mm → Prop} (h : wp_X4_init M h0 p1 K) : CtV yX4_init cX4_init 2 none rm_X4_init [.ref h0, va_rf p1] M K := by
  refine ct_any (QV K) (by decide) (by cases p1 <;> exact Nat.le_of_ble_eq_true rfl) (fun X hX hQ hnL hnm => ?_)
  rw [show lv_args 0 [.ref h0, va_rf p1] = [(0, va_rf (some h0)), (1, va_rf p1)] by cases p1 <;> rfl]
  have hX : Ok X cX4_init RX4 rm_X4_init := hX
  unfold wp_X4_init at h
  refine z_aload_n (r := (some h0)) hX dX4_init_0 rfl 0 rfl ?_
  refine mw_RX4_3 (a := h0) hX dX4_init_1 (by decide) (by decide) ?_
  refine z_aload_n (r := (some h0)) hX dX4_init_4 rfl 0 rfl ?_
  refine z_aload_n (r := p1) hX dX4_init_5 rfl 1 rfl ?_
  obtain ⟨hk1, h⟩ := h
  refine pf_RX4_9 (r := (some h0)) (v := p1) hX hnm dX4_init_6 rfl hk1 ?_
  exact z_vret hX hQ dX4_init_9 h
def rm_X4_scanRun : Room := { frames := 1, cells := 0, slots := 0, locals := 21 }
def bk_X4_scanRun_123 (h0 : Nat) (K : Int32 → Mm → Prop) (l3 : Int32) (M : Mm) : Prop := (K l3 M)
set_option maxRecDepth 100000 in
set_option maxHeartbeats 4000000 in
theorem zb_X4_scanRun_123 {X : Cx} {h0 : Nat} {K : Int32 → Mm → Prop} (hX : Ok X cX4_scanRun RX4 rm_X4_scanRun) (hQ : Rq X rm_X4_scanRun (some .int) (QI K)) (hnL : X.2.2.2.2.2.2.2.2.2.2.2.2.2.2 = 4) {l3 : Int32} {M : Mm} (h : bk_X4_scanRun_123 h0 K l3 M) : Z X M 0 0 123 [(3, .int l3)] [] := by
  unfold bk_X4_scanRun_123 at h
  refine z_iload_n hX dX4_scanRun_123 rfl 0 rfl ?_
  exact z_iret hX hQ dX4_scanRun_124 h
def bk_X4_scanRun_104 (h0 : Nat) (R7 : Int32 → Int32 → Int32 → Mm → Prop) (K : Int32 → Mm → Prop) (l1 : Int32) (l2 : Int32) (l3 : Int32) (s0 : Int64) (s1 : Option Nat) (M : Mm) : Prop := ∃ a1, s1 = some a1 ∧ mK M a1 = 5 ∧ mK (sJ M 260 a1 s0) h0 = 5 ∧ (R7 l1 l2 (l3 + 1) (sI (sJ M 260 a1 s0) 257 h0 ((mI (sJ M 260 a1 s0) 257 h0) + (1 : Int32))))
set_option maxRecDepth 100000 in
set_option maxHeartbeats 4000000 in
theorem zb_X4_scanRun_104 {X : Cx} {h0 : Nat} {R7 : Int32 → Int32 → Int32 → Mm → Prop} {K : Int32 → Mm → Prop} (hX : Ok X cX4_scanRun RX4 rm_X4_scanRun) (hQ : Rq X rm_X4_scanRun (some .int) (QI K)) (hnL : X.2.2.2.2.2.2.2.2.2.2.2.2.2.2 = 4) (hR7 : ∀ l1 l2 l3 M, R7 l1 l2 l3 M → Z X M 0 0 7 [(0, va_rf (some h0)), (1, .int l1), (2, .int l2), (3, .int l3)] []) {l1 : Int32} {l2 : Int32} {l3 : Int32} {s0 : Int64} {s1 : Option Nat} {M : Mm} (h : bk_X4_scanRun_104 h0 R7 K l1 l2 l3 s0 s1 M) : Z X M 0 0 104 [(0, va_rf (some h0)), (1, .int l1), (2, .int l2), (3, .int l3)] [.long s0, va_rf s1] := by
  unfold bk_X4_scanRun_104 at h
  obtain ⟨a1, ha2, h⟩ := h
  obtain ⟨hk3, h⟩ := h
  refine pf_RX4_46 (r := s1) (v := s0) hX dX4_scanRun_104 ha2 hk3 ?_
  refine z_aload_n (r := (some h0)) hX dX4_scanRun_107 rfl 0 rfl ?_
  refine z_dup hX dX4_scanRun_108 (cat_rf _) ?_
  obtain ⟨hk5, h⟩ := h
  refine gf_RX4_15 (r := (some h0)) hX dX4_scanRun_109 rfl hk5 ?_
  refine z_iconst (v := (1 : Int32)) hX dX4_scanRun_112 (by decide) ?_
  refine z_iadd hX dX4_scanRun_113 ?_
  refine pf_RX4_15 (r := (some h0)) (v := ((mI (sJ M 260 a1 s0) 257 h0) + (1 : Int32))) hX dX4_scanRun_114 rfl hk5 ?_
  refine z_iinc (v := (l3 + 1)) hX [(3, .int (l3 + 1)), (0, va_rf (some h0)), (1, .int l1), (2, .int l2)] dX4_scanRun_117 3 rfl rfl (by rw [hnL]; decide) rfl ?_
  refine z_goto (tgt := 7) hX dX4_scanRun_120 (by decide) ?_
  refine z_loc [1, 2, 3, 0] rfl ?_
  exact hR7 _ _ _ _ h
def lp_X4_scanRun_7 (h0 : Nat) (K : Int32 → Mm → Prop) : Nat → Int32 → Int32 → Int32 → Mm → Prop
  | 0, _, _, _, _ => False
  | n + 1, l1, l2, l3, M => mK M h0 = 5 ∧ ∃ a8, (mR M 256 h0) = some a8 ∧ mK M a8 = 1 ∧ (((mI M 1 a8) ≤ (mI M 257 h0) → (bk_X4_scanRun_123 h0 K l3 M)) ∧ (¬ (mI M 1 a8) ≤ (mI M 257 h0) → (wp_X0_at M a8 (mI M 257 h0) (fun r11 M12 => ((r11 < l1 → (bk_X4_scanRun_123 h0 K l3 M12)) ∧ (¬ r11 < l1 → mK M12 h0 = 5 ∧ ∃ a17, (mR M12 256 h0) = some a17 ∧ mK M12 a17 = 1 ∧ (wp_X0_at M12 a17 (mI M12 257 h0) (fun r15 M16 => ((l2 < r15 → (bk_X4_scanRun_123 h0 K l3 M16)) ∧ (¬ l2 < r15 → ((¬ l1 = (48 : Int32) → mK M16 h0 = 5 ∧ ∃ a24, (mR M16 256 h0) = some a24 ∧ mK M16 a24 = 1 ∧ (wp_X0_at M16 a24 (mI M16 257 h0) (fun r22 M23 => (bk_X4_scanRun_104 h0 (lp_X4_scanRun_7 h0 K n) K l1 l2 l3 (((mJ M16 260 h0) <<< (((8 : Int32)).toInt64 &&& 63)) ||| ((r22).toInt64)) (some h0) M23)))) ∧ (l1 = (48 : Int32) → mK M16 h0 = 5 ∧ ∃ a31, (mR M16 256 h0) = some a31 ∧ mK M16 a31 = 1 ∧ (wp_X0_at M16 a31 (mI M16 257 h0) (fun r29 M30 => (bk_X4_scanRun_104 h0 (lp_X4_scanRun_7 h0 K n) K l1 l2 l3 (((mJ M16 260 h0) * (10 : Int64)) + (((r29 - l1)).toInt64)) (some h0) M30)))))))))))))))
set_option maxRecDepth 100000 in
set_option maxHeartbeats 4000000 in
theorem zl_X4_scanRun_7 {X : Cx} {h0 : Nat} {K : Int32 → Mm → Prop} (hX : Ok X cX4_scanRun RX4 rm_X4_scanRun) (hQ : Rq X rm_X4_scanRun (some .int) (QI K)) (hnL : X.2.2.2.2.2.2.2.2.2.2.2.2.2.2 = 4) : ∀ (n : Nat) (l1 : Int32) (l2 : Int32) (l3 : Int32) (M : Mm), lp_X4_scanRun_7 h0 K n l1 l2 l3 M → Z X M 0 0 7 [(0, va_rf (some h0)), (1, .int l1), (2, .int l2), (3, .int l3)] [] := by
  intro n
  induction n with
  | zero =>
    intro l1 l2 l3 M h
    exact False.elim h
  | succ n hR7 =>
    intro l1 l2 l3 M h
    refine z_aload_n (r := (some h0)) hX dX4_scanRun_7 rfl 0 rfl ?_
    obtain ⟨hk7, h⟩ := h
    refine gf_RX4_15 (r := (some h0)) hX dX4_scanRun_8 rfl hk7 ?_
    refine z_aload_n (r := (some h0)) hX dX4_scanRun_11 rfl 0 rfl ?_
    refine gf_RX4_9 (r := (some h0)) hX dX4_scanRun_12 rfl hk7 ?_
    obtain ⟨a8, ha9, h⟩ := h
    obtain ⟨hk10, h⟩ := h
    refine gf_RX4_19 (r := (mR M 256 h0)) hX dX4_scanRun_15 ha9 hk10 ?_
    obtain ⟨h1, h2⟩ := h
    refine z_icmp_ge (tgt := 123) hX dX4_scanRun_18 (by decide) (fun hc => ?_) (fun hc => ?_)
    · have h := h1 hc
      refine z_loc [3] rfl ?_
      exact zb_X4_scanRun_123 hX hQ hnL h
    · have h := h2 hc
      refine z_aload_n (r := (some h0)) hX dX4_scanRun_21 rfl 0 rfl ?_
      refine gf_RX4_9 (r := (some h0)) hX dX4_scanRun_22 rfl hk7 ?_
      refine z_aload_n (r := (some h0)) hX dX4_scanRun_25 rfl 0 rfl ?_
      refine gf_RX4_15 (r := (some h0)) hX dX4_scanRun_26 rfl hk7 ?_
      refine z_callVI (As := [.int (mI M 257 h0)]) (rest := []) (ci := 0) hX (ct_X0_at h) mw_RX4_24 rfl (by decide) rfl (by rw [ha9]; rfl) (by unfold RoomC; decide) (by decide) dX4_scanRun_29 hk10 (fun r11 M12 h => ?_)
      refine z_iload_n hX dX4_scanRun_32 rfl 1 rfl ?_
      obtain ⟨h1, h2⟩ := h
      refine z_icmp_lt (tgt := 123) hX dX4_scanRun_33 (by decide) (fun hc => ?_) (fun hc => ?_)
      · have h := h1 hc
        refine z_loc [3] rfl ?_
        exact zb_X4_scanRun_123 hX hQ hnL h
      · have h := h2 hc
        refine z_aload_n (r := (some h0)) hX dX4_scanRun_36 rfl 0 rfl ?_
        obtain ⟨hk14, h⟩ := h
        refine gf_RX4_9 (r := (some h0)) hX dX4_scanRun_37 rfl hk14 ?_
        refine z_aload_n (r := (some h0)) hX dX4_scanRun_40 rfl 0 rfl ?_
        refine gf_RX4_15 (r := (some h0)) hX dX4_scanRun_41 rfl hk14 ?_
        obtain ⟨a17, ha18, h⟩ := h
        obtain ⟨hk19, h⟩ := h
        refine z_callVI (As := [.int (mI M12 257 h0)]) (rest := []) (ci := 0) hX (ct_X0_at h) mw_RX4_24 rfl (by decide) rfl (by rw [ha18]; rfl) (by unfold RoomC; decide) (by decide) dX4_scanRun_44 hk19 (fun r15 M16 h => ?_)
        refine z_iload_n hX dX4_scanRun_47 rfl 2 rfl ?_
        obtain ⟨h1, h2⟩ := h
        refine z_icmp_gt (tgt := 123) hX dX4_scanRun_48 (by decide) (fun hc => ?_) (fun hc => ?_)
        · have h := h1 hc
          refine z_loc [3] rfl ?_
          exact zb_X4_scanRun_123 hX hQ hnL h
        · have h := h2 hc
          refine z_aload_n (r := (some h0)) hX dX4_scanRun_51 rfl 0 rfl ?_
          refine z_iload_n hX dX4_scanRun_52 rfl 1 rfl ?_
          refine z_bipush (v := (48 : Int32)) hX dX4_scanRun_53 (by decide) ?_
          obtain ⟨h1, h2⟩ := h
          refine z_icmp_ne (tgt := 84) hX dX4_scanRun_55 (by decide) (fun hc => ?_) (fun hc => ?_)
          · have h := h1 hc
            refine z_aload_n (r := (some h0)) hX dX4_scanRun_84 rfl 0 rfl ?_
            obtain ⟨hk21, h⟩ := h
            refine gf_RX4_46 (r := (some h0)) hX dX4_scanRun_85 rfl hk21 ?_
            refine z_bipush (v := (8 : Int32)) hX dX4_scanRun_88 (by decide) ?_
            refine z_lshl hX dX4_scanRun_90 ?_
            refine z_aload_n (r := (some h0)) hX dX4_scanRun_91 rfl 0 rfl ?_
            refine gf_RX4_9 (r := (some h0)) hX dX4_scanRun_92 rfl hk21 ?_
            refine z_aload_n (r := (some h0)) hX dX4_scanRun_95 rfl 0 rfl ?_
            refine gf_RX4_15 (r := (some h0)) hX dX4_scanRun_96 rfl hk21 ?_
            obtain ⟨a24, ha25, h⟩ := h
            obtain ⟨hk26, h⟩ := h
            refine z_callVI (As := [.int (mI M16 257 h0)]) (rest := [.long ((mJ M16 260 h0) <<< (((8 : Int32)).toInt64 &&& 63)), va_rf (some h0)]) (ci := 0) hX (ct_X0_at h) mw_RX4_24 rfl (by decide) rfl (by rw [ha25]; rfl) (by unfold RoomC; decide) (by simp only [List.map_cons, List.map_nil, List.sum_cons, List.sum_nil, cat_rf, cat_i, cat_j]; decide) dX4_scanRun_99 hk26 (fun r22 M23 h => ?_)
            refine z_i2l hX dX4_scanRun_102 ?_
            refine z_lor hX dX4_scanRun_103 ?_
            exact zb_X4_scanRun_104 hX hQ hnL hR7 h
          · have h := h2 hc
            refine z_aload_n (r := (some h0)) hX dX4_scanRun_58 rfl 0 rfl ?_
            obtain ⟨hk28, h⟩ := h
            refine gf_RX4_46 (r := (some h0)) hX dX4_scanRun_59 rfl hk28 ?_
            refine z_ldc2 (v := (10 : Int64)) hX dX4_scanRun_62 kj_RX4_50 ?_
            refine z_lmul hX dX4_scanRun_65 ?_
            refine z_aload_n (r := (some h0)) hX dX4_scanRun_66 rfl 0 rfl ?_
            refine gf_RX4_9 (r := (some h0)) hX dX4_scanRun_67 rfl hk28 ?_
            refine z_aload_n (r := (some h0)) hX dX4_scanRun_70 rfl 0 rfl ?_
            refine gf_RX4_15 (r := (some h0)) hX dX4_scanRun_71 rfl hk28 ?_
            obtain ⟨a31, ha32, h⟩ := h
            obtain ⟨hk33, h⟩ := h
            refine z_callVI (As := [.int (mI M16 257 h0)]) (rest := [.long ((mJ M16 260 h0) * (10 : Int64)), va_rf (some h0)]) (ci := 0) hX (ct_X0_at h) mw_RX4_24 rfl (by decide) rfl (by rw [ha32]; rfl) (by unfold RoomC; decide) (by simp only [List.map_cons, List.map_nil, List.sum_cons, List.sum_nil, cat_rf, cat_i, cat_j]; decide) dX4_scanRun_74 hk33 (fun r29 M30 h => ?_)
            refine z_iload_n hX dX4_scanRun_77 rfl 1 rfl ?_
            refine z_isub hX dX4_scanRun_78 ?_
            refine z_i2l hX dX4_scanRun_79 ?_
            refine z_ladd hX dX4_scanRun_80 ?_
            refine z_goto (tgt := 104) hX dX4_scanRun_81 (by decide) ?_
            exact zb_X4_scanRun_104 hX hQ hnL hR7 h
def wp_X4_scanRun (M : Mm) (h0 : Nat) (p1 : Int32) (p2 : Int32) (K : Int32 → Mm → Prop) : Prop := mK M h0 = 5 ∧ (∃ kk, lp_X4_scanRun_7 h0 K kk p1 p2 (0 : Int32) (sJ M 260 h0 (0 : Int64)))
set_option maxRecDepth 100000 in
set_option maxHeartbeats 4000000 in
theorem ct_X4_scanRun {M : Mm} {h0 : Nat} {p1 : Int32} {p2 : Int32} {K : Int32 → Mm → Prop} (h : wp_X4_scanRun M h0 p1 p2 K) : CtI yX4_scanRun cX4_scanRun 4 (some .int) rm_X4_scanRun [.ref h0, .int p1, .int p2] M K := by
  refine ct_any (QI K) (by decide) (by exact Nat.le_of_ble_eq_true rfl) (fun X hX hQ hnL hnm => ?_)
  rw [show lv_args 0 [.ref h0, .int p1, .int p2] = [(0, va_rf (some h0)), (1, .int p1), (2, .int p2)] by rfl]
  have hX : Ok X cX4_scanRun RX4 rm_X4_scanRun := hX
  unfold wp_X4_scanRun at h
  refine z_aload_n (r := (some h0)) hX dX4_scanRun_0 rfl 0 rfl ?_
  refine z_lconst (v := (0 : Int64)) hX dX4_scanRun_1 (by decide) ?_
  obtain ⟨hk35, h⟩ := h
  refine pf_RX4_46 (r := (some h0)) (v := (0 : Int64)) hX dX4_scanRun_2 rfl hk35 ?_
  refine z_iconst (v := (0 : Int32)) hX dX4_scanRun_5 (by decide) ?_
  refine z_istore_n hX [(3, .int (0 : Int32)), (0, va_rf (some h0)), (1, .int p1), (2, .int p2)] dX4_scanRun_6 rfl (by rw [hnL]; decide) rfl ?_
  refine z_loc [1, 2, 3, 0] rfl ?_
  obtain ⟨n, h⟩ := h
  exact zl_X4_scanRun_7 hX hQ hnL n _ _ _ _ h
def rm_X4_isKeyword : Room := { frames := 0, cells := 0, slots := 0, locals := 0 }
def bk_X4_isKeyword_170 (h0 : Nat) (K : Int32 → Mm → Prop) (s0 : Int32) (M : Mm) : Prop := (bz s0 ∧ K s0 M)
set_option maxRecDepth 100000 in
set_option maxHeartbeats 4000000 in
theorem zb_X4_isKeyword_170 {X : Cx} {h0 : Nat} {K : Int32 → Mm → Prop} (hX : Ok X cX4_isKeyword RX4 rm_X4_isKeyword) (hQ : Rq X rm_X4_isKeyword (some .boolean) (QI K)) (hnL : X.2.2.2.2.2.2.2.2.2.2.2.2.2.2 = 1) {s0 : Int32} {M : Mm} (h : bk_X4_isKeyword_170 h0 K s0 M) : Z X M 0 0 170 [] [.int s0] := by
  unfold bk_X4_isKeyword_170 at h
  exact y_zret hX hQ dX4_isKeyword_170 h.1 h.2
def bk_X4_isKeyword_165 (h0 : Nat) (K : Int32 → Mm → Prop) (M : Mm) : Prop := (bk_X4_isKeyword_170 h0 K (1 : Int32) M)
set_option maxRecDepth 100000 in
set_option maxHeartbeats 4000000 in
theorem zb_X4_isKeyword_165 {X : Cx} {h0 : Nat} {K : Int32 → Mm → Prop} (hX : Ok X cX4_isKeyword RX4 rm_X4_isKeyword) (hQ : Rq X rm_X4_isKeyword (some .boolean) (QI K)) (hnL : X.2.2.2.2.2.2.2.2.2.2.2.2.2.2 = 1) {M : Mm} (h : bk_X4_isKeyword_165 h0 K M) : Z X M 0 0 165 [] [] := by
  unfold bk_X4_isKeyword_165 at h
  refine z_iconst (v := (1 : Int32)) hX dX4_isKeyword_165 (by decide) ?_
  refine z_goto (tgt := 170) hX dX4_isKeyword_166 (by decide) ?_
  exact zb_X4_isKeyword_170 hX hQ hnL h
def wp_X4_isKeyword (M : Mm) (h0 : Nat) (K : Int32 → Mm → Prop) : Prop := mK M h0 = 5 ∧ (((mJ M 260 h0) = (126922548994917 : Int64) → (bk_X4_isKeyword_165 h0 K M)) ∧ (¬ (mJ M 260 h0) = (126922548994917 : Int64) → (((mJ M 260 h0) = (7102823 : Int64) → (bk_X4_isKeyword_165 h0 K M)) ∧ (¬ (mJ M 260 h0) = (7102823 : Int64) → (((mJ M 260 h0) = (469786323827 : Int64) → (bk_X4_isKeyword_165 h0 K M)) ∧ (¬ (mJ M 260 h0) = (469786323827 : Int64) → (((mJ M 260 h0) = (418330731890 : Int64) → (bk_X4_isKeyword_165 h0 K M)) ∧ (¬ (mJ M 260 h0) = (418330731890 : Int64) → (((mJ M 260 h0) = (444301538672 : Int64) → (bk_X4_isKeyword_165 h0 K M)) ∧ (¬ (mJ M 260 h0) = (444301538672 : Int64) → (((mJ M 260 h0) = (504363577198 : Int64) → (bk_X4_isKeyword_165 h0 K M)) ∧ (¬ (mJ M 260 h0) = (504363577198 : Int64) → (((mJ M 260 h0) = (431198331257 : Int64) → (bk_X4_isKeyword_165 h0 K M)) ∧ (¬ (mJ M 260 h0) = (431198331257 : Int64) → (((mJ M 260 h0) = (1752132708 : Int64) → (bk_X4_isKeyword_165 h0 K M)) ∧ (¬ (mJ M 260 h0) = (1752132708 : Int64) → (((mJ M 260 h0) = (1785686382 : Int64) → (bk_X4_isKeyword_165 h0 K M)) ∧ (¬ (mJ M 260 h0) = (1785686382 : Int64) → (((mJ M 260 h0) = (1718775661 : Int64) → (bk_X4_isKeyword_165 h0 K M)) ∧ (¬ (mJ M 260 h0) = (1718775661 : Int64) → (((mJ M 260 h0) = (29807 : Int64) → (bk_X4_isKeyword_165 h0 K M)) ∧ (¬ (mJ M 260 h0) = (29807 : Int64) → (((mJ M 260 h0) = (131294707347319 : Int64) → (bk_X4_isKeyword_165 h0 K M)) ∧ (¬ (mJ M 260 h0) = (131294707347319 : Int64) → (((mJ M 260 h0) = (1936292453 : Int64) → (bk_X4_isKeyword_165 h0 K M)) ∧ (¬ (mJ M 260 h0) = (1936292453 : Int64) → (((mJ M 260 h0) = (1937007984 : Int64) → (bk_X4_isKeyword_165 h0 K M)) ∧ (¬ (mJ M 260 h0) = (1937007984 : Int64) → ((¬ (mJ M 260 h0) = (418430674798 : Int64) → (bk_X4_isKeyword_170 h0 K (0 : Int32) M)) ∧ ((mJ M 260 h0) = (418430674798 : Int64) → (bk_X4_isKeyword_165 h0 K M)))))))))))))))))))))))))))))))
set_option maxRecDepth 100000 in
set_option maxHeartbeats 4000000 in
theorem ct_X4_isKeyword {M : Mm} {h0 : Nat} {K : Int32 → Mm → Prop} (h : wp_X4_isKeyword M h0 K) : CtI yX4_isKeyword cX4_isKeyword 1 (some .boolean) rm_X4_isKeyword [.ref h0] M K := by
  refine ct_any (QI K) (by decide) (by exact Nat.le_of_ble_eq_true rfl) (fun X hX hQ hnL hnm => ?_)
  rw [show lv_args 0 [.ref h0] = [(0, va_rf (some h0))] by rfl]
  have hX : Ok X cX4_isKeyword RX4 rm_X4_isKeyword := hX
  unfold wp_X4_isKeyword at h
  refine z_aload_n (r := (some h0)) hX dX4_isKeyword_0 rfl 0 rfl ?_
  obtain ⟨hk1, h⟩ := h
  refine gf_RX4_46 (r := (some h0)) hX dX4_isKeyword_1 rfl hk1 ?_
  refine z_ldc2 (v := (126922548994917 : Int64)) hX dX4_isKeyword_4 kj_RX4_52 ?_
  refine z_lcmp hX dX4_isKeyword_7 ?_
  obtain ⟨h1, h2⟩ := h
  refine z_if_eq (tgt := 165) hX dX4_isKeyword_8 (by decide) (fun hc => ?_) (fun hc => ?_)
  · have h := h1 ((lg_cmp_eq _ _).mp hc)
    refine z_loc [] rfl ?_
    exact zb_X4_isKeyword_165 hX hQ hnL h
  · have h := h2 (fun q => hc ((lg_cmp_eq _ _).mpr q))
    refine z_aload_n (r := (some h0)) hX dX4_isKeyword_11 rfl 0 rfl ?_
    refine gf_RX4_46 (r := (some h0)) hX dX4_isKeyword_12 rfl hk1 ?_
    refine z_ldc2 (v := (7102823 : Int64)) hX dX4_isKeyword_15 kj_RX4_54 ?_
    refine z_lcmp hX dX4_isKeyword_18 ?_
    obtain ⟨h1, h2⟩ := h
    refine z_if_eq (tgt := 165) hX dX4_isKeyword_19 (by decide) (fun hc => ?_) (fun hc => ?_)
    · have h := h1 ((lg_cmp_eq _ _).mp hc)
      refine z_loc [] rfl ?_
      exact zb_X4_isKeyword_165 hX hQ hnL h
    · have h := h2 (fun q => hc ((lg_cmp_eq _ _).mpr q))
      refine z_aload_n (r := (some h0)) hX dX4_isKeyword_22 rfl 0 rfl ?_
      refine gf_RX4_46 (r := (some h0)) hX dX4_isKeyword_23 rfl hk1 ?_
      refine z_ldc2 (v := (469786323827 : Int64)) hX dX4_isKeyword_26 kj_RX4_56 ?_
      refine z_lcmp hX dX4_isKeyword_29 ?_
      obtain ⟨h1, h2⟩ := h
      refine z_if_eq (tgt := 165) hX dX4_isKeyword_30 (by decide) (fun hc => ?_) (fun hc => ?_)
      · have h := h1 ((lg_cmp_eq _ _).mp hc)
        refine z_loc [] rfl ?_
        exact zb_X4_isKeyword_165 hX hQ hnL h
      · have h := h2 (fun q => hc ((lg_cmp_eq _ _).mpr q))
        refine z_aload_n (r := (some h0)) hX dX4_isKeyword_33 rfl 0 rfl ?_
        refine gf_RX4_46 (r := (some h0)) hX dX4_isKeyword_34 rfl hk1 ?_
        refine z_ldc2 (v := (418330731890 : Int64)) hX dX4_isKeyword_37 kj_RX4_58 ?_
        refine z_lcmp hX dX4_isKeyword_40 ?_
        obtain ⟨h1, h2⟩ := h
        refine z_if_eq (tgt := 165) hX dX4_isKeyword_41 (by decide) (fun hc => ?_) (fun hc => ?_)
        · have h := h1 ((lg_cmp_eq _ _).mp hc)
          refine z_loc [] rfl ?_
          exact zb_X4_isKeyword_165 hX hQ hnL h
        · have h := h2 (fun q => hc ((lg_cmp_eq _ _).mpr q))
          refine z_aload_n (r := (some h0)) hX dX4_isKeyword_44 rfl 0 rfl ?_
          refine gf_RX4_46 (r := (some h0)) hX dX4_isKeyword_45 rfl hk1 ?_
          refine z_ldc2 (v := (444301538672 : Int64)) hX dX4_isKeyword_48 kj_RX4_60 ?_
          refine z_lcmp hX dX4_isKeyword_51 ?_
          obtain ⟨h1, h2⟩ := h
          refine z_if_eq (tgt := 165) hX dX4_isKeyword_52 (by decide) (fun hc => ?_) (fun hc => ?_)
          · have h := h1 ((lg_cmp_eq _ _).mp hc)
            refine z_loc [] rfl ?_
            exact zb_X4_isKeyword_165 hX hQ hnL h
          · have h := h2 (fun q => hc ((lg_cmp_eq _ _).mpr q))
            refine z_aload_n (r := (some h0)) hX dX4_isKeyword_55 rfl 0 rfl ?_
            refine gf_RX4_46 (r := (some h0)) hX dX4_isKeyword_56 rfl hk1 ?_
            refine z_ldc2 (v := (504363577198 : Int64)) hX dX4_isKeyword_59 kj_RX4_62 ?_
            refine z_lcmp hX dX4_isKeyword_62 ?_
            obtain ⟨h1, h2⟩ := h
            refine z_if_eq (tgt := 165) hX dX4_isKeyword_63 (by decide) (fun hc => ?_) (fun hc => ?_)
            · have h := h1 ((lg_cmp_eq _ _).mp hc)
              refine z_loc [] rfl ?_
              exact zb_X4_isKeyword_165 hX hQ hnL h
            · have h := h2 (fun q => hc ((lg_cmp_eq _ _).mpr q))
              refine z_aload_n (r := (some h0)) hX dX4_isKeyword_66 rfl 0 rfl ?_
              refine gf_RX4_46 (r := (some h0)) hX dX4_isKeyword_67 rfl hk1 ?_
              refine z_ldc2 (v := (431198331257 : Int64)) hX dX4_isKeyword_70 kj_RX4_64 ?_
              refine z_lcmp hX dX4_isKeyword_73 ?_
              obtain ⟨h1, h2⟩ := h
              refine z_if_eq (tgt := 165) hX dX4_isKeyword_74 (by decide) (fun hc => ?_) (fun hc => ?_)
              · have h := h1 ((lg_cmp_eq _ _).mp hc)
                refine z_loc [] rfl ?_
                exact zb_X4_isKeyword_165 hX hQ hnL h
              · have h := h2 (fun q => hc ((lg_cmp_eq _ _).mpr q))
                refine z_aload_n (r := (some h0)) hX dX4_isKeyword_77 rfl 0 rfl ?_
                refine gf_RX4_46 (r := (some h0)) hX dX4_isKeyword_78 rfl hk1 ?_
                refine z_ldc2 (v := (1752132708 : Int64)) hX dX4_isKeyword_81 kj_RX4_66 ?_
                refine z_lcmp hX dX4_isKeyword_84 ?_
                obtain ⟨h1, h2⟩ := h
                refine z_if_eq (tgt := 165) hX dX4_isKeyword_85 (by decide) (fun hc => ?_) (fun hc => ?_)
                · have h := h1 ((lg_cmp_eq _ _).mp hc)
                  refine z_loc [] rfl ?_
                  exact zb_X4_isKeyword_165 hX hQ hnL h
                · have h := h2 (fun q => hc ((lg_cmp_eq _ _).mpr q))
                  refine z_aload_n (r := (some h0)) hX dX4_isKeyword_88 rfl 0 rfl ?_
                  refine gf_RX4_46 (r := (some h0)) hX dX4_isKeyword_89 rfl hk1 ?_
                  refine z_ldc2 (v := (1785686382 : Int64)) hX dX4_isKeyword_92 kj_RX4_68 ?_
                  refine z_lcmp hX dX4_isKeyword_95 ?_
                  obtain ⟨h1, h2⟩ := h
                  refine z_if_eq (tgt := 165) hX dX4_isKeyword_96 (by decide) (fun hc => ?_) (fun hc => ?_)
                  · have h := h1 ((lg_cmp_eq _ _).mp hc)
                    refine z_loc [] rfl ?_
                    exact zb_X4_isKeyword_165 hX hQ hnL h
                  · have h := h2 (fun q => hc ((lg_cmp_eq _ _).mpr q))
                    refine z_aload_n (r := (some h0)) hX dX4_isKeyword_99 rfl 0 rfl ?_
                    refine gf_RX4_46 (r := (some h0)) hX dX4_isKeyword_100 rfl hk1 ?_
                    refine z_ldc2 (v := (1718775661 : Int64)) hX dX4_isKeyword_103 kj_RX4_70 ?_
                    refine z_lcmp hX dX4_isKeyword_106 ?_
                    obtain ⟨h1, h2⟩ := h
                    refine z_if_eq (tgt := 165) hX dX4_isKeyword_107 (by decide) (fun hc => ?_) (fun hc => ?_)
                    · have h := h1 ((lg_cmp_eq _ _).mp hc)
                      refine z_loc [] rfl ?_
                      exact zb_X4_isKeyword_165 hX hQ hnL h
                    · have h := h2 (fun q => hc ((lg_cmp_eq _ _).mpr q))
                      refine z_aload_n (r := (some h0)) hX dX4_isKeyword_110 rfl 0 rfl ?_
                      refine gf_RX4_46 (r := (some h0)) hX dX4_isKeyword_111 rfl hk1 ?_
                      refine z_ldc2 (v := (29807 : Int64)) hX dX4_isKeyword_114 kj_RX4_72 ?_
                      refine z_lcmp hX dX4_isKeyword_117 ?_
                      obtain ⟨h1, h2⟩ := h
                      refine z_if_eq (tgt := 165) hX dX4_isKeyword_118 (by decide) (fun hc => ?_) (fun hc => ?_)
                      · have h := h1 ((lg_cmp_eq _ _).mp hc)
                        refine z_loc [] rfl ?_
                        exact zb_X4_isKeyword_165 hX hQ hnL h
                      · have h := h2 (fun q => hc ((lg_cmp_eq _ _).mpr q))
                        refine z_aload_n (r := (some h0)) hX dX4_isKeyword_121 rfl 0 rfl ?_
                        refine gf_RX4_46 (r := (some h0)) hX dX4_isKeyword_122 rfl hk1 ?_
                        refine z_ldc2 (v := (131294707347319 : Int64)) hX dX4_isKeyword_125 kj_RX4_74 ?_
                        refine z_lcmp hX dX4_isKeyword_128 ?_
                        obtain ⟨h1, h2⟩ := h
                        refine z_if_eq (tgt := 165) hX dX4_isKeyword_129 (by decide) (fun hc => ?_) (fun hc => ?_)
                        · have h := h1 ((lg_cmp_eq _ _).mp hc)
                          refine z_loc [] rfl ?_
                          exact zb_X4_isKeyword_165 hX hQ hnL h
                        · have h := h2 (fun q => hc ((lg_cmp_eq _ _).mpr q))
                          refine z_aload_n (r := (some h0)) hX dX4_isKeyword_132 rfl 0 rfl ?_
                          refine gf_RX4_46 (r := (some h0)) hX dX4_isKeyword_133 rfl hk1 ?_
                          refine z_ldc2 (v := (1936292453 : Int64)) hX dX4_isKeyword_136 kj_RX4_76 ?_
                          refine z_lcmp hX dX4_isKeyword_139 ?_
                          obtain ⟨h1, h2⟩ := h
                          refine z_if_eq (tgt := 165) hX dX4_isKeyword_140 (by decide) (fun hc => ?_) (fun hc => ?_)
                          · have h := h1 ((lg_cmp_eq _ _).mp hc)
                            refine z_loc [] rfl ?_
                            exact zb_X4_isKeyword_165 hX hQ hnL h
                          · have h := h2 (fun q => hc ((lg_cmp_eq _ _).mpr q))
                            refine z_aload_n (r := (some h0)) hX dX4_isKeyword_143 rfl 0 rfl ?_
                            refine gf_RX4_46 (r := (some h0)) hX dX4_isKeyword_144 rfl hk1 ?_
                            refine z_ldc2 (v := (1937007984 : Int64)) hX dX4_isKeyword_147 kj_RX4_78 ?_
                            refine z_lcmp hX dX4_isKeyword_150 ?_
                            obtain ⟨h1, h2⟩ := h
                            refine z_if_eq (tgt := 165) hX dX4_isKeyword_151 (by decide) (fun hc => ?_) (fun hc => ?_)
                            · have h := h1 ((lg_cmp_eq _ _).mp hc)
                              refine z_loc [] rfl ?_
                              exact zb_X4_isKeyword_165 hX hQ hnL h
                            · have h := h2 (fun q => hc ((lg_cmp_eq _ _).mpr q))
                              refine z_aload_n (r := (some h0)) hX dX4_isKeyword_154 rfl 0 rfl ?_
                              refine gf_RX4_46 (r := (some h0)) hX dX4_isKeyword_155 rfl hk1 ?_
                              refine z_ldc2 (v := (418430674798 : Int64)) hX dX4_isKeyword_158 kj_RX4_80 ?_
                              refine z_lcmp hX dX4_isKeyword_161 ?_
                              obtain ⟨h1, h2⟩ := h
                              refine z_if_ne (tgt := 169) hX dX4_isKeyword_162 (by decide) (fun hc => ?_) (fun hc => ?_)
                              · have h := h1 (fun q => hc ((lg_cmp_eq _ _).mpr q))
                                refine z_iconst (v := (0 : Int32)) hX dX4_isKeyword_169 (by decide) ?_
                                refine z_loc [] rfl ?_
                                exact zb_X4_isKeyword_170 hX hQ hnL h
                              · have h := h2 ((lg_cmp_eq _ _).mp hc)
                                refine z_loc [] rfl ?_
                                exact zb_X4_isKeyword_165 hX hQ hnL h
def rm_X4_isBlank : Room := { frames := 0, cells := 0, slots := 0, locals := 0 }
def bk_X4_isBlank_29 (K : Int32 → Mm → Prop) (s0 : Int32) (M : Mm) : Prop := (bz s0 ∧ K s0 M)
set_option maxRecDepth 100000 in
set_option maxHeartbeats 4000000 in
theorem zb_X4_isBlank_29 {X : Cx} {K : Int32 → Mm → Prop} (hX : Ok X cX4_isBlank RX4 rm_X4_isBlank) (hQ : Rq X rm_X4_isBlank (some .boolean) (QI K)) (hnL : X.2.2.2.2.2.2.2.2.2.2.2.2.2.2 = 1) {s0 : Int32} {M : Mm} (h : bk_X4_isBlank_29 K s0 M) : Z X M 0 0 29 [] [.int s0] := by
  unfold bk_X4_isBlank_29 at h
  exact y_zret hX hQ dX4_isBlank_29 h.1 h.2
def bk_X4_isBlank_24 (K : Int32 → Mm → Prop) (M : Mm) : Prop := (bk_X4_isBlank_29 K (1 : Int32) M)
set_option maxRecDepth 100000 in
set_option maxHeartbeats 4000000 in
theorem zb_X4_isBlank_24 {X : Cx} {K : Int32 → Mm → Prop} (hX : Ok X cX4_isBlank RX4 rm_X4_isBlank) (hQ : Rq X rm_X4_isBlank (some .boolean) (QI K)) (hnL : X.2.2.2.2.2.2.2.2.2.2.2.2.2.2 = 1) {M : Mm} (h : bk_X4_isBlank_24 K M) : Z X M 0 0 24 [] [] := by
  unfold bk_X4_isBlank_24 at h
  refine z_iconst (v := (1 : Int32)) hX dX4_isBlank_24 (by decide) ?_
  refine z_goto (tgt := 29) hX dX4_isBlank_25 (by decide) ?_
  exact zb_X4_isBlank_29 hX hQ hnL h
def wp_X4_isBlank (M : Mm) (p1 : Int32) (K : Int32 → Mm → Prop) : Prop := ((p1 = (9 : Int32) → (bk_X4_isBlank_24 K M)) ∧ (¬ p1 = (9 : Int32) → ((p1 = (10 : Int32) → (bk_X4_isBlank_24 K M)) ∧ (¬ p1 = (10 : Int32) → ((p1 = (13 : Int32) → (bk_X4_isBlank_24 K M)) ∧ (¬ p1 = (13 : Int32) → ((¬ p1 = (32 : Int32) → (bk_X4_isBlank_29 K (0 : Int32) M)) ∧ (p1 = (32 : Int32) → (bk_X4_isBlank_24 K M)))))))))
set_option maxRecDepth 100000 in
set_option maxHeartbeats 4000000 in
theorem ct_X4_isBlank {M : Mm} {p1 : Int32} {K : Int32 → Mm → Prop} (h : wp_X4_isBlank M p1 K) : CtI yX4_isBlank cX4_isBlank 1 (some .boolean) rm_X4_isBlank [.int p1] M K := by
  refine ct_any (QI K) (by decide) (by exact Nat.le_of_ble_eq_true rfl) (fun X hX hQ hnL hnm => ?_)
  rw [show lv_args 0 [.int p1] = [(0, .int p1)] by rfl]
  have hX : Ok X cX4_isBlank RX4 rm_X4_isBlank := hX
  unfold wp_X4_isBlank at h
  refine z_iload_n hX dX4_isBlank_0 rfl 0 rfl ?_
  refine z_bipush (v := (9 : Int32)) hX dX4_isBlank_1 (by decide) ?_
  obtain ⟨h1, h2⟩ := h
  refine z_icmp_eq (tgt := 24) hX dX4_isBlank_3 (by decide) (fun hc => ?_) (fun hc => ?_)
  · have h := h1 hc
    refine z_loc [] rfl ?_
    exact zb_X4_isBlank_24 hX hQ hnL h
  · have h := h2 hc
    refine z_iload_n hX dX4_isBlank_6 rfl 0 rfl ?_
    refine z_bipush (v := (10 : Int32)) hX dX4_isBlank_7 (by decide) ?_
    obtain ⟨h1, h2⟩ := h
    refine z_icmp_eq (tgt := 24) hX dX4_isBlank_9 (by decide) (fun hc => ?_) (fun hc => ?_)
    · have h := h1 hc
      refine z_loc [] rfl ?_
      exact zb_X4_isBlank_24 hX hQ hnL h
    · have h := h2 hc
      refine z_iload_n hX dX4_isBlank_12 rfl 0 rfl ?_
      refine z_bipush (v := (13 : Int32)) hX dX4_isBlank_13 (by decide) ?_
      obtain ⟨h1, h2⟩ := h
      refine z_icmp_eq (tgt := 24) hX dX4_isBlank_15 (by decide) (fun hc => ?_) (fun hc => ?_)
      · have h := h1 hc
        refine z_loc [] rfl ?_
        exact zb_X4_isBlank_24 hX hQ hnL h
      · have h := h2 hc
        refine z_iload_n hX dX4_isBlank_18 rfl 0 rfl ?_
        refine z_bipush (v := (32 : Int32)) hX dX4_isBlank_19 (by decide) ?_
        obtain ⟨h1, h2⟩ := h
        refine z_icmp_ne (tgt := 28) hX dX4_isBlank_21 (by decide) (fun hc => ?_) (fun hc => ?_)
        · have h := h1 hc
          refine z_iconst (v := (0 : Int32)) hX dX4_isBlank_28 (by decide) ?_
          refine z_loc [] rfl ?_
          exact zb_X4_isBlank_29 hX hQ hnL h
        · have h := h2 hc
          refine z_loc [] rfl ?_
          exact zb_X4_isBlank_24 hX hQ hnL h
def rm_X5_init : Room := { frames := 1, cells := 4, slots := 16, locals := 20 }
def lp_X5_init_57 (h0 : Nat) (K : Mm → Prop) : Nat → Int32 → Mm → Prop
  | 0, _, _ => False
  | n + 1, l6, M => (((4 : Int32) ≤ l6 → (K M)) ∧ (¬ (4 : Int32) ≤ l6 → mK M h0 = 6 ∧ ∃ a2, (mR M 325 h0) = some a2 ∧ isA M a2 2 ∧ vp_in l6 (aN M a2) ∧ ((lp_X5_init_57 h0 K n) (l6 + 1) (tJ M a2 (l6).toNatClampNeg (-9000000000000000000 : Int64)))))
set_option maxRecDepth 100000 in
set_option maxHeartbeats 4000000 in
theorem zl_X5_init_57 {X : Cx} {h0 : Nat} {K : Mm → Prop} (hX : Ok X cX5_init RX5 rm_X5_init) (hQ : Rq X rm_X5_init none (QV K)) (hnL : X.2.2.2.2.2.2.2.2.2.2.2.2.2.2 = 7) (hnm : X.2.2.2.2.2.2.2.2.1.name = "<init>") : ∀ (n : Nat) (l6 : Int32) (M : Mm), lp_X5_init_57 h0 K n l6 M → Z X M 4 16 57 [(0, va_rf (some h0)), (6, .int l6)] [] := by
  intro n
  induction n with
  | zero =>
    intro l6 M h
    exact False.elim h
  | succ n hR57 =>
    intro l6 M h
    refine z_iload hX dX5_init_57 1 rfl ?_
    refine z_iconst (v := (4 : Int32)) hX dX5_init_59 (by decide) ?_
    obtain ⟨h1, h2⟩ := h
    refine z_icmp_ge (tgt := 79) hX dX5_init_60 (by decide) (fun hc => ?_) (fun hc => ?_)
    · have h := h1 hc
      refine z_widen 4 16 (by decide) (by decide) ?_
      exact z_vret hX hQ dX5_init_79 h
    · have h := h2 hc
      refine z_aload_n (r := (some h0)) hX dX5_init_63 rfl 0 rfl ?_
      obtain ⟨hk1, h⟩ := h
      refine gf_RX5_29 (r := (some h0)) hX dX5_init_64 rfl hk1 ?_
      refine z_iload hX dX5_init_67 1 rfl ?_
      refine z_ldc2 (v := (-9000000000000000000 : Int64)) hX dX5_init_69 kj_RX5_40 ?_
      obtain ⟨a2, ha3, h⟩ := h
      obtain ⟨hk4, h⟩ := h
      obtain ⟨hc5, h⟩ := h
      refine y_last (r := (mR M 325 h0)) hX dX5_init_72 ha3 hk4 hc5 ?_
      refine z_iinc (v := (l6 + 1)) hX [(6, .int (l6 + 1)), (0, va_rf (some h0))] dX5_init_73 1 rfl rfl (by rw [hnL]; decide) rfl ?_
      refine z_goto (tgt := 57) hX dX5_init_76 (by decide) ?_
      refine z_loc [1, 0] rfl ?_
      refine z_widen 4 16 (by decide) (by decide) ?_
      exact hR57 _ _ h
def wp_X5_init (M : Mm) (h0 : Nat) (p1 : Int32) (p2 : Int64) (p3 : Int32) (p4 : Int32) (K : Mm → Prop) : Prop := mK M h0 = 6 ∧ (∀ q11, mK (sI (sI (sJ (sI M 320 h0 p1) 321 h0 p2) 322 h0 p3) 323 h0 p4) q11 = 0 → mK (na (sI (sI (sJ (sI M 320 h0 p1) 321 h0 p2) 322 h0 p3) 323 h0 p4) q11 33 4) h0 = 6 ∧ (∀ q16, mK (sR (na (sI (sI (sJ (sI M 320 h0 p1) 321 h0 p2) 322 h0 p3) 323 h0 p4) q11 33 4) 324 h0 (some q11)) q16 = 0 → mK (na (sR (na (sI (sI (sJ (sI M 320 h0 p1) 321 h0 p2) 322 h0 p3) 323 h0 p4) q11 33 4) 324 h0 (some q11)) q16 42 4) h0 = 6 ∧ (∀ q21, mK (sR (na (sR (na (sI (sI (sJ (sI M 320 h0 p1) 321 h0 p2) 322 h0 p3) 323 h0 p4) q11 33 4) 324 h0 (some q11)) q16 42 4) 325 h0 (some q16)) q21 = 0 → mK (na (sR (na (sR (na (sI (sI (sJ (sI M 320 h0 p1) 321 h0 p2) 322 h0 p3) 323 h0 p4) q11 33 4) 324 h0 (some q11)) q16 42 4) 325 h0 (some q16)) q21 49 4) h0 = 6 ∧ (∀ q26, mK (sR (na (sR (na (sR (na (sI (sI (sJ (sI M 320 h0 p1) 321 h0 p2) 322 h0 p3) 323 h0 p4) q11 33 4) 324 h0 (some q11)) q16 42 4) 325 h0 (some q16)) q21 49 4) 326 h0 (some q21)) q26 = 0 → mK (na (sR (na (sR (na (sR (na (sI (sI (sJ (sI M 320 h0 p1) 321 h0 p2) 322 h0 p3) 323 h0 p4) q11 33 4) 324 h0 (some q11)) q16 42 4) 325 h0 (some q16)) q21 49 4) 326 h0 (some q21)) q26 59 4) h0 = 6 ∧ (∃ kk, lp_X5_init_57 h0 K kk (0 : Int32) (sR (na (sR (na (sR (na (sR (na (sI (sI (sJ (sI M 320 h0 p1) 321 h0 p2) 322 h0 p3) 323 h0 p4) q11 33 4) 324 h0 (some q11)) q16 42 4) 325 h0 (some q16)) q21 49 4) 326 h0 (some q21)) q26 59 4) 327 h0 (some q26)))))))
set_option maxRecDepth 100000 in
set_option maxHeartbeats 4000000 in
theorem ct_X5_init {M : Mm} {h0 : Nat} {p1 : Int32} {p2 : Int64} {p3 : Int32} {p4 : Int32} {K : Mm → Prop} (h : wp_X5_init M h0 p1 p2 p3 p4 K) : CtV yX5_init cX5_init 7 none rm_X5_init [.ref h0, .int p1, .long p2, .int p3, .int p4] M K := by
  refine ct_any (QV K) (by decide) (by exact Nat.le_of_ble_eq_true rfl) (fun X hX hQ hnL hnm => ?_)
  rw [show lv_args 0 [.ref h0, .int p1, .long p2, .int p3, .int p4] = [(0, va_rf (some h0)), (1, .int p1), (2, .long p2), (4, .int p3), (5, .int p4)] by rfl]
  have hX : Ok X cX5_init RX5 rm_X5_init := hX
  unfold wp_X5_init at h
  refine z_aload_n (r := (some h0)) hX dX5_init_0 rfl 0 rfl ?_
  refine mw_RX5_3 (a := h0) hX dX5_init_1 (by decide) (by decide) ?_
  refine z_aload_n (r := (some h0)) hX dX5_init_4 rfl 0 rfl ?_
  refine z_iload_n hX dX5_init_5 rfl 1 rfl ?_
  obtain ⟨hk6, h⟩ := h
  refine pf_RX5_9 (r := (some h0)) (v := p1) hX hnm dX5_init_6 rfl hk6 ?_
  refine z_aload_n (r := (some h0)) hX dX5_init_9 rfl 0 rfl ?_
  refine z_lload_n hX dX5_init_10 rfl 2 rfl ?_
  refine pf_RX5_15 (r := (some h0)) (v := p2) hX hnm dX5_init_11 rfl hk6 ?_
  refine z_aload_n (r := (some h0)) hX dX5_init_14 rfl 0 rfl ?_
  refine z_iload hX dX5_init_15 3 rfl ?_
  refine pf_RX5_19 (r := (some h0)) (v := p3) hX hnm dX5_init_17 rfl hk6 ?_
  refine z_aload_n (r := (some h0)) hX dX5_init_20 rfl 0 rfl ?_
  refine z_iload hX dX5_init_21 4 rfl ?_
  refine pf_RX5_22 (r := (some h0)) (v := p4) hX hnm dX5_init_23 rfl hk6 ?_
  refine z_aload_n (r := (some h0)) hX dX5_init_26 rfl 0 rfl ?_
  refine z_iconst (v := (4 : Int32)) hX dX5_init_27 (by decide) ?_
  refine y_newa_int (n := 4) hX 33 (by decide) (by decide) (by decide) (by decide) (by decide) dX5_init_28 (by decide) (by decide) (fun q11 hq12 => ?_)
  have h := h q11 hq12
  obtain ⟨hk14, h⟩ := h
  refine pf_RX5_25 (r := (some h0)) (v := (some q11)) hX hnm dX5_init_30 rfl hk14 ?_
  refine z_aload_n (r := (some h0)) hX dX5_init_33 rfl 0 rfl ?_
  refine z_iconst (v := (4 : Int32)) hX dX5_init_34 (by decide) ?_
  refine y_newa_long (n := 4) hX 42 (by decide) (by decide) (by decide) (by decide) (by decide) dX5_init_35 (by decide) (by decide) (fun q16 hq17 => ?_)
  have h := h q16 hq17
  obtain ⟨hk19, h⟩ := h
  refine pf_RX5_29 (r := (some h0)) (v := (some q16)) hX hnm dX5_init_37 rfl hk19 ?_
  refine z_aload_n (r := (some h0)) hX dX5_init_40 rfl 0 rfl ?_
  refine z_iconst (v := (4 : Int32)) hX dX5_init_41 (by decide) ?_
  refine y_newa_int (n := 4) hX 49 (by decide) (by decide) (by decide) (by decide) (by decide) dX5_init_42 (by decide) (by decide) (fun q21 hq22 => ?_)
  have h := h q21 hq22
  obtain ⟨hk24, h⟩ := h
  refine pf_RX5_33 (r := (some h0)) (v := (some q21)) hX hnm dX5_init_44 rfl hk24 ?_
  refine z_aload_n (r := (some h0)) hX dX5_init_47 rfl 0 rfl ?_
  refine z_iconst (v := (4 : Int32)) hX dX5_init_48 (by decide) ?_
  refine y_newa_boolean (n := 4) hX 59 (by decide) (by decide) (by decide) (by decide) (by decide) dX5_init_49 (by decide) (by decide) (fun q26 hq27 => ?_)
  have h := h q26 hq27
  obtain ⟨hk29, h⟩ := h
  refine pf_RX5_36 (r := (some h0)) (v := (some q26)) hX hnm dX5_init_51 rfl hk29 ?_
  refine z_iconst (v := (0 : Int32)) hX dX5_init_54 (by decide) ?_
  refine z_istore hX [(6, .int (0 : Int32)), (0, va_rf (some h0)), (1, .int p1), (2, .long p2), (4, .int p3), (5, .int p4)] dX5_init_55 (by rw [hnL]; decide) rfl ?_
  refine z_loc [1, 0] rfl ?_
  refine z_widen 4 16 (by decide) (by decide) ?_
  obtain ⟨n, h⟩ := h
  exact zl_X5_init_57 hX hQ hnL hnm n _ _ h
def rm_X5_hear : Room := { frames := 0, cells := 0, slots := 0, locals := 0 }
def wp_X5_hear (M : Mm) (h0 : Nat) (p1 : Int32) (p2 : Int32) (K : Mm → Prop) : Prop := mK M h0 = 6 ∧ ∃ a2, (mR M 324 h0) = some a2 ∧ isA M a2 1 ∧ vp_in p1 (aN M a2) ∧ ∃ a6, (mR (tI M a2 (p1).toNatClampNeg (0 : Int32)) 326 h0) = some a6 ∧ isA (tI M a2 (p1).toNatClampNeg (0 : Int32)) a6 1 ∧ vp_in p1 (aN (tI M a2 (p1).toNatClampNeg (0 : Int32)) a6) ∧ (K (tI (tI M a2 (p1).toNatClampNeg (0 : Int32)) a6 (p1).toNatClampNeg p2))
set_option maxRecDepth 100000 in
set_option maxHeartbeats 4000000 in
theorem ct_X5_hear {M : Mm} {h0 : Nat} {p1 : Int32} {p2 : Int32} {K : Mm → Prop} (h : wp_X5_hear M h0 p1 p2 K) : CtV yX5_hear cX5_hear 3 none rm_X5_hear [.ref h0, .int p1, .int p2] M K := by
  refine ct_any (QV K) (by decide) (by exact Nat.le_of_ble_eq_true rfl) (fun X hX hQ hnL hnm => ?_)
  rw [show lv_args 0 [.ref h0, .int p1, .int p2] = [(0, va_rf (some h0)), (1, .int p1), (2, .int p2)] by rfl]
  have hX : Ok X cX5_hear RX5 rm_X5_hear := hX
  unfold wp_X5_hear at h
  refine z_aload_n (r := (some h0)) hX dX5_hear_0 rfl 0 rfl ?_
  obtain ⟨hk1, h⟩ := h
  refine gf_RX5_25 (r := (some h0)) hX dX5_hear_1 rfl hk1 ?_
  refine z_iload_n hX dX5_hear_4 rfl 1 rfl ?_
  refine z_iconst (v := (0 : Int32)) hX dX5_hear_5 (by decide) ?_
  obtain ⟨a2, ha3, h⟩ := h
  obtain ⟨hk4, h⟩ := h
  obtain ⟨hc5, h⟩ := h
  refine y_iast (r := (mR M 324 h0)) hX dX5_hear_6 ha3 hk4 hc5 ?_
  refine z_aload_n (r := (some h0)) hX dX5_hear_7 rfl 0 rfl ?_
  refine gf_RX5_33 (r := (some h0)) hX dX5_hear_8 rfl hk1 ?_
  refine z_iload_n hX dX5_hear_11 rfl 1 rfl ?_
  refine z_iload_n hX dX5_hear_12 rfl 2 rfl ?_
  obtain ⟨a6, ha7, h⟩ := h
  obtain ⟨hk8, h⟩ := h
  obtain ⟨hc9, h⟩ := h
  refine y_iast (r := (mR (tI M a2 (p1).toNatClampNeg (0 : Int32)) 326 h0)) hX dX5_hear_13 ha7 hk8 hc9 ?_
  exact z_vret hX hQ dX5_hear_14 h
def rm_X5_raise : Room := { frames := 0, cells := 0, slots := 0, locals := 0 }
def wp_X5_raise (M : Mm) (h0 : Nat) (p1 : Int32) (p2 : Int64) (K : Int32 → Mm → Prop) : Prop := mK M h0 = 6 ∧ ∃ a2, (mR M 325 h0) = some a2 ∧ isA M a2 2 ∧ vp_in p1 (aN M a2) ∧ (((aJ M a2 (p1).toNatClampNeg) < p2 → vp_in p1 (aN M a2) ∧ (K (1 : Int32) (tJ M a2 (p1).toNatClampNeg p2))) ∧ (¬ (aJ M a2 (p1).toNatClampNeg) < p2 → (K (0 : Int32) M)))
set_option maxRecDepth 100000 in
set_option maxHeartbeats 4000000 in
theorem ct_X5_raise {M : Mm} {h0 : Nat} {p1 : Int32} {p2 : Int64} {K : Int32 → Mm → Prop} (h : wp_X5_raise M h0 p1 p2 K) : CtI yX5_raise cX5_raise 4 (some .boolean) rm_X5_raise [.ref h0, .int p1, .long p2] M K := by
  refine ct_any (QI K) (by decide) (by exact Nat.le_of_ble_eq_true rfl) (fun X hX hQ hnL hnm => ?_)
  rw [show lv_args 0 [.ref h0, .int p1, .long p2] = [(0, va_rf (some h0)), (1, .int p1), (2, .long p2)] by rfl]
  have hX : Ok X cX5_raise RX5 rm_X5_raise := hX
  unfold wp_X5_raise at h
  refine z_lload_n hX dX5_raise_0 rfl 2 rfl ?_
  refine z_aload_n (r := (some h0)) hX dX5_raise_1 rfl 0 rfl ?_
  obtain ⟨hk1, h⟩ := h
  refine gf_RX5_29 (r := (some h0)) hX dX5_raise_2 rfl hk1 ?_
  refine z_iload_n hX dX5_raise_5 rfl 1 rfl ?_
  obtain ⟨a2, ha3, h⟩ := h
  obtain ⟨hk4, h⟩ := h
  obtain ⟨hc5, h⟩ := h
  refine y_lald (r := (mR M 325 h0)) hX dX5_raise_6 ha3 hk4 hc5 ?_
  refine z_lcmp hX dX5_raise_7 ?_
  obtain ⟨h1, h2⟩ := h
  refine z_if_gt (tgt := 13) hX dX5_raise_8 (by decide) (fun hc => ?_) (fun hc => ?_)
  · have h := h1 ((lg_cmp_gt _ _).mp hc)
    refine z_aload_n (r := (some h0)) hX dX5_raise_13 rfl 0 rfl ?_
    refine gf_RX5_29 (r := (some h0)) hX dX5_raise_14 rfl hk1 ?_
    refine z_iload_n hX dX5_raise_17 rfl 1 rfl ?_
    refine z_lload_n hX dX5_raise_18 rfl 2 rfl ?_
    obtain ⟨hc6, h⟩ := h
    refine y_last (r := (mR M 325 h0)) hX dX5_raise_19 ha3 hk4 hc6 ?_
    refine z_iconst (v := (1 : Int32)) hX dX5_raise_20 (by decide) ?_
    exact y_zret hX hQ dX5_raise_21 (Or.inr rfl) h
  · have h := h2 (fun q => hc ((lg_cmp_gt _ _).mpr q))
    refine z_iconst (v := (0 : Int32)) hX dX5_raise_11 (by decide) ?_
    exact y_zret hX hQ dX5_raise_12 (Or.inl rfl) h
def rm_X5_finish : Room := { frames := 0, cells := 0, slots := 0, locals := 0 }
def wp_X5_finish (M : Mm) (h0 : Nat) (p1 : Int32) (K : Mm → Prop) : Prop := mK M h0 = 6 ∧ ∃ a2, (mR M 324 h0) = some a2 ∧ isA M a2 1 ∧ vp_in p1 (aN M a2) ∧ ∃ a6, (mR (tI M a2 (p1).toNatClampNeg (2 : Int32)) 325 h0) = some a6 ∧ isA (tI M a2 (p1).toNatClampNeg (2 : Int32)) a6 2 ∧ vp_in p1 (aN (tI M a2 (p1).toNatClampNeg (2 : Int32)) a6) ∧ (K (tJ (tI M a2 (p1).toNatClampNeg (2 : Int32)) a6 (p1).toNatClampNeg (9000000000000000000 : Int64)))
set_option maxRecDepth 100000 in
set_option maxHeartbeats 4000000 in
theorem ct_X5_finish {M : Mm} {h0 : Nat} {p1 : Int32} {K : Mm → Prop} (h : wp_X5_finish M h0 p1 K) : CtV yX5_finish cX5_finish 2 none rm_X5_finish [.ref h0, .int p1] M K := by
  refine ct_any (QV K) (by decide) (by exact Nat.le_of_ble_eq_true rfl) (fun X hX hQ hnL hnm => ?_)
  rw [show lv_args 0 [.ref h0, .int p1] = [(0, va_rf (some h0)), (1, .int p1)] by rfl]
  have hX : Ok X cX5_finish RX5 rm_X5_finish := hX
  unfold wp_X5_finish at h
  refine z_aload_n (r := (some h0)) hX dX5_finish_0 rfl 0 rfl ?_
  obtain ⟨hk1, h⟩ := h
  refine gf_RX5_25 (r := (some h0)) hX dX5_finish_1 rfl hk1 ?_
  refine z_iload_n hX dX5_finish_4 rfl 1 rfl ?_
  refine z_iconst (v := (2 : Int32)) hX dX5_finish_5 (by decide) ?_
  obtain ⟨a2, ha3, h⟩ := h
  obtain ⟨hk4, h⟩ := h
  obtain ⟨hc5, h⟩ := h
  refine y_iast (r := (mR M 324 h0)) hX dX5_finish_6 ha3 hk4 hc5 ?_
  refine z_aload_n (r := (some h0)) hX dX5_finish_7 rfl 0 rfl ?_
  refine gf_RX5_29 (r := (some h0)) hX dX5_finish_8 rfl hk1 ?_
  refine z_iload_n hX dX5_finish_11 rfl 1 rfl ?_
  refine z_ldc2 (v := (9000000000000000000 : Int64)) hX dX5_finish_12 kj_RX5_42 ?_
  obtain ⟨a6, ha7, h⟩ := h
  obtain ⟨hk8, h⟩ := h
  obtain ⟨hc9, h⟩ := h
  refine y_last (r := (mR (tI M a2 (p1).toNatClampNeg (2 : Int32)) 325 h0)) hX dX5_finish_15 ha7 hk8 hc9 ?_
  exact z_vret hX hQ dX5_finish_16 h
def rm_X5_countIn : Room := { frames := 0, cells := 0, slots := 0, locals := 0 }
def bk_X5_countIn_25 (h0 : Nat) (R4 : Int32 → Int32 → Int32 → Mm → Prop) (K : Int32 → Mm → Prop) (l1 : Int32) (l2 : Int32) (l3 : Int32) (M : Mm) : Prop := (R4 l1 l2 (l3 + 1) M)
set_option maxRecDepth 100000 in
set_option maxHeartbeats 4000000 in
theorem zb_X5_countIn_25 {X : Cx} {h0 : Nat} {R4 : Int32 → Int32 → Int32 → Mm → Prop} {K : Int32 → Mm → Prop} (hX : Ok X cX5_countIn RX5 rm_X5_countIn) (hQ : Rq X rm_X5_countIn (some .int) (QI K)) (hnL : X.2.2.2.2.2.2.2.2.2.2.2.2.2.2 = 4) (hR4 : ∀ l1 l2 l3 M, R4 l1 l2 l3 M → Z X M 0 0 4 [(0, va_rf (some h0)), (1, .int l1), (2, .int l2), (3, .int l3)] []) {l1 : Int32} {l2 : Int32} {l3 : Int32} {M : Mm} (h : bk_X5_countIn_25 h0 R4 K l1 l2 l3 M) : Z X M 0 0 25 [(0, va_rf (some h0)), (1, .int l1), (2, .int l2), (3, .int l3)] [] := by
  unfold bk_X5_countIn_25 at h
  refine z_iinc (v := (l3 + 1)) hX [(3, .int (l3 + 1)), (0, va_rf (some h0)), (1, .int l1), (2, .int l2)] dX5_countIn_25 3 rfl rfl (by rw [hnL]; decide) rfl ?_
  refine z_goto (tgt := 4) hX dX5_countIn_28 (by decide) ?_
  refine z_loc [1, 2, 3, 0] rfl ?_
  exact hR4 _ _ _ _ h
def lp_X5_countIn_4 (h0 : Nat) (K : Int32 → Mm → Prop) : Nat → Int32 → Int32 → Int32 → Mm → Prop
  | 0, _, _, _, _ => False
  | n + 1, l1, l2, l3, M => mK M h0 = 6 ∧ (((mI M 320 h0) ≤ l3 → (K l2 M)) ∧ (¬ (mI M 320 h0) ≤ l3 → ∃ a2, (mR M 324 h0) = some a2 ∧ isA M a2 1 ∧ vp_in l3 (aN M a2) ∧ ((¬ (aI M a2 (l3).toNatClampNeg) = l1 → (bk_X5_countIn_25 h0 (lp_X5_countIn_4 h0 K n) K l1 l2 l3 M)) ∧ ((aI M a2 (l3).toNatClampNeg) = l1 → (bk_X5_countIn_25 h0 (lp_X5_countIn_4 h0 K n) K l1 (l2 + 1) l3 M)))))
set_option maxRecDepth 100000 in
set_option maxHeartbeats 4000000 in
theorem zl_X5_countIn_4 {X : Cx} {h0 : Nat} {K : Int32 → Mm → Prop} (hX : Ok X cX5_countIn RX5 rm_X5_countIn) (hQ : Rq X rm_X5_countIn (some .int) (QI K)) (hnL : X.2.2.2.2.2.2.2.2.2.2.2.2.2.2 = 4) : ∀ (n : Nat) (l1 : Int32) (l2 : Int32) (l3 : Int32) (M : Mm), lp_X5_countIn_4 h0 K n l1 l2 l3 M → Z X M 0 0 4 [(0, va_rf (some h0)), (1, .int l1), (2, .int l2), (3, .int l3)] [] := by
  intro n
  induction n with
  | zero =>
    intro l1 l2 l3 M h
    exact False.elim h
  | succ n hR4 =>
    intro l1 l2 l3 M h
    refine z_iload_n hX dX5_countIn_4 rfl 3 rfl ?_
    refine z_aload_n (r := (some h0)) hX dX5_countIn_5 rfl 0 rfl ?_
    obtain ⟨hk1, h⟩ := h
    refine gf_RX5_9 (r := (some h0)) hX dX5_countIn_6 rfl hk1 ?_
    obtain ⟨h1, h2⟩ := h
    refine z_icmp_ge (tgt := 31) hX dX5_countIn_9 (by decide) (fun hc => ?_) (fun hc => ?_)
    · have h := h1 hc
      refine z_iload_n hX dX5_countIn_31 rfl 2 rfl ?_
      exact z_iret hX hQ dX5_countIn_32 h
    · have h := h2 hc
      refine z_aload_n (r := (some h0)) hX dX5_countIn_12 rfl 0 rfl ?_
      refine gf_RX5_25 (r := (some h0)) hX dX5_countIn_13 rfl hk1 ?_
      refine z_iload_n hX dX5_countIn_16 rfl 3 rfl ?_
      obtain ⟨a2, ha3, h⟩ := h
      obtain ⟨hk4, h⟩ := h
      obtain ⟨hc5, h⟩ := h
      refine y_iald (r := (mR M 324 h0)) hX dX5_countIn_17 ha3 hk4 hc5 ?_
      refine z_iload_n hX dX5_countIn_18 rfl 1 rfl ?_
      obtain ⟨h1, h2⟩ := h
      refine z_icmp_ne (tgt := 25) hX dX5_countIn_19 (by decide) (fun hc => ?_) (fun hc => ?_)
      · have h := h1 hc
        exact zb_X5_countIn_25 hX hQ hnL hR4 h
      · have h := h2 hc
        refine z_iinc (v := (l2 + 1)) hX [(2, .int (l2 + 1)), (0, va_rf (some h0)), (1, .int l1), (3, .int l3)] dX5_countIn_22 2 rfl rfl (by rw [hnL]; decide) rfl ?_
        refine z_loc [1, 2, 0, 3] rfl ?_
        exact zb_X5_countIn_25 hX hQ hnL hR4 h
def wp_X5_countIn (M : Mm) (h0 : Nat) (p1 : Int32) (K : Int32 → Mm → Prop) : Prop := (∃ kk, lp_X5_countIn_4 h0 K kk p1 (0 : Int32) (0 : Int32) M)
set_option maxRecDepth 100000 in
set_option maxHeartbeats 4000000 in
theorem ct_X5_countIn {M : Mm} {h0 : Nat} {p1 : Int32} {K : Int32 → Mm → Prop} (h : wp_X5_countIn M h0 p1 K) : CtI yX5_countIn cX5_countIn 4 (some .int) rm_X5_countIn [.ref h0, .int p1] M K := by
  refine ct_any (QI K) (by decide) (by exact Nat.le_of_ble_eq_true rfl) (fun X hX hQ hnL hnm => ?_)
  rw [show lv_args 0 [.ref h0, .int p1] = [(0, va_rf (some h0)), (1, .int p1)] by rfl]
  have hX : Ok X cX5_countIn RX5 rm_X5_countIn := hX
  unfold wp_X5_countIn at h
  refine z_iconst (v := (0 : Int32)) hX dX5_countIn_0 (by decide) ?_
  refine z_istore_n hX [(2, .int (0 : Int32)), (0, va_rf (some h0)), (1, .int p1)] dX5_countIn_1 rfl (by rw [hnL]; decide) rfl ?_
  refine z_iconst (v := (0 : Int32)) hX dX5_countIn_2 (by decide) ?_
  refine z_istore_n hX [(3, .int (0 : Int32)), (2, .int (0 : Int32)), (0, va_rf (some h0)), (1, .int p1)] dX5_countIn_3 rfl (by rw [hnL]; decide) rfl ?_
  refine z_loc [2, 3, 1, 0] rfl ?_
  obtain ⟨n, h⟩ := h
  exact zl_X5_countIn_4 hX hQ hnL n _ _ _ _ h
def rm_X5_leastActive : Room := { frames := 1, cells := 0, slots := 0, locals := 23 }
def bk_X5_leastActive_34 (h0 : Nat) (R6 : Int64 → Int32 → Mm → Prop) (K : Int64 → Mm → Prop) (l1 : Int64) (l3 : Int32) (M : Mm) : Prop := (R6 l1 (l3 + 1) M)
set_option maxRecDepth 100000 in
set_option maxHeartbeats 4000000 in
theorem zb_X5_leastActive_34 {X : Cx} {h0 : Nat} {R6 : Int64 → Int32 → Mm → Prop} {K : Int64 → Mm → Prop} (hX : Ok X cX5_leastActive RX5 rm_X5_leastActive) (hQ : Rq X rm_X5_leastActive (some .long) (QJ K)) (hnL : X.2.2.2.2.2.2.2.2.2.2.2.2.2.2 = 4) (hR6 : ∀ l1 l3 M, R6 l1 l3 M → Z X M 0 0 6 [(0, va_rf (some h0)), (1, .long l1), (3, .int l3)] []) {l1 : Int64} {l3 : Int32} {M : Mm} (h : bk_X5_leastActive_34 h0 R6 K l1 l3 M) : Z X M 0 0 34 [(0, va_rf (some h0)), (1, .long l1), (3, .int l3)] [] := by
  unfold bk_X5_leastActive_34 at h
  refine z_iinc (v := (l3 + 1)) hX [(3, .int (l3 + 1)), (0, va_rf (some h0)), (1, .long l1)] dX5_leastActive_34 2 rfl rfl (by rw [hnL]; decide) rfl ?_
  refine z_goto (tgt := 6) hX dX5_leastActive_37 (by decide) ?_
  refine z_loc [1, 2, 0] rfl ?_
  exact hR6 _ _ _ h
def lp_X5_leastActive_6 (h0 : Nat) (K : Int64 → Mm → Prop) : Nat → Int64 → Int32 → Mm → Prop
  | 0, _, _, _ => False
  | n + 1, l1, l3, M => mK M h0 = 6 ∧ (((mI M 320 h0) ≤ l3 → (K l1 M)) ∧ (¬ (mI M 320 h0) ≤ l3 → ∃ a2, (mR M 324 h0) = some a2 ∧ isA M a2 1 ∧ vp_in l3 (aN M a2) ∧ ((¬ (aI M a2 (l3).toNatClampNeg) = 0 → (bk_X5_leastActive_34 h0 (lp_X5_leastActive_6 h0 K n) K l1 l3 M)) ∧ ((aI M a2 (l3).toNatClampNeg) = 0 → ∃ a6, (mR M 325 h0) = some a6 ∧ isA M a6 2 ∧ vp_in l3 (aN M a6) ∧ (bk_X5_leastActive_34 h0 (lp_X5_leastActive_6 h0 K n) K (if (aJ M a6 (l3).toNatClampNeg) < l1 then (aJ M a6 (l3).toNatClampNeg) else l1) l3 M)))))
set_option maxRecDepth 100000 in
set_option maxHeartbeats 4000000 in
theorem zl_X5_leastActive_6 {X : Cx} {h0 : Nat} {K : Int64 → Mm → Prop} (hX : Ok X cX5_leastActive RX5 rm_X5_leastActive) (hQ : Rq X rm_X5_leastActive (some .long) (QJ K)) (hnL : X.2.2.2.2.2.2.2.2.2.2.2.2.2.2 = 4) : ∀ (n : Nat) (l1 : Int64) (l3 : Int32) (M : Mm), lp_X5_leastActive_6 h0 K n l1 l3 M → Z X M 0 0 6 [(0, va_rf (some h0)), (1, .long l1), (3, .int l3)] [] := by
  intro n
  induction n with
  | zero =>
    intro l1 l3 M h
    exact False.elim h
  | succ n hR6 =>
    intro l1 l3 M h
    refine z_iload_n hX dX5_leastActive_6 rfl 2 rfl ?_
    refine z_aload_n (r := (some h0)) hX dX5_leastActive_7 rfl 0 rfl ?_
    obtain ⟨hk1, h⟩ := h
    refine gf_RX5_9 (r := (some h0)) hX dX5_leastActive_8 rfl hk1 ?_
    obtain ⟨h1, h2⟩ := h
    refine z_icmp_ge (tgt := 40) hX dX5_leastActive_11 (by decide) (fun hc => ?_) (fun hc => ?_)
    · have h := h1 hc
      refine z_lload_n hX dX5_leastActive_40 rfl 1 rfl ?_
      exact z_lret hX hQ dX5_leastActive_41 h
    · have h := h2 hc
      refine z_aload_n (r := (some h0)) hX dX5_leastActive_14 rfl 0 rfl ?_
      refine gf_RX5_25 (r := (some h0)) hX dX5_leastActive_15 rfl hk1 ?_
      refine z_iload_n hX dX5_leastActive_18 rfl 2 rfl ?_
      obtain ⟨a2, ha3, h⟩ := h
      obtain ⟨hk4, h⟩ := h
      obtain ⟨hc5, h⟩ := h
      refine y_iald (r := (mR M 324 h0)) hX dX5_leastActive_19 ha3 hk4 hc5 ?_
      obtain ⟨h1, h2⟩ := h
      refine z_if_ne (tgt := 34) hX dX5_leastActive_20 (by decide) (fun hc => ?_) (fun hc => ?_)
      · have h := h1 hc
        exact zb_X5_leastActive_34 hX hQ hnL hR6 h
      · have h := h2 hc
        refine z_lload_n hX dX5_leastActive_23 rfl 1 rfl ?_
        refine z_aload_n (r := (some h0)) hX dX5_leastActive_24 rfl 0 rfl ?_
        refine gf_RX5_29 (r := (some h0)) hX dX5_leastActive_25 rfl hk1 ?_
        refine z_iload_n hX dX5_leastActive_28 rfl 2 rfl ?_
        obtain ⟨a6, ha7, h⟩ := h
        obtain ⟨hk8, h⟩ := h
        obtain ⟨hc9, h⟩ := h
        refine y_lald (r := (mR M 325 h0)) hX dX5_leastActive_29 ha7 hk8 hc9 ?_
        refine mw_RX5_44 hX dX5_leastActive_30 (by decide) (by decide) (by decide) (by decide) ?_
        refine z_lstore_n hX [(1, .long (if (aJ M a6 (l3).toNatClampNeg) < l1 then (aJ M a6 (l3).toNatClampNeg) else l1)), (0, va_rf (some h0)), (3, .int l3)] dX5_leastActive_33 rfl (by rw [hnL]; decide) rfl ?_
        refine z_loc [1, 0, 2] rfl ?_
        exact zb_X5_leastActive_34 hX hQ hnL hR6 h
def wp_X5_leastActive (M : Mm) (h0 : Nat) (K : Int64 → Mm → Prop) : Prop := (∃ kk, lp_X5_leastActive_6 h0 K kk (9000000000000000000 : Int64) (0 : Int32) M)
set_option maxRecDepth 100000 in
set_option maxHeartbeats 4000000 in
theorem ct_X5_leastActive {M : Mm} {h0 : Nat} {K : Int64 → Mm → Prop} (h : wp_X5_leastActive M h0 K) : CtJ yX5_leastActive cX5_leastActive 4 (some .long) rm_X5_leastActive [.ref h0] M K := by
  refine ct_any (QJ K) (by decide) (by exact Nat.le_of_ble_eq_true rfl) (fun X hX hQ hnL hnm => ?_)
  rw [show lv_args 0 [.ref h0] = [(0, va_rf (some h0))] by rfl]
  have hX : Ok X cX5_leastActive RX5 rm_X5_leastActive := hX
  unfold wp_X5_leastActive at h
  refine z_ldc2 (v := (9000000000000000000 : Int64)) hX dX5_leastActive_0 kj_RX5_42 ?_
  refine z_lstore_n hX [(1, .long (9000000000000000000 : Int64)), (0, va_rf (some h0))] dX5_leastActive_3 rfl (by rw [hnL]; decide) rfl ?_
  refine z_iconst (v := (0 : Int32)) hX dX5_leastActive_4 (by decide) ?_
  refine z_istore_n hX [(3, .int (0 : Int32)), (1, .long (9000000000000000000 : Int64)), (0, va_rf (some h0))] dX5_leastActive_5 rfl (by rw [hnL]; decide) rfl ?_
  refine z_loc [2, 1, 0] rfl ?_
  obtain ⟨n, h⟩ := h
  exact zl_X5_leastActive_6 hX hQ hnL n _ _ _ h
def rm_X5_goal : Room := { frames := 2, cells := 0, slots := 0, locals := 46 }
def bk_X5_goal_34 (h0 : Nat) (K : Int64 → Mm → Prop) (s0 : Int64) (M : Mm) : Prop := (K s0 M)
set_option maxRecDepth 100000 in
set_option maxHeartbeats 4000000 in
theorem zb_X5_goal_34 {X : Cx} {h0 : Nat} {K : Int64 → Mm → Prop} (hX : Ok X cX5_goal RX5 rm_X5_goal) (hQ : Rq X rm_X5_goal (some .long) (QJ K)) (hnL : X.2.2.2.2.2.2.2.2.2.2.2.2.2.2 = 1) {s0 : Int64} {M : Mm} (h : bk_X5_goal_34 h0 K s0 M) : Z X M 0 0 34 [] [.long s0] := by
  unfold bk_X5_goal_34 at h
  exact z_lret hX hQ dX5_goal_34 h
def wp_X5_goal (M : Mm) (h0 : Nat) (K : Int64 → Mm → Prop) : Prop := mK M h0 = 6 ∧ (wp_X5_countIn M h0 (0 : Int32) (fun r1 M2 => ((r1 ≤ 0 → mK M2 h0 = 6 ∧ (wp_X5_countIn M2 h0 (2 : Int32) (fun r5 M6 => mK M6 h0 = 6 ∧ ((¬ r5 = (mI M6 320 h0) → (bk_X5_goal_34 h0 K (-9000000000000000001 : Int64) M6)) ∧ (r5 = (mI M6 320 h0) → (bk_X5_goal_34 h0 K (9000000000000000000 : Int64) M6)))))) ∧ (¬ r1 ≤ 0 → mK M2 h0 = 6 ∧ (wp_X5_leastActive M2 h0 (fun r10 M11 => (K r10 M11)))))))
set_option maxRecDepth 100000 in
set_option maxHeartbeats 4000000 in
theorem ct_X5_goal {M : Mm} {h0 : Nat} {K : Int64 → Mm → Prop} (h : wp_X5_goal M h0 K) : CtJ yX5_goal cX5_goal 1 (some .long) rm_X5_goal [.ref h0] M K := by
  refine ct_any (QJ K) (by decide) (by exact Nat.le_of_ble_eq_true rfl) (fun X hX hQ hnL hnm => ?_)
  rw [show lv_args 0 [.ref h0] = [(0, va_rf (some h0))] by rfl]
  have hX : Ok X cX5_goal RX5 rm_X5_goal := hX
  unfold wp_X5_goal at h
  refine z_aload_n (r := (some h0)) hX dX5_goal_0 rfl 0 rfl ?_
  refine z_iconst (v := (0 : Int32)) hX dX5_goal_1 (by decide) ?_
  obtain ⟨hk3, h⟩ := h
  refine z_callVI (As := [.int (0 : Int32)]) (rest := []) (ci := 5) hX (ct_X5_countIn h) mw_RX5_50 rfl (by decide) rfl (by rfl) (by unfold RoomC; decide) (by decide) dX5_goal_2 hk3 (fun r1 M2 h => ?_)
  obtain ⟨h1, h2⟩ := h
  refine z_if_le (tgt := 13) hX dX5_goal_5 (by decide) (fun hc => ?_) (fun hc => ?_)
  · have h := h1 hc
    refine z_aload_n (r := (some h0)) hX dX5_goal_13 rfl 0 rfl ?_
    refine z_iconst (v := (2 : Int32)) hX dX5_goal_14 (by decide) ?_
    obtain ⟨hk7, h⟩ := h
    refine z_callVI (As := [.int (2 : Int32)]) (rest := []) (ci := 5) hX (ct_X5_countIn h) mw_RX5_50 rfl (by decide) rfl (by rfl) (by unfold RoomC; decide) (by decide) dX5_goal_15 hk7 (fun r5 M6 h => ?_)
    refine z_aload_n (r := (some h0)) hX dX5_goal_18 rfl 0 rfl ?_
    obtain ⟨hk9, h⟩ := h
    refine gf_RX5_9 (r := (some h0)) hX dX5_goal_19 rfl hk9 ?_
    obtain ⟨h1, h2⟩ := h
    refine z_icmp_ne (tgt := 31) hX dX5_goal_22 (by decide) (fun hc => ?_) (fun hc => ?_)
    · have h := h1 hc
      refine z_ldc2 (v := (-9000000000000000001 : Int64)) hX dX5_goal_31 kj_RX5_58 ?_
      refine z_loc [] rfl ?_
      exact zb_X5_goal_34 hX hQ hnL h
    · have h := h2 hc
      refine z_ldc2 (v := (9000000000000000000 : Int64)) hX dX5_goal_25 kj_RX5_42 ?_
      refine z_goto (tgt := 34) hX dX5_goal_28 (by decide) ?_
      refine z_loc [] rfl ?_
      exact zb_X5_goal_34 hX hQ hnL h
  · have h := h2 hc
    refine z_aload_n (r := (some h0)) hX dX5_goal_8 rfl 0 rfl ?_
    obtain ⟨hk12, h⟩ := h
    refine z_callVJ (As := []) (rest := []) (ci := 5) hX (ct_X5_leastActive h) mw_RX5_54 rfl (by decide) rfl (by rfl) (by unfold RoomC; decide) (by decide) dX5_goal_9 hk12 (fun r10 M11 h => ?_)
    exact z_lret hX hQ dX5_goal_12 h
def rm_X5_isSilent : Room := { frames := 0, cells := 0, slots := 0, locals := 0 }
def bk_X5_isSilent_36 (h0 : Nat) (K : Int32 → Mm → Prop) (s0 : Int32) (M : Mm) : Prop := (bz s0 ∧ K s0 M)
set_option maxRecDepth 100000 in
set_option maxHeartbeats 4000000 in
theorem zb_X5_isSilent_36 {X : Cx} {h0 : Nat} {K : Int32 → Mm → Prop} (hX : Ok X cX5_isSilent RX5 rm_X5_isSilent) (hQ : Rq X rm_X5_isSilent (some .boolean) (QI K)) (hnL : X.2.2.2.2.2.2.2.2.2.2.2.2.2.2 = 3) {s0 : Int32} {M : Mm} (h : bk_X5_isSilent_36 h0 K s0 M) : Z X M 0 0 36 [] [.int s0] := by
  unfold bk_X5_isSilent_36 at h
  exact y_zret hX hQ dX5_isSilent_36 h.1 h.2
def bk_X5_isSilent_35 (h0 : Nat) (K : Int32 → Mm → Prop) (M : Mm) : Prop := (bk_X5_isSilent_36 h0 K (0 : Int32) M)
set_option maxRecDepth 100000 in
set_option maxHeartbeats 4000000 in
theorem zb_X5_isSilent_35 {X : Cx} {h0 : Nat} {K : Int32 → Mm → Prop} (hX : Ok X cX5_isSilent RX5 rm_X5_isSilent) (hQ : Rq X rm_X5_isSilent (some .boolean) (QI K)) (hnL : X.2.2.2.2.2.2.2.2.2.2.2.2.2.2 = 3) {M : Mm} (h : bk_X5_isSilent_35 h0 K M) : Z X M 0 0 35 [] [] := by
  unfold bk_X5_isSilent_35 at h
  refine z_iconst (v := (0 : Int32)) hX dX5_isSilent_35 (by decide) ?_
  exact zb_X5_isSilent_36 hX hQ hnL h
def wp_X5_isSilent (M : Mm) (h0 : Nat) (p1 : Int32) (p2 : Int32) (K : Int32 → Mm → Prop) : Prop := mK M h0 = 6 ∧ (((mI M 322 h0) = 0 → (bk_X5_isSilent_35 h0 K M)) ∧ (¬ (mI M 322 h0) = 0 → ∃ a2, (mR M 324 h0) = some a2 ∧ isA M a2 1 ∧ vp_in p1 (aN M a2) ∧ ((¬ (aI M a2 (p1).toNatClampNeg) = 0 → (bk_X5_isSilent_35 h0 K M)) ∧ ((aI M a2 (p1).toNatClampNeg) = 0 → ∃ a6, (mR M 326 h0) = some a6 ∧ isA M a6 1 ∧ vp_in p1 (aN M a6) ∧ (((p2 - (aI M a6 (p1).toNatClampNeg)) < (mI M 322 h0) → (bk_X5_isSilent_35 h0 K M)) ∧ (¬ (p2 - (aI M a6 (p1).toNatClampNeg)) < (mI M 322 h0) → (bk_X5_isSilent_36 h0 K (1 : Int32) M)))))))
set_option maxRecDepth 100000 in
set_option maxHeartbeats 4000000 in
theorem ct_X5_isSilent {M : Mm} {h0 : Nat} {p1 : Int32} {p2 : Int32} {K : Int32 → Mm → Prop} (h : wp_X5_isSilent M h0 p1 p2 K) : CtI yX5_isSilent cX5_isSilent 3 (some .boolean) rm_X5_isSilent [.ref h0, .int p1, .int p2] M K := by
  refine ct_any (QI K) (by decide) (by exact Nat.le_of_ble_eq_true rfl) (fun X hX hQ hnL hnm => ?_)
  rw [show lv_args 0 [.ref h0, .int p1, .int p2] = [(0, va_rf (some h0)), (1, .int p1), (2, .int p2)] by rfl]
  have hX : Ok X cX5_isSilent RX5 rm_X5_isSilent := hX
  unfold wp_X5_isSilent at h
  refine z_aload_n (r := (some h0)) hX dX5_isSilent_0 rfl 0 rfl ?_
  obtain ⟨hk1, h⟩ := h
  refine gf_RX5_19 (r := (some h0)) hX dX5_isSilent_1 rfl hk1 ?_
  obtain ⟨h1, h2⟩ := h
  refine z_if_eq (tgt := 35) hX dX5_isSilent_4 (by decide) (fun hc => ?_) (fun hc => ?_)
  · have h := h1 hc
    refine z_loc [] rfl ?_
    exact zb_X5_isSilent_35 hX hQ hnL h
  · have h := h2 hc
    refine z_aload_n (r := (some h0)) hX dX5_isSilent_7 rfl 0 rfl ?_
    refine gf_RX5_25 (r := (some h0)) hX dX5_isSilent_8 rfl hk1 ?_
    refine z_iload_n hX dX5_isSilent_11 rfl 1 rfl ?_
    obtain ⟨a2, ha3, h⟩ := h
    obtain ⟨hk4, h⟩ := h
    obtain ⟨hc5, h⟩ := h
    refine y_iald (r := (mR M 324 h0)) hX dX5_isSilent_12 ha3 hk4 hc5 ?_
    obtain ⟨h1, h2⟩ := h
    refine z_if_ne (tgt := 35) hX dX5_isSilent_13 (by decide) (fun hc => ?_) (fun hc => ?_)
    · have h := h1 hc
      refine z_loc [] rfl ?_
      exact zb_X5_isSilent_35 hX hQ hnL h
    · have h := h2 hc
      refine z_iload_n hX dX5_isSilent_16 rfl 2 rfl ?_
      refine z_aload_n (r := (some h0)) hX dX5_isSilent_17 rfl 0 rfl ?_
      refine gf_RX5_33 (r := (some h0)) hX dX5_isSilent_18 rfl hk1 ?_
      refine z_iload_n hX dX5_isSilent_21 rfl 1 rfl ?_
      obtain ⟨a6, ha7, h⟩ := h
      obtain ⟨hk8, h⟩ := h
      obtain ⟨hc9, h⟩ := h
      refine y_iald (r := (mR M 326 h0)) hX dX5_isSilent_22 ha7 hk8 hc9 ?_
      refine z_isub hX dX5_isSilent_23 ?_
      refine z_aload_n (r := (some h0)) hX dX5_isSilent_24 rfl 0 rfl ?_
      refine gf_RX5_19 (r := (some h0)) hX dX5_isSilent_25 rfl hk1 ?_
      obtain ⟨h1, h2⟩ := h
      refine z_icmp_lt (tgt := 35) hX dX5_isSilent_28 (by decide) (fun hc => ?_) (fun hc => ?_)
      · have h := h1 hc
        refine z_loc [] rfl ?_
        exact zb_X5_isSilent_35 hX hQ hnL h
      · have h := h2 hc
        refine z_iconst (v := (1 : Int32)) hX dX5_isSilent_31 (by decide) ?_
        refine z_goto (tgt := 36) hX dX5_isSilent_32 (by decide) ?_
        refine z_loc [] rfl ?_
        exact zb_X5_isSilent_36 hX hQ hnL h
def rm_X6_init : Room := { frames := 1, cells := 1, slots := 4, locals := 20 }
def wp_X6_init (M : Mm) (h0 : Nat) (p1 : Int32) (p2 : Int64) (p3 : Int64) (K : Mm → Prop) : Prop := mK M h0 = 7 ∧ (∀ q5, mK (sJ (sJ (sI M 384 h0 p1) 385 h0 p2) 386 h0 p3) q5 = 0 → mK (na (sJ (sJ (sI M 384 h0 p1) 385 h0 p2) 386 h0 p3) q5 68 4) h0 = 7 ∧ (K (sJ (sR (na (sJ (sJ (sI M 384 h0 p1) 385 h0 p2) 386 h0 p3) q5 68 4) 387 h0 (some q5)) 390 h0 (-9000000000000000000 : Int64))))
set_option maxRecDepth 100000 in
set_option maxHeartbeats 4000000 in
theorem ct_X6_init {M : Mm} {h0 : Nat} {p1 : Int32} {p2 : Int64} {p3 : Int64} {K : Mm → Prop} (h : wp_X6_init M h0 p1 p2 p3 K) : CtV yX6_init cX6_init 6 none rm_X6_init [.ref h0, .int p1, .long p2, .long p3] M K := by
  refine ct_any (QV K) (by decide) (by exact Nat.le_of_ble_eq_true rfl) (fun X hX hQ hnL hnm => ?_)
  rw [show lv_args 0 [.ref h0, .int p1, .long p2, .long p3] = [(0, va_rf (some h0)), (1, .int p1), (2, .long p2), (4, .long p3)] by rfl]
  have hX : Ok X cX6_init RX6 rm_X6_init := hX
  unfold wp_X6_init at h
  refine z_aload_n (r := (some h0)) hX dX6_init_0 rfl 0 rfl ?_
  refine mw_RX6_3 (a := h0) hX dX6_init_1 (by decide) (by decide) ?_
  refine z_aload_n (r := (some h0)) hX dX6_init_4 rfl 0 rfl ?_
  refine z_iload_n hX dX6_init_5 rfl 1 rfl ?_
  obtain ⟨hk1, h⟩ := h
  refine pf_RX6_9 (r := (some h0)) (v := p1) hX hnm dX6_init_6 rfl hk1 ?_
  refine z_aload_n (r := (some h0)) hX dX6_init_9 rfl 0 rfl ?_
  refine z_lload_n hX dX6_init_10 rfl 2 rfl ?_
  refine pf_RX6_15 (r := (some h0)) (v := p2) hX hnm dX6_init_11 rfl hk1 ?_
  refine z_aload_n (r := (some h0)) hX dX6_init_14 rfl 0 rfl ?_
  refine z_lload hX dX6_init_15 3 rfl ?_
  refine pf_RX6_19 (r := (some h0)) (v := p3) hX hnm dX6_init_17 rfl hk1 ?_
  refine z_aload_n (r := (some h0)) hX dX6_init_20 rfl 0 rfl ?_
  refine z_iconst (v := (4 : Int32)) hX dX6_init_21 (by decide) ?_
  refine z_newq (n := 4) (kd := 68) hX (wjU_mem (by decide +kernel) rfl) (by decide) (by decide) (by decide) (by decide) (by decide) dX6_init_22 (by decide) (by decide) (fun q5 hq6 => ?_)
  have h := h q5 hq6
  obtain ⟨hk8, h⟩ := h
  refine pf_RX6_22 (r := (some h0)) (v := (some q5)) hX hnm dX6_init_25 rfl hk8 ?_
  refine z_aload_n (r := (some h0)) hX dX6_init_28 rfl 0 rfl ?_
  refine z_ldc2 (v := (-9000000000000000000 : Int64)) hX dX6_init_29 kj_RX6_26 ?_
  refine pf_RX6_28 (r := (some h0)) (v := (-9000000000000000000 : Int64)) hX dX6_init_32 rfl hk8 ?_
  refine z_widen 1 4 (by decide) (by decide) ?_
  exact z_vret hX hQ dX6_init_35 h
def rm_X6_addInput : Room := { frames := 0, cells := 0, slots := 0, locals := 0 }
def bk_X6_addInput_32 (h0 : Nat) (K : Mm → Prop) (M : Mm) : Prop := (K M)
set_option maxRecDepth 100000 in
set_option maxHeartbeats 4000000 in
theorem zb_X6_addInput_32 {X : Cx} {h0 : Nat} {K : Mm → Prop} (hX : Ok X cX6_addInput RX6 rm_X6_addInput) (hQ : Rq X rm_X6_addInput none (QV K)) (hnL : X.2.2.2.2.2.2.2.2.2.2.2.2.2.2 = 2) {M : Mm} (h : bk_X6_addInput_32 h0 K M) : Z X M 0 0 32 [] [] := by
  unfold bk_X6_addInput_32 at h
  exact z_vret hX hQ dX6_addInput_32 h
def wp_X6_addInput (M : Mm) (h0 : Nat) (p1 : Option Nat) (K : Mm → Prop) : Prop := mK M h0 = 7 ∧ ∃ a2, (mR M 387 h0) = some a2 ∧ isA M a2 4 ∧ (((nI (aN M a2)) ≤ (mI M 388 h0) → (bk_X6_addInput_32 h0 K M)) ∧ (¬ (nI (aN M a2)) ≤ (mI M 388 h0) → ∃ a5, p1 = some a5 ∧ mK M a5 = 7 ∧ vp_in (mI M 388 h0) (aN M a2) ∧ (bk_X6_addInput_32 h0 K (sI (tR M a2 ((mI M 388 h0)).toNatClampNeg p1) 388 h0 ((mI (tR M a2 ((mI M 388 h0)).toNatClampNeg p1) 388 h0) + (1 : Int32))))))
set_option maxRecDepth 100000 in
set_option maxHeartbeats 4000000 in
theorem ct_X6_addInput {M : Mm} {h0 : Nat} {p1 : Option Nat} {K : Mm → Prop} (h : wp_X6_addInput M h0 p1 K) : CtV yX6_addInput cX6_addInput 2 none rm_X6_addInput [.ref h0, va_rf p1] M K := by
  refine ct_any (QV K) (by decide) (by cases p1 <;> exact Nat.le_of_ble_eq_true rfl) (fun X hX hQ hnL hnm => ?_)
  rw [show lv_args 0 [.ref h0, va_rf p1] = [(0, va_rf (some h0)), (1, va_rf p1)] by cases p1 <;> rfl]
  have hX : Ok X cX6_addInput RX6 rm_X6_addInput := hX
  unfold wp_X6_addInput at h
  refine z_aload_n (r := (some h0)) hX dX6_addInput_0 rfl 0 rfl ?_
  obtain ⟨hk1, h⟩ := h
  refine gf_RX6_31 (r := (some h0)) hX dX6_addInput_1 rfl hk1 ?_
  refine z_aload_n (r := (some h0)) hX dX6_addInput_4 rfl 0 rfl ?_
  refine gf_RX6_22 (r := (some h0)) hX dX6_addInput_5 rfl hk1 ?_
  obtain ⟨a2, ha3, h⟩ := h
  obtain ⟨hk4, h⟩ := h
  refine y_alen (r := (mR M 387 h0)) hX dX6_addInput_8 ha3 hk4 (by decide) ?_
  obtain ⟨h1, h2⟩ := h
  refine z_icmp_ge (tgt := 32) hX dX6_addInput_9 (by decide) (fun hc => ?_) (fun hc => ?_)
  · have h := h1 hc
    refine z_loc [] rfl ?_
    exact zb_X6_addInput_32 hX hQ hnL h
  · have h := h2 hc
    refine z_aload_n (r := (some h0)) hX dX6_addInput_12 rfl 0 rfl ?_
    refine gf_RX6_22 (r := (some h0)) hX dX6_addInput_13 rfl hk1 ?_
    refine z_aload_n (r := (some h0)) hX dX6_addInput_16 rfl 0 rfl ?_
    refine gf_RX6_31 (r := (some h0)) hX dX6_addInput_17 rfl hk1 ?_
    refine z_aload_n (r := p1) hX dX6_addInput_20 rfl 1 rfl ?_
    obtain ⟨a5, ha6, h⟩ := h
    obtain ⟨hk7, h⟩ := h
    obtain ⟨hc8, h⟩ := h
    refine y_astq (r := (mR M 387 h0)) (rb := p1) hX dX6_addInput_21 ha3 hk4 ha6 hk7 hc8 ?_
    refine z_aload_n (r := (some h0)) hX dX6_addInput_22 rfl 0 rfl ?_
    refine z_dup hX dX6_addInput_23 (cat_rf _) ?_
    refine gf_RX6_31 (r := (some h0)) hX dX6_addInput_24 rfl hk1 ?_
    refine z_iconst (v := (1 : Int32)) hX dX6_addInput_27 (by decide) ?_
    refine z_iadd hX dX6_addInput_28 ?_
    refine pf_RX6_31 (r := (some h0)) (v := ((mI (tR M a2 ((mI M 388 h0)).toNatClampNeg p1) 388 h0) + (1 : Int32))) hX dX6_addInput_29 rfl hk1 ?_
    refine z_loc [] rfl ?_
    exact zb_X6_addInput_32 hX hQ hnL h
def rm_X6_leastOfInputs : Room := { frames := 1, cells := 0, slots := 0, locals := 23 }
def bk_X6_leastOfInputs_84 (h0 : Nat) (K : Int64 → Mm → Prop) (s0 : Int64) (M : Mm) : Prop := (K s0 M)
set_option maxRecDepth 100000 in
set_option maxHeartbeats 4000000 in
theorem zb_X6_leastOfInputs_84 {X : Cx} {h0 : Nat} {K : Int64 → Mm → Prop} (hX : Ok X cX6_leastOfInputs RX6 rm_X6_leastOfInputs) (hQ : Rq X rm_X6_leastOfInputs (some .long) (QJ K)) (hnL : X.2.2.2.2.2.2.2.2.2.2.2.2.2.2 = 6) {s0 : Int64} {M : Mm} (h : bk_X6_leastOfInputs_84 h0 K s0 M) : Z X M 0 0 84 [] [.long s0] := by
  unfold bk_X6_leastOfInputs_84 at h
  exact z_lret hX hQ dX6_leastOfInputs_84 h
def bk_X6_leastOfInputs_77 (h0 : Nat) (K : Int64 → Mm → Prop) (l1 : Int64) (M : Mm) : Prop := (bk_X6_leastOfInputs_84 h0 K l1 M)
set_option maxRecDepth 100000 in
set_option maxHeartbeats 4000000 in
theorem zb_X6_leastOfInputs_77 {X : Cx} {h0 : Nat} {K : Int64 → Mm → Prop} (hX : Ok X cX6_leastOfInputs RX6 rm_X6_leastOfInputs) (hQ : Rq X rm_X6_leastOfInputs (some .long) (QJ K)) (hnL : X.2.2.2.2.2.2.2.2.2.2.2.2.2.2 = 6) {l1 : Int64} {M : Mm} (h : bk_X6_leastOfInputs_77 h0 K l1 M) : Z X M 0 0 77 [(1, .long l1)] [] := by
  unfold bk_X6_leastOfInputs_77 at h
  refine z_lload_n hX dX6_leastOfInputs_77 rfl 0 rfl ?_
  refine z_goto (tgt := 84) hX dX6_leastOfInputs_78 (by decide) ?_
  refine z_loc [] rfl ?_
  exact zb_X6_leastOfInputs_84 hX hQ hnL h
def bk_X6_leastOfInputs_59 (h0 : Nat) (R9 : Int64 → Int32 → Int32 → Mm → Prop) (K : Int64 → Mm → Prop) (l1 : Int64) (l3 : Int32) (l4 : Int32) (M : Mm) : Prop := (R9 l1 l3 (l4 + 1) M)
set_option maxRecDepth 100000 in
set_option maxHeartbeats 4000000 in
theorem zb_X6_leastOfInputs_59 {X : Cx} {h0 : Nat} {R9 : Int64 → Int32 → Int32 → Mm → Prop} {K : Int64 → Mm → Prop} (hX : Ok X cX6_leastOfInputs RX6 rm_X6_leastOfInputs) (hQ : Rq X rm_X6_leastOfInputs (some .long) (QJ K)) (hnL : X.2.2.2.2.2.2.2.2.2.2.2.2.2.2 = 6) (hR9 : ∀ l1 l3 l4 M, R9 l1 l3 l4 M → Z X M 0 0 9 [(0, va_rf (some h0)), (1, .long l1), (3, .int l3), (4, .int l4)] []) {l1 : Int64} {l3 : Int32} {l4 : Int32} {M : Mm} (h : bk_X6_leastOfInputs_59 h0 R9 K l1 l3 l4 M) : Z X M 0 0 59 [(0, va_rf (some h0)), (1, .long l1), (3, .int l3), (4, .int l4)] [] := by
  unfold bk_X6_leastOfInputs_59 at h
  refine z_iinc (v := (l4 + 1)) hX [(4, .int (l4 + 1)), (0, va_rf (some h0)), (1, .long l1), (3, .int l3)] dX6_leastOfInputs_59 3 rfl rfl (by rw [hnL]; decide) rfl ?_
  refine z_goto (tgt := 9) hX dX6_leastOfInputs_62 (by decide) ?_
  refine z_loc [1, 2, 3, 0] rfl ?_
  exact hR9 _ _ _ _ h
def lp_X6_leastOfInputs_9 (h0 : Nat) (K : Int64 → Mm → Prop) : Nat → Int64 → Int32 → Int32 → Mm → Prop
  | 0, _, _, _, _ => False
  | n + 1, l1, l3, l4, M => mK M h0 = 7 ∧ (((mI M 388 h0) ≤ l4 → ((¬ l1 = (9000000000000000000 : Int64) → (bk_X6_leastOfInputs_77 h0 K l1 M)) ∧ (l1 = (9000000000000000000 : Int64) → ((l3 = 0 → (bk_X6_leastOfInputs_84 h0 K (-9000000000000000001 : Int64) M)) ∧ (¬ l3 = 0 → (bk_X6_leastOfInputs_77 h0 K l1 M)))))) ∧ (¬ (mI M 388 h0) ≤ l4 → ∃ a2, (mR M 387 h0) = some a2 ∧ isA M a2 4 ∧ vp_in l4 (aN M a2) ∧ ∃ a6, (aR M a2 (l4).toNatClampNeg) = some a6 ∧ mK M a6 = 7 ∧ (((mJ M 390 a6) = (9000000000000000000 : Int64) → (bk_X6_leastOfInputs_59 h0 (lp_X6_leastOfInputs_9 h0 K n) K l1 l3 l4 M)) ∧ (¬ (mJ M 390 a6) = (9000000000000000000 : Int64) → ((¬ (mI M 391 a6) = 0 → (bk_X6_leastOfInputs_59 h0 (lp_X6_leastOfInputs_9 h0 K n) K l1 (0 : Int32) l4 M)) ∧ ((mI M 391 a6) = 0 → (bk_X6_leastOfInputs_59 h0 (lp_X6_leastOfInputs_9 h0 K n) K (if (mJ M 390 a6) < l1 then (mJ M 390 a6) else l1) (0 : Int32) l4 M)))))))
set_option maxRecDepth 100000 in
set_option maxHeartbeats 4000000 in
theorem zl_X6_leastOfInputs_9 {X : Cx} {h0 : Nat} {K : Int64 → Mm → Prop} (hX : Ok X cX6_leastOfInputs RX6 rm_X6_leastOfInputs) (hQ : Rq X rm_X6_leastOfInputs (some .long) (QJ K)) (hnL : X.2.2.2.2.2.2.2.2.2.2.2.2.2.2 = 6) : ∀ (n : Nat) (l1 : Int64) (l3 : Int32) (l4 : Int32) (M : Mm), lp_X6_leastOfInputs_9 h0 K n l1 l3 l4 M → Z X M 0 0 9 [(0, va_rf (some h0)), (1, .long l1), (3, .int l3), (4, .int l4)] [] := by
  intro n
  induction n with
  | zero =>
    intro l1 l3 l4 M h
    exact False.elim h
  | succ n hR9 =>
    intro l1 l3 l4 M h
    refine z_iload hX dX6_leastOfInputs_9 3 rfl ?_
    refine z_aload_n (r := (some h0)) hX dX6_leastOfInputs_11 rfl 0 rfl ?_
    obtain ⟨hk1, h⟩ := h
    refine gf_RX6_31 (r := (some h0)) hX dX6_leastOfInputs_12 rfl hk1 ?_
    obtain ⟨h1, h2⟩ := h
    refine z_icmp_ge (tgt := 65) hX dX6_leastOfInputs_15 (by decide) (fun hc => ?_) (fun hc => ?_)
    · have h := h1 hc
      refine z_lload_n hX dX6_leastOfInputs_65 rfl 1 rfl ?_
      refine z_ldc2 (v := (9000000000000000000 : Int64)) hX dX6_leastOfInputs_66 kj_RX6_34 ?_
      refine z_lcmp hX dX6_leastOfInputs_69 ?_
      obtain ⟨h1, h2⟩ := h
      refine z_if_ne (tgt := 77) hX dX6_leastOfInputs_70 (by decide) (fun hc => ?_) (fun hc => ?_)
      · have h := h1 (fun q => hc ((lg_cmp_eq _ _).mpr q))
        refine z_loc [1] rfl ?_
        exact zb_X6_leastOfInputs_77 hX hQ hnL h
      · have h := h2 ((lg_cmp_eq _ _).mp hc)
        refine z_iload_n hX dX6_leastOfInputs_73 rfl 2 rfl ?_
        obtain ⟨h1, h2⟩ := h
        refine z_if_eq (tgt := 81) hX dX6_leastOfInputs_74 (by decide) (fun hc => ?_) (fun hc => ?_)
        · have h := h1 hc
          refine z_ldc2 (v := (-9000000000000000001 : Int64)) hX dX6_leastOfInputs_81 kj_RX6_46 ?_
          refine z_loc [] rfl ?_
          exact zb_X6_leastOfInputs_84 hX hQ hnL h
        · have h := h2 hc
          refine z_loc [1] rfl ?_
          exact zb_X6_leastOfInputs_77 hX hQ hnL h
    · have h := h2 hc
      refine z_aload_n (r := (some h0)) hX dX6_leastOfInputs_18 rfl 0 rfl ?_
      refine gf_RX6_22 (r := (some h0)) hX dX6_leastOfInputs_19 rfl hk1 ?_
      refine z_iload hX dX6_leastOfInputs_22 3 rfl ?_
      obtain ⟨a2, ha3, h⟩ := h
      obtain ⟨hk4, h⟩ := h
      obtain ⟨hc5, h⟩ := h
      refine y_aldq (r := (mR M 387 h0)) hX dX6_leastOfInputs_24 ha3 hk4 hc5 ?_
      refine z_astore (r := (aR M a2 (l4).toNatClampNeg)) hX [(5, va_rf (aR M a2 (l4).toNatClampNeg)), (0, va_rf (some h0)), (1, .long l1), (3, .int l3), (4, .int l4)] dX6_leastOfInputs_25 (by rw [hnL]; decide) rfl ?_
      refine z_aload (r := (aR M a2 (l4).toNatClampNeg)) hX dX6_leastOfInputs_27 0 rfl ?_
      obtain ⟨a6, ha7, h⟩ := h
      obtain ⟨hk8, h⟩ := h
      refine gf_RX6_28 (r := (aR M a2 (l4).toNatClampNeg)) hX dX6_leastOfInputs_29 ha7 hk8 ?_
      refine z_ldc2 (v := (9000000000000000000 : Int64)) hX dX6_leastOfInputs_32 kj_RX6_34 ?_
      refine z_lcmp hX dX6_leastOfInputs_35 ?_
      obtain ⟨h1, h2⟩ := h
      refine z_if_eq (tgt := 59) hX dX6_leastOfInputs_36 (by decide) (fun hc => ?_) (fun hc => ?_)
      · have h := h1 ((lg_cmp_eq _ _).mp hc)
        refine z_loc [1, 2, 3, 4] rfl ?_
        exact zb_X6_leastOfInputs_59 hX hQ hnL hR9 h
      · have h := h2 (fun q => hc ((lg_cmp_eq _ _).mpr q))
        refine z_iconst (v := (0 : Int32)) hX dX6_leastOfInputs_39 (by decide) ?_
        refine z_istore_n hX [(3, .int (0 : Int32)), (5, va_rf (aR M a2 (l4).toNatClampNeg)), (0, va_rf (some h0)), (1, .long l1), (4, .int l4)] dX6_leastOfInputs_40 rfl (by rw [hnL]; decide) rfl ?_
        refine z_aload (r := (aR M a2 (l4).toNatClampNeg)) hX dX6_leastOfInputs_41 1 rfl ?_
        refine gf_RX6_36 (r := (aR M a2 (l4).toNatClampNeg)) hX dX6_leastOfInputs_43 ha7 hk8 ?_
        obtain ⟨h1, h2⟩ := h
        refine z_if_ne (tgt := 59) hX dX6_leastOfInputs_46 (by decide) (fun hc => ?_) (fun hc => ?_)
        · have h := h1 hc
          refine z_loc [2, 3, 0, 4] rfl ?_
          exact zb_X6_leastOfInputs_59 hX hQ hnL hR9 h
        · have h := h2 hc
          refine z_lload_n hX dX6_leastOfInputs_49 rfl 3 rfl ?_
          refine z_aload (r := (aR M a2 (l4).toNatClampNeg)) hX dX6_leastOfInputs_50 1 rfl ?_
          refine gf_RX6_28 (r := (aR M a2 (l4).toNatClampNeg)) hX dX6_leastOfInputs_52 ha7 hk8 ?_
          refine mw_RX6_40 hX dX6_leastOfInputs_55 (by decide) (by decide) (by decide) (by decide) ?_
          refine z_lstore_n hX [(1, .long (if (mJ M 390 a6) < l1 then (mJ M 390 a6) else l1)), (3, .int (0 : Int32)), (5, va_rf (aR M a2 (l4).toNatClampNeg)), (0, va_rf (some h0)), (4, .int l4)] dX6_leastOfInputs_58 rfl (by rw [hnL]; decide) rfl ?_
          refine z_loc [3, 0, 1, 4] rfl ?_
          exact zb_X6_leastOfInputs_59 hX hQ hnL hR9 h
def wp_X6_leastOfInputs (M : Mm) (h0 : Nat) (K : Int64 → Mm → Prop) : Prop := (∃ kk, lp_X6_leastOfInputs_9 h0 K kk (9000000000000000000 : Int64) (1 : Int32) (0 : Int32) M)
set_option maxRecDepth 100000 in
set_option maxHeartbeats 4000000 in
theorem ct_X6_leastOfInputs {M : Mm} {h0 : Nat} {K : Int64 → Mm → Prop} (h : wp_X6_leastOfInputs M h0 K) : CtJ yX6_leastOfInputs cX6_leastOfInputs 6 (some .long) rm_X6_leastOfInputs [.ref h0] M K := by
  refine ct_any (QJ K) (by decide) (by exact Nat.le_of_ble_eq_true rfl) (fun X hX hQ hnL hnm => ?_)
  rw [show lv_args 0 [.ref h0] = [(0, va_rf (some h0))] by rfl]
  have hX : Ok X cX6_leastOfInputs RX6 rm_X6_leastOfInputs := hX
  unfold wp_X6_leastOfInputs at h
  refine z_ldc2 (v := (9000000000000000000 : Int64)) hX dX6_leastOfInputs_0 kj_RX6_34 ?_
  refine z_lstore_n hX [(1, .long (9000000000000000000 : Int64)), (0, va_rf (some h0))] dX6_leastOfInputs_3 rfl (by rw [hnL]; decide) rfl ?_
  refine z_iconst (v := (1 : Int32)) hX dX6_leastOfInputs_4 (by decide) ?_
  refine z_istore_n hX [(3, .int (1 : Int32)), (1, .long (9000000000000000000 : Int64)), (0, va_rf (some h0))] dX6_leastOfInputs_5 rfl (by rw [hnL]; decide) rfl ?_
  refine z_iconst (v := (0 : Int32)) hX dX6_leastOfInputs_6 (by decide) ?_
  refine z_istore hX [(4, .int (0 : Int32)), (3, .int (1 : Int32)), (1, .long (9000000000000000000 : Int64)), (0, va_rf (some h0))] dX6_leastOfInputs_7 (by rw [hnL]; decide) rfl ?_
  refine z_loc [3, 2, 1, 0] rfl ?_
  obtain ⟨n, h⟩ := h
  exact zl_X6_leastOfInputs_9 hX hQ hnL n _ _ _ _ h
def rm_X6_write : Room := { frames := 3, cells := 0, slots := 0, locals := 70 }
def bk_X6_write_107 (h0 : Nat) (K : Mm → Prop) (l1 : Option Nat) (M : Mm) : Prop := ∃ a3, l1 = some a3 ∧ mK M a3 = 1 ∧ (wp_X0_add M a3 (10 : Int32) (fun M2 => (K M2)))
set_option maxRecDepth 100000 in
set_option maxHeartbeats 4000000 in
theorem zb_X6_write_107 {X : Cx} {h0 : Nat} {K : Mm → Prop} (hX : Ok X cX6_write RX6 rm_X6_write) (hQ : Rq X rm_X6_write none (QV K)) (hnL : X.2.2.2.2.2.2.2.2.2.2.2.2.2.2 = 3) {l1 : Option Nat} {M : Mm} (h : bk_X6_write_107 h0 K l1 M) : Z X M 0 0 107 [(1, va_rf l1)] [] := by
  unfold bk_X6_write_107 at h
  refine z_aload_n (r := l1) hX dX6_write_107 rfl 0 rfl ?_
  refine z_bipush (v := (10 : Int32)) hX dX6_write_108 (by decide) ?_
  obtain ⟨a3, ha4, h⟩ := h
  obtain ⟨hk5, h⟩ := h
  refine z_callVV (As := [.int (10 : Int32)]) (rest := []) (ci := 0) hX (ct_X0_add h) mw_RX6_54 rfl (by decide) rfl (by rw [ha4]; rfl) (by unfold RoomC; decide) (by decide) dX6_write_110 hk5 (fun M2 h => ?_)
  exact z_vret hX hQ dX6_write_113 h
def lp_X6_write_45 (h0 : Nat) (K : Mm → Prop) : Nat → Option Nat → Int32 → Mm → Prop
  | 0, _, _, _ => False
  | n + 1, l1, l2, M => mK M h0 = 7 ∧ (((mI M 388 h0) ≤ l2 → ∃ a10, l1 = some a10 ∧ mK M a10 = 1 ∧ (wp_X0_addTime M a10 (mJ M 390 h0) (fun M9 => mK M9 h0 = 7 ∧ (((mI M9 391 h0) = 0 → (bk_X6_write_107 h0 K l1 M9)) ∧ (¬ (mI M9 391 h0) = 0 → mK M9 a10 = 1 ∧ (wp_X0_add M9 a10 (32 : Int32) (fun M16 => mK M16 a10 = 1 ∧ (wp_X0_addWord M16 a10 (1768189029 : Int64) (fun M20 => (bk_X6_write_107 h0 K l1 M20)))))))))) ∧ (¬ (mI M 388 h0) ≤ l2 → ∃ a23, (mR M 387 h0) = some a23 ∧ isA M a23 4 ∧ vp_in l2 (aN M a23) ∧ ∃ a27, (aR M a23 (l2).toNatClampNeg) = some a27 ∧ mK M a27 = 7 ∧ ∃ a32, l1 = some a32 ∧ mK M a32 = 1 ∧ (wp_X0_addNumber M a32 (((mI M 384 a27)).toInt64) (fun M31 => mK M31 a32 = 1 ∧ (wp_X0_add M31 a32 (32 : Int32) (fun M37 => ((lp_X6_write_45 h0 K n) l1 (l2 + 1) M37)))))))
set_option maxRecDepth 100000 in
set_option maxHeartbeats 4000000 in
theorem zl_X6_write_45 {X : Cx} {h0 : Nat} {K : Mm → Prop} (hX : Ok X cX6_write RX6 rm_X6_write) (hQ : Rq X rm_X6_write none (QV K)) (hnL : X.2.2.2.2.2.2.2.2.2.2.2.2.2.2 = 3) : ∀ (n : Nat) (l1 : Option Nat) (l2 : Int32) (M : Mm), lp_X6_write_45 h0 K n l1 l2 M → Z X M 0 0 45 [(0, va_rf (some h0)), (1, va_rf l1), (2, .int l2)] [] := by
  intro n
  induction n with
  | zero =>
    intro l1 l2 M h
    exact False.elim h
  | succ n hR45 =>
    intro l1 l2 M h
    refine z_iload_n hX dX6_write_45 rfl 2 rfl ?_
    refine z_aload_n (r := (some h0)) hX dX6_write_46 rfl 0 rfl ?_
    obtain ⟨hk7, h⟩ := h
    refine gf_RX6_31 (r := (some h0)) hX dX6_write_47 rfl hk7 ?_
    obtain ⟨h1, h2⟩ := h
    refine z_icmp_ge (tgt := 79) hX dX6_write_50 (by decide) (fun hc => ?_) (fun hc => ?_)
    · have h := h1 hc
      refine z_aload_n (r := l1) hX dX6_write_79 rfl 1 rfl ?_
      refine z_aload_n (r := (some h0)) hX dX6_write_80 rfl 0 rfl ?_
      refine gf_RX6_28 (r := (some h0)) hX dX6_write_81 rfl hk7 ?_
      obtain ⟨a10, ha11, h⟩ := h
      obtain ⟨hk12, h⟩ := h
      refine z_callVV (As := [.long (mJ M 390 h0)]) (rest := []) (ci := 0) hX (ct_X0_addTime h) mw_RX6_61 rfl (by decide) rfl (by rw [ha11]; rfl) (by unfold RoomC; decide) (by decide) dX6_write_84 hk12 (fun M9 h => ?_)
      refine z_aload_n (r := (some h0)) hX dX6_write_87 rfl 0 rfl ?_
      obtain ⟨hk14, h⟩ := h
      refine gf_RX6_36 (r := (some h0)) hX dX6_write_88 rfl hk14 ?_
      obtain ⟨h1, h2⟩ := h
      refine z_if_eq (tgt := 107) hX dX6_write_91 (by decide) (fun hc => ?_) (fun hc => ?_)
      · have h := h1 hc
        refine z_loc [1] rfl ?_
        exact zb_X6_write_107 hX hQ hnL h
      · have h := h2 hc
        refine z_aload_n (r := l1) hX dX6_write_94 rfl 1 rfl ?_
        refine z_bipush (v := (32 : Int32)) hX dX6_write_95 (by decide) ?_
        obtain ⟨hk17, h⟩ := h
        refine z_callVV (As := [.int (32 : Int32)]) (rest := []) (ci := 0) hX (ct_X0_add h) mw_RX6_54 rfl (by decide) rfl (by rw [ha11]; rfl) (by unfold RoomC; decide) (by decide) dX6_write_97 hk17 (fun M16 h => ?_)
        refine z_aload_n (r := l1) hX dX6_write_100 rfl 1 rfl ?_
        refine z_ldc2 (v := (1768189029 : Int64)) hX dX6_write_101 kj_RX6_64 ?_
        obtain ⟨hk21, h⟩ := h
        refine z_callVV (As := [.long (1768189029 : Int64)]) (rest := []) (ci := 0) hX (ct_X0_addWord h) mw_RX6_58 rfl (by decide) rfl (by rw [ha11]; rfl) (by unfold RoomC; decide) (by decide) dX6_write_104 hk21 (fun M20 h => ?_)
        refine z_loc [1] rfl ?_
        exact zb_X6_write_107 hX hQ hnL h
    · have h := h2 hc
      refine z_aload_n (r := l1) hX dX6_write_53 rfl 1 rfl ?_
      refine z_aload_n (r := (some h0)) hX dX6_write_54 rfl 0 rfl ?_
      refine gf_RX6_22 (r := (some h0)) hX dX6_write_55 rfl hk7 ?_
      refine z_iload_n hX dX6_write_58 rfl 2 rfl ?_
      obtain ⟨a23, ha24, h⟩ := h
      obtain ⟨hk25, h⟩ := h
      obtain ⟨hc26, h⟩ := h
      refine y_aldq (r := (mR M 387 h0)) hX dX6_write_59 ha24 hk25 hc26 ?_
      obtain ⟨a27, ha28, h⟩ := h
      obtain ⟨hk29, h⟩ := h
      refine gf_RX6_9 (r := (aR M a23 (l2).toNatClampNeg)) hX dX6_write_60 ha28 hk29 ?_
      refine z_i2l hX dX6_write_63 ?_
      obtain ⟨a32, ha33, h⟩ := h
      obtain ⟨hk34, h⟩ := h
      refine z_callVV (As := [.long (((mI M 384 a27)).toInt64)]) (rest := []) (ci := 0) hX (ct_X0_addNumber h) mw_RX6_48 rfl (by decide) rfl (by rw [ha33]; rfl) (by unfold RoomC; decide) (by decide) dX6_write_64 hk34 (fun M31 h => ?_)
      refine z_aload_n (r := l1) hX dX6_write_67 rfl 1 rfl ?_
      refine z_bipush (v := (32 : Int32)) hX dX6_write_68 (by decide) ?_
      obtain ⟨hk38, h⟩ := h
      refine z_callVV (As := [.int (32 : Int32)]) (rest := []) (ci := 0) hX (ct_X0_add h) mw_RX6_54 rfl (by decide) rfl (by rw [ha33]; rfl) (by unfold RoomC; decide) (by decide) dX6_write_70 hk38 (fun M37 h => ?_)
      refine z_iinc (v := (l2 + 1)) hX [(2, .int (l2 + 1)), (0, va_rf (some h0)), (1, va_rf l1)] dX6_write_73 2 rfl rfl (by rw [hnL]; decide) (by simp [cat_rf]) ?_
      refine z_goto (tgt := 45) hX dX6_write_76 (by decide) ?_
      refine z_loc [1, 2, 0] rfl ?_
      exact hR45 _ _ _ h
def wp_X6_write (M : Mm) (h0 : Nat) (p1 : Option Nat) (K : Mm → Prop) : Prop := mK M h0 = 7 ∧ ∃ a43, p1 = some a43 ∧ mK M a43 = 1 ∧ (wp_X0_addNumber M a43 (((mI M 384 h0)).toInt64) (fun M42 => mK M42 a43 = 1 ∧ (wp_X0_add M42 a43 (32 : Int32) (fun M48 => mK M48 h0 = 7 ∧ mK M48 a43 = 1 ∧ (wp_X0_addWord M48 a43 (mJ M48 385 h0) (fun M53 => mK M53 a43 = 1 ∧ (wp_X0_add M53 a43 (32 : Int32) (fun M57 => mK M57 h0 = 7 ∧ mK M57 a43 = 1 ∧ (wp_X0_addWord M57 a43 (mJ M57 386 h0) (fun M62 => mK M62 a43 = 1 ∧ (wp_X0_add M62 a43 (32 : Int32) (fun M66 => (∃ kk, lp_X6_write_45 h0 K kk p1 (0 : Int32) M66)))))))))))))
set_option maxRecDepth 100000 in
set_option maxHeartbeats 4000000 in
theorem ct_X6_write {M : Mm} {h0 : Nat} {p1 : Option Nat} {K : Mm → Prop} (h : wp_X6_write M h0 p1 K) : CtV yX6_write cX6_write 3 none rm_X6_write [.ref h0, va_rf p1] M K := by
  refine ct_any (QV K) (by decide) (by cases p1 <;> exact Nat.le_of_ble_eq_true rfl) (fun X hX hQ hnL hnm => ?_)
  rw [show lv_args 0 [.ref h0, va_rf p1] = [(0, va_rf (some h0)), (1, va_rf p1)] by cases p1 <;> rfl]
  have hX : Ok X cX6_write RX6 rm_X6_write := hX
  unfold wp_X6_write at h
  refine z_aload_n (r := p1) hX dX6_write_0 rfl 1 rfl ?_
  refine z_aload_n (r := (some h0)) hX dX6_write_1 rfl 0 rfl ?_
  obtain ⟨hk40, h⟩ := h
  refine gf_RX6_9 (r := (some h0)) hX dX6_write_2 rfl hk40 ?_
  refine z_i2l hX dX6_write_5 ?_
  obtain ⟨a43, ha44, h⟩ := h
  obtain ⟨hk45, h⟩ := h
  refine z_callVV (As := [.long (((mI M 384 h0)).toInt64)]) (rest := []) (ci := 0) hX (ct_X0_addNumber h) mw_RX6_48 rfl (by decide) rfl (by rw [ha44]; rfl) (by unfold RoomC; decide) (by decide) dX6_write_6 hk45 (fun M42 h => ?_)
  refine z_aload_n (r := p1) hX dX6_write_9 rfl 1 rfl ?_
  refine z_bipush (v := (32 : Int32)) hX dX6_write_10 (by decide) ?_
  obtain ⟨hk49, h⟩ := h
  refine z_callVV (As := [.int (32 : Int32)]) (rest := []) (ci := 0) hX (ct_X0_add h) mw_RX6_54 rfl (by decide) rfl (by rw [ha44]; rfl) (by unfold RoomC; decide) (by decide) dX6_write_12 hk49 (fun M48 h => ?_)
  refine z_aload_n (r := p1) hX dX6_write_15 rfl 1 rfl ?_
  refine z_aload_n (r := (some h0)) hX dX6_write_16 rfl 0 rfl ?_
  obtain ⟨hk51, h⟩ := h
  refine gf_RX6_15 (r := (some h0)) hX dX6_write_17 rfl hk51 ?_
  obtain ⟨hk54, h⟩ := h
  refine z_callVV (As := [.long (mJ M48 385 h0)]) (rest := []) (ci := 0) hX (ct_X0_addWord h) mw_RX6_58 rfl (by decide) rfl (by rw [ha44]; rfl) (by unfold RoomC; decide) (by decide) dX6_write_20 hk54 (fun M53 h => ?_)
  refine z_aload_n (r := p1) hX dX6_write_23 rfl 1 rfl ?_
  refine z_bipush (v := (32 : Int32)) hX dX6_write_24 (by decide) ?_
  obtain ⟨hk58, h⟩ := h
  refine z_callVV (As := [.int (32 : Int32)]) (rest := []) (ci := 0) hX (ct_X0_add h) mw_RX6_54 rfl (by decide) rfl (by rw [ha44]; rfl) (by unfold RoomC; decide) (by decide) dX6_write_26 hk58 (fun M57 h => ?_)
  refine z_aload_n (r := p1) hX dX6_write_29 rfl 1 rfl ?_
  refine z_aload_n (r := (some h0)) hX dX6_write_30 rfl 0 rfl ?_
  obtain ⟨hk60, h⟩ := h
  refine gf_RX6_19 (r := (some h0)) hX dX6_write_31 rfl hk60 ?_
  obtain ⟨hk63, h⟩ := h
  refine z_callVV (As := [.long (mJ M57 386 h0)]) (rest := []) (ci := 0) hX (ct_X0_addWord h) mw_RX6_58 rfl (by decide) rfl (by rw [ha44]; rfl) (by unfold RoomC; decide) (by decide) dX6_write_34 hk63 (fun M62 h => ?_)
  refine z_aload_n (r := p1) hX dX6_write_37 rfl 1 rfl ?_
  refine z_bipush (v := (32 : Int32)) hX dX6_write_38 (by decide) ?_
  obtain ⟨hk67, h⟩ := h
  refine z_callVV (As := [.int (32 : Int32)]) (rest := []) (ci := 0) hX (ct_X0_add h) mw_RX6_54 rfl (by decide) rfl (by rw [ha44]; rfl) (by unfold RoomC; decide) (by decide) dX6_write_40 hk67 (fun M66 h => ?_)
  refine z_iconst (v := (0 : Int32)) hX dX6_write_43 (by decide) ?_
  refine z_istore_n (i := 2) hX [(2, .int (0 : Int32)), (0, va_rf (some h0)), (1, va_rf p1)] dX6_write_44 rfl (by rw [hnL]; decide) (by simp [cat_rf]) ?_
  refine z_loc [1, 2, 0] rfl ?_
  obtain ⟨n, h⟩ := h
  exact zl_X6_write_45 hX hQ hnL n _ _ _ h
def rm_X7_init : Room := { frames := 1, cells := 0, slots := 0, locals := 20 }
def wp_X7_init (M : Mm) (h0 : Nat) (p1 : Option Nat) (p2 : Option Nat) (K : Mm → Prop) : Prop := mK M h0 = 8 ∧ (K (sR (sR M 448 h0 p1) 449 h0 p2))
set_option maxRecDepth 100000 in
set_option maxHeartbeats 4000000 in
theorem ct_X7_init {M : Mm} {h0 : Nat} {p1 : Option Nat} {p2 : Option Nat} {K : Mm → Prop} (h : wp_X7_init M h0 p1 p2 K) : CtV yX7_init cX7_init 3 none rm_X7_init [.ref h0, va_rf p1, va_rf p2] M K := by
  refine ct_any (QV K) (by decide) (by cases p1 <;> cases p2 <;> exact Nat.le_of_ble_eq_true rfl) (fun X hX hQ hnL hnm => ?_)
  rw [show lv_args 0 [.ref h0, va_rf p1, va_rf p2] = [(0, va_rf (some h0)), (1, va_rf p1), (2, va_rf p2)] by cases p1 <;> cases p2 <;> rfl]
  have hX : Ok X cX7_init RX7 rm_X7_init := hX
  unfold wp_X7_init at h
  refine z_aload_n (r := (some h0)) hX dX7_init_0 rfl 0 rfl ?_
  refine mw_RX7_3 (a := h0) hX dX7_init_1 (by decide) (by decide) ?_
  refine z_aload_n (r := (some h0)) hX dX7_init_4 rfl 0 rfl ?_
  refine z_aload_n (r := p1) hX dX7_init_5 rfl 1 rfl ?_
  obtain ⟨hk1, h⟩ := h
  refine pf_RX7_9 (r := (some h0)) (v := p1) hX hnm dX7_init_6 rfl hk1 ?_
  refine z_aload_n (r := (some h0)) hX dX7_init_9 rfl 0 rfl ?_
  refine z_aload_n (r := p2) hX dX7_init_10 rfl 2 rfl ?_
  refine pf_RX7_15 (r := (some h0)) (v := p2) hX hnm dX7_init_11 rfl hk1 ?_
  exact z_vret hX hQ dX7_init_14 h
def rm_X7_isKeyword : Room := { frames := 0, cells := 0, slots := 0, locals := 0 }
def bk_X7_isKeyword_28 (h0 : Nat) (K : Int32 → Mm → Prop) (s0 : Int32) (M : Mm) : Prop := (bz s0 ∧ K s0 M)
set_option maxRecDepth 100000 in
set_option maxHeartbeats 4000000 in
theorem zb_X7_isKeyword_28 {X : Cx} {h0 : Nat} {K : Int32 → Mm → Prop} (hX : Ok X cX7_isKeyword RX7 rm_X7_isKeyword) (hQ : Rq X rm_X7_isKeyword (some .boolean) (QI K)) (hnL : X.2.2.2.2.2.2.2.2.2.2.2.2.2.2 = 3) {s0 : Int32} {M : Mm} (h : bk_X7_isKeyword_28 h0 K s0 M) : Z X M 0 0 28 [] [.int s0] := by
  unfold bk_X7_isKeyword_28 at h
  exact y_zret hX hQ dX7_isKeyword_28 h.1 h.2
def bk_X7_isKeyword_27 (h0 : Nat) (K : Int32 → Mm → Prop) (M : Mm) : Prop := (bk_X7_isKeyword_28 h0 K (0 : Int32) M)
set_option maxRecDepth 100000 in
set_option maxHeartbeats 4000000 in
theorem zb_X7_isKeyword_27 {X : Cx} {h0 : Nat} {K : Int32 → Mm → Prop} (hX : Ok X cX7_isKeyword RX7 rm_X7_isKeyword) (hQ : Rq X rm_X7_isKeyword (some .boolean) (QI K)) (hnL : X.2.2.2.2.2.2.2.2.2.2.2.2.2.2 = 3) {M : Mm} (h : bk_X7_isKeyword_27 h0 K M) : Z X M 0 0 27 [] [] := by
  unfold bk_X7_isKeyword_27 at h
  refine z_iconst (v := (0 : Int32)) hX dX7_isKeyword_27 (by decide) ?_
  exact zb_X7_isKeyword_28 hX hQ hnL h
def wp_X7_isKeyword (M : Mm) (h0 : Nat) (p1 : Int64) (K : Int32 → Mm → Prop) : Prop := mK M h0 = 8 ∧ ∃ a2, (mR M 448 h0) = some a2 ∧ mK M a2 = 5 ∧ ((¬ (mI M 258 a2) = (2 : Int32) → (bk_X7_isKeyword_27 h0 K M)) ∧ ((mI M 258 a2) = (2 : Int32) → ((¬ (mJ M 260 a2) = p1 → (bk_X7_isKeyword_27 h0 K M)) ∧ ((mJ M 260 a2) = p1 → (bk_X7_isKeyword_28 h0 K (1 : Int32) M)))))
set_option maxRecDepth 100000 in
set_option maxHeartbeats 4000000 in
theorem ct_X7_isKeyword {M : Mm} {h0 : Nat} {p1 : Int64} {K : Int32 → Mm → Prop} (h : wp_X7_isKeyword M h0 p1 K) : CtI yX7_isKeyword cX7_isKeyword 3 (some .boolean) rm_X7_isKeyword [.ref h0, .long p1] M K := by
  refine ct_any (QI K) (by decide) (by exact Nat.le_of_ble_eq_true rfl) (fun X hX hQ hnL hnm => ?_)
  rw [show lv_args 0 [.ref h0, .long p1] = [(0, va_rf (some h0)), (1, .long p1)] by rfl]
  have hX : Ok X cX7_isKeyword RX7 rm_X7_isKeyword := hX
  unfold wp_X7_isKeyword at h
  refine z_aload_n (r := (some h0)) hX dX7_isKeyword_0 rfl 0 rfl ?_
  obtain ⟨hk1, h⟩ := h
  refine gf_RX7_9 (r := (some h0)) hX dX7_isKeyword_1 rfl hk1 ?_
  obtain ⟨a2, ha3, h⟩ := h
  obtain ⟨hk4, h⟩ := h
  refine gf_RX7_24 (r := (mR M 448 h0)) hX dX7_isKeyword_4 ha3 hk4 ?_
  refine z_iconst (v := (2 : Int32)) hX dX7_isKeyword_7 (by decide) ?_
  obtain ⟨h1, h2⟩ := h
  refine z_icmp_ne (tgt := 27) hX dX7_isKeyword_8 (by decide) (fun hc => ?_) (fun hc => ?_)
  · have h := h1 hc
    refine z_loc [] rfl ?_
    exact zb_X7_isKeyword_27 hX hQ hnL h
  · have h := h2 hc
    refine z_aload_n (r := (some h0)) hX dX7_isKeyword_11 rfl 0 rfl ?_
    refine gf_RX7_9 (r := (some h0)) hX dX7_isKeyword_12 rfl hk1 ?_
    refine gf_RX7_81 (r := (mR M 448 h0)) hX dX7_isKeyword_15 ha3 hk4 ?_
    refine z_lload_n hX dX7_isKeyword_18 rfl 1 rfl ?_
    refine z_lcmp hX dX7_isKeyword_19 ?_
    obtain ⟨h1, h2⟩ := h
    refine z_if_ne (tgt := 27) hX dX7_isKeyword_20 (by decide) (fun hc => ?_) (fun hc => ?_)
    · have h := h1 (fun q => hc ((lg_cmp_eq _ _).mpr q))
      refine z_loc [] rfl ?_
      exact zb_X7_isKeyword_27 hX hQ hnL h
    · have h := h2 ((lg_cmp_eq _ _).mp hc)
      refine z_iconst (v := (1 : Int32)) hX dX7_isKeyword_23 (by decide) ?_
      refine z_goto (tgt := 28) hX dX7_isKeyword_24 (by decide) ?_
      refine z_loc [] rfl ?_
      exact zb_X7_isKeyword_28 hX hQ hnL h
def rm_X7_isSign : Room := { frames := 0, cells := 0, slots := 0, locals := 0 }
def bk_X7_isSign_29 (h0 : Nat) (K : Int32 → Mm → Prop) (s0 : Int32) (M : Mm) : Prop := (bz s0 ∧ K s0 M)
set_option maxRecDepth 100000 in
set_option maxHeartbeats 4000000 in
theorem zb_X7_isSign_29 {X : Cx} {h0 : Nat} {K : Int32 → Mm → Prop} (hX : Ok X cX7_isSign RX7 rm_X7_isSign) (hQ : Rq X rm_X7_isSign (some .boolean) (QI K)) (hnL : X.2.2.2.2.2.2.2.2.2.2.2.2.2.2 = 2) {s0 : Int32} {M : Mm} (h : bk_X7_isSign_29 h0 K s0 M) : Z X M 0 0 29 [] [.int s0] := by
  unfold bk_X7_isSign_29 at h
  exact y_zret hX hQ dX7_isSign_29 h.1 h.2
def bk_X7_isSign_28 (h0 : Nat) (K : Int32 → Mm → Prop) (M : Mm) : Prop := (bk_X7_isSign_29 h0 K (0 : Int32) M)
set_option maxRecDepth 100000 in
set_option maxHeartbeats 4000000 in
theorem zb_X7_isSign_28 {X : Cx} {h0 : Nat} {K : Int32 → Mm → Prop} (hX : Ok X cX7_isSign RX7 rm_X7_isSign) (hQ : Rq X rm_X7_isSign (some .boolean) (QI K)) (hnL : X.2.2.2.2.2.2.2.2.2.2.2.2.2.2 = 2) {M : Mm} (h : bk_X7_isSign_28 h0 K M) : Z X M 0 0 28 [] [] := by
  unfold bk_X7_isSign_28 at h
  refine z_iconst (v := (0 : Int32)) hX dX7_isSign_28 (by decide) ?_
  exact zb_X7_isSign_29 hX hQ hnL h
def wp_X7_isSign (M : Mm) (h0 : Nat) (p1 : Int32) (K : Int32 → Mm → Prop) : Prop := mK M h0 = 8 ∧ ∃ a2, (mR M 448 h0) = some a2 ∧ mK M a2 = 5 ∧ ((¬ (mI M 258 a2) = (5 : Int32) → (bk_X7_isSign_28 h0 K M)) ∧ ((mI M 258 a2) = (5 : Int32) → ((¬ (mJ M 260 a2) = ((p1).toInt64) → (bk_X7_isSign_28 h0 K M)) ∧ ((mJ M 260 a2) = ((p1).toInt64) → (bk_X7_isSign_29 h0 K (1 : Int32) M)))))
set_option maxRecDepth 100000 in
set_option maxHeartbeats 4000000 in
theorem ct_X7_isSign {M : Mm} {h0 : Nat} {p1 : Int32} {K : Int32 → Mm → Prop} (h : wp_X7_isSign M h0 p1 K) : CtI yX7_isSign cX7_isSign 2 (some .boolean) rm_X7_isSign [.ref h0, .int p1] M K := by
  refine ct_any (QI K) (by decide) (by exact Nat.le_of_ble_eq_true rfl) (fun X hX hQ hnL hnm => ?_)
  rw [show lv_args 0 [.ref h0, .int p1] = [(0, va_rf (some h0)), (1, .int p1)] by rfl]
  have hX : Ok X cX7_isSign RX7 rm_X7_isSign := hX
  unfold wp_X7_isSign at h
  refine z_aload_n (r := (some h0)) hX dX7_isSign_0 rfl 0 rfl ?_
  obtain ⟨hk1, h⟩ := h
  refine gf_RX7_9 (r := (some h0)) hX dX7_isSign_1 rfl hk1 ?_
  obtain ⟨a2, ha3, h⟩ := h
  obtain ⟨hk4, h⟩ := h
  refine gf_RX7_24 (r := (mR M 448 h0)) hX dX7_isSign_4 ha3 hk4 ?_
  refine z_iconst (v := (5 : Int32)) hX dX7_isSign_7 (by decide) ?_
  obtain ⟨h1, h2⟩ := h
  refine z_icmp_ne (tgt := 28) hX dX7_isSign_8 (by decide) (fun hc => ?_) (fun hc => ?_)
  · have h := h1 hc
    refine z_loc [] rfl ?_
    exact zb_X7_isSign_28 hX hQ hnL h
  · have h := h2 hc
    refine z_aload_n (r := (some h0)) hX dX7_isSign_11 rfl 0 rfl ?_
    refine gf_RX7_9 (r := (some h0)) hX dX7_isSign_12 rfl hk1 ?_
    refine gf_RX7_81 (r := (mR M 448 h0)) hX dX7_isSign_15 ha3 hk4 ?_
    refine z_iload_n hX dX7_isSign_18 rfl 1 rfl ?_
    refine z_i2l hX dX7_isSign_19 ?_
    refine z_lcmp hX dX7_isSign_20 ?_
    obtain ⟨h1, h2⟩ := h
    refine z_if_ne (tgt := 28) hX dX7_isSign_21 (by decide) (fun hc => ?_) (fun hc => ?_)
    · have h := h1 (fun q => hc ((lg_cmp_eq _ _).mpr q))
      refine z_loc [] rfl ?_
      exact zb_X7_isSign_28 hX hQ hnL h
    · have h := h2 ((lg_cmp_eq _ _).mp hc)
      refine z_iconst (v := (1 : Int32)) hX dX7_isSign_24 (by decide) ?_
      refine z_goto (tgt := 29) hX dX7_isSign_25 (by decide) ?_
      refine z_loc [] rfl ?_
      exact zb_X7_isSign_29 hX hQ hnL h
def rm_X7_refuse : Room := { frames := 0, cells := 0, slots := 0, locals := 0 }
def wp_X7_refuse (M : Mm) (h0 : Nat) (p1 : Int32) (K : Int32 → Mm → Prop) : Prop := mK M h0 = 8 ∧ ∃ a3, (mR (sI M 450 h0 p1) 448 h0) = some a3 ∧ mK (sI M 450 h0 p1) a3 = 5 ∧ (K (0 : Int32) (sI (sI M 450 h0 p1) 451 h0 (mI (sI M 450 h0 p1) 259 a3)))
set_option maxRecDepth 100000 in
set_option maxHeartbeats 4000000 in
theorem ct_X7_refuse {M : Mm} {h0 : Nat} {p1 : Int32} {K : Int32 → Mm → Prop} (h : wp_X7_refuse M h0 p1 K) : CtI yX7_refuse cX7_refuse 2 (some .boolean) rm_X7_refuse [.ref h0, .int p1] M K := by
  refine ct_any (QI K) (by decide) (by exact Nat.le_of_ble_eq_true rfl) (fun X hX hQ hnL hnm => ?_)
  rw [show lv_args 0 [.ref h0, .int p1] = [(0, va_rf (some h0)), (1, .int p1)] by rfl]
  have hX : Ok X cX7_refuse RX7 rm_X7_refuse := hX
  unfold wp_X7_refuse at h
  refine z_aload_n (r := (some h0)) hX dX7_refuse_0 rfl 0 rfl ?_
  refine z_iload_n hX dX7_refuse_1 rfl 1 rfl ?_
  obtain ⟨hk1, h⟩ := h
  refine pf_RX7_211 (r := (some h0)) (v := p1) hX dX7_refuse_2 rfl hk1 ?_
  refine z_aload_n (r := (some h0)) hX dX7_refuse_5 rfl 0 rfl ?_
  refine z_aload_n (r := (some h0)) hX dX7_refuse_6 rfl 0 rfl ?_
  refine gf_RX7_9 (r := (some h0)) hX dX7_refuse_7 rfl hk1 ?_
  obtain ⟨a3, ha4, h⟩ := h
  obtain ⟨hk5, h⟩ := h
  refine gf_RX7_214 (r := (mR (sI M 450 h0 p1) 448 h0)) hX dX7_refuse_10 ha4 hk5 ?_
  refine pf_RX7_217 (r := (some h0)) (v := (mI (sI M 450 h0 p1) 259 a3)) hX dX7_refuse_13 rfl hk1 ?_
  refine z_iconst (v := (0 : Int32)) hX dX7_refuse_16 (by decide) ?_
  exact y_zret hX hQ dX7_refuse_17 (Or.inl rfl) h
def rm_X8_init : Room := { frames := 1, cells := 3, slots := 180, locals := 20 }
def wp_X8_init (M : Mm) (h0 : Nat) (K : Mm → Prop) : Prop := (∀ q1, mK M q1 = 0 → mK (na M q1 73 60) h0 = 9 ∧ (∀ q6, mK (sR (na M q1 73 60) 512 h0 (some q1)) q6 = 0 → mK (na (sR (na M q1 73 60) 512 h0 (some q1)) q6 82 60) h0 = 9 ∧ (∀ q11, mK (sR (na (sR (na M q1 73 60) 512 h0 (some q1)) q6 82 60) 513 h0 (some q6)) q11 = 0 → mK (na (sR (na (sR (na M q1 73 60) 512 h0 (some q1)) q6 82 60) 513 h0 (some q6)) q11 91 60) h0 = 9 ∧ (K (sR (na (sR (na (sR (na M q1 73 60) 512 h0 (some q1)) q6 82 60) 513 h0 (some q6)) q11 91 60) 514 h0 (some q11))))))
set_option maxRecDepth 100000 in
set_option maxHeartbeats 4000000 in
theorem ct_X8_init {M : Mm} {h0 : Nat} {K : Mm → Prop} (h : wp_X8_init M h0 K) : CtV yX8_init cX8_init 1 none rm_X8_init [.ref h0] M K := by
  refine ct_any (QV K) (by decide) (by exact Nat.le_of_ble_eq_true rfl) (fun X hX hQ hnL hnm => ?_)
  rw [show lv_args 0 [.ref h0] = [(0, va_rf (some h0))] by rfl]
  have hX : Ok X cX8_init RX8 rm_X8_init := hX
  unfold wp_X8_init at h
  refine z_aload_n (r := (some h0)) hX dX8_init_0 rfl 0 rfl ?_
  refine mw_RX8_3 (a := h0) hX dX8_init_1 (by decide) (by decide) ?_
  refine z_aload_n (r := (some h0)) hX dX8_init_4 rfl 0 rfl ?_
  refine z_bipush (v := (60 : Int32)) hX dX8_init_5 (by decide) ?_
  refine y_newa_int (n := 60) hX 73 (by decide) (by decide) (by decide) (by decide) (by decide) dX8_init_7 (by decide) (by decide) (fun q1 hq2 => ?_)
  have h := h q1 hq2
  obtain ⟨hk4, h⟩ := h
  refine pf_RX8_9 (r := (some h0)) (v := (some q1)) hX hnm dX8_init_9 rfl hk4 ?_
  refine z_aload_n (r := (some h0)) hX dX8_init_12 rfl 0 rfl ?_
  refine z_bipush (v := (60 : Int32)) hX dX8_init_13 (by decide) ?_
  refine y_newa_long (n := 60) hX 82 (by decide) (by decide) (by decide) (by decide) (by decide) dX8_init_15 (by decide) (by decide) (fun q6 hq7 => ?_)
  have h := h q6 hq7
  obtain ⟨hk9, h⟩ := h
  refine pf_RX8_15 (r := (some h0)) (v := (some q6)) hX hnm dX8_init_17 rfl hk9 ?_
  refine z_aload_n (r := (some h0)) hX dX8_init_20 rfl 0 rfl ?_
  refine z_bipush (v := (60 : Int32)) hX dX8_init_21 (by decide) ?_
  refine y_newa_boolean (n := 60) hX 91 (by decide) (by decide) (by decide) (by decide) (by decide) dX8_init_23 (by decide) (by decide) (fun q11 hq12 => ?_)
  have h := h q11 hq12
  obtain ⟨hk14, h⟩ := h
  refine pf_RX8_19 (r := (some h0)) (v := (some q11)) hX hnm dX8_init_25 rfl hk14 ?_
  refine z_widen 3 180 (by decide) (by decide) ?_
  exact z_vret hX hQ dX8_init_28 h
def rm_X8_give : Room := { frames := 0, cells := 0, slots := 0, locals := 0 }
def wp_X8_give (M : Mm) (h0 : Nat) (p1 : Int32) (p2 : Int64) (K : Int32 → Mm → Prop) : Prop := mK M h0 = 9 ∧ (((mI M 515 h0) < (60 : Int32) → ∃ a2, (mR M 512 h0) = some a2 ∧ isA M a2 1 ∧ vp_in (mI M 515 h0) (aN M a2) ∧ ∃ a6, (mR (tI M a2 ((mI M 515 h0)).toNatClampNeg p1) 513 h0) = some a6 ∧ isA (tI M a2 ((mI M 515 h0)).toNatClampNeg p1) a6 2 ∧ vp_in (mI (tI M a2 ((mI M 515 h0)).toNatClampNeg p1) 515 h0) (aN (tI M a2 ((mI M 515 h0)).toNatClampNeg p1) a6) ∧ ∃ a10, (mR (tJ (tI M a2 ((mI M 515 h0)).toNatClampNeg p1) a6 ((mI (tI M a2 ((mI M 515 h0)).toNatClampNeg p1) 515 h0)).toNatClampNeg p2) 514 h0) = some a10 ∧ isA (tJ (tI M a2 ((mI M 515 h0)).toNatClampNeg p1) a6 ((mI (tI M a2 ((mI M 515 h0)).toNatClampNeg p1) 515 h0)).toNatClampNeg p2) a10 3 ∧ vp_in (mI (tJ (tI M a2 ((mI M 515 h0)).toNatClampNeg p1) a6 ((mI (tI M a2 ((mI M 515 h0)).toNatClampNeg p1) 515 h0)).toNatClampNeg p2) 515 h0) (aN (tJ (tI M a2 ((mI M 515 h0)).toNatClampNeg p1) a6 ((mI (tI M a2 ((mI M 515 h0)).toNatClampNeg p1) 515 h0)).toNatClampNeg p2) a10) ∧ (K ((mI (sI (tI (tJ (tI M a2 ((mI M 515 h0)).toNatClampNeg p1) a6 ((mI (tI M a2 ((mI M 515 h0)).toNatClampNeg p1) 515 h0)).toNatClampNeg p2) a10 ((mI (tJ (tI M a2 ((mI M 515 h0)).toNatClampNeg p1) a6 ((mI (tI M a2 ((mI M 515 h0)).toNatClampNeg p1) 515 h0)).toNatClampNeg p2) 515 h0)).toNatClampNeg (1 : Int32)) 515 h0 ((mI (tI (tJ (tI M a2 ((mI M 515 h0)).toNatClampNeg p1) a6 ((mI (tI M a2 ((mI M 515 h0)).toNatClampNeg p1) 515 h0)).toNatClampNeg p2) a10 ((mI (tJ (tI M a2 ((mI M 515 h0)).toNatClampNeg p1) a6 ((mI (tI M a2 ((mI M 515 h0)).toNatClampNeg p1) 515 h0)).toNatClampNeg p2) 515 h0)).toNatClampNeg (1 : Int32)) 515 h0) + (1 : Int32))) 515 h0) - (1 : Int32)) (sI (tI (tJ (tI M a2 ((mI M 515 h0)).toNatClampNeg p1) a6 ((mI (tI M a2 ((mI M 515 h0)).toNatClampNeg p1) 515 h0)).toNatClampNeg p2) a10 ((mI (tJ (tI M a2 ((mI M 515 h0)).toNatClampNeg p1) a6 ((mI (tI M a2 ((mI M 515 h0)).toNatClampNeg p1) 515 h0)).toNatClampNeg p2) 515 h0)).toNatClampNeg (1 : Int32)) 515 h0 ((mI (tI (tJ (tI M a2 ((mI M 515 h0)).toNatClampNeg p1) a6 ((mI (tI M a2 ((mI M 515 h0)).toNatClampNeg p1) 515 h0)).toNatClampNeg p2) a10 ((mI (tJ (tI M a2 ((mI M 515 h0)).toNatClampNeg p1) a6 ((mI (tI M a2 ((mI M 515 h0)).toNatClampNeg p1) 515 h0)).toNatClampNeg p2) 515 h0)).toNatClampNeg (1 : Int32)) 515 h0) + (1 : Int32))))) ∧ (¬ (mI M 515 h0) < (60 : Int32) → (K (-4 : Int32) M)))
set_option maxRecDepth 100000 in
set_option maxHeartbeats 4000000 in
theorem ct_X8_give {M : Mm} {h0 : Nat} {p1 : Int32} {p2 : Int64} {K : Int32 → Mm → Prop} (h : wp_X8_give M h0 p1 p2 K) : CtI yX8_give cX8_give 4 (some .int) rm_X8_give [.ref h0, .int p1, .long p2] M K := by
  refine ct_any (QI K) (by decide) (by exact Nat.le_of_ble_eq_true rfl) (fun X hX hQ hnL hnm => ?_)
  rw [show lv_args 0 [.ref h0, .int p1, .long p2] = [(0, va_rf (some h0)), (1, .int p1), (2, .long p2)] by rfl]
  have hX : Ok X cX8_give RX8 rm_X8_give := hX
  unfold wp_X8_give at h
  refine z_aload_n (r := (some h0)) hX dX8_give_0 rfl 0 rfl ?_
  obtain ⟨hk1, h⟩ := h
  refine gf_RX8_23 (r := (some h0)) hX dX8_give_1 rfl hk1 ?_
  refine z_bipush (v := (60 : Int32)) hX dX8_give_4 (by decide) ?_
  obtain ⟨h1, h2⟩ := h
  refine z_icmp_lt (tgt := 12) hX dX8_give_6 (by decide) (fun hc => ?_) (fun hc => ?_)
  · have h := h1 hc
    refine z_aload_n (r := (some h0)) hX dX8_give_12 rfl 0 rfl ?_
    refine gf_RX8_9 (r := (some h0)) hX dX8_give_13 rfl hk1 ?_
    refine z_aload_n (r := (some h0)) hX dX8_give_16 rfl 0 rfl ?_
    refine gf_RX8_23 (r := (some h0)) hX dX8_give_17 rfl hk1 ?_
    refine z_iload_n hX dX8_give_20 rfl 1 rfl ?_
    obtain ⟨a2, ha3, h⟩ := h
    obtain ⟨hk4, h⟩ := h
    obtain ⟨hc5, h⟩ := h
    refine y_iast (r := (mR M 512 h0)) hX dX8_give_21 ha3 hk4 hc5 ?_
    refine z_aload_n (r := (some h0)) hX dX8_give_22 rfl 0 rfl ?_
    refine gf_RX8_15 (r := (some h0)) hX dX8_give_23 rfl hk1 ?_
    refine z_aload_n (r := (some h0)) hX dX8_give_26 rfl 0 rfl ?_
    refine gf_RX8_23 (r := (some h0)) hX dX8_give_27 rfl hk1 ?_
    refine z_lload_n hX dX8_give_30 rfl 2 rfl ?_
    obtain ⟨a6, ha7, h⟩ := h
    obtain ⟨hk8, h⟩ := h
    obtain ⟨hc9, h⟩ := h
    refine y_last (r := (mR (tI M a2 ((mI M 515 h0)).toNatClampNeg p1) 513 h0)) hX dX8_give_31 ha7 hk8 hc9 ?_
    refine z_aload_n (r := (some h0)) hX dX8_give_32 rfl 0 rfl ?_
    refine gf_RX8_19 (r := (some h0)) hX dX8_give_33 rfl hk1 ?_
    refine z_aload_n (r := (some h0)) hX dX8_give_36 rfl 0 rfl ?_
    refine gf_RX8_23 (r := (some h0)) hX dX8_give_37 rfl hk1 ?_
    refine z_iconst (v := (1 : Int32)) hX dX8_give_40 (by decide) ?_
    obtain ⟨a10, ha11, h⟩ := h
    obtain ⟨hk12, h⟩ := h
    obtain ⟨hc13, h⟩ := h
    refine y_zast (r := (mR (tJ (tI M a2 ((mI M 515 h0)).toNatClampNeg p1) a6 ((mI (tI M a2 ((mI M 515 h0)).toNatClampNeg p1) 515 h0)).toNatClampNeg p2) 514 h0)) hX dX8_give_41 ha11 hk12 hc13 (Or.inr rfl)  ?_
    refine z_aload_n (r := (some h0)) hX dX8_give_42 rfl 0 rfl ?_
    refine z_dup hX dX8_give_43 (cat_rf _) ?_
    refine gf_RX8_23 (r := (some h0)) hX dX8_give_44 rfl hk1 ?_
    refine z_iconst (v := (1 : Int32)) hX dX8_give_47 (by decide) ?_
    refine z_iadd hX dX8_give_48 ?_
    refine pf_RX8_23 (r := (some h0)) (v := ((mI (tI (tJ (tI M a2 ((mI M 515 h0)).toNatClampNeg p1) a6 ((mI (tI M a2 ((mI M 515 h0)).toNatClampNeg p1) 515 h0)).toNatClampNeg p2) a10 ((mI (tJ (tI M a2 ((mI M 515 h0)).toNatClampNeg p1) a6 ((mI (tI M a2 ((mI M 515 h0)).toNatClampNeg p1) 515 h0)).toNatClampNeg p2) 515 h0)).toNatClampNeg (1 : Int32)) 515 h0) + (1 : Int32))) hX dX8_give_49 rfl hk1 ?_
    refine z_aload_n (r := (some h0)) hX dX8_give_52 rfl 0 rfl ?_
    refine gf_RX8_23 (r := (some h0)) hX dX8_give_53 rfl hk1 ?_
    refine z_iconst (v := (1 : Int32)) hX dX8_give_56 (by decide) ?_
    refine z_isub hX dX8_give_57 ?_
    exact z_iret hX hQ dX8_give_58 h
  · have h := h2 hc
    refine z_bipush (v := (-4 : Int32)) hX dX8_give_9 (by decide) ?_
    exact z_iret hX hQ dX8_give_11 h
def rm_X8_isHeld : Room := { frames := 0, cells := 0, slots := 0, locals := 0 }
def bk_X8_isHeld_26 (h0 : Nat) (K : Int32 → Mm → Prop) (s0 : Int32) (M : Mm) : Prop := (bz s0 ∧ K s0 M)
set_option maxRecDepth 100000 in
set_option maxHeartbeats 4000000 in
theorem zb_X8_isHeld_26 {X : Cx} {h0 : Nat} {K : Int32 → Mm → Prop} (hX : Ok X cX8_isHeld RX8 rm_X8_isHeld) (hQ : Rq X rm_X8_isHeld (some .boolean) (QI K)) (hnL : X.2.2.2.2.2.2.2.2.2.2.2.2.2.2 = 2) {s0 : Int32} {M : Mm} (h : bk_X8_isHeld_26 h0 K s0 M) : Z X M 0 0 26 [] [.int s0] := by
  unfold bk_X8_isHeld_26 at h
  exact y_zret hX hQ dX8_isHeld_26 h.1 h.2
def bk_X8_isHeld_25 (h0 : Nat) (K : Int32 → Mm → Prop) (M : Mm) : Prop := (bk_X8_isHeld_26 h0 K (0 : Int32) M)
set_option maxRecDepth 100000 in
set_option maxHeartbeats 4000000 in
theorem zb_X8_isHeld_25 {X : Cx} {h0 : Nat} {K : Int32 → Mm → Prop} (hX : Ok X cX8_isHeld RX8 rm_X8_isHeld) (hQ : Rq X rm_X8_isHeld (some .boolean) (QI K)) (hnL : X.2.2.2.2.2.2.2.2.2.2.2.2.2.2 = 2) {M : Mm} (h : bk_X8_isHeld_25 h0 K M) : Z X M 0 0 25 [] [] := by
  unfold bk_X8_isHeld_25 at h
  refine z_iconst (v := (0 : Int32)) hX dX8_isHeld_25 (by decide) ?_
  exact zb_X8_isHeld_26 hX hQ hnL h
def wp_X8_isHeld (M : Mm) (h0 : Nat) (p1 : Int32) (K : Int32 → Mm → Prop) : Prop := ((p1 < 0 → (bk_X8_isHeld_25 h0 K M)) ∧ (¬ p1 < 0 → mK M h0 = 9 ∧ (((mI M 515 h0) ≤ p1 → (bk_X8_isHeld_25 h0 K M)) ∧ (¬ (mI M 515 h0) ≤ p1 → ∃ a2, (mR M 514 h0) = some a2 ∧ isA M a2 3 ∧ vp_in p1 (aN M a2) ∧ (((aI M a2 (p1).toNatClampNeg) = 0 → (bk_X8_isHeld_25 h0 K M)) ∧ (¬ (aI M a2 (p1).toNatClampNeg) = 0 → (bk_X8_isHeld_26 h0 K (1 : Int32) M)))))))
set_option maxRecDepth 100000 in
set_option maxHeartbeats 4000000 in
theorem ct_X8_isHeld {M : Mm} {h0 : Nat} {p1 : Int32} {K : Int32 → Mm → Prop} (h : wp_X8_isHeld M h0 p1 K) : CtI yX8_isHeld cX8_isHeld 2 (some .boolean) rm_X8_isHeld [.ref h0, .int p1] M K := by
  refine ct_any (QI K) (by decide) (by exact Nat.le_of_ble_eq_true rfl) (fun X hX hQ hnL hnm => ?_)
  rw [show lv_args 0 [.ref h0, .int p1] = [(0, va_rf (some h0)), (1, .int p1)] by rfl]
  have hX : Ok X cX8_isHeld RX8 rm_X8_isHeld := hX
  unfold wp_X8_isHeld at h
  refine z_iload_n hX dX8_isHeld_0 rfl 1 rfl ?_
  obtain ⟨h1, h2⟩ := h
  refine z_if_lt (tgt := 25) hX dX8_isHeld_1 (by decide) (fun hc => ?_) (fun hc => ?_)
  · have h := h1 hc
    refine z_loc [] rfl ?_
    exact zb_X8_isHeld_25 hX hQ hnL h
  · have h := h2 hc
    refine z_iload_n hX dX8_isHeld_4 rfl 1 rfl ?_
    refine z_aload_n (r := (some h0)) hX dX8_isHeld_5 rfl 0 rfl ?_
    obtain ⟨hk1, h⟩ := h
    refine gf_RX8_23 (r := (some h0)) hX dX8_isHeld_6 rfl hk1 ?_
    obtain ⟨h1, h2⟩ := h
    refine z_icmp_ge (tgt := 25) hX dX8_isHeld_9 (by decide) (fun hc => ?_) (fun hc => ?_)
    · have h := h1 hc
      refine z_loc [] rfl ?_
      exact zb_X8_isHeld_25 hX hQ hnL h
    · have h := h2 hc
      refine z_aload_n (r := (some h0)) hX dX8_isHeld_12 rfl 0 rfl ?_
      refine gf_RX8_19 (r := (some h0)) hX dX8_isHeld_13 rfl hk1 ?_
      refine z_iload_n hX dX8_isHeld_16 rfl 1 rfl ?_
      obtain ⟨a2, ha3, h⟩ := h
      obtain ⟨hk4, h⟩ := h
      obtain ⟨hc5, h⟩ := h
      refine y_zald (r := (mR M 514 h0)) hX dX8_isHeld_17 ha3 hk4 hc5 ?_
      obtain ⟨h1, h2⟩ := h
      refine z_if_eq (tgt := 25) hX dX8_isHeld_18 (by decide) (fun hc => ?_) (fun hc => ?_)
      · have h := h1 hc
        refine z_loc [] rfl ?_
        exact zb_X8_isHeld_25 hX hQ hnL h
      · have h := h2 hc
        refine z_iconst (v := (1 : Int32)) hX dX8_isHeld_21 (by decide) ?_
        refine z_goto (tgt := 26) hX dX8_isHeld_22 (by decide) ?_
        refine z_loc [] rfl ?_
        exact zb_X8_isHeld_26 hX hQ hnL h
def rm_X8_countAll : Room := { frames := 0, cells := 0, slots := 0, locals := 0 }
def bk_X8_countAll_24 (h0 : Nat) (R4 : Int32 → Int32 → Mm → Prop) (K : Int32 → Mm → Prop) (l1 : Int32) (l2 : Int32) (M : Mm) : Prop := (R4 l1 (l2 + 1) M)
set_option maxRecDepth 100000 in
set_option maxHeartbeats 4000000 in
theorem zb_X8_countAll_24 {X : Cx} {h0 : Nat} {R4 : Int32 → Int32 → Mm → Prop} {K : Int32 → Mm → Prop} (hX : Ok X cX8_countAll RX8 rm_X8_countAll) (hQ : Rq X rm_X8_countAll (some .int) (QI K)) (hnL : X.2.2.2.2.2.2.2.2.2.2.2.2.2.2 = 3) (hR4 : ∀ l1 l2 M, R4 l1 l2 M → Z X M 0 0 4 [(0, va_rf (some h0)), (1, .int l1), (2, .int l2)] []) {l1 : Int32} {l2 : Int32} {M : Mm} (h : bk_X8_countAll_24 h0 R4 K l1 l2 M) : Z X M 0 0 24 [(0, va_rf (some h0)), (1, .int l1), (2, .int l2)] [] := by
  unfold bk_X8_countAll_24 at h
  refine z_iinc (v := (l2 + 1)) hX [(2, .int (l2 + 1)), (0, va_rf (some h0)), (1, .int l1)] dX8_countAll_24 2 rfl rfl (by rw [hnL]; decide) rfl ?_
  refine z_goto (tgt := 4) hX dX8_countAll_27 (by decide) ?_
  refine z_loc [1, 2, 0] rfl ?_
  exact hR4 _ _ _ h
def lp_X8_countAll_4 (h0 : Nat) (K : Int32 → Mm → Prop) : Nat → Int32 → Int32 → Mm → Prop
  | 0, _, _, _ => False
  | n + 1, l1, l2, M => mK M h0 = 9 ∧ (((mI M 515 h0) ≤ l2 → (K l1 M)) ∧ (¬ (mI M 515 h0) ≤ l2 → ∃ a2, (mR M 514 h0) = some a2 ∧ isA M a2 3 ∧ vp_in l2 (aN M a2) ∧ (((aI M a2 (l2).toNatClampNeg) = 0 → (bk_X8_countAll_24 h0 (lp_X8_countAll_4 h0 K n) K l1 l2 M)) ∧ (¬ (aI M a2 (l2).toNatClampNeg) = 0 → (bk_X8_countAll_24 h0 (lp_X8_countAll_4 h0 K n) K (l1 + 1) l2 M)))))
set_option maxRecDepth 100000 in
set_option maxHeartbeats 4000000 in
theorem zl_X8_countAll_4 {X : Cx} {h0 : Nat} {K : Int32 → Mm → Prop} (hX : Ok X cX8_countAll RX8 rm_X8_countAll) (hQ : Rq X rm_X8_countAll (some .int) (QI K)) (hnL : X.2.2.2.2.2.2.2.2.2.2.2.2.2.2 = 3) : ∀ (n : Nat) (l1 : Int32) (l2 : Int32) (M : Mm), lp_X8_countAll_4 h0 K n l1 l2 M → Z X M 0 0 4 [(0, va_rf (some h0)), (1, .int l1), (2, .int l2)] [] := by
  intro n
  induction n with
  | zero =>
    intro l1 l2 M h
    exact False.elim h
  | succ n hR4 =>
    intro l1 l2 M h
    refine z_iload_n hX dX8_countAll_4 rfl 2 rfl ?_
    refine z_aload_n (r := (some h0)) hX dX8_countAll_5 rfl 0 rfl ?_
    obtain ⟨hk1, h⟩ := h
    refine gf_RX8_23 (r := (some h0)) hX dX8_countAll_6 rfl hk1 ?_
    obtain ⟨h1, h2⟩ := h
    refine z_icmp_ge (tgt := 30) hX dX8_countAll_9 (by decide) (fun hc => ?_) (fun hc => ?_)
    · have h := h1 hc
      refine z_iload_n hX dX8_countAll_30 rfl 1 rfl ?_
      exact z_iret hX hQ dX8_countAll_31 h
    · have h := h2 hc
      refine z_aload_n (r := (some h0)) hX dX8_countAll_12 rfl 0 rfl ?_
      refine gf_RX8_19 (r := (some h0)) hX dX8_countAll_13 rfl hk1 ?_
      refine z_iload_n hX dX8_countAll_16 rfl 2 rfl ?_
      obtain ⟨a2, ha3, h⟩ := h
      obtain ⟨hk4, h⟩ := h
      obtain ⟨hc5, h⟩ := h
      refine y_zald (r := (mR M 514 h0)) hX dX8_countAll_17 ha3 hk4 hc5 ?_
      obtain ⟨h1, h2⟩ := h
      refine z_if_eq (tgt := 24) hX dX8_countAll_18 (by decide) (fun hc => ?_) (fun hc => ?_)
      · have h := h1 hc
        exact zb_X8_countAll_24 hX hQ hnL hR4 h
      · have h := h2 hc
        refine z_iinc (v := (l1 + 1)) hX [(1, .int (l1 + 1)), (0, va_rf (some h0)), (2, .int l2)] dX8_countAll_21 1 rfl rfl (by rw [hnL]; decide) rfl ?_
        refine z_loc [1, 0, 2] rfl ?_
        exact zb_X8_countAll_24 hX hQ hnL hR4 h
def wp_X8_countAll (M : Mm) (h0 : Nat) (K : Int32 → Mm → Prop) : Prop := (∃ kk, lp_X8_countAll_4 h0 K kk (0 : Int32) (0 : Int32) M)
set_option maxRecDepth 100000 in
set_option maxHeartbeats 4000000 in
theorem ct_X8_countAll {M : Mm} {h0 : Nat} {K : Int32 → Mm → Prop} (h : wp_X8_countAll M h0 K) : CtI yX8_countAll cX8_countAll 3 (some .int) rm_X8_countAll [.ref h0] M K := by
  refine ct_any (QI K) (by decide) (by exact Nat.le_of_ble_eq_true rfl) (fun X hX hQ hnL hnm => ?_)
  rw [show lv_args 0 [.ref h0] = [(0, va_rf (some h0))] by rfl]
  have hX : Ok X cX8_countAll RX8 rm_X8_countAll := hX
  unfold wp_X8_countAll at h
  refine z_iconst (v := (0 : Int32)) hX dX8_countAll_0 (by decide) ?_
  refine z_istore_n hX [(1, .int (0 : Int32)), (0, va_rf (some h0))] dX8_countAll_1 rfl (by rw [hnL]; decide) rfl ?_
  refine z_iconst (v := (0 : Int32)) hX dX8_countAll_2 (by decide) ?_
  refine z_istore_n hX [(2, .int (0 : Int32)), (1, .int (0 : Int32)), (0, va_rf (some h0))] dX8_countAll_3 rfl (by rw [hnL]; decide) rfl ?_
  refine z_loc [2, 1, 0] rfl ?_
  obtain ⟨n, h⟩ := h
  exact zl_X8_countAll_4 hX hQ hnL n _ _ _ h
def rm_X8_countIn : Room := { frames := 0, cells := 0, slots := 0, locals := 0 }
def bk_X8_countIn_34 (h0 : Nat) (R4 : Int32 → Int32 → Int32 → Mm → Prop) (K : Int32 → Mm → Prop) (l1 : Int32) (l2 : Int32) (l3 : Int32) (M : Mm) : Prop := (R4 l1 l2 (l3 + 1) M)
set_option maxRecDepth 100000 in
set_option maxHeartbeats 4000000 in
theorem zb_X8_countIn_34 {X : Cx} {h0 : Nat} {R4 : Int32 → Int32 → Int32 → Mm → Prop} {K : Int32 → Mm → Prop} (hX : Ok X cX8_countIn RX8 rm_X8_countIn) (hQ : Rq X rm_X8_countIn (some .int) (QI K)) (hnL : X.2.2.2.2.2.2.2.2.2.2.2.2.2.2 = 4) (hR4 : ∀ l1 l2 l3 M, R4 l1 l2 l3 M → Z X M 0 0 4 [(0, va_rf (some h0)), (1, .int l1), (2, .int l2), (3, .int l3)] []) {l1 : Int32} {l2 : Int32} {l3 : Int32} {M : Mm} (h : bk_X8_countIn_34 h0 R4 K l1 l2 l3 M) : Z X M 0 0 34 [(0, va_rf (some h0)), (1, .int l1), (2, .int l2), (3, .int l3)] [] := by
  unfold bk_X8_countIn_34 at h
  refine z_iinc (v := (l3 + 1)) hX [(3, .int (l3 + 1)), (0, va_rf (some h0)), (1, .int l1), (2, .int l2)] dX8_countIn_34 3 rfl rfl (by rw [hnL]; decide) rfl ?_
  refine z_goto (tgt := 4) hX dX8_countIn_37 (by decide) ?_
  refine z_loc [1, 2, 3, 0] rfl ?_
  exact hR4 _ _ _ _ h
def lp_X8_countIn_4 (h0 : Nat) (K : Int32 → Mm → Prop) : Nat → Int32 → Int32 → Int32 → Mm → Prop
  | 0, _, _, _, _ => False
  | n + 1, l1, l2, l3, M => mK M h0 = 9 ∧ (((mI M 515 h0) ≤ l3 → (K l2 M)) ∧ (¬ (mI M 515 h0) ≤ l3 → ∃ a2, (mR M 514 h0) = some a2 ∧ isA M a2 3 ∧ vp_in l3 (aN M a2) ∧ (((aI M a2 (l3).toNatClampNeg) = 0 → (bk_X8_countIn_34 h0 (lp_X8_countIn_4 h0 K n) K l1 l2 l3 M)) ∧ (¬ (aI M a2 (l3).toNatClampNeg) = 0 → ∃ a6, (mR M 512 h0) = some a6 ∧ isA M a6 1 ∧ vp_in l3 (aN M a6) ∧ ((¬ (aI M a6 (l3).toNatClampNeg) = l1 → (bk_X8_countIn_34 h0 (lp_X8_countIn_4 h0 K n) K l1 l2 l3 M)) ∧ ((aI M a6 (l3).toNatClampNeg) = l1 → (bk_X8_countIn_34 h0 (lp_X8_countIn_4 h0 K n) K l1 (l2 + 1) l3 M)))))))
set_option maxRecDepth 100000 in
set_option maxHeartbeats 4000000 in
theorem zl_X8_countIn_4 {X : Cx} {h0 : Nat} {K : Int32 → Mm → Prop} (hX : Ok X cX8_countIn RX8 rm_X8_countIn) (hQ : Rq X rm_X8_countIn (some .int) (QI K)) (hnL : X.2.2.2.2.2.2.2.2.2.2.2.2.2.2 = 4) : ∀ (n : Nat) (l1 : Int32) (l2 : Int32) (l3 : Int32) (M : Mm), lp_X8_countIn_4 h0 K n l1 l2 l3 M → Z X M 0 0 4 [(0, va_rf (some h0)), (1, .int l1), (2, .int l2), (3, .int l3)] [] := by
  intro n
  induction n with
  | zero =>
    intro l1 l2 l3 M h
    exact False.elim h
  | succ n hR4 =>
    intro l1 l2 l3 M h
    refine z_iload_n hX dX8_countIn_4 rfl 3 rfl ?_
    refine z_aload_n (r := (some h0)) hX dX8_countIn_5 rfl 0 rfl ?_
    obtain ⟨hk1, h⟩ := h
    refine gf_RX8_23 (r := (some h0)) hX dX8_countIn_6 rfl hk1 ?_
    obtain ⟨h1, h2⟩ := h
    refine z_icmp_ge (tgt := 40) hX dX8_countIn_9 (by decide) (fun hc => ?_) (fun hc => ?_)
    · have h := h1 hc
      refine z_iload_n hX dX8_countIn_40 rfl 2 rfl ?_
      exact z_iret hX hQ dX8_countIn_41 h
    · have h := h2 hc
      refine z_aload_n (r := (some h0)) hX dX8_countIn_12 rfl 0 rfl ?_
      refine gf_RX8_19 (r := (some h0)) hX dX8_countIn_13 rfl hk1 ?_
      refine z_iload_n hX dX8_countIn_16 rfl 3 rfl ?_
      obtain ⟨a2, ha3, h⟩ := h
      obtain ⟨hk4, h⟩ := h
      obtain ⟨hc5, h⟩ := h
      refine y_zald (r := (mR M 514 h0)) hX dX8_countIn_17 ha3 hk4 hc5 ?_
      obtain ⟨h1, h2⟩ := h
      refine z_if_eq (tgt := 34) hX dX8_countIn_18 (by decide) (fun hc => ?_) (fun hc => ?_)
      · have h := h1 hc
        exact zb_X8_countIn_34 hX hQ hnL hR4 h
      · have h := h2 hc
        refine z_aload_n (r := (some h0)) hX dX8_countIn_21 rfl 0 rfl ?_
        refine gf_RX8_9 (r := (some h0)) hX dX8_countIn_22 rfl hk1 ?_
        refine z_iload_n hX dX8_countIn_25 rfl 3 rfl ?_
        obtain ⟨a6, ha7, h⟩ := h
        obtain ⟨hk8, h⟩ := h
        obtain ⟨hc9, h⟩ := h
        refine y_iald (r := (mR M 512 h0)) hX dX8_countIn_26 ha7 hk8 hc9 ?_
        refine z_iload_n hX dX8_countIn_27 rfl 1 rfl ?_
        obtain ⟨h1, h2⟩ := h
        refine z_icmp_ne (tgt := 34) hX dX8_countIn_28 (by decide) (fun hc => ?_) (fun hc => ?_)
        · have h := h1 hc
          exact zb_X8_countIn_34 hX hQ hnL hR4 h
        · have h := h2 hc
          refine z_iinc (v := (l2 + 1)) hX [(2, .int (l2 + 1)), (0, va_rf (some h0)), (1, .int l1), (3, .int l3)] dX8_countIn_31 2 rfl rfl (by rw [hnL]; decide) rfl ?_
          refine z_loc [1, 2, 0, 3] rfl ?_
          exact zb_X8_countIn_34 hX hQ hnL hR4 h
def wp_X8_countIn (M : Mm) (h0 : Nat) (p1 : Int32) (K : Int32 → Mm → Prop) : Prop := (∃ kk, lp_X8_countIn_4 h0 K kk p1 (0 : Int32) (0 : Int32) M)
set_option maxRecDepth 100000 in
set_option maxHeartbeats 4000000 in
theorem ct_X8_countIn {M : Mm} {h0 : Nat} {p1 : Int32} {K : Int32 → Mm → Prop} (h : wp_X8_countIn M h0 p1 K) : CtI yX8_countIn cX8_countIn 4 (some .int) rm_X8_countIn [.ref h0, .int p1] M K := by
  refine ct_any (QI K) (by decide) (by exact Nat.le_of_ble_eq_true rfl) (fun X hX hQ hnL hnm => ?_)
  rw [show lv_args 0 [.ref h0, .int p1] = [(0, va_rf (some h0)), (1, .int p1)] by rfl]
  have hX : Ok X cX8_countIn RX8 rm_X8_countIn := hX
  unfold wp_X8_countIn at h
  refine z_iconst (v := (0 : Int32)) hX dX8_countIn_0 (by decide) ?_
  refine z_istore_n hX [(2, .int (0 : Int32)), (0, va_rf (some h0)), (1, .int p1)] dX8_countIn_1 rfl (by rw [hnL]; decide) rfl ?_
  refine z_iconst (v := (0 : Int32)) hX dX8_countIn_2 (by decide) ?_
  refine z_istore_n hX [(3, .int (0 : Int32)), (2, .int (0 : Int32)), (0, va_rf (some h0)), (1, .int p1)] dX8_countIn_3 rfl (by rw [hnL]; decide) rfl ?_
  refine z_loc [2, 3, 1, 0] rfl ?_
  obtain ⟨n, h⟩ := h
  exact zl_X8_countIn_4 hX hQ hnL n _ _ _ _ h
def rm_X8_leastIn : Room := { frames := 1, cells := 0, slots := 0, locals := 23 }
def bk_X8_leastIn_49 (h0 : Nat) (R7 : Int32 → Int64 → Int32 → Mm → Prop) (K : Int64 → Mm → Prop) (l1 : Int32) (l2 : Int64) (l4 : Int32) (M : Mm) : Prop := (R7 l1 l2 (l4 + 1) M)
set_option maxRecDepth 100000 in
set_option maxHeartbeats 4000000 in
theorem zb_X8_leastIn_49 {X : Cx} {h0 : Nat} {R7 : Int32 → Int64 → Int32 → Mm → Prop} {K : Int64 → Mm → Prop} (hX : Ok X cX8_leastIn RX8 rm_X8_leastIn) (hQ : Rq X rm_X8_leastIn (some .long) (QJ K)) (hnL : X.2.2.2.2.2.2.2.2.2.2.2.2.2.2 = 5) (hR7 : ∀ l1 l2 l4 M, R7 l1 l2 l4 M → Z X M 0 0 7 [(0, va_rf (some h0)), (1, .int l1), (2, .long l2), (4, .int l4)] []) {l1 : Int32} {l2 : Int64} {l4 : Int32} {M : Mm} (h : bk_X8_leastIn_49 h0 R7 K l1 l2 l4 M) : Z X M 0 0 49 [(0, va_rf (some h0)), (1, .int l1), (2, .long l2), (4, .int l4)] [] := by
  unfold bk_X8_leastIn_49 at h
  refine z_iinc (v := (l4 + 1)) hX [(4, .int (l4 + 1)), (0, va_rf (some h0)), (1, .int l1), (2, .long l2)] dX8_leastIn_49 3 rfl rfl (by rw [hnL]; decide) rfl ?_
  refine z_goto (tgt := 7) hX dX8_leastIn_52 (by decide) ?_
  refine z_loc [1, 2, 3, 0] rfl ?_
  exact hR7 _ _ _ _ h
def lp_X8_leastIn_7 (h0 : Nat) (K : Int64 → Mm → Prop) : Nat → Int32 → Int64 → Int32 → Mm → Prop
  | 0, _, _, _, _ => False
  | n + 1, l1, l2, l4, M => mK M h0 = 9 ∧ (((mI M 515 h0) ≤ l4 → (K l2 M)) ∧ (¬ (mI M 515 h0) ≤ l4 → ∃ a2, (mR M 514 h0) = some a2 ∧ isA M a2 3 ∧ vp_in l4 (aN M a2) ∧ (((aI M a2 (l4).toNatClampNeg) = 0 → (bk_X8_leastIn_49 h0 (lp_X8_leastIn_7 h0 K n) K l1 l2 l4 M)) ∧ (¬ (aI M a2 (l4).toNatClampNeg) = 0 → ∃ a6, (mR M 512 h0) = some a6 ∧ isA M a6 1 ∧ vp_in l4 (aN M a6) ∧ ((¬ (aI M a6 (l4).toNatClampNeg) = l1 → (bk_X8_leastIn_49 h0 (lp_X8_leastIn_7 h0 K n) K l1 l2 l4 M)) ∧ ((aI M a6 (l4).toNatClampNeg) = l1 → ∃ a10, (mR M 513 h0) = some a10 ∧ isA M a10 2 ∧ vp_in l4 (aN M a10) ∧ (bk_X8_leastIn_49 h0 (lp_X8_leastIn_7 h0 K n) K l1 (if (aJ M a10 (l4).toNatClampNeg) < l2 then (aJ M a10 (l4).toNatClampNeg) else l2) l4 M)))))))
set_option maxRecDepth 100000 in
set_option maxHeartbeats 4000000 in
theorem zl_X8_leastIn_7 {X : Cx} {h0 : Nat} {K : Int64 → Mm → Prop} (hX : Ok X cX8_leastIn RX8 rm_X8_leastIn) (hQ : Rq X rm_X8_leastIn (some .long) (QJ K)) (hnL : X.2.2.2.2.2.2.2.2.2.2.2.2.2.2 = 5) : ∀ (n : Nat) (l1 : Int32) (l2 : Int64) (l4 : Int32) (M : Mm), lp_X8_leastIn_7 h0 K n l1 l2 l4 M → Z X M 0 0 7 [(0, va_rf (some h0)), (1, .int l1), (2, .long l2), (4, .int l4)] [] := by
  intro n
  induction n with
  | zero =>
    intro l1 l2 l4 M h
    exact False.elim h
  | succ n hR7 =>
    intro l1 l2 l4 M h
    refine z_iload hX dX8_leastIn_7 3 rfl ?_
    refine z_aload_n (r := (some h0)) hX dX8_leastIn_9 rfl 0 rfl ?_
    obtain ⟨hk1, h⟩ := h
    refine gf_RX8_23 (r := (some h0)) hX dX8_leastIn_10 rfl hk1 ?_
    obtain ⟨h1, h2⟩ := h
    refine z_icmp_ge (tgt := 55) hX dX8_leastIn_13 (by decide) (fun hc => ?_) (fun hc => ?_)
    · have h := h1 hc
      refine z_lload_n hX dX8_leastIn_55 rfl 2 rfl ?_
      exact z_lret hX hQ dX8_leastIn_56 h
    · have h := h2 hc
      refine z_aload_n (r := (some h0)) hX dX8_leastIn_16 rfl 0 rfl ?_
      refine gf_RX8_19 (r := (some h0)) hX dX8_leastIn_17 rfl hk1 ?_
      refine z_iload hX dX8_leastIn_20 3 rfl ?_
      obtain ⟨a2, ha3, h⟩ := h
      obtain ⟨hk4, h⟩ := h
      obtain ⟨hc5, h⟩ := h
      refine y_zald (r := (mR M 514 h0)) hX dX8_leastIn_22 ha3 hk4 hc5 ?_
      obtain ⟨h1, h2⟩ := h
      refine z_if_eq (tgt := 49) hX dX8_leastIn_23 (by decide) (fun hc => ?_) (fun hc => ?_)
      · have h := h1 hc
        exact zb_X8_leastIn_49 hX hQ hnL hR7 h
      · have h := h2 hc
        refine z_aload_n (r := (some h0)) hX dX8_leastIn_26 rfl 0 rfl ?_
        refine gf_RX8_9 (r := (some h0)) hX dX8_leastIn_27 rfl hk1 ?_
        refine z_iload hX dX8_leastIn_30 3 rfl ?_
        obtain ⟨a6, ha7, h⟩ := h
        obtain ⟨hk8, h⟩ := h
        obtain ⟨hc9, h⟩ := h
        refine y_iald (r := (mR M 512 h0)) hX dX8_leastIn_32 ha7 hk8 hc9 ?_
        refine z_iload_n hX dX8_leastIn_33 rfl 1 rfl ?_
        obtain ⟨h1, h2⟩ := h
        refine z_icmp_ne (tgt := 49) hX dX8_leastIn_34 (by decide) (fun hc => ?_) (fun hc => ?_)
        · have h := h1 hc
          exact zb_X8_leastIn_49 hX hQ hnL hR7 h
        · have h := h2 hc
          refine z_lload_n hX dX8_leastIn_37 rfl 2 rfl ?_
          refine z_aload_n (r := (some h0)) hX dX8_leastIn_38 rfl 0 rfl ?_
          refine gf_RX8_15 (r := (some h0)) hX dX8_leastIn_39 rfl hk1 ?_
          refine z_iload hX dX8_leastIn_42 3 rfl ?_
          obtain ⟨a10, ha11, h⟩ := h
          obtain ⟨hk12, h⟩ := h
          obtain ⟨hc13, h⟩ := h
          refine y_lald (r := (mR M 513 h0)) hX dX8_leastIn_44 ha11 hk12 hc13 ?_
          refine mw_RX8_29 hX dX8_leastIn_45 (by decide) (by decide) (by decide) (by decide) ?_
          refine z_lstore_n hX [(2, .long (if (aJ M a10 (l4).toNatClampNeg) < l2 then (aJ M a10 (l4).toNatClampNeg) else l2)), (0, va_rf (some h0)), (1, .int l1), (4, .int l4)] dX8_leastIn_48 rfl (by rw [hnL]; decide) rfl ?_
          refine z_loc [1, 2, 0, 3] rfl ?_
          exact zb_X8_leastIn_49 hX hQ hnL hR7 h
def wp_X8_leastIn (M : Mm) (h0 : Nat) (p1 : Int32) (K : Int64 → Mm → Prop) : Prop := (∃ kk, lp_X8_leastIn_7 h0 K kk p1 (9000000000000000000 : Int64) (0 : Int32) M)
set_option maxRecDepth 100000 in
set_option maxHeartbeats 4000000 in
theorem ct_X8_leastIn {M : Mm} {h0 : Nat} {p1 : Int32} {K : Int64 → Mm → Prop} (h : wp_X8_leastIn M h0 p1 K) : CtJ yX8_leastIn cX8_leastIn 5 (some .long) rm_X8_leastIn [.ref h0, .int p1] M K := by
  refine ct_any (QJ K) (by decide) (by exact Nat.le_of_ble_eq_true rfl) (fun X hX hQ hnL hnm => ?_)
  rw [show lv_args 0 [.ref h0, .int p1] = [(0, va_rf (some h0)), (1, .int p1)] by rfl]
  have hX : Ok X cX8_leastIn RX8 rm_X8_leastIn := hX
  unfold wp_X8_leastIn at h
  refine z_ldc2 (v := (9000000000000000000 : Int64)) hX dX8_leastIn_0 kj_RX8_27 ?_
  refine z_lstore_n hX [(2, .long (9000000000000000000 : Int64)), (0, va_rf (some h0)), (1, .int p1)] dX8_leastIn_3 rfl (by rw [hnL]; decide) rfl ?_
  refine z_iconst (v := (0 : Int32)) hX dX8_leastIn_4 (by decide) ?_
  refine z_istore hX [(4, .int (0 : Int32)), (2, .long (9000000000000000000 : Int64)), (0, va_rf (some h0)), (1, .int p1)] dX8_leastIn_5 (by rw [hnL]; decide) rfl ?_
  refine z_loc [2, 3, 1, 0] rfl ?_
  obtain ⟨n, h⟩ := h
  exact zl_X8_leastIn_7 hX hQ hnL n _ _ _ _ h
def rm_X9_init : Room := { frames := 1, cells := 3, slots := 72, locals := 20 }
def wp_X9_init (M : Mm) (h0 : Nat) (p1 : Int64) (p2 : Int64) (K : Mm → Prop) : Prop := mK M h0 = 10 ∧ (∀ q4, mK (sJ (sJ M 576 h0 p1) 577 h0 p2) q4 = 0 → mK (na (sJ (sJ M 576 h0 p1) 577 h0 p2) q4 98 24) h0 = 10 ∧ (∀ q9, mK (sR (na (sJ (sJ M 576 h0 p1) 577 h0 p2) q4 98 24) 578 h0 (some q4)) q9 = 0 → mK (na (sR (na (sJ (sJ M 576 h0 p1) 577 h0 p2) q4 98 24) 578 h0 (some q4)) q9 105 24) h0 = 10 ∧ (∀ q14, mK (sR (na (sR (na (sJ (sJ M 576 h0 p1) 577 h0 p2) q4 98 24) 578 h0 (some q4)) q9 105 24) 579 h0 (some q9)) q14 = 0 → mK (na (sR (na (sR (na (sJ (sJ M 576 h0 p1) 577 h0 p2) q4 98 24) 578 h0 (some q4)) q9 105 24) 579 h0 (some q9)) q14 113 24) h0 = 10 ∧ (K (sR (na (sR (na (sR (na (sJ (sJ M 576 h0 p1) 577 h0 p2) q4 98 24) 578 h0 (some q4)) q9 105 24) 579 h0 (some q9)) q14 113 24) 580 h0 (some q14))))))
set_option maxRecDepth 100000 in
set_option maxHeartbeats 4000000 in
theorem ct_X9_init {M : Mm} {h0 : Nat} {p1 : Int64} {p2 : Int64} {K : Mm → Prop} (h : wp_X9_init M h0 p1 p2 K) : CtV yX9_init cX9_init 5 none rm_X9_init [.ref h0, .long p1, .long p2] M K := by
  refine ct_any (QV K) (by decide) (by exact Nat.le_of_ble_eq_true rfl) (fun X hX hQ hnL hnm => ?_)
  rw [show lv_args 0 [.ref h0, .long p1, .long p2] = [(0, va_rf (some h0)), (1, .long p1), (3, .long p2)] by rfl]
  have hX : Ok X cX9_init RX9 rm_X9_init := hX
  unfold wp_X9_init at h
  refine z_aload_n (r := (some h0)) hX dX9_init_0 rfl 0 rfl ?_
  refine mw_RX9_3 (a := h0) hX dX9_init_1 (by decide) (by decide) ?_
  refine z_aload_n (r := (some h0)) hX dX9_init_4 rfl 0 rfl ?_
  refine z_lload_n hX dX9_init_5 rfl 1 rfl ?_
  obtain ⟨hk1, h⟩ := h
  refine pf_RX9_9 (r := (some h0)) (v := p1) hX hnm dX9_init_6 rfl hk1 ?_
  refine z_aload_n (r := (some h0)) hX dX9_init_9 rfl 0 rfl ?_
  refine z_lload_n hX dX9_init_10 rfl 2 rfl ?_
  refine pf_RX9_15 (r := (some h0)) (v := p2) hX hnm dX9_init_11 rfl hk1 ?_
  refine z_aload_n (r := (some h0)) hX dX9_init_14 rfl 0 rfl ?_
  refine z_bipush (v := (24 : Int32)) hX dX9_init_15 (by decide) ?_
  refine y_newa_long (n := 24) hX 98 (by decide) (by decide) (by decide) (by decide) (by decide) dX9_init_17 (by decide) (by decide) (fun q4 hq5 => ?_)
  have h := h q4 hq5
  obtain ⟨hk7, h⟩ := h
  refine pf_RX9_18 (r := (some h0)) (v := (some q4)) hX hnm dX9_init_19 rfl hk7 ?_
  refine z_aload_n (r := (some h0)) hX dX9_init_22 rfl 0 rfl ?_
  refine z_bipush (v := (24 : Int32)) hX dX9_init_23 (by decide) ?_
  refine y_newa_int (n := 24) hX 105 (by decide) (by decide) (by decide) (by decide) (by decide) dX9_init_25 (by decide) (by decide) (fun q9 hq10 => ?_)
  have h := h q9 hq10
  obtain ⟨hk12, h⟩ := h
  refine pf_RX9_22 (r := (some h0)) (v := (some q9)) hX hnm dX9_init_27 rfl hk12 ?_
  refine z_aload_n (r := (some h0)) hX dX9_init_30 rfl 0 rfl ?_
  refine z_bipush (v := (24 : Int32)) hX dX9_init_31 (by decide) ?_
  refine y_newa_int (n := 24) hX 113 (by decide) (by decide) (by decide) (by decide) (by decide) dX9_init_33 (by decide) (by decide) (fun q14 hq15 => ?_)
  have h := h q14 hq15
  obtain ⟨hk17, h⟩ := h
  refine pf_RX9_26 (r := (some h0)) (v := (some q14)) hX hnm dX9_init_35 rfl hk17 ?_
  refine z_widen 3 72 (by decide) (by decide) ?_
  exact z_vret hX hQ dX9_init_38 h
def rm_X9_isAhead : Room := { frames := 0, cells := 0, slots := 0, locals := 0 }
def bk_X9_isAhead_38 (h0 : Nat) (K : Int32 → Mm → Prop) (s0 : Int32) (M : Mm) : Prop := (bz s0 ∧ K s0 M)
set_option maxRecDepth 100000 in
set_option maxHeartbeats 4000000 in
theorem zb_X9_isAhead_38 {X : Cx} {h0 : Nat} {K : Int32 → Mm → Prop} (hX : Ok X cX9_isAhead RX9 rm_X9_isAhead) (hQ : Rq X rm_X9_isAhead (some .boolean) (QI K)) (hnL : X.2.2.2.2.2.2.2.2.2.2.2.2.2.2 = 5) {s0 : Int32} {M : Mm} (h : bk_X9_isAhead_38 h0 K s0 M) : Z X M 0 0 38 [] [.int s0] := by
  unfold bk_X9_isAhead_38 at h
  exact y_zret hX hQ dX9_isAhead_38 h.1 h.2
def bk_X9_isAhead_33 (h0 : Nat) (K : Int32 → Mm → Prop) (M : Mm) : Prop := (bk_X9_isAhead_38 h0 K (1 : Int32) M)
set_option maxRecDepth 100000 in
set_option maxHeartbeats 4000000 in
theorem zb_X9_isAhead_33 {X : Cx} {h0 : Nat} {K : Int32 → Mm → Prop} (hX : Ok X cX9_isAhead RX9 rm_X9_isAhead) (hQ : Rq X rm_X9_isAhead (some .boolean) (QI K)) (hnL : X.2.2.2.2.2.2.2.2.2.2.2.2.2.2 = 5) {M : Mm} (h : bk_X9_isAhead_33 h0 K M) : Z X M 0 0 33 [] [] := by
  unfold bk_X9_isAhead_33 at h
  refine z_iconst (v := (1 : Int32)) hX dX9_isAhead_33 (by decide) ?_
  refine z_goto (tgt := 38) hX dX9_isAhead_34 (by decide) ?_
  exact zb_X9_isAhead_38 hX hQ hnL h
def bk_X9_isAhead_37 (h0 : Nat) (K : Int32 → Mm → Prop) (M : Mm) : Prop := (bk_X9_isAhead_38 h0 K (0 : Int32) M)
set_option maxRecDepth 100000 in
set_option maxHeartbeats 4000000 in
theorem zb_X9_isAhead_37 {X : Cx} {h0 : Nat} {K : Int32 → Mm → Prop} (hX : Ok X cX9_isAhead RX9 rm_X9_isAhead) (hQ : Rq X rm_X9_isAhead (some .boolean) (QI K)) (hnL : X.2.2.2.2.2.2.2.2.2.2.2.2.2.2 = 5) {M : Mm} (h : bk_X9_isAhead_37 h0 K M) : Z X M 0 0 37 [] [] := by
  unfold bk_X9_isAhead_37 at h
  refine z_iconst (v := (0 : Int32)) hX dX9_isAhead_37 (by decide) ?_
  exact zb_X9_isAhead_38 hX hQ hnL h
def wp_X9_isAhead (M : Mm) (h0 : Nat) (p1 : Int32) (p2 : Int64) (p3 : Int32) (K : Int32 → Mm → Prop) : Prop := mK M h0 = 10 ∧ ∃ a2, (mR M 578 h0) = some a2 ∧ isA M a2 2 ∧ vp_in p1 (aN M a2) ∧ (((aJ M a2 (p1).toNatClampNeg) < p2 → (bk_X9_isAhead_33 h0 K M)) ∧ (¬ (aJ M a2 (p1).toNatClampNeg) < p2 → vp_in p1 (aN M a2) ∧ ((¬ (aJ M a2 (p1).toNatClampNeg) = p2 → (bk_X9_isAhead_37 h0 K M)) ∧ ((aJ M a2 (p1).toNatClampNeg) = p2 → ∃ a7, (mR M 579 h0) = some a7 ∧ isA M a7 1 ∧ vp_in p1 (aN M a7) ∧ ((p3 ≤ (aI M a7 (p1).toNatClampNeg) → (bk_X9_isAhead_37 h0 K M)) ∧ (¬ p3 ≤ (aI M a7 (p1).toNatClampNeg) → (bk_X9_isAhead_33 h0 K M)))))))
set_option maxRecDepth 100000 in
set_option maxHeartbeats 4000000 in
theorem ct_X9_isAhead {M : Mm} {h0 : Nat} {p1 : Int32} {p2 : Int64} {p3 : Int32} {K : Int32 → Mm → Prop} (h : wp_X9_isAhead M h0 p1 p2 p3 K) : CtI yX9_isAhead cX9_isAhead 5 (some .boolean) rm_X9_isAhead [.ref h0, .int p1, .long p2, .int p3] M K := by
  refine ct_any (QI K) (by decide) (by exact Nat.le_of_ble_eq_true rfl) (fun X hX hQ hnL hnm => ?_)
  rw [show lv_args 0 [.ref h0, .int p1, .long p2, .int p3] = [(0, va_rf (some h0)), (1, .int p1), (2, .long p2), (4, .int p3)] by rfl]
  have hX : Ok X cX9_isAhead RX9 rm_X9_isAhead := hX
  unfold wp_X9_isAhead at h
  refine z_aload_n (r := (some h0)) hX dX9_isAhead_0 rfl 0 rfl ?_
  obtain ⟨hk1, h⟩ := h
  refine gf_RX9_18 (r := (some h0)) hX dX9_isAhead_1 rfl hk1 ?_
  refine z_iload_n hX dX9_isAhead_4 rfl 1 rfl ?_
  obtain ⟨a2, ha3, h⟩ := h
  obtain ⟨hk4, h⟩ := h
  obtain ⟨hc5, h⟩ := h
  refine y_lald (r := (mR M 578 h0)) hX dX9_isAhead_5 ha3 hk4 hc5 ?_
  refine z_lload_n hX dX9_isAhead_6 rfl 2 rfl ?_
  refine z_lcmp hX dX9_isAhead_7 ?_
  obtain ⟨h1, h2⟩ := h
  refine z_if_lt (tgt := 33) hX dX9_isAhead_8 (by decide) (fun hc => ?_) (fun hc => ?_)
  · have h := h1 ((lg_cmp_lt _ _).mp hc)
    refine z_loc [] rfl ?_
    exact zb_X9_isAhead_33 hX hQ hnL h
  · have h := h2 (fun q => hc ((lg_cmp_lt _ _).mpr q))
    refine z_aload_n (r := (some h0)) hX dX9_isAhead_11 rfl 0 rfl ?_
    refine gf_RX9_18 (r := (some h0)) hX dX9_isAhead_12 rfl hk1 ?_
    refine z_iload_n hX dX9_isAhead_15 rfl 1 rfl ?_
    obtain ⟨hc6, h⟩ := h
    refine y_lald (r := (mR M 578 h0)) hX dX9_isAhead_16 ha3 hk4 hc6 ?_
    refine z_lload_n hX dX9_isAhead_17 rfl 2 rfl ?_
    refine z_lcmp hX dX9_isAhead_18 ?_
    obtain ⟨h1, h2⟩ := h
    refine z_if_ne (tgt := 37) hX dX9_isAhead_19 (by decide) (fun hc => ?_) (fun hc => ?_)
    · have h := h1 (fun q => hc ((lg_cmp_eq _ _).mpr q))
      refine z_loc [] rfl ?_
      exact zb_X9_isAhead_37 hX hQ hnL h
    · have h := h2 ((lg_cmp_eq _ _).mp hc)
      refine z_aload_n (r := (some h0)) hX dX9_isAhead_22 rfl 0 rfl ?_
      refine gf_RX9_22 (r := (some h0)) hX dX9_isAhead_23 rfl hk1 ?_
      refine z_iload_n hX dX9_isAhead_26 rfl 1 rfl ?_
      obtain ⟨a7, ha8, h⟩ := h
      obtain ⟨hk9, h⟩ := h
      obtain ⟨hc10, h⟩ := h
      refine y_iald (r := (mR M 579 h0)) hX dX9_isAhead_27 ha8 hk9 hc10 ?_
      refine z_iload hX dX9_isAhead_28 3 rfl ?_
      obtain ⟨h1, h2⟩ := h
      refine z_icmp_ge (tgt := 37) hX dX9_isAhead_30 (by decide) (fun hc => ?_) (fun hc => ?_)
      · have h := h1 hc
        refine z_loc [] rfl ?_
        exact zb_X9_isAhead_37 hX hQ hnL h
      · have h := h2 hc
        refine z_loc [] rfl ?_
        exact zb_X9_isAhead_33 hX hQ hnL h
def rm_X9_put : Room := { frames := 0, cells := 0, slots := 0, locals := 0 }
def wp_X9_put (M : Mm) (h0 : Nat) (p1 : Int32) (p2 : Int64) (p3 : Int32) (p4 : Int32) (K : Mm → Prop) : Prop := mK M h0 = 10 ∧ ∃ a2, (mR M 578 h0) = some a2 ∧ isA M a2 2 ∧ vp_in p1 (aN M a2) ∧ ∃ a6, (mR (tJ M a2 (p1).toNatClampNeg p2) 579 h0) = some a6 ∧ isA (tJ M a2 (p1).toNatClampNeg p2) a6 1 ∧ vp_in p1 (aN (tJ M a2 (p1).toNatClampNeg p2) a6) ∧ ∃ a10, (mR (tI (tJ M a2 (p1).toNatClampNeg p2) a6 (p1).toNatClampNeg p3) 580 h0) = some a10 ∧ isA (tI (tJ M a2 (p1).toNatClampNeg p2) a6 (p1).toNatClampNeg p3) a10 1 ∧ vp_in p1 (aN (tI (tJ M a2 (p1).toNatClampNeg p2) a6 (p1).toNatClampNeg p3) a10) ∧ (K (tI (tI (tJ M a2 (p1).toNatClampNeg p2) a6 (p1).toNatClampNeg p3) a10 (p1).toNatClampNeg p4))
set_option maxRecDepth 100000 in
set_option maxHeartbeats 4000000 in
theorem ct_X9_put {M : Mm} {h0 : Nat} {p1 : Int32} {p2 : Int64} {p3 : Int32} {p4 : Int32} {K : Mm → Prop} (h : wp_X9_put M h0 p1 p2 p3 p4 K) : CtV yX9_put cX9_put 6 none rm_X9_put [.ref h0, .int p1, .long p2, .int p3, .int p4] M K := by
  refine ct_any (QV K) (by decide) (by exact Nat.le_of_ble_eq_true rfl) (fun X hX hQ hnL hnm => ?_)
  rw [show lv_args 0 [.ref h0, .int p1, .long p2, .int p3, .int p4] = [(0, va_rf (some h0)), (1, .int p1), (2, .long p2), (4, .int p3), (5, .int p4)] by rfl]
  have hX : Ok X cX9_put RX9 rm_X9_put := hX
  unfold wp_X9_put at h
  refine z_aload_n (r := (some h0)) hX dX9_put_0 rfl 0 rfl ?_
  obtain ⟨hk1, h⟩ := h
  refine gf_RX9_18 (r := (some h0)) hX dX9_put_1 rfl hk1 ?_
  refine z_iload_n hX dX9_put_4 rfl 1 rfl ?_
  refine z_lload_n hX dX9_put_5 rfl 2 rfl ?_
  obtain ⟨a2, ha3, h⟩ := h
  obtain ⟨hk4, h⟩ := h
  obtain ⟨hc5, h⟩ := h
  refine y_last (r := (mR M 578 h0)) hX dX9_put_6 ha3 hk4 hc5 ?_
  refine z_aload_n (r := (some h0)) hX dX9_put_7 rfl 0 rfl ?_
  refine gf_RX9_22 (r := (some h0)) hX dX9_put_8 rfl hk1 ?_
  refine z_iload_n hX dX9_put_11 rfl 1 rfl ?_
  refine z_iload hX dX9_put_12 3 rfl ?_
  obtain ⟨a6, ha7, h⟩ := h
  obtain ⟨hk8, h⟩ := h
  obtain ⟨hc9, h⟩ := h
  refine y_iast (r := (mR (tJ M a2 (p1).toNatClampNeg p2) 579 h0)) hX dX9_put_14 ha7 hk8 hc9 ?_
  refine z_aload_n (r := (some h0)) hX dX9_put_15 rfl 0 rfl ?_
  refine gf_RX9_26 (r := (some h0)) hX dX9_put_16 rfl hk1 ?_
  refine z_iload_n hX dX9_put_19 rfl 1 rfl ?_
  refine z_iload hX dX9_put_20 4 rfl ?_
  obtain ⟨a10, ha11, h⟩ := h
  obtain ⟨hk12, h⟩ := h
  obtain ⟨hc13, h⟩ := h
  refine y_iast (r := (mR (tI (tJ M a2 (p1).toNatClampNeg p2) a6 (p1).toNatClampNeg p3) 580 h0)) hX dX9_put_22 ha11 hk12 hc13 ?_
  exact z_vret hX hQ dX9_put_23 h
def rm_X9_dropFirst : Room := { frames := 1, cells := 0, slots := 0, locals := 25 }
def bk_X9_dropFirst_58 (h0 : Nat) (K : Mm → Prop) (M : Mm) : Prop := (K M)
set_option maxRecDepth 100000 in
set_option maxHeartbeats 4000000 in
theorem zb_X9_dropFirst_58 {X : Cx} {h0 : Nat} {K : Mm → Prop} (hX : Ok X cX9_dropFirst RX9 rm_X9_dropFirst) (hQ : Rq X rm_X9_dropFirst none (QV K)) (hnL : X.2.2.2.2.2.2.2.2.2.2.2.2.2.2 = 2) {M : Mm} (h : bk_X9_dropFirst_58 h0 K M) : Z X M 0 0 58 [] [] := by
  unfold bk_X9_dropFirst_58 at h
  exact z_vret hX hQ dX9_dropFirst_58 h
def lp_X9_dropFirst_2 (h0 : Nat) (K : Mm → Prop) : Nat → Int32 → Mm → Prop
  | 0, _, _ => False
  | n + 1, l1, M => mK M h0 = 10 ∧ (((mI M 581 h0) ≤ l1 → (((mI M 581 h0) ≤ 0 → (bk_X9_dropFirst_58 h0 K M)) ∧ (¬ (mI M 581 h0) ≤ 0 → (bk_X9_dropFirst_58 h0 K (sI M 581 h0 ((mI M 581 h0) - (1 : Int32))))))) ∧ (¬ (mI M 581 h0) ≤ l1 → ∃ a3, (mR M 578 h0) = some a3 ∧ isA M a3 2 ∧ vp_in l1 (aN M a3) ∧ ∃ a7, (mR M 579 h0) = some a7 ∧ isA M a7 1 ∧ vp_in l1 (aN M a7) ∧ ∃ a11, (mR M 580 h0) = some a11 ∧ isA M a11 1 ∧ vp_in l1 (aN M a11) ∧ (wp_X9_put M h0 (l1 - (1 : Int32)) (aJ M a3 (l1).toNatClampNeg) (aI M a7 (l1).toNatClampNeg) (aI M a11 (l1).toNatClampNeg) (fun M16 => ((lp_X9_dropFirst_2 h0 K n) (l1 + 1) M16)))))
set_option maxRecDepth 100000 in
set_option maxHeartbeats 4000000 in
theorem zl_X9_dropFirst_2 {X : Cx} {h0 : Nat} {K : Mm → Prop} (hX : Ok X cX9_dropFirst RX9 rm_X9_dropFirst) (hQ : Rq X rm_X9_dropFirst none (QV K)) (hnL : X.2.2.2.2.2.2.2.2.2.2.2.2.2.2 = 2) : ∀ (n : Nat) (l1 : Int32) (M : Mm), lp_X9_dropFirst_2 h0 K n l1 M → Z X M 0 0 2 [(0, va_rf (some h0)), (1, .int l1)] [] := by
  intro n
  induction n with
  | zero =>
    intro l1 M h
    exact False.elim h
  | succ n hR2 =>
    intro l1 M h
    refine z_iload_n hX dX9_dropFirst_2 rfl 1 rfl ?_
    refine z_aload_n (r := (some h0)) hX dX9_dropFirst_3 rfl 0 rfl ?_
    obtain ⟨hk1, h⟩ := h
    refine gf_RX9_39 (r := (some h0)) hX dX9_dropFirst_4 rfl hk1 ?_
    obtain ⟨h1, h2⟩ := h
    refine z_icmp_ge (tgt := 41) hX dX9_dropFirst_7 (by decide) (fun hc => ?_) (fun hc => ?_)
    · have h := h1 hc
      refine z_aload_n (r := (some h0)) hX dX9_dropFirst_41 rfl 0 rfl ?_
      refine gf_RX9_39 (r := (some h0)) hX dX9_dropFirst_42 rfl hk1 ?_
      obtain ⟨h1, h2⟩ := h
      refine z_if_le (tgt := 58) hX dX9_dropFirst_45 (by decide) (fun hc => ?_) (fun hc => ?_)
      · have h := h1 hc
        refine z_loc [] rfl ?_
        exact zb_X9_dropFirst_58 hX hQ hnL h
      · have h := h2 hc
        refine z_aload_n (r := (some h0)) hX dX9_dropFirst_48 rfl 0 rfl ?_
        refine z_dup hX dX9_dropFirst_49 (cat_rf _) ?_
        refine gf_RX9_39 (r := (some h0)) hX dX9_dropFirst_50 rfl hk1 ?_
        refine z_iconst (v := (1 : Int32)) hX dX9_dropFirst_53 (by decide) ?_
        refine z_isub hX dX9_dropFirst_54 ?_
        refine pf_RX9_39 (r := (some h0)) (v := ((mI M 581 h0) - (1 : Int32))) hX dX9_dropFirst_55 rfl hk1 ?_
        refine z_loc [] rfl ?_
        exact zb_X9_dropFirst_58 hX hQ hnL h
    · have h := h2 hc
      refine z_aload_n (r := (some h0)) hX dX9_dropFirst_10 rfl 0 rfl ?_
      refine z_iload_n hX dX9_dropFirst_11 rfl 1 rfl ?_
      refine z_iconst (v := (1 : Int32)) hX dX9_dropFirst_12 (by decide) ?_
      refine z_isub hX dX9_dropFirst_13 ?_
      refine z_aload_n (r := (some h0)) hX dX9_dropFirst_14 rfl 0 rfl ?_
      refine gf_RX9_18 (r := (some h0)) hX dX9_dropFirst_15 rfl hk1 ?_
      refine z_iload_n hX dX9_dropFirst_18 rfl 1 rfl ?_
      obtain ⟨a3, ha4, h⟩ := h
      obtain ⟨hk5, h⟩ := h
      obtain ⟨hc6, h⟩ := h
      refine y_lald (r := (mR M 578 h0)) hX dX9_dropFirst_19 ha4 hk5 hc6 ?_
      refine z_aload_n (r := (some h0)) hX dX9_dropFirst_20 rfl 0 rfl ?_
      refine gf_RX9_22 (r := (some h0)) hX dX9_dropFirst_21 rfl hk1 ?_
      refine z_iload_n hX dX9_dropFirst_24 rfl 1 rfl ?_
      obtain ⟨a7, ha8, h⟩ := h
      obtain ⟨hk9, h⟩ := h
      obtain ⟨hc10, h⟩ := h
      refine y_iald (r := (mR M 579 h0)) hX dX9_dropFirst_25 ha8 hk9 hc10 ?_
      refine z_aload_n (r := (some h0)) hX dX9_dropFirst_26 rfl 0 rfl ?_
      refine gf_RX9_26 (r := (some h0)) hX dX9_dropFirst_27 rfl hk1 ?_
      refine z_iload_n hX dX9_dropFirst_30 rfl 1 rfl ?_
      obtain ⟨a11, ha12, h⟩ := h
      obtain ⟨hk13, h⟩ := h
      obtain ⟨hc14, h⟩ := h
      refine y_iald (r := (mR M 580 h0)) hX dX9_dropFirst_31 ha12 hk13 hc14 ?_
      refine z_callVV (As := [.int (l1 - (1 : Int32)), .long (aJ M a3 (l1).toNatClampNeg), .int (aI M a7 (l1).toNatClampNeg), .int (aI M a11 (l1).toNatClampNeg)]) (rest := []) (ci := 9) hX (ct_X9_put h) mw_RX9_47 rfl (by decide) rfl (by rfl) (by unfold RoomC; decide) (by decide) dX9_dropFirst_32 hk1 (fun M16 h => ?_)
      refine z_iinc (v := (l1 + 1)) hX [(1, .int (l1 + 1)), (0, va_rf (some h0))] dX9_dropFirst_35 1 rfl rfl (by rw [hnL]; decide) rfl ?_
      refine z_goto (tgt := 2) hX dX9_dropFirst_38 (by decide) ?_
      refine z_loc [1, 0] rfl ?_
      exact hR2 _ _ h
def wp_X9_dropFirst (M : Mm) (h0 : Nat) (K : Mm → Prop) : Prop := (∃ kk, lp_X9_dropFirst_2 h0 K kk (1 : Int32) M)
set_option maxRecDepth 100000 in
set_option maxHeartbeats 4000000 in
theorem ct_X9_dropFirst {M : Mm} {h0 : Nat} {K : Mm → Prop} (h : wp_X9_dropFirst M h0 K) : CtV yX9_dropFirst cX9_dropFirst 2 none rm_X9_dropFirst [.ref h0] M K := by
  refine ct_any (QV K) (by decide) (by exact Nat.le_of_ble_eq_true rfl) (fun X hX hQ hnL hnm => ?_)
  rw [show lv_args 0 [.ref h0] = [(0, va_rf (some h0))] by rfl]
  have hX : Ok X cX9_dropFirst RX9 rm_X9_dropFirst := hX
  unfold wp_X9_dropFirst at h
  refine z_iconst (v := (1 : Int32)) hX dX9_dropFirst_0 (by decide) ?_
  refine z_istore_n hX [(1, .int (1 : Int32)), (0, va_rf (some h0))] dX9_dropFirst_1 rfl (by rw [hnL]; decide) rfl ?_
  refine z_loc [1, 0] rfl ?_
  obtain ⟨n, h⟩ := h
  exact zl_X9_dropFirst_2 hX hQ hnL n _ _ h
def rm_X10_init : Room := { frames := 2, cells := 8, slots := 4010, locals := 41 }
def wp_X10_init (M : Mm) (h0 : Nat) (K : Mm → Prop) : Prop := (∀ q1, mK M q1 = 0 → (wp_X0_init (nw M q1 1) q1 (600 : Int32) (fun M5 => mK M5 h0 = 11 ∧ (∀ q9, mK (sR M5 640 h0 (some q1)) q9 = 0 → (wp_X0_init (nw (sR M5 640 h0 (some q1)) q9 1) q9 (800 : Int32) (fun M13 => mK M13 h0 = 11 ∧ (∀ q17, mK (sR M13 641 h0 (some q9)) q17 = 0 → (wp_X3_init (nw (sR M13 641 h0 (some q9)) q17 4) q17 (300 : Int32) (fun M21 => mK M21 h0 = 11 ∧ (∀ q25, mK (sR M21 642 h0 (some q17)) q25 = 0 → (wp_X3_init (nw (sR M21 642 h0 (some q17)) q25 4) q25 (200 : Int32) (fun M29 => mK M29 h0 = 11 ∧ (K (sI (sR (sR M29 643 h0 (some q25)) 644 h0 none) 645 h0 (0 : Int32)))))))))))))))
set_option maxRecDepth 100000 in
set_option maxHeartbeats 4000000 in
theorem ct_X10_init {M : Mm} {h0 : Nat} {K : Mm → Prop} (h : wp_X10_init M h0 K) : CtV yX10_init cX10_init 1 none rm_X10_init [.ref h0] M K := by
  refine ct_any (QV K) (by decide) (by exact Nat.le_of_ble_eq_true rfl) (fun X hX hQ hnL hnm => ?_)
  rw [show lv_args 0 [.ref h0] = [(0, va_rf (some h0))] by rfl]
  have hX : Ok X cX10_init RX10 rm_X10_init := hX
  unfold wp_X10_init at h
  refine z_aload_n (r := (some h0)) hX dX10_init_0 rfl 0 rfl ?_
  refine mw_RX10_3 (a := h0) hX dX10_init_1 (by decide) (by decide) ?_
  refine z_aload_n (r := (some h0)) hX dX10_init_4 rfl 0 rfl ?_
  refine nq_RX10_9 hX dX10_init_5 (by decide) (by decide) (fun q1 hq2 => ?_)
  have h := h q1 hq2
  refine z_dup hX dX10_init_8 (cat_rf _) ?_
  refine z_sipush (v := (600 : Int32)) hX dX10_init_9 (by decide) ?_
  refine z_callIV (As := [.int (600 : Int32)]) (rest := [va_rf (some q1), va_rf (some h0)]) hX (ct_X0_init h) mw_RX10_11 rfl (by rfl) (by unfold RoomC; decide) (by simp only [List.map_cons, List.map_nil, List.sum_cons, List.sum_nil, cat_rf, cat_i, cat_j]; decide) dX10_init_12 (fun M5 h => ?_)
  obtain ⟨hk7, h⟩ := h
  refine pf_RX10_14 (r := (some h0)) (v := (some q1)) hX hnm dX10_init_15 rfl hk7 ?_
  refine z_aload_n (r := (some h0)) hX dX10_init_18 rfl 0 rfl ?_
  refine nq_RX10_9 hX dX10_init_19 (by decide) (by decide) (fun q9 hq10 => ?_)
  have h := h q9 hq10
  refine z_dup hX dX10_init_22 (cat_rf _) ?_
  refine z_sipush (v := (800 : Int32)) hX dX10_init_23 (by decide) ?_
  refine z_callIV (As := [.int (800 : Int32)]) (rest := [va_rf (some q9), va_rf (some h0)]) hX (ct_X0_init h) mw_RX10_11 rfl (by rfl) (by unfold RoomC; decide) (by simp only [List.map_cons, List.map_nil, List.sum_cons, List.sum_nil, cat_rf, cat_i, cat_j]; decide) dX10_init_26 (fun M13 h => ?_)
  obtain ⟨hk15, h⟩ := h
  refine pf_RX10_18 (r := (some h0)) (v := (some q9)) hX hnm dX10_init_29 rfl hk15 ?_
  refine z_aload_n (r := (some h0)) hX dX10_init_32 rfl 0 rfl ?_
  refine nq_RX10_21 hX dX10_init_33 (by decide) (by decide) (fun q17 hq18 => ?_)
  have h := h q17 hq18
  refine z_dup hX dX10_init_36 (cat_rf _) ?_
  refine z_sipush (v := (300 : Int32)) hX dX10_init_37 (by decide) ?_
  refine z_callIV (As := [.int (300 : Int32)]) (rest := [va_rf (some q17), va_rf (some h0)]) hX (ct_X3_init h) mw_RX10_23 rfl (by rfl) (by unfold RoomC; decide) (by simp only [List.map_cons, List.map_nil, List.sum_cons, List.sum_nil, cat_rf, cat_i, cat_j]; decide) dX10_init_40 (fun M21 h => ?_)
  obtain ⟨hk23, h⟩ := h
  refine pf_RX10_24 (r := (some h0)) (v := (some q17)) hX hnm dX10_init_43 rfl hk23 ?_
  refine z_aload_n (r := (some h0)) hX dX10_init_46 rfl 0 rfl ?_
  refine nq_RX10_21 hX dX10_init_47 (by decide) (by decide) (fun q25 hq26 => ?_)
  have h := h q25 hq26
  refine z_dup hX dX10_init_50 (cat_rf _) ?_
  refine z_sipush (v := (200 : Int32)) hX dX10_init_51 (by decide) ?_
  refine z_callIV (As := [.int (200 : Int32)]) (rest := [va_rf (some q25), va_rf (some h0)]) hX (ct_X3_init h) mw_RX10_23 rfl (by rfl) (by unfold RoomC; decide) (by simp only [List.map_cons, List.map_nil, List.sum_cons, List.sum_nil, cat_rf, cat_i, cat_j]; decide) dX10_init_54 (fun M29 h => ?_)
  obtain ⟨hk31, h⟩ := h
  refine pf_RX10_28 (r := (some h0)) (v := (some q25)) hX hnm dX10_init_57 rfl hk31 ?_
  refine z_aload_n (r := (some h0)) hX dX10_init_60 rfl 0 rfl ?_
  refine z_null hX dX10_init_61 ?_
  refine pf_RX10_31 (r := (some h0)) (v := none) hX dX10_init_62 rfl hk31 ?_
  refine z_aload_n (r := (some h0)) hX dX10_init_65 rfl 0 rfl ?_
  refine z_iconst (v := (0 : Int32)) hX dX10_init_66 (by decide) ?_
  refine pf_RX10_35 (r := (some h0)) (v := (0 : Int32)) hX dX10_init_67 rfl hk31 ?_
  refine z_widen 8 4010 (by decide) (by decide) ?_
  exact z_vret hX hQ dX10_init_70 h
def rm_X10_feed : Room := { frames := 1, cells := 0, slots := 0, locals := 21 }
def bk_X10_feed_26 (h0 : Nat) (K : Int32 → Mm → Prop) (M : Mm) : Prop := (K (-1 : Int32) M)
set_option maxRecDepth 100000 in
set_option maxHeartbeats 4000000 in
theorem zb_X10_feed_26 {X : Cx} {h0 : Nat} {K : Int32 → Mm → Prop} (hX : Ok X cX10_feed RX10 rm_X10_feed) (hQ : Rq X rm_X10_feed (some .int) (QI K)) (hnL : X.2.2.2.2.2.2.2.2.2.2.2.2.2.2 = 5) {M : Mm} (h : bk_X10_feed_26 h0 K M) : Z X M 0 0 26 [] [] := by
  unfold bk_X10_feed_26 at h
  refine z_iconst (v := (-1 : Int32)) hX dX10_feed_26 (by decide) ?_
  exact z_iret hX hQ dX10_feed_27 h
def lp_X10_feed_33 (h0 : Nat) (K : Int32 → Mm → Prop) : Nat → Int64 → Int32 → Mm → Prop
  | 0, _, _, _ => False
  | n + 1, l1, l4, M => ((l4 < 0 → mK M h0 = 11 ∧ ∃ a2, (mR M 640 h0) = some a2 ∧ mK M a2 = 1 ∧ (K (mI M 1 a2) M)) ∧ (¬ l4 < 0 → mK M h0 = 11 ∧ ∃ a8, (mR M 640 h0) = some a8 ∧ mK M a8 = 1 ∧ (wp_X0_add M a8 ((((((l1).toUInt64 >>> ((((8 : Int32) * l4)).toInt64.toUInt64 &&& Int64.toUInt64 63)).toInt64)).toInt32) &&& (255 : Int32)) (fun M7 => ((lp_X10_feed_33 h0 K n) l1 (l4 + (-1)) M7)))))
set_option maxRecDepth 100000 in
set_option maxHeartbeats 4000000 in
theorem zl_X10_feed_33 {X : Cx} {h0 : Nat} {K : Int32 → Mm → Prop} (hX : Ok X cX10_feed RX10 rm_X10_feed) (hQ : Rq X rm_X10_feed (some .int) (QI K)) (hnL : X.2.2.2.2.2.2.2.2.2.2.2.2.2.2 = 5) : ∀ (n : Nat) (l1 : Int64) (l4 : Int32) (M : Mm), lp_X10_feed_33 h0 K n l1 l4 M → Z X M 0 0 33 [(0, va_rf (some h0)), (1, .long l1), (4, .int l4)] [] := by
  intro n
  induction n with
  | zero =>
    intro l1 l4 M h
    exact False.elim h
  | succ n hR33 =>
    intro l1 l4 M h
    refine z_iload hX dX10_feed_33 2 rfl ?_
    obtain ⟨h1, h2⟩ := h
    refine z_if_lt (tgt := 63) hX dX10_feed_35 (by decide) (fun hc => ?_) (fun hc => ?_)
    · have h := h1 hc
      refine z_aload_n (r := (some h0)) hX dX10_feed_63 rfl 0 rfl ?_
      obtain ⟨hk1, h⟩ := h
      refine gf_RX10_14 (r := (some h0)) hX dX10_feed_64 rfl hk1 ?_
      obtain ⟨a2, ha3, h⟩ := h
      obtain ⟨hk4, h⟩ := h
      refine gf_RX10_39 (r := (mR M 640 h0)) hX dX10_feed_67 ha3 hk4 ?_
      exact z_iret hX hQ dX10_feed_70 h
    · have h := h2 hc
      refine z_aload_n (r := (some h0)) hX dX10_feed_38 rfl 0 rfl ?_
      obtain ⟨hk5, h⟩ := h
      refine gf_RX10_14 (r := (some h0)) hX dX10_feed_39 rfl hk5 ?_
      refine z_lload_n hX dX10_feed_42 rfl 1 rfl ?_
      refine z_bipush (v := (8 : Int32)) hX dX10_feed_43 (by decide) ?_
      refine z_iload hX dX10_feed_45 2 rfl ?_
      refine z_imul hX dX10_feed_47 ?_
      refine z_lushr hX dX10_feed_48 ?_
      refine z_l2i hX dX10_feed_49 ?_
      refine z_sipush (v := (255 : Int32)) hX dX10_feed_50 (by decide) ?_
      refine z_iand hX dX10_feed_53 ?_
      obtain ⟨a8, ha9, h⟩ := h
      obtain ⟨hk10, h⟩ := h
      refine z_callVV (As := [.int ((((((l1).toUInt64 >>> ((((8 : Int32) * l4)).toInt64.toUInt64 &&& Int64.toUInt64 63)).toInt64)).toInt32) &&& (255 : Int32))]) (rest := []) (ci := 0) hX (ct_X0_add h) mw_RX10_42 rfl (by decide) rfl (by rw [ha9]; rfl) (by unfold RoomC; decide) (by decide) dX10_feed_54 hk10 (fun M7 h => ?_)
      refine z_iinc (v := (l4 + (-1))) hX [(4, .int (l4 + (-1))), (0, va_rf (some h0)), (1, .long l1)] dX10_feed_57 2 rfl rfl (by rw [hnL]; decide) rfl ?_
      refine z_goto (tgt := 33) hX dX10_feed_60 (by decide) ?_
      refine z_loc [1, 2, 0] rfl ?_
      exact hR33 _ _ _ h
def wp_X10_feed (M : Mm) (h0 : Nat) (p1 : Int64) (p2 : Int32) (K : Int32 → Mm → Prop) : Prop := ((p2 < (1 : Int32) → (bk_X10_feed_26 h0 K M)) ∧ (¬ p2 < (1 : Int32) → (((8 : Int32) < p2 → (bk_X10_feed_26 h0 K M)) ∧ (¬ (8 : Int32) < p2 → mK M h0 = 11 ∧ ∃ a13, (mR M 640 h0) = some a13 ∧ mK M a13 = 1 ∧ ((p2 ≤ ((600 : Int32) - (mI M 1 a13)) → (∃ kk, lp_X10_feed_33 h0 K kk p1 (p2 - (1 : Int32)) M)) ∧ (¬ p2 ≤ ((600 : Int32) - (mI M 1 a13)) → (bk_X10_feed_26 h0 K M)))))))
set_option maxRecDepth 100000 in
set_option maxHeartbeats 4000000 in
theorem ct_X10_feed {M : Mm} {h0 : Nat} {p1 : Int64} {p2 : Int32} {K : Int32 → Mm → Prop} (h : wp_X10_feed M h0 p1 p2 K) : CtI yX10_feed cX10_feed 5 (some .int) rm_X10_feed [.ref h0, .long p1, .int p2] M K := by
  refine ct_any (QI K) (by decide) (by exact Nat.le_of_ble_eq_true rfl) (fun X hX hQ hnL hnm => ?_)
  rw [show lv_args 0 [.ref h0, .long p1, .int p2] = [(0, va_rf (some h0)), (1, .long p1), (3, .int p2)] by rfl]
  have hX : Ok X cX10_feed RX10 rm_X10_feed := hX
  unfold wp_X10_feed at h
  refine z_iload_n hX dX10_feed_0 rfl 2 rfl ?_
  refine z_iconst (v := (1 : Int32)) hX dX10_feed_1 (by decide) ?_
  obtain ⟨h1, h2⟩ := h
  refine z_icmp_lt (tgt := 26) hX dX10_feed_2 (by decide) (fun hc => ?_) (fun hc => ?_)
  · have h := h1 hc
    refine z_loc [] rfl ?_
    exact zb_X10_feed_26 hX hQ hnL h
  · have h := h2 hc
    refine z_iload_n hX dX10_feed_5 rfl 2 rfl ?_
    refine z_bipush (v := (8 : Int32)) hX dX10_feed_6 (by decide) ?_
    obtain ⟨h1, h2⟩ := h
    refine z_icmp_gt (tgt := 26) hX dX10_feed_8 (by decide) (fun hc => ?_) (fun hc => ?_)
    · have h := h1 hc
      refine z_loc [] rfl ?_
      exact zb_X10_feed_26 hX hQ hnL h
    · have h := h2 hc
      refine z_iload_n hX dX10_feed_11 rfl 2 rfl ?_
      refine z_sipush (v := (600 : Int32)) hX dX10_feed_12 (by decide) ?_
      refine z_aload_n (r := (some h0)) hX dX10_feed_15 rfl 0 rfl ?_
      obtain ⟨hk12, h⟩ := h
      refine gf_RX10_14 (r := (some h0)) hX dX10_feed_16 rfl hk12 ?_
      obtain ⟨a13, ha14, h⟩ := h
      obtain ⟨hk15, h⟩ := h
      refine gf_RX10_39 (r := (mR M 640 h0)) hX dX10_feed_19 ha14 hk15 ?_
      refine z_isub hX dX10_feed_22 ?_
      obtain ⟨h1, h2⟩ := h
      refine z_icmp_le (tgt := 28) hX dX10_feed_23 (by decide) (fun hc => ?_) (fun hc => ?_)
      · have h := h1 hc
        refine z_iload_n hX dX10_feed_28 rfl 2 rfl ?_
        refine z_iconst (v := (1 : Int32)) hX dX10_feed_29 (by decide) ?_
        refine z_isub hX dX10_feed_30 ?_
        refine z_istore hX [(4, .int (p2 - (1 : Int32))), (0, va_rf (some h0)), (1, .long p1), (3, .int p2)] dX10_feed_31 (by rw [hnL]; decide) rfl ?_
        refine z_loc [1, 2, 0] rfl ?_
        obtain ⟨n, h⟩ := h
        exact zl_X10_feed_33 hX hQ hnL n _ _ _ h
      · have h := h2 hc
        refine z_loc [] rfl ?_
        exact zb_X10_feed_26 hX hQ hnL h
def rm_X10_fault : Room := { frames := 0, cells := 0, slots := 0, locals := 0 }
def wp_X10_fault (M : Mm) (h0 : Nat) (K : Int32 → Mm → Prop) : Prop := mK M h0 = 11 ∧ (K (mI M 645 h0) M)
set_option maxRecDepth 100000 in
set_option maxHeartbeats 4000000 in
theorem ct_X10_fault {M : Mm} {h0 : Nat} {K : Int32 → Mm → Prop} (h : wp_X10_fault M h0 K) : CtI yX10_fault cX10_fault 1 (some .int) rm_X10_fault [.ref h0] M K := by
  refine ct_any (QI K) (by decide) (by exact Nat.le_of_ble_eq_true rfl) (fun X hX hQ hnL hnm => ?_)
  rw [show lv_args 0 [.ref h0] = [(0, va_rf (some h0))] by rfl]
  have hX : Ok X cX10_fault RX10 rm_X10_fault := hX
  unfold wp_X10_fault at h
  refine z_aload_n (r := (some h0)) hX dX10_fault_0 rfl 0 rfl ?_
  obtain ⟨hk1, h⟩ := h
  refine gf_RX10_35 (r := (some h0)) hX dX10_fault_1 rfl hk1 ?_
  exact z_iret hX hQ dX10_fault_4 h
