def rm_X0_init : Room := { frames := 1, cells := 1, slots := 800, locals := 20 }
def wp_X0_init (M : Mm) (h0 : Nat) (p1 : Int32) (K : Mm → Prop) : Prop := ¬ p1 < 0 ∧ (p1).toNatClampNeg ≤ 800 ∧ (∀ q1, mK M q1 = 0 → mK (na M q1 16 (p1).toNatClampNeg) h0 = 1 ∧ (K (sR (na M q1 16 (p1).toNatClampNeg) 0 h0 (some q1))))
set_option maxRecDepth 100000 in
set_option maxHeartbeats 4000000 in
theorem ct_X0_init {M : Mm} {h0 : Nat} {p1 : Int32} {K : Mm → Prop} (h : wp_X0_init M h0 p1 K) : CtV yX0_init cX0_init 2 none rm_X0_init [.ref h0, .int p1] M K := by
  refine ct_any (QV K) (by decide) (by exact Nat.le_of_ble_eq_true rfl) (fun X hX hQ hnL hnm => ?_)
  rw [show lv_args 0 [.ref h0, .int p1] = [(0, va_rf (some h0)), (1, .int p1)] by rfl]
  have hX : Ok X cX0_init RX0 rm_X0_init := hX
  unfold wp_X0_init at h
  refine z_aload_n (r := (some h0)) hX dX0_init_0 rfl 0 rfl ?_
  refine mw_RX0_3 (a := h0) hX dX0_init_1 (by decide) (by decide) ?_
  refine z_aload_n (r := (some h0)) hX dX0_init_4 rfl 0 rfl ?_
  refine z_iload_n hX dX0_init_5 rfl 1 rfl ?_
  obtain ⟨hc4, h⟩ := h
  obtain ⟨hc5, h⟩ := h
  refine y_newa_byte (n := (p1).toNatClampNeg) hX 16 (by decide) (by decide) hc4 rfl (by show _ * 1 ≤ _; omega) dX0_init_6 (by decide) (by show _ ≤ 800; omega) (fun q1 hq2 => ?_)
  refine z_widen 1 800 (by omega) (by omega) ?_
  have h := h q1 hq2
  obtain ⟨hk6, h⟩ := h
  refine pf_RX0_9 (r := (some h0)) (v := (some q1)) hX hnm dX0_init_8 rfl hk6 ?_
  refine z_widen 1 800 (by decide) (by decide) ?_
  exact z_vret hX hQ dX0_init_11 h
def rm_X0_clear : Room := { frames := 0, cells := 0, slots := 0, locals := 0 }
def wp_X0_clear (M : Mm) (h0 : Nat) (K : Mm → Prop) : Prop := mK M h0 = 1 ∧ (K (sI M 1 h0 (0 : Int32)))
set_option maxRecDepth 100000 in
set_option maxHeartbeats 4000000 in
theorem ct_X0_clear {M : Mm} {h0 : Nat} {K : Mm → Prop} (h : wp_X0_clear M h0 K) : CtV yX0_clear cX0_clear 1 none rm_X0_clear [.ref h0] M K := by
  refine ct_any (QV K) (by decide) (by exact Nat.le_of_ble_eq_true rfl) (fun X hX hQ hnL hnm => ?_)
  rw [show lv_args 0 [.ref h0] = [(0, va_rf (some h0))] by rfl]
  have hX : Ok X cX0_clear RX0 rm_X0_clear := hX
  unfold wp_X0_clear at h
  refine z_aload_n (r := (some h0)) hX dX0_clear_0 rfl 0 rfl ?_
  refine z_iconst (v := (0 : Int32)) hX dX0_clear_1 (by decide) ?_
  obtain ⟨hk1, h⟩ := h
  refine pf_RX0_15 (r := (some h0)) (v := (0 : Int32)) hX dX0_clear_2 rfl hk1 ?_
  exact z_vret hX hQ dX0_clear_5 h
def rm_X0_add : Room := { frames := 0, cells := 0, slots := 0, locals := 0 }
def bk_X0_add_33 (h0 : Nat) (K : Mm → Prop) (M : Mm) : Prop := (K M)
set_option maxRecDepth 100000 in
set_option maxHeartbeats 4000000 in
theorem zb_X0_add_33 {X : Cx} {h0 : Nat} {K : Mm → Prop} (hX : Ok X cX0_add RX0 rm_X0_add) (hQ : Rq X rm_X0_add none (QV K)) (hnL : X.2.2.2.2.2.2.2.2.2.2.2.2.2.2 = 2) {M : Mm} (h : bk_X0_add_33 h0 K M) : Z X M 0 0 33 [] [] := by
  unfold bk_X0_add_33 at h
  exact z_vret hX hQ dX0_add_33 h
def wp_X0_add (M : Mm) (h0 : Nat) (p1 : Int32) (K : Mm → Prop) : Prop := mK M h0 = 1 ∧ ∃ a2, (mR M 0 h0) = some a2 ∧ isA M a2 0 ∧ (((nI (aN M a2)) ≤ (mI M 1 h0) → (bk_X0_add_33 h0 K M)) ∧ (¬ (nI (aN M a2)) ≤ (mI M 1 h0) → vp_in (mI M 1 h0) (aN M a2) ∧ (bk_X0_add_33 h0 K (sI (tI M a2 ((mI M 1 h0)).toNatClampNeg ((((p1).toInt8.toInt32)).toInt8.toInt32)) 1 h0 ((mI (tI M a2 ((mI M 1 h0)).toNatClampNeg ((((p1).toInt8.toInt32)).toInt8.toInt32)) 1 h0) + (1 : Int32))))))
set_option maxRecDepth 100000 in
set_option maxHeartbeats 4000000 in
theorem ct_X0_add {M : Mm} {h0 : Nat} {p1 : Int32} {K : Mm → Prop} (h : wp_X0_add M h0 p1 K) : CtV yX0_add cX0_add 2 none rm_X0_add [.ref h0, .int p1] M K := by
  refine ct_any (QV K) (by decide) (by exact Nat.le_of_ble_eq_true rfl) (fun X hX hQ hnL hnm => ?_)
  rw [show lv_args 0 [.ref h0, .int p1] = [(0, va_rf (some h0)), (1, .int p1)] by rfl]
  have hX : Ok X cX0_add RX0 rm_X0_add := hX
  unfold wp_X0_add at h
  refine z_aload_n (r := (some h0)) hX dX0_add_0 rfl 0 rfl ?_
  obtain ⟨hk1, h⟩ := h
  refine gf_RX0_15 (r := (some h0)) hX dX0_add_1 rfl hk1 ?_
  refine z_aload_n (r := (some h0)) hX dX0_add_4 rfl 0 rfl ?_
  refine gf_RX0_9 (r := (some h0)) hX dX0_add_5 rfl hk1 ?_
  obtain ⟨a2, ha3, h⟩ := h
  obtain ⟨hk4, h⟩ := h
  refine y_alen (r := (mR M 0 h0)) hX dX0_add_8 ha3 hk4 (by decide) ?_
  obtain ⟨h1, h2⟩ := h
  refine z_icmp_ge (tgt := 33) hX dX0_add_9 (by decide) (fun hc => ?_) (fun hc => ?_)
  · have h := h1 hc
    refine z_loc [] rfl ?_
    exact zb_X0_add_33 hX hQ hnL h
  · have h := h2 hc
    refine z_aload_n (r := (some h0)) hX dX0_add_12 rfl 0 rfl ?_
    refine gf_RX0_9 (r := (some h0)) hX dX0_add_13 rfl hk1 ?_
    refine z_aload_n (r := (some h0)) hX dX0_add_16 rfl 0 rfl ?_
    refine gf_RX0_15 (r := (some h0)) hX dX0_add_17 rfl hk1 ?_
    refine z_iload_n hX dX0_add_20 rfl 1 rfl ?_
    refine z_i2b hX dX0_add_21 ?_
    obtain ⟨hc5, h⟩ := h
    refine y_bast (r := (mR M 0 h0)) hX dX0_add_22 ha3 hk4 hc5 ?_
    refine z_aload_n (r := (some h0)) hX dX0_add_23 rfl 0 rfl ?_
    refine z_dup hX dX0_add_24 (cat_rf _) ?_
    refine gf_RX0_15 (r := (some h0)) hX dX0_add_25 rfl hk1 ?_
    refine z_iconst (v := (1 : Int32)) hX dX0_add_28 (by decide) ?_
    refine z_iadd hX dX0_add_29 ?_
    refine pf_RX0_15 (r := (some h0)) (v := ((mI (tI M a2 ((mI M 1 h0)).toNatClampNeg ((((p1).toInt8.toInt32)).toInt8.toInt32)) 1 h0) + (1 : Int32))) hX dX0_add_30 rfl hk1 ?_
    refine z_loc [] rfl ?_
    exact zb_X0_add_33 hX hQ hnL h
def rm_X0_at : Room := { frames := 0, cells := 0, slots := 0, locals := 0 }
def bk_X0_at_26 (h0 : Nat) (K : Int32 → Mm → Prop) (s0 : Int32) (M : Mm) : Prop := (K s0 M)
set_option maxRecDepth 100000 in
set_option maxHeartbeats 4000000 in
theorem zb_X0_at_26 {X : Cx} {h0 : Nat} {K : Int32 → Mm → Prop} (hX : Ok X cX0_at RX0 rm_X0_at) (hQ : Rq X rm_X0_at (some .int) (QI K)) (hnL : X.2.2.2.2.2.2.2.2.2.2.2.2.2.2 = 2) {s0 : Int32} {M : Mm} (h : bk_X0_at_26 h0 K s0 M) : Z X M 0 0 26 [] [.int s0] := by
  unfold bk_X0_at_26 at h
  exact z_iret hX hQ dX0_at_26 h
def bk_X0_at_25 (h0 : Nat) (K : Int32 → Mm → Prop) (M : Mm) : Prop := (bk_X0_at_26 h0 K (-1 : Int32) M)
set_option maxRecDepth 100000 in
set_option maxHeartbeats 4000000 in
theorem zb_X0_at_25 {X : Cx} {h0 : Nat} {K : Int32 → Mm → Prop} (hX : Ok X cX0_at RX0 rm_X0_at) (hQ : Rq X rm_X0_at (some .int) (QI K)) (hnL : X.2.2.2.2.2.2.2.2.2.2.2.2.2.2 = 2) {M : Mm} (h : bk_X0_at_25 h0 K M) : Z X M 0 0 25 [] [] := by
  unfold bk_X0_at_25 at h
  refine z_iconst (v := (-1 : Int32)) hX dX0_at_25 (by decide) ?_
  exact zb_X0_at_26 hX hQ hnL h
def wp_X0_at (M : Mm) (h0 : Nat) (p1 : Int32) (K : Int32 → Mm → Prop) : Prop := ((p1 < 0 → (bk_X0_at_25 h0 K M)) ∧ (¬ p1 < 0 → mK M h0 = 1 ∧ (((mI M 1 h0) ≤ p1 → (bk_X0_at_25 h0 K M)) ∧ (¬ (mI M 1 h0) ≤ p1 → ∃ a2, (mR M 0 h0) = some a2 ∧ isA M a2 0 ∧ vp_in p1 (aN M a2) ∧ (bk_X0_at_26 h0 K ((aI M a2 (p1).toNatClampNeg) &&& (255 : Int32)) M)))))
set_option maxRecDepth 100000 in
set_option maxHeartbeats 4000000 in
theorem ct_X0_at {M : Mm} {h0 : Nat} {p1 : Int32} {K : Int32 → Mm → Prop} (h : wp_X0_at M h0 p1 K) : CtI yX0_at cX0_at 2 (some .int) rm_X0_at [.ref h0, .int p1] M K := by
  refine ct_any (QI K) (by decide) (by exact Nat.le_of_ble_eq_true rfl) (fun X hX hQ hnL hnm => ?_)
  rw [show lv_args 0 [.ref h0, .int p1] = [(0, va_rf (some h0)), (1, .int p1)] by rfl]
  have hX : Ok X cX0_at RX0 rm_X0_at := hX
  unfold wp_X0_at at h
  refine z_iload_n hX dX0_at_0 rfl 1 rfl ?_
  obtain ⟨h1, h2⟩ := h
  refine z_if_lt (tgt := 25) hX dX0_at_1 (by decide) (fun hc => ?_) (fun hc => ?_)
  · have h := h1 hc
    refine z_loc [] rfl ?_
    exact zb_X0_at_25 hX hQ hnL h
  · have h := h2 hc
    refine z_iload_n hX dX0_at_4 rfl 1 rfl ?_
    refine z_aload_n (r := (some h0)) hX dX0_at_5 rfl 0 rfl ?_
    obtain ⟨hk1, h⟩ := h
    refine gf_RX0_15 (r := (some h0)) hX dX0_at_6 rfl hk1 ?_
    obtain ⟨h1, h2⟩ := h
    refine z_icmp_ge (tgt := 25) hX dX0_at_9 (by decide) (fun hc => ?_) (fun hc => ?_)
    · have h := h1 hc
      refine z_loc [] rfl ?_
      exact zb_X0_at_25 hX hQ hnL h
    · have h := h2 hc
      refine z_aload_n (r := (some h0)) hX dX0_at_12 rfl 0 rfl ?_
      refine gf_RX0_9 (r := (some h0)) hX dX0_at_13 rfl hk1 ?_
      refine z_iload_n hX dX0_at_16 rfl 1 rfl ?_
      obtain ⟨a2, ha3, h⟩ := h
      obtain ⟨hk4, h⟩ := h
      obtain ⟨hc5, h⟩ := h
      refine y_bald (r := (mR M 0 h0)) hX dX0_at_17 ha3 hk4 hc5 ?_
      refine z_sipush (v := (255 : Int32)) hX dX0_at_18 (by decide) ?_
      refine z_iand hX dX0_at_21 ?_
      refine z_goto (tgt := 26) hX dX0_at_22 (by decide) ?_
      refine z_loc [] rfl ?_
      exact zb_X0_at_26 hX hQ hnL h
def rm_X0_addWord : Room := { frames := 1, cells := 0, slots := 0, locals := 21 }
def bk_X0_addWord_28 (h0 : Nat) (R3 : Int64 → Int32 → Mm → Prop) (K : Mm → Prop) (l1 : Int64) (l3 : Int32) (M : Mm) : Prop := (R3 l1 (l3 + (-8)) M)
set_option maxRecDepth 100000 in
set_option maxHeartbeats 4000000 in
theorem zb_X0_addWord_28 {X : Cx} {h0 : Nat} {R3 : Int64 → Int32 → Mm → Prop} {K : Mm → Prop} (hX : Ok X cX0_addWord RX0 rm_X0_addWord) (hQ : Rq X rm_X0_addWord none (QV K)) (hnL : X.2.2.2.2.2.2.2.2.2.2.2.2.2.2 = 5) (hR3 : ∀ l1 l3 M, R3 l1 l3 M → Z X M 0 0 3 [(0, va_rf (some h0)), (1, .long l1), (3, .int l3)] []) {l1 : Int64} {l3 : Int32} {M : Mm} (h : bk_X0_addWord_28 h0 R3 K l1 l3 M) : Z X M 0 0 28 [(0, va_rf (some h0)), (1, .long l1), (3, .int l3)] [] := by
  unfold bk_X0_addWord_28 at h
  refine z_iinc (v := (l3 + (-8))) hX [(3, .int (l3 + (-8))), (0, va_rf (some h0)), (1, .long l1)] dX0_addWord_28 2 rfl rfl (by rw [hnL]; decide) rfl ?_
  refine z_goto (tgt := 3) hX dX0_addWord_31 (by decide) ?_
  refine z_loc [1, 2, 0] rfl ?_
  exact hR3 _ _ _ h
def lp_X0_addWord_3 (h0 : Nat) (K : Mm → Prop) : Nat → Int64 → Int32 → Mm → Prop
  | 0, _, _, _ => False
  | n + 1, l1, l3, M => ((l3 < 0 → (K M)) ∧ (¬ l3 < 0 → ((((((((l1).toUInt64 >>> ((l3).toInt64.toUInt64 &&& Int64.toUInt64 63)).toInt64)).toInt32) &&& (255 : Int32)) = 0 → (bk_X0_addWord_28 h0 (lp_X0_addWord_3 h0 K n) K l1 l3 M)) ∧ (¬ ((((((l1).toUInt64 >>> ((l3).toInt64.toUInt64 &&& Int64.toUInt64 63)).toInt64)).toInt32) &&& (255 : Int32)) = 0 → mK M h0 = 1 ∧ (wp_X0_add M h0 ((((((l1).toUInt64 >>> ((l3).toInt64.toUInt64 &&& Int64.toUInt64 63)).toInt64)).toInt32) &&& (255 : Int32)) (fun M2 => (bk_X0_addWord_28 h0 (lp_X0_addWord_3 h0 K n) K l1 l3 M2)))))))
set_option maxRecDepth 100000 in
set_option maxHeartbeats 4000000 in
theorem zl_X0_addWord_3 {X : Cx} {h0 : Nat} {K : Mm → Prop} (hX : Ok X cX0_addWord RX0 rm_X0_addWord) (hQ : Rq X rm_X0_addWord none (QV K)) (hnL : X.2.2.2.2.2.2.2.2.2.2.2.2.2.2 = 5) : ∀ (n : Nat) (l1 : Int64) (l3 : Int32) (M : Mm), lp_X0_addWord_3 h0 K n l1 l3 M → Z X M 0 0 3 [(0, va_rf (some h0)), (1, .long l1), (3, .int l3)] [] := by
  intro n
  induction n with
  | zero =>
    intro l1 l3 M h
    exact False.elim h
  | succ n hR3 =>
    intro l1 l3 M h
    refine z_iload_n hX dX0_addWord_3 rfl 2 rfl ?_
    obtain ⟨h1, h2⟩ := h
    refine z_if_lt (tgt := 34) hX dX0_addWord_4 (by decide) (fun hc => ?_) (fun hc => ?_)
    · have h := h1 hc
      exact z_vret hX hQ dX0_addWord_34 h
    · have h := h2 hc
      refine z_lload_n hX dX0_addWord_7 rfl 1 rfl ?_
      refine z_iload_n hX dX0_addWord_8 rfl 2 rfl ?_
      refine z_lushr hX dX0_addWord_9 ?_
      refine z_l2i hX dX0_addWord_10 ?_
      refine z_sipush (v := (255 : Int32)) hX dX0_addWord_11 (by decide) ?_
      refine z_iand hX dX0_addWord_14 ?_
      refine z_istore hX [(4, .int ((((((l1).toUInt64 >>> ((l3).toInt64.toUInt64 &&& Int64.toUInt64 63)).toInt64)).toInt32) &&& (255 : Int32))), (0, va_rf (some h0)), (1, .long l1), (3, .int l3)] dX0_addWord_15 (by rw [hnL]; decide) rfl ?_
      refine z_iload hX dX0_addWord_17 0 rfl ?_
      obtain ⟨h1, h2⟩ := h
      refine z_if_eq (tgt := 28) hX dX0_addWord_19 (by decide) (fun hc => ?_) (fun hc => ?_)
      · have h := h1 hc
        refine z_loc [1, 2, 3] rfl ?_
        exact zb_X0_addWord_28 hX hQ hnL hR3 h
      · have h := h2 hc
        refine z_aload_n (r := (some h0)) hX dX0_addWord_22 rfl 1 rfl ?_
        refine z_iload hX dX0_addWord_23 0 rfl ?_
        obtain ⟨hk3, h⟩ := h
        refine z_callVV (As := [.int ((((((l1).toUInt64 >>> ((l3).toInt64.toUInt64 &&& Int64.toUInt64 63)).toInt64)).toInt32) &&& (255 : Int32))]) (rest := []) (ci := 0) hX (ct_X0_add h) mw_RX0_19 rfl (by decide) rfl (by rfl) (by unfold RoomC; decide) (by decide) dX0_addWord_25 hk3 (fun M2 h => ?_)
        refine z_loc [1, 2, 3] rfl ?_
        exact zb_X0_addWord_28 hX hQ hnL hR3 h
def wp_X0_addWord (M : Mm) (h0 : Nat) (p1 : Int64) (K : Mm → Prop) : Prop := (∃ n, lp_X0_addWord_3 h0 K n p1 (56 : Int32) M)
set_option maxRecDepth 100000 in
set_option maxHeartbeats 4000000 in
theorem ct_X0_addWord {M : Mm} {h0 : Nat} {p1 : Int64} {K : Mm → Prop} (h : wp_X0_addWord M h0 p1 K) : CtV yX0_addWord cX0_addWord 5 none rm_X0_addWord [.ref h0, .long p1] M K := by
  refine ct_any (QV K) (by decide) (by exact Nat.le_of_ble_eq_true rfl) (fun X hX hQ hnL hnm => ?_)
  rw [show lv_args 0 [.ref h0, .long p1] = [(0, va_rf (some h0)), (1, .long p1)] by rfl]
  have hX : Ok X cX0_addWord RX0 rm_X0_addWord := hX
  unfold wp_X0_addWord at h
  refine z_bipush (v := (56 : Int32)) hX dX0_addWord_0 (by decide) ?_
  refine z_istore_n hX [(3, .int (56 : Int32)), (0, va_rf (some h0)), (1, .long p1)] dX0_addWord_2 rfl (by rw [hnL]; decide) rfl ?_
  refine z_loc [1, 2, 0] rfl ?_
  obtain ⟨n, h⟩ := h
  exact zl_X0_addWord_3 hX hQ hnL n _ _ _ h
def rm_X0_addNumber : Room := { frames := 1, cells := 0, slots := 0, locals := 21 }
def lp_X0_addNumber_83 (h0 : Nat) (K : Mm → Prop) : Nat → Int64 → Int32 → Int32 → Mm → Prop
  | 0, _, _, _, _ => False
  | n + 1, l3, l5, l6, M => mK M h0 = 1 ∧ ((l6 < (mI M 1 h0) → (K (sI M 1 h0 ((mI M 1 h0) + l5)))) ∧ (¬ l6 < (mI M 1 h0) → ∃ a3, (mR M 0 h0) = some a3 ∧ isA M a3 0 ∧ vp_in l6 (aN M a3) ∧ ((lp_X0_addNumber_83 h0 K n) (l3 / (10 : Int64)) l5 (l6 + (-1)) (tI M a3 (l6).toNatClampNeg ((((((((48 : Int64) + (l3 - l3 / (10 : Int64) * (10 : Int64)))).toInt32)).toInt8.toInt32)).toInt8.toInt32)))))
set_option maxRecDepth 100000 in
set_option maxHeartbeats 4000000 in
theorem zl_X0_addNumber_83 {X : Cx} {h0 : Nat} {K : Mm → Prop} (hX : Ok X cX0_addNumber RX0 rm_X0_addNumber) (hQ : Rq X rm_X0_addNumber none (QV K)) (hnL : X.2.2.2.2.2.2.2.2.2.2.2.2.2.2 = 8) : ∀ (n : Nat) (l3 : Int64) (l5 : Int32) (l6 : Int32) (M : Mm), lp_X0_addNumber_83 h0 K n l3 l5 l6 M → Z X M 0 0 83 [(0, va_rf (some h0)), (3, .long l3), (5, .int l5), (6, .int l6)] [] := by
  intro n
  induction n with
  | zero =>
    intro l3 l5 l6 M h
    exact False.elim h
  | succ n hR83 =>
    intro l3 l5 l6 M h
    refine z_iload hX dX0_addNumber_83 3 rfl ?_
    refine z_aload_n (r := (some h0)) hX dX0_addNumber_85 rfl 0 rfl ?_
    obtain ⟨hk1, h⟩ := h
    refine gf_RX0_15 (r := (some h0)) hX dX0_addNumber_86 rfl hk1 ?_
    obtain ⟨h1, h2⟩ := h
    refine z_icmp_lt (tgt := 122) hX dX0_addNumber_89 (by decide) (fun hc => ?_) (fun hc => ?_)
    · have h := h1 hc
      refine z_aload_n (r := (some h0)) hX dX0_addNumber_122 rfl 0 rfl ?_
      refine z_dup hX dX0_addNumber_123 (cat_rf _) ?_
      refine gf_RX0_15 (r := (some h0)) hX dX0_addNumber_124 rfl hk1 ?_
      refine z_iload hX dX0_addNumber_127 2 rfl ?_
      refine z_iadd hX dX0_addNumber_129 ?_
      refine pf_RX0_15 (r := (some h0)) (v := ((mI M 1 h0) + l5)) hX dX0_addNumber_130 rfl hk1 ?_
      exact z_vret hX hQ dX0_addNumber_133 h
    · have h := h2 hc
      refine z_aload_n (r := (some h0)) hX dX0_addNumber_92 rfl 0 rfl ?_
      refine gf_RX0_9 (r := (some h0)) hX dX0_addNumber_93 rfl hk1 ?_
      refine z_iload hX dX0_addNumber_96 3 rfl ?_
      refine z_ldc2 (v := (48 : Int64)) hX dX0_addNumber_98 kj_RX0_25 ?_
      refine z_lload_n hX dX0_addNumber_101 rfl 1 rfl ?_
      refine z_ldc2 (v := (10 : Int64)) hX dX0_addNumber_102 kj_RX0_23 ?_
      refine z_lrem hX dX0_addNumber_105 (by decide) ?_
      refine z_ladd hX dX0_addNumber_106 ?_
      refine z_l2i hX dX0_addNumber_107 ?_
      refine z_i2b hX dX0_addNumber_108 ?_
      obtain ⟨a3, ha4, h⟩ := h
      obtain ⟨hk5, h⟩ := h
      obtain ⟨hc6, h⟩ := h
      refine y_bast (r := (mR M 0 h0)) hX dX0_addNumber_109 ha4 hk5 hc6 ?_
      refine z_lload_n hX dX0_addNumber_110 rfl 1 rfl ?_
      refine z_ldc2 (v := (10 : Int64)) hX dX0_addNumber_111 kj_RX0_23 ?_
      refine z_ldiv hX dX0_addNumber_114 (by decide) ?_
      refine z_lstore_n hX [(3, .long (l3 / (10 : Int64))), (0, va_rf (some h0)), (5, .int l5), (6, .int l6)] dX0_addNumber_115 rfl (by rw [hnL]; decide) rfl ?_
      refine z_iinc (v := (l6 + (-1))) hX [(6, .int (l6 + (-1))), (3, .long (l3 / (10 : Int64))), (0, va_rf (some h0)), (5, .int l5)] dX0_addNumber_116 3 rfl rfl (by rw [hnL]; decide) rfl ?_
      refine z_goto (tgt := 83) hX dX0_addNumber_119 (by decide) ?_
      refine z_loc [2, 1, 3, 0] rfl ?_
      exact hR83 _ _ _ _ h
def lp_X0_addNumber_35 (h0 : Nat) (K : Mm → Prop) : Nat → Int64 → Int32 → Int64 → Mm → Prop
  | 0, _, _, _, _ => False
  | n + 1, l3, l5, l6, M => ((l6 ≤ (0 : Int64) → mK M h0 = 1 ∧ ∃ a8, (mR M 0 h0) = some a8 ∧ isA M a8 0 ∧ ((l5 ≤ ((nI (aN M a8)) - (mI M 1 h0)) → (∃ n, lp_X0_addNumber_83 h0 K n l3 l5 (((mI M 1 h0) + l5) - (1 : Int32)) M)) ∧ (¬ l5 ≤ ((nI (aN M a8)) - (mI M 1 h0)) → (K M)))) ∧ (¬ l6 ≤ (0 : Int64) → ((lp_X0_addNumber_35 h0 K n) l3 (l5 + 1) (l6 / (10 : Int64)) M)))
set_option maxRecDepth 100000 in
set_option maxHeartbeats 4000000 in
theorem zl_X0_addNumber_35 {X : Cx} {h0 : Nat} {K : Mm → Prop} (hX : Ok X cX0_addNumber RX0 rm_X0_addNumber) (hQ : Rq X rm_X0_addNumber none (QV K)) (hnL : X.2.2.2.2.2.2.2.2.2.2.2.2.2.2 = 8) : ∀ (n : Nat) (l3 : Int64) (l5 : Int32) (l6 : Int64) (M : Mm), lp_X0_addNumber_35 h0 K n l3 l5 l6 M → Z X M 0 0 35 [(0, va_rf (some h0)), (3, .long l3), (5, .int l5), (6, .long l6)] [] := by
  intro n
  induction n with
  | zero =>
    intro l3 l5 l6 M h
    exact False.elim h
  | succ n hR35 =>
    intro l3 l5 l6 M h
    refine z_lload hX dX0_addNumber_35 3 rfl ?_
    refine z_lconst (v := (0 : Int64)) hX dX0_addNumber_37 (by decide) ?_
    refine z_lcmp hX dX0_addNumber_38 ?_
    obtain ⟨h1, h2⟩ := h
    refine z_if_le (tgt := 56) hX dX0_addNumber_39 (by decide) (fun hc => ?_) (fun hc => ?_)
    · have h := h1 ((lg_cmp_le _ _).mp hc)
      refine z_iload hX dX0_addNumber_56 2 rfl ?_
      refine z_aload_n (r := (some h0)) hX dX0_addNumber_58 rfl 0 rfl ?_
      obtain ⟨hk7, h⟩ := h
      refine gf_RX0_9 (r := (some h0)) hX dX0_addNumber_59 rfl hk7 ?_
      obtain ⟨a8, ha9, h⟩ := h
      obtain ⟨hk10, h⟩ := h
      refine y_alen (r := (mR M 0 h0)) hX dX0_addNumber_62 ha9 hk10 (by decide) ?_
      refine z_aload_n (r := (some h0)) hX dX0_addNumber_63 rfl 0 rfl ?_
      refine gf_RX0_15 (r := (some h0)) hX dX0_addNumber_64 rfl hk7 ?_
      refine z_isub hX dX0_addNumber_67 ?_
      obtain ⟨h1, h2⟩ := h
      refine z_icmp_le (tgt := 72) hX dX0_addNumber_68 (by decide) (fun hc => ?_) (fun hc => ?_)
      · have h := h1 hc
        refine z_aload_n (r := (some h0)) hX dX0_addNumber_72 rfl 0 rfl ?_
        refine gf_RX0_15 (r := (some h0)) hX dX0_addNumber_73 rfl hk7 ?_
        refine z_iload hX dX0_addNumber_76 2 rfl ?_
        refine z_iadd hX dX0_addNumber_78 ?_
        refine z_iconst (v := (1 : Int32)) hX dX0_addNumber_79 (by decide) ?_
        refine z_isub hX dX0_addNumber_80 ?_
        refine z_istore hX [(6, .int (((mI M 1 h0) + l5) - (1 : Int32))), (0, va_rf (some h0)), (3, .long l3), (5, .int l5)] dX0_addNumber_81 (by rw [hnL]; decide) rfl ?_
        refine z_loc [1, 2, 3, 0] rfl ?_
        obtain ⟨n, h⟩ := h
        exact zl_X0_addNumber_83 hX hQ hnL n _ _ _ _ h
      · have h := h2 hc
        exact z_vret hX hQ dX0_addNumber_71 h
    · have h := h2 (fun q => hc ((lg_cmp_le _ _).mpr q))
      refine z_iinc (v := (l5 + 1)) hX [(5, .int (l5 + 1)), (0, va_rf (some h0)), (3, .long l3), (6, .long l6)] dX0_addNumber_42 2 rfl rfl (by rw [hnL]; decide) rfl ?_
      refine z_lload hX dX0_addNumber_45 3 rfl ?_
      refine z_ldc2 (v := (10 : Int64)) hX dX0_addNumber_47 kj_RX0_23 ?_
      refine z_ldiv hX dX0_addNumber_50 (by decide) ?_
      refine z_lstore hX [(6, .long (l6 / (10 : Int64))), (5, .int (l5 + 1)), (0, va_rf (some h0)), (3, .long l3)] dX0_addNumber_51 (by rw [hnL]; decide) rfl ?_
      refine z_goto (tgt := 35) hX dX0_addNumber_53 (by decide) ?_
      refine z_loc [2, 3, 1, 0] rfl ?_
      exact hR35 _ _ _ _ h
def bk_X0_addNumber_24 (h0 : Nat) (K : Mm → Prop) (s0 : Int64) (M : Mm) : Prop := (∃ n, lp_X0_addNumber_35 h0 K n s0 (1 : Int32) (s0 / (10 : Int64)) M)
set_option maxRecDepth 100000 in
set_option maxHeartbeats 4000000 in
theorem zb_X0_addNumber_24 {X : Cx} {h0 : Nat} {K : Mm → Prop} (hX : Ok X cX0_addNumber RX0 rm_X0_addNumber) (hQ : Rq X rm_X0_addNumber none (QV K)) (hnL : X.2.2.2.2.2.2.2.2.2.2.2.2.2.2 = 8) {s0 : Int64} {M : Mm} (h : bk_X0_addNumber_24 h0 K s0 M) : Z X M 0 0 24 [(0, va_rf (some h0))] [.long s0] := by
  unfold bk_X0_addNumber_24 at h
  refine z_lstore_n hX [(3, .long s0), (0, va_rf (some h0))] dX0_addNumber_24 rfl (by rw [hnL]; decide) rfl ?_
  refine z_iconst (v := (1 : Int32)) hX dX0_addNumber_25 (by decide) ?_
  refine z_istore hX [(5, .int (1 : Int32)), (3, .long s0), (0, va_rf (some h0))] dX0_addNumber_26 (by rw [hnL]; decide) rfl ?_
  refine z_lload_n hX dX0_addNumber_28 rfl 1 rfl ?_
  refine z_ldc2 (v := (10 : Int64)) hX dX0_addNumber_29 kj_RX0_23 ?_
  refine z_ldiv hX dX0_addNumber_32 (by decide) ?_
  refine z_lstore hX [(6, .long (s0 / (10 : Int64))), (5, .int (1 : Int32)), (3, .long s0), (0, va_rf (some h0))] dX0_addNumber_33 (by rw [hnL]; decide) rfl ?_
  refine z_loc [3, 2, 1, 0] rfl ?_
  obtain ⟨n, h⟩ := h
  exact zl_X0_addNumber_35 hX hQ hnL n _ _ _ _ h
def bk_X0_addNumber_12 (h0 : Nat) (K : Mm → Prop) (l1 : Int64) (M : Mm) : Prop := (((0 : Int64) ≤ l1 → (bk_X0_addNumber_24 h0 K l1 M)) ∧ (¬ (0 : Int64) ≤ l1 → (bk_X0_addNumber_24 h0 K (-l1) M)))
set_option maxRecDepth 100000 in
set_option maxHeartbeats 4000000 in
theorem zb_X0_addNumber_12 {X : Cx} {h0 : Nat} {K : Mm → Prop} (hX : Ok X cX0_addNumber RX0 rm_X0_addNumber) (hQ : Rq X rm_X0_addNumber none (QV K)) (hnL : X.2.2.2.2.2.2.2.2.2.2.2.2.2.2 = 8) {l1 : Int64} {M : Mm} (h : bk_X0_addNumber_12 h0 K l1 M) : Z X M 0 0 12 [(0, va_rf (some h0)), (1, .long l1)] [] := by
  unfold bk_X0_addNumber_12 at h
  refine z_lload_n hX dX0_addNumber_12 rfl 1 rfl ?_
  refine z_lconst (v := (0 : Int64)) hX dX0_addNumber_13 (by decide) ?_
  refine z_lcmp hX dX0_addNumber_14 ?_
  obtain ⟨h1, h2⟩ := h
  refine z_if_ge (tgt := 23) hX dX0_addNumber_15 (by decide) (fun hc => ?_) (fun hc => ?_)
  · have h := h1 ((lg_cmp_ge _ _).mp hc)
    refine z_lload_n hX dX0_addNumber_23 rfl 1 rfl ?_
    refine z_loc [0] rfl ?_
    exact zb_X0_addNumber_24 hX hQ hnL h
  · have h := h2 (fun q => hc ((lg_cmp_ge _ _).mpr q))
    refine z_lload_n hX dX0_addNumber_18 rfl 1 rfl ?_
    refine z_lneg hX dX0_addNumber_19 ?_
    refine z_goto (tgt := 24) hX dX0_addNumber_20 (by decide) ?_
    refine z_loc [0] rfl ?_
    exact zb_X0_addNumber_24 hX hQ hnL h
def wp_X0_addNumber (M : Mm) (h0 : Nat) (p1 : Int64) (K : Mm → Prop) : Prop := (((0 : Int64) ≤ p1 → (bk_X0_addNumber_12 h0 K p1 M)) ∧ (¬ (0 : Int64) ≤ p1 → mK M h0 = 1 ∧ (wp_X0_add M h0 (45 : Int32) (fun M12 => (bk_X0_addNumber_12 h0 K p1 M12)))))
set_option maxRecDepth 100000 in
set_option maxHeartbeats 4000000 in
theorem ct_X0_addNumber {M : Mm} {h0 : Nat} {p1 : Int64} {K : Mm → Prop} (h : wp_X0_addNumber M h0 p1 K) : CtV yX0_addNumber cX0_addNumber 8 none rm_X0_addNumber [.ref h0, .long p1] M K := by
  refine ct_any (QV K) (by decide) (by exact Nat.le_of_ble_eq_true rfl) (fun X hX hQ hnL hnm => ?_)
  rw [show lv_args 0 [.ref h0, .long p1] = [(0, va_rf (some h0)), (1, .long p1)] by rfl]
  have hX : Ok X cX0_addNumber RX0 rm_X0_addNumber := hX
  unfold wp_X0_addNumber at h
  refine z_lload_n hX dX0_addNumber_0 rfl 1 rfl ?_
  refine z_lconst (v := (0 : Int64)) hX dX0_addNumber_1 (by decide) ?_
  refine z_lcmp hX dX0_addNumber_2 ?_
  obtain ⟨h1, h2⟩ := h
  refine z_if_ge (tgt := 12) hX dX0_addNumber_3 (by decide) (fun hc => ?_) (fun hc => ?_)
  · have h := h1 ((lg_cmp_ge _ _).mp hc)
    exact zb_X0_addNumber_12 hX hQ hnL h
  · have h := h2 (fun q => hc ((lg_cmp_ge _ _).mpr q))
    refine z_aload_n (r := (some h0)) hX dX0_addNumber_6 rfl 0 rfl ?_
    refine z_bipush (v := (45 : Int32)) hX dX0_addNumber_7 (by decide) ?_
    obtain ⟨hk13, h⟩ := h
    refine z_callVV (As := [.int (45 : Int32)]) (rest := []) (ci := 0) hX (ct_X0_add h) mw_RX0_19 rfl (by decide) rfl (by rfl) (by unfold RoomC; decide) (by decide) dX0_addNumber_9 hk13 (fun M12 h => ?_)
    exact zb_X0_addNumber_12 hX hQ hnL h
def rm_X0_addTime : Room := { frames := 2, cells := 0, slots := 0, locals := 48 }
def bk_X0_addTime_41 (h0 : Nat) (K : Mm → Prop) (M : Mm) : Prop := (K M)
set_option maxRecDepth 100000 in
set_option maxHeartbeats 4000000 in
theorem zb_X0_addTime_41 {X : Cx} {h0 : Nat} {K : Mm → Prop} (hX : Ok X cX0_addTime RX0 rm_X0_addTime) (hQ : Rq X rm_X0_addTime none (QV K)) (hnL : X.2.2.2.2.2.2.2.2.2.2.2.2.2.2 = 3) {M : Mm} (h : bk_X0_addTime_41 h0 K M) : Z X M 0 0 41 [] [] := by
  unfold bk_X0_addTime_41 at h
  exact z_vret hX hQ dX0_addTime_41 h
def wp_X0_addTime (M : Mm) (h0 : Nat) (p1 : Int64) (K : Mm → Prop) : Prop := ((¬ p1 = (-9000000000000000000 : Int64) → ((¬ p1 = (9000000000000000000 : Int64) → mK M h0 = 1 ∧ (wp_X0_addNumber M h0 p1 (fun M2 => (bk_X0_addTime_41 h0 K M2)))) ∧ (p1 = (9000000000000000000 : Int64) → mK M h0 = 1 ∧ (wp_X0_addWord M h0 (6647396 : Int64) (fun M6 => (bk_X0_addTime_41 h0 K M6)))))) ∧ (p1 = (-9000000000000000000 : Int64) → mK M h0 = 1 ∧ (wp_X0_addWord M h0 (495873782388 : Int64) (fun M10 => (bk_X0_addTime_41 h0 K M10)))))
set_option maxRecDepth 100000 in
set_option maxHeartbeats 4000000 in
theorem ct_X0_addTime {M : Mm} {h0 : Nat} {p1 : Int64} {K : Mm → Prop} (h : wp_X0_addTime M h0 p1 K) : CtV yX0_addTime cX0_addTime 3 none rm_X0_addTime [.ref h0, .long p1] M K := by
  refine ct_any (QV K) (by decide) (by exact Nat.le_of_ble_eq_true rfl) (fun X hX hQ hnL hnm => ?_)
  rw [show lv_args 0 [.ref h0, .long p1] = [(0, va_rf (some h0)), (1, .long p1)] by rfl]
  have hX : Ok X cX0_addTime RX0 rm_X0_addTime := hX
  unfold wp_X0_addTime at h
  refine z_lload_n hX dX0_addTime_0 rfl 1 rfl ?_
  refine z_ldc2 (v := (-9000000000000000000 : Int64)) hX dX0_addTime_1 kj_RX0_27 ?_
  refine z_lcmp hX dX0_addTime_4 ?_
  obtain ⟨h1, h2⟩ := h
  refine z_if_ne (tgt := 18) hX dX0_addTime_5 (by decide) (fun hc => ?_) (fun hc => ?_)
  · have h := h1 (fun q => hc ((lg_cmp_eq _ _).mpr q))
    refine z_lload_n hX dX0_addTime_18 rfl 1 rfl ?_
    refine z_ldc2 (v := (9000000000000000000 : Int64)) hX dX0_addTime_19 kj_RX0_35 ?_
    refine z_lcmp hX dX0_addTime_22 ?_
    obtain ⟨h1, h2⟩ := h
    refine z_if_ne (tgt := 36) hX dX0_addTime_23 (by decide) (fun hc => ?_) (fun hc => ?_)
    · have h := h1 (fun q => hc ((lg_cmp_eq _ _).mpr q))
      refine z_aload_n (r := (some h0)) hX dX0_addTime_36 rfl 0 rfl ?_
      refine z_lload_n hX dX0_addTime_37 rfl 1 rfl ?_
      obtain ⟨hk3, h⟩ := h
      refine z_callVV (As := [.long p1]) (rest := []) (ci := 0) hX (ct_X0_addNumber h) mw_RX0_39 rfl (by decide) rfl (by rfl) (by unfold RoomC; decide) (by decide) dX0_addTime_38 hk3 (fun M2 h => ?_)
      refine z_loc [] rfl ?_
      exact zb_X0_addTime_41 hX hQ hnL h
    · have h := h2 ((lg_cmp_eq _ _).mp hc)
      refine z_aload_n (r := (some h0)) hX dX0_addTime_26 rfl 0 rfl ?_
      refine z_ldc2 (v := (6647396 : Int64)) hX dX0_addTime_27 kj_RX0_37 ?_
      obtain ⟨hk7, h⟩ := h
      refine z_callVV (As := [.long (6647396 : Int64)]) (rest := []) (ci := 0) hX (ct_X0_addWord h) mw_RX0_31 rfl (by decide) rfl (by rfl) (by unfold RoomC; decide) (by decide) dX0_addTime_30 hk7 (fun M6 h => ?_)
      refine z_goto (tgt := 41) hX dX0_addTime_33 (by decide) ?_
      refine z_loc [] rfl ?_
      exact zb_X0_addTime_41 hX hQ hnL h
  · have h := h2 ((lg_cmp_eq _ _).mp hc)
    refine z_aload_n (r := (some h0)) hX dX0_addTime_8 rfl 0 rfl ?_
    refine z_ldc2 (v := (495873782388 : Int64)) hX dX0_addTime_9 kj_RX0_29 ?_
    obtain ⟨hk11, h⟩ := h
    refine z_callVV (As := [.long (495873782388 : Int64)]) (rest := []) (ci := 0) hX (ct_X0_addWord h) mw_RX0_31 rfl (by decide) rfl (by rfl) (by unfold RoomC; decide) (by decide) dX0_addTime_12 hk11 (fun M10 h => ?_)
    refine z_goto (tgt := 41) hX dX0_addTime_15 (by decide) ?_
    refine z_loc [] rfl ?_
    exact zb_X0_addTime_41 hX hQ hnL h
def rm_X10_feed : Room := { frames := 1, cells := 0, slots := 0, locals := 21 }
def bk_X10_feed_26 (h0 : Nat) (K : Int32 → Mm → Prop) (M : Mm) : Prop := (K (-1 : Int32) M)
set_option maxRecDepth 100000 in
set_option maxHeartbeats 4000000 in
theorem zb_X10_feed_26 {X : Cx} {h0 : Nat} {K : Int32 → Mm → Prop} (hX : Ok X cX10_feed RX10 rm_X10_feed) (hQ : Rq X rm_X10_feed (some .int) (QI K)) (hnL : X.2.2.2.2.2.2.2.2.2.2.2.2.2.2 = 5) {M : Mm} (h : bk_X10_feed_26 h0 K M) : Z X M 0 0 26 [] [] := by
  unfold bk_X10_feed_26 at h
  refine z_iconst (v := (-1 : Int32)) hX dX10_feed_26 (by decide) ?_
  exact z_iret hX hQ dX10_feed_27 h
def lp_X10_feed_33 (h0 : Nat) (K : Int32 → Mm → Prop) : Nat → Int64 → Int32 → Mm → Prop
  | 0, _, _, _ => False
  | n + 1, l1, l4, M => ((l4 < 0 → mK M h0 = 11 ∧ ∃ a2, (mR M 640 h0) = some a2 ∧ mK M a2 = 1 ∧ (K (mI M 1 a2) M)) ∧ (¬ l4 < 0 → mK M h0 = 11 ∧ ∃ a8, (mR M 640 h0) = some a8 ∧ mK M a8 = 1 ∧ (wp_X0_add M a8 ((((((l1).toUInt64 >>> ((((8 : Int32) * l4)).toInt64.toUInt64 &&& Int64.toUInt64 63)).toInt64)).toInt32) &&& (255 : Int32)) (fun M7 => ((lp_X10_feed_33 h0 K n) l1 (l4 + (-1)) M7)))))
set_option maxRecDepth 100000 in
set_option maxHeartbeats 4000000 in
theorem zl_X10_feed_33 {X : Cx} {h0 : Nat} {K : Int32 → Mm → Prop} (hX : Ok X cX10_feed RX10 rm_X10_feed) (hQ : Rq X rm_X10_feed (some .int) (QI K)) (hnL : X.2.2.2.2.2.2.2.2.2.2.2.2.2.2 = 5) : ∀ (n : Nat) (l1 : Int64) (l4 : Int32) (M : Mm), lp_X10_feed_33 h0 K n l1 l4 M → Z X M 0 0 33 [(0, va_rf (some h0)), (1, .long l1), (4, .int l4)] [] := by
  intro n
  induction n with
  | zero =>
    intro l1 l4 M h
    exact False.elim h
  | succ n hR33 =>
    intro l1 l4 M h
    refine z_iload hX dX10_feed_33 2 rfl ?_
    obtain ⟨h1, h2⟩ := h
    refine z_if_lt (tgt := 63) hX dX10_feed_35 (by decide) (fun hc => ?_) (fun hc => ?_)
    · have h := h1 hc
      refine z_aload_n (r := (some h0)) hX dX10_feed_63 rfl 0 rfl ?_
      obtain ⟨hk1, h⟩ := h
      refine gf_RX10_14 (r := (some h0)) hX dX10_feed_64 rfl hk1 ?_
      obtain ⟨a2, ha3, h⟩ := h
      obtain ⟨hk4, h⟩ := h
      refine gf_RX10_39 (r := (mR M 640 h0)) hX dX10_feed_67 ha3 hk4 ?_
      exact z_iret hX hQ dX10_feed_70 h
    · have h := h2 hc
      refine z_aload_n (r := (some h0)) hX dX10_feed_38 rfl 0 rfl ?_
      obtain ⟨hk5, h⟩ := h
      refine gf_RX10_14 (r := (some h0)) hX dX10_feed_39 rfl hk5 ?_
      refine z_lload_n hX dX10_feed_42 rfl 1 rfl ?_
      refine z_bipush (v := (8 : Int32)) hX dX10_feed_43 (by decide) ?_
      refine z_iload hX dX10_feed_45 2 rfl ?_
      refine z_imul hX dX10_feed_47 ?_
      refine z_lushr hX dX10_feed_48 ?_
      refine z_l2i hX dX10_feed_49 ?_
      refine z_sipush (v := (255 : Int32)) hX dX10_feed_50 (by decide) ?_
      refine z_iand hX dX10_feed_53 ?_
      obtain ⟨a8, ha9, h⟩ := h
      obtain ⟨hk10, h⟩ := h
      refine z_callVV (As := [.int ((((((l1).toUInt64 >>> ((((8 : Int32) * l4)).toInt64.toUInt64 &&& Int64.toUInt64 63)).toInt64)).toInt32) &&& (255 : Int32))]) (rest := []) (ci := 0) hX (ct_X0_add h) mw_RX10_42 rfl (by decide) rfl (by rw [ha9]; rfl) (by unfold RoomC; decide) (by decide) dX10_feed_54 hk10 (fun M7 h => ?_)
      refine z_iinc (v := (l4 + (-1))) hX [(4, .int (l4 + (-1))), (0, va_rf (some h0)), (1, .long l1)] dX10_feed_57 2 rfl rfl (by rw [hnL]; decide) rfl ?_
      refine z_goto (tgt := 33) hX dX10_feed_60 (by decide) ?_
      refine z_loc [1, 2, 0] rfl ?_
      exact hR33 _ _ _ h
def wp_X10_feed (M : Mm) (h0 : Nat) (p1 : Int64) (p2 : Int32) (K : Int32 → Mm → Prop) : Prop := ((p2 < (1 : Int32) → (bk_X10_feed_26 h0 K M)) ∧ (¬ p2 < (1 : Int32) → (((8 : Int32) < p2 → (bk_X10_feed_26 h0 K M)) ∧ (¬ (8 : Int32) < p2 → mK M h0 = 11 ∧ ∃ a13, (mR M 640 h0) = some a13 ∧ mK M a13 = 1 ∧ ((p2 ≤ ((600 : Int32) - (mI M 1 a13)) → (∃ n, lp_X10_feed_33 h0 K n p1 (p2 - (1 : Int32)) M)) ∧ (¬ p2 ≤ ((600 : Int32) - (mI M 1 a13)) → (bk_X10_feed_26 h0 K M)))))))
set_option maxRecDepth 100000 in
set_option maxHeartbeats 4000000 in
theorem ct_X10_feed {M : Mm} {h0 : Nat} {p1 : Int64} {p2 : Int32} {K : Int32 → Mm → Prop} (h : wp_X10_feed M h0 p1 p2 K) : CtI yX10_feed cX10_feed 5 (some .int) rm_X10_feed [.ref h0, .long p1, .int p2] M K := by
  refine ct_any (QI K) (by decide) (by exact Nat.le_of_ble_eq_true rfl) (fun X hX hQ hnL hnm => ?_)
  rw [show lv_args 0 [.ref h0, .long p1, .int p2] = [(0, va_rf (some h0)), (1, .long p1), (3, .int p2)] by rfl]
  have hX : Ok X cX10_feed RX10 rm_X10_feed := hX
  unfold wp_X10_feed at h
  refine z_iload_n hX dX10_feed_0 rfl 2 rfl ?_
  refine z_iconst (v := (1 : Int32)) hX dX10_feed_1 (by decide) ?_
  obtain ⟨h1, h2⟩ := h
  refine z_icmp_lt (tgt := 26) hX dX10_feed_2 (by decide) (fun hc => ?_) (fun hc => ?_)
  · have h := h1 hc
    refine z_loc [] rfl ?_
    exact zb_X10_feed_26 hX hQ hnL h
  · have h := h2 hc
    refine z_iload_n hX dX10_feed_5 rfl 2 rfl ?_
    refine z_bipush (v := (8 : Int32)) hX dX10_feed_6 (by decide) ?_
    obtain ⟨h1, h2⟩ := h
    refine z_icmp_gt (tgt := 26) hX dX10_feed_8 (by decide) (fun hc => ?_) (fun hc => ?_)
    · have h := h1 hc
      refine z_loc [] rfl ?_
      exact zb_X10_feed_26 hX hQ hnL h
    · have h := h2 hc
      refine z_iload_n hX dX10_feed_11 rfl 2 rfl ?_
      refine z_sipush (v := (600 : Int32)) hX dX10_feed_12 (by decide) ?_
      refine z_aload_n (r := (some h0)) hX dX10_feed_15 rfl 0 rfl ?_
      obtain ⟨hk12, h⟩ := h
      refine gf_RX10_14 (r := (some h0)) hX dX10_feed_16 rfl hk12 ?_
      obtain ⟨a13, ha14, h⟩ := h
      obtain ⟨hk15, h⟩ := h
      refine gf_RX10_39 (r := (mR M 640 h0)) hX dX10_feed_19 ha14 hk15 ?_
      refine z_isub hX dX10_feed_22 ?_
      obtain ⟨h1, h2⟩ := h
      refine z_icmp_le (tgt := 28) hX dX10_feed_23 (by decide) (fun hc => ?_) (fun hc => ?_)
      · have h := h1 hc
        refine z_iload_n hX dX10_feed_28 rfl 2 rfl ?_
        refine z_iconst (v := (1 : Int32)) hX dX10_feed_29 (by decide) ?_
        refine z_isub hX dX10_feed_30 ?_
        refine z_istore hX [(4, .int (p2 - (1 : Int32))), (0, va_rf (some h0)), (1, .long p1), (3, .int p2)] dX10_feed_31 (by rw [hnL]; decide) rfl ?_
        refine z_loc [1, 2, 0] rfl ?_
        obtain ⟨n, h⟩ := h
        exact zl_X10_feed_33 hX hQ hnL n _ _ _ h
      · have h := h2 hc
        refine z_loc [] rfl ?_
        exact zb_X10_feed_26 hX hQ hnL h
