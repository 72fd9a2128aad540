def rm_X0_init : Room := { frames := 1, cells := 1, slots := 800, locals := 20 }
def wp_X0_init (M : Mm) (h0 : Nat) (p1 : Int32) (K : Mm → Prop) : Prop := ¬ p1 < 0 ∧ (p1).toNatClampNeg ≤ 800 ∧ (∀ q1, mK M q1 = 0 → mK (na M q1 16 (p1).toNatClampNeg) h0 = 1 ∧ (K (sR (na M q1 16 (p1).toNatClampNeg) 0 h0 (some q1))))
set_option maxRecDepth 100000 in
set_option maxHeartbeats 4000000 in
theorem ct_X0_init {M : Mm} {h0 : Nat} {p1 : Int32} {K : Mm → Prop} (h : wp_X0_init M h0 p1 K) : CtV yX0_init cX0_init 2 none rm_X0_init [.ref h0, .int p1] M K := by
  refine ct_any (QV K) (by decide) (by exact Nat.le_of_ble_eq_true rfl) (fun X hX hQ hnL hnm => ?_)
  rw [show lv_args 0 [.ref h0, .int p1] = [(0, va_rf (some h0)), (1, .int p1)] by rfl]
  have hX : Ok X cX0_init RX0 rm_X0_init := hX
  unfold wp_X0_init at h
  refine z_aload_n (r := (some h0)) hX dX0_init_0 rfl 0 rfl ?_
  refine mw_RX0_3 (a := h0) hX dX0_init_1 (by decide) (by decide) ?_
  refine z_aload_n (r := (some h0)) hX dX0_init_4 rfl 0 rfl ?_
  refine z_iload_n hX dX0_init_5 rfl 1 rfl ?_
  obtain ⟨hc4, h⟩ := h
  obtain ⟨hc5, h⟩ := h
  refine y_newa_byte (n := (p1).toNatClampNeg) hX 16 (by decide) (by decide) hc4 rfl (by show _ * 1 ≤ _; omega) dX0_init_6 (by decide) (by show _ ≤ 800; omega) (fun q1 hq2 => ?_)
  refine z_widen 1 800 (by omega) (by omega) ?_
  have h := h q1 hq2
  obtain ⟨hk6, h⟩ := h
  refine pf_RX0_9 (r := (some h0)) (v := (some q1)) hX hnm dX0_init_8 rfl hk6 ?_
  refine z_widen 1 800 (by decide) (by decide) ?_
  exact z_vret hX hQ dX0_init_11 h
def rm_X0_clear : Room := { frames := 0, cells := 0, slots := 0, locals := 0 }
def wp_X0_clear (M : Mm) (h0 : Nat) (K : Mm → Prop) : Prop := mK M h0 = 1 ∧ (K (sI M 1 h0 (0 : Int32)))
set_option maxRecDepth 100000 in
set_option maxHeartbeats 4000000 in
theorem ct_X0_clear {M : Mm} {h0 : Nat} {K : Mm → Prop} (h : wp_X0_clear M h0 K) : CtV yX0_clear cX0_clear 1 none rm_X0_clear [.ref h0] M K := by
  refine ct_any (QV K) (by decide) (by exact Nat.le_of_ble_eq_true rfl) (fun X hX hQ hnL hnm => ?_)
  rw [show lv_args 0 [.ref h0] = [(0, va_rf (some h0))] by rfl]
  have hX : Ok X cX0_clear RX0 rm_X0_clear := hX
  unfold wp_X0_clear at h
  refine z_aload_n (r := (some h0)) hX dX0_clear_0 rfl 0 rfl ?_
  refine z_iconst (v := (0 : Int32)) hX dX0_clear_1 (by decide) ?_
  obtain ⟨hk1, h⟩ := h
  refine pf_RX0_15 (r := (some h0)) (v := (0 : Int32)) hX dX0_clear_2 rfl hk1 ?_
  exact z_vret hX hQ dX0_clear_5 h
def rm_X0_add : Room := { frames := 0, cells := 0, slots := 0, locals := 0 }
def bk_X0_add_33 (h0 : Nat) (K : Mm → Prop) (M : Mm) : Prop := (K M)
set_option maxRecDepth 100000 in
set_option maxHeartbeats 4000000 in
theorem zb_X0_add_33 {X : Cx} {h0 : Nat} {K : Mm → Prop} (hX : Ok X cX0_add RX0 rm_X0_add) (hQ : Rq X rm_X0_add none (QV K)) (hnL : X.2.2.2.2.2.2.2.2.2.2.2.2.2.2 = 2) {M : Mm} (h : bk_X0_add_33 h0 K M) : Z X M 0 0 33 [] [] := by
  unfold bk_X0_add_33 at h
  exact z_vret hX hQ dX0_add_33 h
def wp_X0_add (M : Mm) (h0 : Nat) (p1 : Int32) (K : Mm → Prop) : Prop := mK M h0 = 1 ∧ ∃ a2, (mR M 0 h0) = some a2 ∧ isA M a2 0 ∧ (((nI (aN M a2)) ≤ (mI M 1 h0) → (bk_X0_add_33 h0 K M)) ∧ (¬ (nI (aN M a2)) ≤ (mI M 1 h0) → vp_in (mI M 1 h0) (aN M a2) ∧ (bk_X0_add_33 h0 K (sI (tI M a2 ((mI M 1 h0)).toNatClampNeg ((((p1).toInt8.toInt32)).toInt8.toInt32)) 1 h0 ((mI (tI M a2 ((mI M 1 h0)).toNatClampNeg ((((p1).toInt8.toInt32)).toInt8.toInt32)) 1 h0) + (1 : Int32))))))
set_option maxRecDepth 100000 in
set_option maxHeartbeats 4000000 in
theorem ct_X0_add {M : Mm} {h0 : Nat} {p1 : Int32} {K : Mm → Prop} (h : wp_X0_add M h0 p1 K) : CtV yX0_add cX0_add 2 none rm_X0_add [.ref h0, .int p1] M K := by
  refine ct_any (QV K) (by decide) (by exact Nat.le_of_ble_eq_true rfl) (fun X hX hQ hnL hnm => ?_)
  rw [show lv_args 0 [.ref h0, .int p1] = [(0, va_rf (some h0)), (1, .int p1)] by rfl]
  have hX : Ok X cX0_add RX0 rm_X0_add := hX
  unfold wp_X0_add at h
  refine z_aload_n (r := (some h0)) hX dX0_add_0 rfl 0 rfl ?_
  obtain ⟨hk1, h⟩ := h
  refine gf_RX0_15 (r := (some h0)) hX dX0_add_1 rfl hk1 ?_
  refine z_aload_n (r := (some h0)) hX dX0_add_4 rfl 0 rfl ?_
  refine gf_RX0_9 (r := (some h0)) hX dX0_add_5 rfl hk1 ?_
  obtain ⟨a2, ha3, h⟩ := h
  obtain ⟨hk4, h⟩ := h
  refine y_alen (r := (mR M 0 h0)) hX dX0_add_8 ha3 hk4 (by decide) ?_
  obtain ⟨h1, h2⟩ := h
  refine z_icmp_ge (tgt := 33) hX dX0_add_9 (by decide) (fun hc => ?_) (fun hc => ?_)
  · have h := h1 hc
    refine z_loc [] rfl ?_
    exact zb_X0_add_33 hX hQ hnL h
  · have h := h2 hc
    refine z_aload_n (r := (some h0)) hX dX0_add_12 rfl 0 rfl ?_
    refine gf_RX0_9 (r := (some h0)) hX dX0_add_13 rfl hk1 ?_
    refine z_aload_n (r := (some h0)) hX dX0_add_16 rfl 0 rfl ?_
    refine gf_RX0_15 (r := (some h0)) hX dX0_add_17 rfl hk1 ?_
    refine z_iload_n hX dX0_add_20 rfl 1 rfl ?_
    refine z_i2b hX dX0_add_21 ?_
    obtain ⟨hc5, h⟩ := h
    refine y_bast (r := (mR M 0 h0)) hX dX0_add_22 ha3 hk4 hc5 ?_
    refine z_aload_n (r := (some h0)) hX dX0_add_23 rfl 0 rfl ?_
    refine z_dup hX dX0_add_24 (cat_rf _) ?_
    refine gf_RX0_15 (r := (some h0)) hX dX0_add_25 rfl hk1 ?_
    refine z_iconst (v := (1 : Int32)) hX dX0_add_28 (by decide) ?_
    refine z_iadd hX dX0_add_29 ?_
    refine pf_RX0_15 (r := (some h0)) (v := ((mI (tI M a2 ((mI M 1 h0)).toNatClampNeg ((((p1).toInt8.toInt32)).toInt8.toInt32)) 1 h0) + (1 : Int32))) hX dX0_add_30 rfl hk1 ?_
    refine z_loc [] rfl ?_
    exact zb_X0_add_33 hX hQ hnL h
def rm_X0_at : Room := { frames := 0, cells := 0, slots := 0, locals := 0 }
def bk_X0_at_26 (h0 : Nat) (K : Int32 → Mm → Prop) (s0 : Int32) (M : Mm) : Prop := (K s0 M)
set_option maxRecDepth 100000 in
set_option maxHeartbeats 4000000 in
theorem zb_X0_at_26 {X : Cx} {h0 : Nat} {K : Int32 → Mm → Prop} (hX : Ok X cX0_at RX0 rm_X0_at) (hQ : Rq X rm_X0_at (some .int) (QI K)) (hnL : X.2.2.2.2.2.2.2.2.2.2.2.2.2.2 = 2) {s0 : Int32} {M : Mm} (h : bk_X0_at_26 h0 K s0 M) : Z X M 0 0 26 [] [.int s0] := by
  unfold bk_X0_at_26 at h
  exact z_iret hX hQ dX0_at_26 h
def bk_X0_at_25 (h0 : Nat) (K : Int32 → Mm → Prop) (M : Mm) : Prop := (bk_X0_at_26 h0 K (-1 : Int32) M)
set_option maxRecDepth 100000 in
set_option maxHeartbeats 4000000 in
theorem zb_X0_at_25 {X : Cx} {h0 : Nat} {K : Int32 → Mm → Prop} (hX : Ok X cX0_at RX0 rm_X0_at) (hQ : Rq X rm_X0_at (some .int) (QI K)) (hnL : X.2.2.2.2.2.2.2.2.2.2.2.2.2.2 = 2) {M : Mm} (h : bk_X0_at_25 h0 K M) : Z X M 0 0 25 [] [] := by
  unfold bk_X0_at_25 at h
  refine z_iconst (v := (-1 : Int32)) hX dX0_at_25 (by decide) ?_
  exact zb_X0_at_26 hX hQ hnL h
def wp_X0_at (M : Mm) (h0 : Nat) (p1 : Int32) (K : Int32 → Mm → Prop) : Prop := ((p1 < 0 → (bk_X0_at_25 h0 K M)) ∧ (¬ p1 < 0 → mK M h0 = 1 ∧ (((mI M 1 h0) ≤ p1 → (bk_X0_at_25 h0 K M)) ∧ (¬ (mI M 1 h0) ≤ p1 → ∃ a2, (mR M 0 h0) = some a2 ∧ isA M a2 0 ∧ vp_in p1 (aN M a2) ∧ (bk_X0_at_26 h0 K ((aI M a2 (p1).toNatClampNeg) &&& (255 : Int32)) M)))))
set_option maxRecDepth 100000 in
set_option maxHeartbeats 4000000 in
theorem ct_X0_at {M : Mm} {h0 : Nat} {p1 : Int32} {K : Int32 → Mm → Prop} (h : wp_X0_at M h0 p1 K) : CtI yX0_at cX0_at 2 (some .int) rm_X0_at [.ref h0, .int p1] M K := by
  refine ct_any (QI K) (by decide) (by exact Nat.le_of_ble_eq_true rfl) (fun X hX hQ hnL hnm => ?_)
  rw [show lv_args 0 [.ref h0, .int p1] = [(0, va_rf (some h0)), (1, .int p1)] by rfl]
  have hX : Ok X cX0_at RX0 rm_X0_at := hX
  unfold wp_X0_at at h
  refine z_iload_n hX dX0_at_0 rfl 1 rfl ?_
  obtain ⟨h1, h2⟩ := h
  refine z_if_lt (tgt := 25) hX dX0_at_1 (by decide) (fun hc => ?_) (fun hc => ?_)
  · have h := h1 hc
    refine z_loc [] rfl ?_
    exact zb_X0_at_25 hX hQ hnL h
  · have h := h2 hc
    refine z_iload_n hX dX0_at_4 rfl 1 rfl ?_
    refine z_aload_n (r := (some h0)) hX dX0_at_5 rfl 0 rfl ?_
    obtain ⟨hk1, h⟩ := h
    refine gf_RX0_15 (r := (some h0)) hX dX0_at_6 rfl hk1 ?_
    obtain ⟨h1, h2⟩ := h
    refine z_icmp_ge (tgt := 25) hX dX0_at_9 (by decide) (fun hc => ?_) (fun hc => ?_)
    · have h := h1 hc
      refine z_loc [] rfl ?_
      exact zb_X0_at_25 hX hQ hnL h
    · have h := h2 hc
      refine z_aload_n (r := (some h0)) hX dX0_at_12 rfl 0 rfl ?_
      refine gf_RX0_9 (r := (some h0)) hX dX0_at_13 rfl hk1 ?_
      refine z_iload_n hX dX0_at_16 rfl 1 rfl ?_
      obtain ⟨a2, ha3, h⟩ := h
      obtain ⟨hk4, h⟩ := h
      obtain ⟨hc5, h⟩ := h
      refine y_bald (r := (mR M 0 h0)) hX dX0_at_17 ha3 hk4 hc5 ?_
      refine z_sipush (v := (255 : Int32)) hX dX0_at_18 (by decide) ?_
      refine z_iand hX dX0_at_21 ?_
      refine z_goto (tgt := 26) hX dX0_at_22 (by decide) ?_
      refine z_loc [] rfl ?_
      exact zb_X0_at_26 hX hQ hnL h
def rm_X0_addWord : Room := { frames := 1, cells := 0, slots := 0, locals := 21 }
def bk_X0_addWord_28 (h0 : Nat) (R3 : Int64 → Int32 → Mm → Prop) (K : Mm → Prop) (l1 : Int64) (l3 : Int32) (M : Mm) : Prop := (R3 l1 (l3 + (-8)) M)
set_option maxRecDepth 100000 in
set_option maxHeartbeats 4000000 in
theorem zb_X0_addWord_28 {X : Cx} {h0 : Nat} {R3 : Int64 → Int32 → Mm → Prop} {K : Mm → Prop} (hX : Ok X cX0_addWord RX0 rm_X0_addWord) (hQ : Rq X rm_X0_addWord none (QV K)) (hnL : X.2.2.2.2.2.2.2.2.2.2.2.2.2.2 = 5) (hR3 : ∀ l1 l3 M, R3 l1 l3 M → Z X M 0 0 3 [(0, va_rf (some h0)), (1, .long l1), (3, .int l3)] []) {l1 : Int64} {l3 : Int32} {M : Mm} (h : bk_X0_addWord_28 h0 R3 K l1 l3 M) : Z X M 0 0 28 [(0, va_rf (some h0)), (1, .long l1), (3, .int l3)] [] := by
  unfold bk_X0_addWord_28 at h
  refine z_iinc (v := (l3 + (-8))) hX [(3, .int (l3 + (-8))), (0, va_rf (some h0)), (1, .long l1)] dX0_addWord_28 2 rfl rfl (by rw [hnL]; decide) rfl ?_
  refine z_goto (tgt := 3) hX dX0_addWord_31 (by decide) ?_
  refine z_loc [1, 2, 0] rfl ?_
  exact hR3 _ _ _ h
def lp_X0_addWord_3 (h0 : Nat) (K : Mm → Prop) : Nat → Int64 → Int32 → Mm → Prop
  | 0, _, _, _ => False
  | n + 1, l1, l3, M => ((l3 < 0 → (K M)) ∧ (¬ l3 < 0 → ((((((((l1).toUInt64 >>> ((l3).toInt64.toUInt64 &&& Int64.toUInt64 63)).toInt64)).toInt32) &&& (255 : Int32)) = 0 → (bk_X0_addWord_28 h0 (lp_X0_addWord_3 h0 K n) K l1 l3 M)) ∧ (¬ ((((((l1).toUInt64 >>> ((l3).toInt64.toUInt64 &&& Int64.toUInt64 63)).toInt64)).toInt32) &&& (255 : Int32)) = 0 → mK M h0 = 1 ∧ (wp_X0_add M h0 ((((((l1).toUInt64 >>> ((l3).toInt64.toUInt64 &&& Int64.toUInt64 63)).toInt64)).toInt32) &&& (255 : Int32)) (fun M2 => (bk_X0_addWord_28 h0 (lp_X0_addWord_3 h0 K n) K l1 l3 M2)))))))
set_option maxRecDepth 100000 in
set_option maxHeartbeats 4000000 in
theorem zl_X0_addWord_3 {X : Cx} {h0 : Nat} {K : Mm → Prop} (hX : Ok X cX0_addWord RX0 rm_X0_addWord) (hQ : Rq X rm_X0_addWord none (QV K)) (hnL : X.2.2.2.2.2.2.2.2.2.2.2.2.2.2 = 5) : ∀ (n : Nat) (l1 : Int64) (l3 : Int32) (M : Mm), lp_X0_addWord_3 h0 K n l1 l3 M → Z X M 0 0 3 [(0, va_rf (some h0)), (1, .long l1), (3, .int l3)] [] := by
  intro n
  induction n with
  | zero =>
    intro l1 l3 M h
    exact False.elim h
  | succ n hR3 =>
    intro l1 l3 M h
    refine z_iload_n hX dX0_addWord_3 rfl 2 rfl ?_
    obtain ⟨h1, h2⟩ := h
    refine z_if_lt (tgt := 34) hX dX0_addWord_4 (by decide) (fun hc => ?_) (fun hc => ?_)
    · have h := h1 hc
      exact z_vret hX hQ dX0_addWord_34 h
    · have h := h2 hc
      refine z_lload_n hX dX0_addWord_7 rfl 1 rfl ?_
      refine z_iload_n hX dX0_addWord_8 rfl 2 rfl ?_
      refine z_lushr hX dX0_addWord_9 ?_
      refine z_l2i hX dX0_addWord_10 ?_
      refine z_sipush (v := (255 : Int32)) hX dX0_addWord_11 (by decide) ?_
      refine z_iand hX dX0_addWord_14 ?_
      refine z_istore hX [(4, .int ((((((l1).toUInt64 >>> ((l3).toInt64.toUInt64 &&& Int64.toUInt64 63)).toInt64)).toInt32) &&& (255 : Int32))), (0, va_rf (some h0)), (1, .long l1), (3, .int l3)] dX0_addWord_15 (by rw [hnL]; decide) rfl ?_
      refine z_iload hX dX0_addWord_17 0 rfl ?_
      obtain ⟨h1, h2⟩ := h
      refine z_if_eq (tgt := 28) hX dX0_addWord_19 (by decide) (fun hc => ?_) (fun hc => ?_)
      · have h := h1 hc
        refine z_loc [1, 2, 3] rfl ?_
        exact zb_X0_addWord_28 hX hQ hnL hR3 h
      · have h := h2 hc
        refine z_aload_n (r := (some h0)) hX dX0_addWord_22 rfl 1 rfl ?_
        refine z_iload hX dX0_addWord_23 0 rfl ?_
        obtain ⟨hk3, h⟩ := h
        refine z_callVV (As := [.int ((((((l1).toUInt64 >>> ((l3).toInt64.toUInt64 &&& Int64.toUInt64 63)).toInt64)).toInt32) &&& (255 : Int32))]) (rest := []) (ci := 0) hX (ct_X0_add h) mw_RX0_19 rfl (by decide) rfl (by rfl) (by unfold RoomC; decide) (by decide) dX0_addWord_25 hk3 (fun M2 h => ?_)
        refine z_loc [1, 2, 3] rfl ?_
        exact zb_X0_addWord_28 hX hQ hnL hR3 h
def wp_X0_addWord (M : Mm) (h0 : Nat) (p1 : Int64) (K : Mm → Prop) : Prop := (∃ kk, lp_X0_addWord_3 h0 K kk p1 (56 : Int32) M)
set_option maxRecDepth 100000 in
set_option maxHeartbeats 4000000 in
theorem ct_X0_addWord {M : Mm} {h0 : Nat} {p1 : Int64} {K : Mm → Prop} (h : wp_X0_addWord M h0 p1 K) : CtV yX0_addWord cX0_addWord 5 none rm_X0_addWord [.ref h0, .long p1] M K := by
  refine ct_any (QV K) (by decide) (by exact Nat.le_of_ble_eq_true rfl) (fun X hX hQ hnL hnm => ?_)
  rw [show lv_args 0 [.ref h0, .long p1] = [(0, va_rf (some h0)), (1, .long p1)] by rfl]
  have hX : Ok X cX0_addWord RX0 rm_X0_addWord := hX
  unfold wp_X0_addWord at h
  refine z_bipush (v := (56 : Int32)) hX dX0_addWord_0 (by decide) ?_
  refine z_istore_n hX [(3, .int (56 : Int32)), (0, va_rf (some h0)), (1, .long p1)] dX0_addWord_2 rfl (by rw [hnL]; decide) rfl ?_
  refine z_loc [1, 2, 0] rfl ?_
  obtain ⟨n, h⟩ := h
  exact zl_X0_addWord_3 hX hQ hnL n _ _ _ h
def rm_X0_addNumber : Room := { frames := 1, cells := 0, slots := 0, locals := 21 }
def lp_X0_addNumber_83 (h0 : Nat) (K : Mm → Prop) : Nat → Int64 → Int32 → Int32 → Mm → Prop
  | 0, _, _, _, _ => False
  | n + 1, l3, l5, l6, M => mK M h0 = 1 ∧ ((l6 < (mI M 1 h0) → (K (sI M 1 h0 ((mI M 1 h0) + l5)))) ∧ (¬ l6 < (mI M 1 h0) → ∃ a3, (mR M 0 h0) = some a3 ∧ isA M a3 0 ∧ vp_in l6 (aN M a3) ∧ ((lp_X0_addNumber_83 h0 K n) (l3 / (10 : Int64)) l5 (l6 + (-1)) (tI M a3 (l6).toNatClampNeg ((((((((48 : Int64) + (l3 - l3 / (10 : Int64) * (10 : Int64)))).toInt32)).toInt8.toInt32)).toInt8.toInt32)))))
set_option maxRecDepth 100000 in
set_option maxHeartbeats 4000000 in
theorem zl_X0_addNumber_83 {X : Cx} {h0 : Nat} {K : Mm → Prop} (hX : Ok X cX0_addNumber RX0 rm_X0_addNumber) (hQ : Rq X rm_X0_addNumber none (QV K)) (hnL : X.2.2.2.2.2.2.2.2.2.2.2.2.2.2 = 8) : ∀ (n : Nat) (l3 : Int64) (l5 : Int32) (l6 : Int32) (M : Mm), lp_X0_addNumber_83 h0 K n l3 l5 l6 M → Z X M 0 0 83 [(0, va_rf (some h0)), (3, .long l3), (5, .int l5), (6, .int l6)] [] := by
  intro n
  induction n with
  | zero =>
    intro l3 l5 l6 M h
    exact False.elim h
  | succ n hR83 =>
    intro l3 l5 l6 M h
    refine z_iload hX dX0_addNumber_83 3 rfl ?_
    refine z_aload_n (r := (some h0)) hX dX0_addNumber_85 rfl 0 rfl ?_
    obtain ⟨hk1, h⟩ := h
    refine gf_RX0_15 (r := (some h0)) hX dX0_addNumber_86 rfl hk1 ?_
    obtain ⟨h1, h2⟩ := h
    refine z_icmp_lt (tgt := 122) hX dX0_addNumber_89 (by decide) (fun hc => ?_) (fun hc => ?_)
    · have h := h1 hc
      refine z_aload_n (r := (some h0)) hX dX0_addNumber_122 rfl 0 rfl ?_
      refine z_dup hX dX0_addNumber_123 (cat_rf _) ?_
      refine gf_RX0_15 (r := (some h0)) hX dX0_addNumber_124 rfl hk1 ?_
      refine z_iload hX dX0_addNumber_127 2 rfl ?_
      refine z_iadd hX dX0_addNumber_129 ?_
      refine pf_RX0_15 (r := (some h0)) (v := ((mI M 1 h0) + l5)) hX dX0_addNumber_130 rfl hk1 ?_
      exact z_vret hX hQ dX0_addNumber_133 h
    · have h := h2 hc
      refine z_aload_n (r := (some h0)) hX dX0_addNumber_92 rfl 0 rfl ?_
      refine gf_RX0_9 (r := (some h0)) hX dX0_addNumber_93 rfl hk1 ?_
      refine z_iload hX dX0_addNumber_96 3 rfl ?_
      refine z_ldc2 (v := (48 : Int64)) hX dX0_addNumber_98 kj_RX0_25 ?_
      refine z_lload_n hX dX0_addNumber_101 rfl 1 rfl ?_
      refine z_ldc2 (v := (10 : Int64)) hX dX0_addNumber_102 kj_RX0_23 ?_
      refine z_lrem hX dX0_addNumber_105 (by decide) ?_
      refine z_ladd hX dX0_addNumber_106 ?_
      refine z_l2i hX dX0_addNumber_107 ?_
      refine z_i2b hX dX0_addNumber_108 ?_
      obtain ⟨a3, ha4, h⟩ := h
      obtain ⟨hk5, h⟩ := h
      obtain ⟨hc6, h⟩ := h
      refine y_bast (r := (mR M 0 h0)) hX dX0_addNumber_109 ha4 hk5 hc6 ?_
      refine z_lload_n hX dX0_addNumber_110 rfl 1 rfl ?_
      refine z_ldc2 (v := (10 : Int64)) hX dX0_addNumber_111 kj_RX0_23 ?_
      refine z_ldiv hX dX0_addNumber_114 (by decide) ?_
      refine z_lstore_n hX [(3, .long (l3 / (10 : Int64))), (0, va_rf (some h0)), (5, .int l5), (6, .int l6)] dX0_addNumber_115 rfl (by rw [hnL]; decide) rfl ?_
      refine z_iinc (v := (l6 + (-1))) hX [(6, .int (l6 + (-1))), (3, .long (l3 / (10 : Int64))), (0, va_rf (some h0)), (5, .int l5)] dX0_addNumber_116 3 rfl rfl (by rw [hnL]; decide) rfl ?_
      refine z_goto (tgt := 83) hX dX0_addNumber_119 (by decide) ?_
      refine z_loc [2, 1, 3, 0] rfl ?_
      exact hR83 _ _ _ _ h
def lp_X0_addNumber_35 (h0 : Nat) (K : Mm → Prop) : Nat → Int64 → Int32 → Int64 → Mm → Prop
  | 0, _, _, _, _ => False
  | n + 1, l3, l5, l6, M => ((l6 ≤ (0 : Int64) → mK M h0 = 1 ∧ ∃ a8, (mR M 0 h0) = some a8 ∧ isA M a8 0 ∧ ((l5 ≤ ((nI (aN M a8)) - (mI M 1 h0)) → (∃ kk, lp_X0_addNumber_83 h0 K kk l3 l5 (((mI M 1 h0) + l5) - (1 : Int32)) M)) ∧ (¬ l5 ≤ ((nI (aN M a8)) - (mI M 1 h0)) → (K M)))) ∧ (¬ l6 ≤ (0 : Int64) → ((lp_X0_addNumber_35 h0 K n) l3 (l5 + 1) (l6 / (10 : Int64)) M)))
set_option maxRecDepth 100000 in
set_option maxHeartbeats 4000000 in
theorem zl_X0_addNumber_35 {X : Cx} {h0 : Nat} {K : Mm → Prop} (hX : Ok X cX0_addNumber RX0 rm_X0_addNumber) (hQ : Rq X rm_X0_addNumber none (QV K)) (hnL : X.2.2.2.2.2.2.2.2.2.2.2.2.2.2 = 8) : ∀ (n : Nat) (l3 : Int64) (l5 : Int32) (l6 : Int64) (M : Mm), lp_X0_addNumber_35 h0 K n l3 l5 l6 M → Z X M 0 0 35 [(0, va_rf (some h0)), (3, .long l3), (5, .int l5), (6, .long l6)] [] := by
  intro n
  induction n with
  | zero =>
    intro l3 l5 l6 M h
    exact False.elim h
  | succ n hR35 =>
    intro l3 l5 l6 M h
    refine z_lload hX dX0_addNumber_35 3 rfl ?_
    refine z_lconst (v := (0 : Int64)) hX dX0_addNumber_37 (by decide) ?_
    refine z_lcmp hX dX0_addNumber_38 ?_
    obtain ⟨h1, h2⟩ := h
    refine z_if_le (tgt := 56) hX dX0_addNumber_39 (by decide) (fun hc => ?_) (fun hc => ?_)
    · have h := h1 ((lg_cmp_le _ _).mp hc)
      refine z_iload hX dX0_addNumber_56 2 rfl ?_
      refine z_aload_n (r := (some h0)) hX dX0_addNumber_58 rfl 0 rfl ?_
      obtain ⟨hk7, h⟩ := h
      refine gf_RX0_9 (r := (some h0)) hX dX0_addNumber_59 rfl hk7 ?_
      obtain ⟨a8, ha9, h⟩ := h
      obtain ⟨hk10, h⟩ := h
      refine y_alen (r := (mR M 0 h0)) hX dX0_addNumber_62 ha9 hk10 (by decide) ?_
      refine z_aload_n (r := (some h0)) hX dX0_addNumber_63 rfl 0 rfl ?_
      refine gf_RX0_15 (r := (some h0)) hX dX0_addNumber_64 rfl hk7 ?_
      refine z_isub hX dX0_addNumber_67 ?_
      obtain ⟨h1, h2⟩ := h
      refine z_icmp_le (tgt := 72) hX dX0_addNumber_68 (by decide) (fun hc => ?_) (fun hc => ?_)
      · have h := h1 hc
        refine z_aload_n (r := (some h0)) hX dX0_addNumber_72 rfl 0 rfl ?_
        refine gf_RX0_15 (r := (some h0)) hX dX0_addNumber_73 rfl hk7 ?_
        refine z_iload hX dX0_addNumber_76 2 rfl ?_
        refine z_iadd hX dX0_addNumber_78 ?_
        refine z_iconst (v := (1 : Int32)) hX dX0_addNumber_79 (by decide) ?_
        refine z_isub hX dX0_addNumber_80 ?_
        refine z_istore hX [(6, .int (((mI M 1 h0) + l5) - (1 : Int32))), (0, va_rf (some h0)), (3, .long l3), (5, .int l5)] dX0_addNumber_81 (by rw [hnL]; decide) rfl ?_
        refine z_loc [1, 2, 3, 0] rfl ?_
        obtain ⟨n, h⟩ := h
        exact zl_X0_addNumber_83 hX hQ hnL n _ _ _ _ h
      · have h := h2 hc
        exact z_vret hX hQ dX0_addNumber_71 h
    · have h := h2 (fun q => hc ((lg_cmp_le _ _).mpr q))
      refine z_iinc (v := (l5 + 1)) hX [(5, .int (l5 + 1)), (0, va_rf (some h0)), (3, .long l3), (6, .long l6)] dX0_addNumber_42 2 rfl rfl (by rw [hnL]; decide) rfl ?_
      refine z_lload hX dX0_addNumber_45 3 rfl ?_
      refine z_ldc2 (v := (10 : Int64)) hX dX0_addNumber_47 kj_RX0_23 ?_
      refine z_ldiv hX dX0_addNumber_50 (by decide) ?_
      refine z_lstore hX [(6, .long (l6 / (10 : Int64))), (5, .int (l5 + 1)), (0, va_rf (some h0)), (3, .long l3)] dX0_addNumber_51 (by rw [hnL]; decide) rfl ?_
      refine z_goto (tgt := 35) hX dX0_addNumber_53 (by decide) ?_
      refine z_loc [2, 3, 1, 0] rfl ?_
      exact hR35 _ _ _ _ h
def bk_X0_addNumber_24 (h0 : Nat) (K : Mm → Prop) (s0 : Int64) (M : Mm) : Prop := (∃ kk, lp_X0_addNumber_35 h0 K kk s0 (1 : Int32) (s0 / (10 : Int64)) M)
set_option maxRecDepth 100000 in
set_option maxHeartbeats 4000000 in
theorem zb_X0_addNumber_24 {X : Cx} {h0 : Nat} {K : Mm → Prop} (hX : Ok X cX0_addNumber RX0 rm_X0_addNumber) (hQ : Rq X rm_X0_addNumber none (QV K)) (hnL : X.2.2.2.2.2.2.2.2.2.2.2.2.2.2 = 8) {s0 : Int64} {M : Mm} (h : bk_X0_addNumber_24 h0 K s0 M) : Z X M 0 0 24 [(0, va_rf (some h0))] [.long s0] := by
  unfold bk_X0_addNumber_24 at h
  refine z_lstore_n hX [(3, .long s0), (0, va_rf (some h0))] dX0_addNumber_24 rfl (by rw [hnL]; decide) rfl ?_
  refine z_iconst (v := (1 : Int32)) hX dX0_addNumber_25 (by decide) ?_
  refine z_istore hX [(5, .int (1 : Int32)), (3, .long s0), (0, va_rf (some h0))] dX0_addNumber_26 (by rw [hnL]; decide) rfl ?_
  refine z_lload_n hX dX0_addNumber_28 rfl 1 rfl ?_
  refine z_ldc2 (v := (10 : Int64)) hX dX0_addNumber_29 kj_RX0_23 ?_
  refine z_ldiv hX dX0_addNumber_32 (by decide) ?_
  refine z_lstore hX [(6, .long (s0 / (10 : Int64))), (5, .int (1 : Int32)), (3, .long s0), (0, va_rf (some h0))] dX0_addNumber_33 (by rw [hnL]; decide) rfl ?_
  refine z_loc [3, 2, 1, 0] rfl ?_
  obtain ⟨n, h⟩ := h
  exact zl_X0_addNumber_35 hX hQ hnL n _ _ _ _ h
def bk_X0_addNumber_12 (h0 : Nat) (K : Mm → Prop) (l1 : Int64) (M : Mm) : Prop := (((0 : Int64) ≤ l1 → (bk_X0_addNumber_24 h0 K l1 M)) ∧ (¬ (0 : Int64) ≤ l1 → (bk_X0_addNumber_24 h0 K (-l1) M)))
set_option maxRecDepth 100000 in
set_option maxHeartbeats 4000000 in
theorem zb_X0_addNumber_12 {X : Cx} {h0 : Nat} {K : Mm → Prop} (hX : Ok X cX0_addNumber RX0 rm_X0_addNumber) (hQ : Rq X rm_X0_addNumber none (QV K)) (hnL : X.2.2.2.2.2.2.2.2.2.2.2.2.2.2 = 8) {l1 : Int64} {M : Mm} (h : bk_X0_addNumber_12 h0 K l1 M) : Z X M 0 0 12 [(0, va_rf (some h0)), (1, .long l1)] [] := by
  unfold bk_X0_addNumber_12 at h
  refine z_lload_n hX dX0_addNumber_12 rfl 1 rfl ?_
  refine z_lconst (v := (0 : Int64)) hX dX0_addNumber_13 (by decide) ?_
  refine z_lcmp hX dX0_addNumber_14 ?_
  obtain ⟨h1, h2⟩ := h
  refine z_if_ge (tgt := 23) hX dX0_addNumber_15 (by decide) (fun hc => ?_) (fun hc => ?_)
  · have h := h1 ((lg_cmp_ge _ _).mp hc)
    refine z_lload_n hX dX0_addNumber_23 rfl 1 rfl ?_
    refine z_loc [0] rfl ?_
    exact zb_X0_addNumber_24 hX hQ hnL h
  · have h := h2 (fun q => hc ((lg_cmp_ge _ _).mpr q))
    refine z_lload_n hX dX0_addNumber_18 rfl 1 rfl ?_
    refine z_lneg hX dX0_addNumber_19 ?_
    refine z_goto (tgt := 24) hX dX0_addNumber_20 (by decide) ?_
    refine z_loc [0] rfl ?_
    exact zb_X0_addNumber_24 hX hQ hnL h
def wp_X0_addNumber (M : Mm) (h0 : Nat) (p1 : Int64) (K : Mm → Prop) : Prop := (((0 : Int64) ≤ p1 → (bk_X0_addNumber_12 h0 K p1 M)) ∧ (¬ (0 : Int64) ≤ p1 → mK M h0 = 1 ∧ (wp_X0_add M h0 (45 : Int32) (fun M12 => (bk_X0_addNumber_12 h0 K p1 M12)))))
set_option maxRecDepth 100000 in
set_option maxHeartbeats 4000000 in
theorem ct_X0_addNumber {M : Mm} {h0 : Nat} {p1 : Int64} {K : Mm → Prop} (h : wp_X0_addNumber M h0 p1 K) : CtV yX0_addNumber cX0_addNumber 8 none rm_X0_addNumber [.ref h0, .long p1] M K := by
  refine ct_any (QV K) (by decide) (by exact Nat.le_of_ble_eq_true rfl) (fun X hX hQ hnL hnm => ?_)
  rw [show lv_args 0 [.ref h0, .long p1] = [(0, va_rf (some h0)), (1, .long p1)] by rfl]
  have hX : Ok X cX0_addNumber RX0 rm_X0_addNumber := hX
  unfold wp_X0_addNumber at h
  refine z_lload_n hX dX0_addNumber_0 rfl 1 rfl ?_
  refine z_lconst (v := (0 : Int64)) hX dX0_addNumber_1 (by decide) ?_
  refine z_lcmp hX dX0_addNumber_2 ?_
  obtain ⟨h1, h2⟩ := h
  refine z_if_ge (tgt := 12) hX dX0_addNumber_3 (by decide) (fun hc => ?_) (fun hc => ?_)
  · have h := h1 ((lg_cmp_ge _ _).mp hc)
    exact zb_X0_addNumber_12 hX hQ hnL h
  · have h := h2 (fun q => hc ((lg_cmp_ge _ _).mpr q))
    refine z_aload_n (r := (some h0)) hX dX0_addNumber_6 rfl 0 rfl ?_
    refine z_bipush (v := (45 : Int32)) hX dX0_addNumber_7 (by decide) ?_
    obtain ⟨hk13, h⟩ := h
    refine z_callVV (As := [.int (45 : Int32)]) (rest := []) (ci := 0) hX (ct_X0_add h) mw_RX0_19 rfl (by decide) rfl (by rfl) (by unfold RoomC; decide) (by decide) dX0_addNumber_9 hk13 (fun M12 h => ?_)
    exact zb_X0_addNumber_12 hX hQ hnL h
def rm_X0_addTime : Room := { frames := 2, cells := 0, slots := 0, locals := 48 }
def bk_X0_addTime_41 (h0 : Nat) (K : Mm → Prop) (M : Mm) : Prop := (K M)
set_option maxRecDepth 100000 in
set_option maxHeartbeats 4000000 in
theorem zb_X0_addTime_41 {X : Cx} {h0 : Nat} {K : Mm → Prop} (hX : Ok X cX0_addTime RX0 rm_X0_addTime) (hQ : Rq X rm_X0_addTime none (QV K)) (hnL : X.2.2.2.2.2.2.2.2.2.2.2.2.2.2 = 3) {M : Mm} (h : bk_X0_addTime_41 h0 K M) : Z X M 0 0 41 [] [] := by
  unfold bk_X0_addTime_41 at h
  exact z_vret hX hQ dX0_addTime_41 h
def wp_X0_addTime (M : Mm) (h0 : Nat) (p1 : Int64) (K : Mm → Prop) : Prop := ((¬ p1 = (-9000000000000000000 : Int64) → ((¬ p1 = (9000000000000000000 : Int64) → mK M h0 = 1 ∧ (wp_X0_addNumber M h0 p1 (fun M2 => (bk_X0_addTime_41 h0 K M2)))) ∧ (p1 = (9000000000000000000 : Int64) → mK M h0 = 1 ∧ (wp_X0_addWord M h0 (6647396 : Int64) (fun M6 => (bk_X0_addTime_41 h0 K M6)))))) ∧ (p1 = (-9000000000000000000 : Int64) → mK M h0 = 1 ∧ (wp_X0_addWord M h0 (495873782388 : Int64) (fun M10 => (bk_X0_addTime_41 h0 K M10)))))
set_option maxRecDepth 100000 in
set_option maxHeartbeats 4000000 in
theorem ct_X0_addTime {M : Mm} {h0 : Nat} {p1 : Int64} {K : Mm → Prop} (h : wp_X0_addTime M h0 p1 K) : CtV yX0_addTime cX0_addTime 3 none rm_X0_addTime [.ref h0, .long p1] M K := by
  refine ct_any (QV K) (by decide) (by exact Nat.le_of_ble_eq_true rfl) (fun X hX hQ hnL hnm => ?_)
  rw [show lv_args 0 [.ref h0, .long p1] = [(0, va_rf (some h0)), (1, .long p1)] by rfl]
  have hX : Ok X cX0_addTime RX0 rm_X0_addTime := hX
  unfold wp_X0_addTime at h
  refine z_lload_n hX dX0_addTime_0 rfl 1 rfl ?_
  refine z_ldc2 (v := (-9000000000000000000 : Int64)) hX dX0_addTime_1 kj_RX0_27 ?_
  refine z_lcmp hX dX0_addTime_4 ?_
  obtain ⟨h1, h2⟩ := h
  refine z_if_ne (tgt := 18) hX dX0_addTime_5 (by decide) (fun hc => ?_) (fun hc => ?_)
  · have h := h1 (fun q => hc ((lg_cmp_eq _ _).mpr q))
    refine z_lload_n hX dX0_addTime_18 rfl 1 rfl ?_
    refine z_ldc2 (v := (9000000000000000000 : Int64)) hX dX0_addTime_19 kj_RX0_35 ?_
    refine z_lcmp hX dX0_addTime_22 ?_
    obtain ⟨h1, h2⟩ := h
    refine z_if_ne (tgt := 36) hX dX0_addTime_23 (by decide) (fun hc => ?_) (fun hc => ?_)
    · have h := h1 (fun q => hc ((lg_cmp_eq _ _).mpr q))
      refine z_aload_n (r := (some h0)) hX dX0_addTime_36 rfl 0 rfl ?_
      refine z_lload_n hX dX0_addTime_37 rfl 1 rfl ?_
      obtain ⟨hk3, h⟩ := h
      refine z_callVV (As := [.long p1]) (rest := []) (ci := 0) hX (ct_X0_addNumber h) mw_RX0_39 rfl (by decide) rfl (by rfl) (by unfold RoomC; decide) (by decide) dX0_addTime_38 hk3 (fun M2 h => ?_)
      refine z_loc [] rfl ?_
      exact zb_X0_addTime_41 hX hQ hnL h
    · have h := h2 ((lg_cmp_eq _ _).mp hc)
      refine z_aload_n (r := (some h0)) hX dX0_addTime_26 rfl 0 rfl ?_
      refine z_ldc2 (v := (6647396 : Int64)) hX dX0_addTime_27 kj_RX0_37 ?_
      obtain ⟨hk7, h⟩ := h
      refine z_callVV (As := [.long (6647396 : Int64)]) (rest := []) (ci := 0) hX (ct_X0_addWord h) mw_RX0_31 rfl (by decide) rfl (by rfl) (by unfold RoomC; decide) (by decide) dX0_addTime_30 hk7 (fun M6 h => ?_)
      refine z_goto (tgt := 41) hX dX0_addTime_33 (by decide) ?_
      refine z_loc [] rfl ?_
      exact zb_X0_addTime_41 hX hQ hnL h
  · have h := h2 ((lg_cmp_eq _ _).mp hc)
    refine z_aload_n (r := (some h0)) hX dX0_addTime_8 rfl 0 rfl ?_
    refine z_ldc2 (v := (495873782388 : Int64)) hX dX0_addTime_9 kj_RX0_29 ?_
    obtain ⟨hk11, h⟩ := h
    refine z_callVV (As := [.long (495873782388 : Int64)]) (rest := []) (ci := 0) hX (ct_X0_addWord h) mw_RX0_31 rfl (by decide) rfl (by rfl) (by unfold RoomC; decide) (by decide) dX0_addTime_12 hk11 (fun M10 h => ?_)
    refine z_goto (tgt := 41) hX dX0_addTime_15 (by decide) ?_
    refine z_loc [] rfl ?_
    exact zb_X0_addTime_41 hX hQ hnL h
def rm_X1_add : Room := { frames := 0, cells := 0, slots := 0, locals := 0 }
def bk_X1_add_32 (h0 : Nat) (K : Mm → Prop) (M : Mm) : Prop := (K M)
set_option maxRecDepth 100000 in
set_option maxHeartbeats 4000000 in
theorem zb_X1_add_32 {X : Cx} {h0 : Nat} {K : Mm → Prop} (hX : Ok X cX1_add RX1 rm_X1_add) (hQ : Rq X rm_X1_add none (QV K)) (hnL : X.2.2.2.2.2.2.2.2.2.2.2.2.2.2 = 2) {M : Mm} (h : bk_X1_add_32 h0 K M) : Z X M 0 0 32 [] [] := by
  unfold bk_X1_add_32 at h
  exact z_vret hX hQ dX1_add_32 h
def wp_X1_add (M : Mm) (h0 : Nat) (p1 : Option Nat) (K : Mm → Prop) : Prop := mK M h0 = 2 ∧ ∃ a2, (mR M 66 h0) = some a2 ∧ isA M a2 4 ∧ (((nI (aN M a2)) ≤ (mI M 69 h0) → (bk_X1_add_32 h0 K M)) ∧ (¬ (nI (aN M a2)) ≤ (mI M 69 h0) → ∃ a5, p1 = some a5 ∧ mK M a5 = 7 ∧ vp_in (mI M 69 h0) (aN M a2) ∧ (bk_X1_add_32 h0 K (sI (tR M a2 ((mI M 69 h0)).toNatClampNeg p1) 69 h0 ((mI (tR M a2 ((mI M 69 h0)).toNatClampNeg p1) 69 h0) + (1 : Int32))))))
set_option maxRecDepth 100000 in
set_option maxHeartbeats 4000000 in
theorem ct_X1_add {M : Mm} {h0 : Nat} {p1 : Option Nat} {K : Mm → Prop} (h : wp_X1_add M h0 p1 K) : CtV yX1_add cX1_add 2 none rm_X1_add [.ref h0, va_rf p1] M K := by
  refine ct_any (QV K) (by decide) (by cases p1 <;> exact Nat.le_of_ble_eq_true rfl) (fun X hX hQ hnL hnm => ?_)
  rw [show lv_args 0 [.ref h0, va_rf p1] = [(0, va_rf (some h0)), (1, va_rf p1)] by cases p1 <;> rfl]
  have hX : Ok X cX1_add RX1 rm_X1_add := hX
  unfold wp_X1_add at h
  refine z_aload_n (r := (some h0)) hX dX1_add_0 rfl 0 rfl ?_
  obtain ⟨hk1, h⟩ := h
  refine gf_RX1_37 (r := (some h0)) hX dX1_add_1 rfl hk1 ?_
  refine z_aload_n (r := (some h0)) hX dX1_add_4 rfl 0 rfl ?_
  refine gf_RX1_20 (r := (some h0)) hX dX1_add_5 rfl hk1 ?_
  obtain ⟨a2, ha3, h⟩ := h
  obtain ⟨hk4, h⟩ := h
  refine y_alen (r := (mR M 66 h0)) hX dX1_add_8 ha3 hk4 (by decide) ?_
  obtain ⟨h1, h2⟩ := h
  refine z_icmp_ge (tgt := 32) hX dX1_add_9 (by decide) (fun hc => ?_) (fun hc => ?_)
  · have h := h1 hc
    refine z_loc [] rfl ?_
    exact zb_X1_add_32 hX hQ hnL h
  · have h := h2 hc
    refine z_aload_n (r := (some h0)) hX dX1_add_12 rfl 0 rfl ?_
    refine gf_RX1_20 (r := (some h0)) hX dX1_add_13 rfl hk1 ?_
    refine z_aload_n (r := (some h0)) hX dX1_add_16 rfl 0 rfl ?_
    refine gf_RX1_37 (r := (some h0)) hX dX1_add_17 rfl hk1 ?_
    refine z_aload_n (r := p1) hX dX1_add_20 rfl 1 rfl ?_
    obtain ⟨a5, ha6, h⟩ := h
    obtain ⟨hk7, h⟩ := h
    obtain ⟨hc8, h⟩ := h
    refine y_astq (r := (mR M 66 h0)) (rb := p1) hX dX1_add_21 ha3 hk4 ha6 hk7 hc8 ?_
    refine z_aload_n (r := (some h0)) hX dX1_add_22 rfl 0 rfl ?_
    refine z_dup hX dX1_add_23 (cat_rf _) ?_
    refine gf_RX1_37 (r := (some h0)) hX dX1_add_24 rfl hk1 ?_
    refine z_iconst (v := (1 : Int32)) hX dX1_add_27 (by decide) ?_
    refine z_iadd hX dX1_add_28 ?_
    refine pf_RX1_37 (r := (some h0)) (v := ((mI (tR M a2 ((mI M 69 h0)).toNatClampNeg p1) 69 h0) + (1 : Int32))) hX dX1_add_29 rfl hk1 ?_
    refine z_loc [] rfl ?_
    exact zb_X1_add_32 hX hQ hnL h
def rm_X1_named : Room := { frames := 0, cells := 0, slots := 0, locals := 0 }
def lp_X1_named_2 (h0 : Nat) (K : Option Nat → Mm → Prop) : Nat → Int64 → Int32 → Mm → Prop
  | 0, _, _, _ => False
  | n + 1, l1, l3, M => mK M h0 = 2 ∧ (((mI M 69 h0) ≤ l3 → (K none M)) ∧ (¬ (mI M 69 h0) ≤ l3 → ∃ a2, (mR M 66 h0) = some a2 ∧ isA M a2 4 ∧ vp_in l3 (aN M a2) ∧ ∃ a6, (aR M a2 (l3).toNatClampNeg) = some a6 ∧ mK M a6 = 7 ∧ ((¬ (mJ M 385 a6) = l1 → ((lp_X1_named_2 h0 K n) l1 (l3 + 1) M)) ∧ ((mJ M 385 a6) = l1 → vp_in l3 (aN M a2) ∧ (K (aR M a2 (l3).toNatClampNeg) M)))))
set_option maxRecDepth 100000 in
set_option maxHeartbeats 4000000 in
theorem zl_X1_named_2 {X : Cx} {h0 : Nat} {K : Option Nat → Mm → Prop} (hX : Ok X cX1_named RX1 rm_X1_named) (hQ : Rq X rm_X1_named (some (.object "WatermarkJoin$Stream")) (QR K)) (hnL : X.2.2.2.2.2.2.2.2.2.2.2.2.2.2 = 4) : ∀ (n : Nat) (l1 : Int64) (l3 : Int32) (M : Mm), lp_X1_named_2 h0 K n l1 l3 M → Z X M 0 0 2 [(0, va_rf (some h0)), (1, .long l1), (3, .int l3)] [] := by
  intro n
  induction n with
  | zero =>
    intro l1 l3 M h
    exact False.elim h
  | succ n hR2 =>
    intro l1 l3 M h
    refine z_iload_n hX dX1_named_2 rfl 2 rfl ?_
    refine z_aload_n (r := (some h0)) hX dX1_named_3 rfl 0 rfl ?_
    obtain ⟨hk1, h⟩ := h
    refine gf_RX1_37 (r := (some h0)) hX dX1_named_4 rfl hk1 ?_
    obtain ⟨h1, h2⟩ := h
    refine z_icmp_ge (tgt := 37) hX dX1_named_7 (by decide) (fun hc => ?_) (fun hc => ?_)
    · have h := h1 hc
      refine z_null hX dX1_named_37 ?_
      exact z_aret hX hQ dX1_named_38 h
    · have h := h2 hc
      refine z_aload_n (r := (some h0)) hX dX1_named_10 rfl 0 rfl ?_
      refine gf_RX1_20 (r := (some h0)) hX dX1_named_11 rfl hk1 ?_
      refine z_iload_n hX dX1_named_14 rfl 2 rfl ?_
      obtain ⟨a2, ha3, h⟩ := h
      obtain ⟨hk4, h⟩ := h
      obtain ⟨hc5, h⟩ := h
      refine y_aldq (r := (mR M 66 h0)) hX dX1_named_15 ha3 hk4 hc5 ?_
      obtain ⟨a6, ha7, h⟩ := h
      obtain ⟨hk8, h⟩ := h
      refine gf_RX1_41 (r := (aR M a2 (l3).toNatClampNeg)) hX dX1_named_16 ha7 hk8 ?_
      refine z_lload_n hX dX1_named_19 rfl 1 rfl ?_
      refine z_lcmp hX dX1_named_20 ?_
      obtain ⟨h1, h2⟩ := h
      refine z_if_ne (tgt := 31) hX dX1_named_21 (by decide) (fun hc => ?_) (fun hc => ?_)
      · have h := h1 (fun q => hc ((lg_cmp_eq _ _).mpr q))
        refine z_iinc (v := (l3 + 1)) hX [(3, .int (l3 + 1)), (0, va_rf (some h0)), (1, .long l1)] dX1_named_31 2 rfl rfl (by rw [hnL]; decide) rfl ?_
        refine z_goto (tgt := 2) hX dX1_named_34 (by decide) ?_
        refine z_loc [1, 2, 0] rfl ?_
        exact hR2 _ _ _ h
      · have h := h2 ((lg_cmp_eq _ _).mp hc)
        refine z_aload_n (r := (some h0)) hX dX1_named_24 rfl 0 rfl ?_
        refine gf_RX1_20 (r := (some h0)) hX dX1_named_25 rfl hk1 ?_
        refine z_iload_n hX dX1_named_28 rfl 2 rfl ?_
        obtain ⟨hc9, h⟩ := h
        refine y_aldq (r := (mR M 66 h0)) hX dX1_named_29 ha3 hk4 hc9 ?_
        exact z_aret hX hQ dX1_named_30 h
def wp_X1_named (M : Mm) (h0 : Nat) (p1 : Int64) (K : Option Nat → Mm → Prop) : Prop := (∃ kk, lp_X1_named_2 h0 K kk p1 (0 : Int32) M)
set_option maxRecDepth 100000 in
set_option maxHeartbeats 4000000 in
theorem ct_X1_named {M : Mm} {h0 : Nat} {p1 : Int64} {K : Option Nat → Mm → Prop} (h : wp_X1_named M h0 p1 K) : CtR yX1_named cX1_named 4 (some (.object "WatermarkJoin$Stream")) rm_X1_named [.ref h0, .long p1] M K := by
  refine ct_any (QR K) (by decide) (by exact Nat.le_of_ble_eq_true rfl) (fun X hX hQ hnL hnm => ?_)
  rw [show lv_args 0 [.ref h0, .long p1] = [(0, va_rf (some h0)), (1, .long p1)] by rfl]
  have hX : Ok X cX1_named RX1 rm_X1_named := hX
  unfold wp_X1_named at h
  refine z_iconst (v := (0 : Int32)) hX dX1_named_0 (by decide) ?_
  refine z_istore_n hX [(3, .int (0 : Int32)), (0, va_rf (some h0)), (1, .long p1)] dX1_named_1 rfl (by rw [hnL]; decide) rfl ?_
  refine z_loc [1, 2, 0] rfl ?_
  obtain ⟨n, h⟩ := h
  exact zl_X1_named_2 hX hQ hnL n _ _ _ h
def rm_X1_isAligned : Room := { frames := 0, cells := 0, slots := 0, locals := 0 }
def bk_X1_isAligned_31 (h0 : Nat) (K : Int32 → Mm → Prop) (s0 : Int32) (M : Mm) : Prop := (bz s0 ∧ K s0 M)
set_option maxRecDepth 100000 in
set_option maxHeartbeats 4000000 in
theorem zb_X1_isAligned_31 {X : Cx} {h0 : Nat} {K : Int32 → Mm → Prop} (hX : Ok X cX1_isAligned RX1 rm_X1_isAligned) (hQ : Rq X rm_X1_isAligned (some .boolean) (QI K)) (hnL : X.2.2.2.2.2.2.2.2.2.2.2.2.2.2 = 2) {s0 : Int32} {M : Mm} (h : bk_X1_isAligned_31 h0 K s0 M) : Z X M 0 0 31 [] [.int s0] := by
  unfold bk_X1_isAligned_31 at h
  exact y_zret hX hQ dX1_isAligned_31 h.1 h.2
def bk_X1_isAligned_30 (h0 : Nat) (K : Int32 → Mm → Prop) (M : Mm) : Prop := (bk_X1_isAligned_31 h0 K (0 : Int32) M)
set_option maxRecDepth 100000 in
set_option maxHeartbeats 4000000 in
theorem zb_X1_isAligned_30 {X : Cx} {h0 : Nat} {K : Int32 → Mm → Prop} (hX : Ok X cX1_isAligned RX1 rm_X1_isAligned) (hQ : Rq X rm_X1_isAligned (some .boolean) (QI K)) (hnL : X.2.2.2.2.2.2.2.2.2.2.2.2.2.2 = 2) {M : Mm} (h : bk_X1_isAligned_30 h0 K M) : Z X M 0 0 30 [] [] := by
  unfold bk_X1_isAligned_30 at h
  refine z_iconst (v := (0 : Int32)) hX dX1_isAligned_30 (by decide) ?_
  exact zb_X1_isAligned_31 hX hQ hnL h
def wp_X1_isAligned (M : Mm) (h0 : Nat) (p1 : Int32) (K : Int32 → Mm → Prop) : Prop := ((p1 < 0 → (bk_X1_isAligned_30 h0 K M)) ∧ (¬ p1 < 0 → mK M h0 = 2 ∧ ∃ a2, (mR M 67 h0) = some a2 ∧ isA M a2 2 ∧ (((nI (aN M a2)) ≤ p1 → (bk_X1_isAligned_30 h0 K M)) ∧ (¬ (nI (aN M a2)) ≤ p1 → vp_in p1 (aN M a2) ∧ (((aJ M a2 (p1).toNatClampNeg) = (-1 : Int64) → (bk_X1_isAligned_30 h0 K M)) ∧ (¬ (aJ M a2 (p1).toNatClampNeg) = (-1 : Int64) → (bk_X1_isAligned_31 h0 K (1 : Int32) M)))))))
set_option maxRecDepth 100000 in
set_option maxHeartbeats 4000000 in
theorem ct_X1_isAligned {M : Mm} {h0 : Nat} {p1 : Int32} {K : Int32 → Mm → Prop} (h : wp_X1_isAligned M h0 p1 K) : CtI yX1_isAligned cX1_isAligned 2 (some .boolean) rm_X1_isAligned [.ref h0, .int p1] M K := by
  refine ct_any (QI K) (by decide) (by exact Nat.le_of_ble_eq_true rfl) (fun X hX hQ hnL hnm => ?_)
  rw [show lv_args 0 [.ref h0, .int p1] = [(0, va_rf (some h0)), (1, .int p1)] by rfl]
  have hX : Ok X cX1_isAligned RX1 rm_X1_isAligned := hX
  unfold wp_X1_isAligned at h
  refine z_iload_n hX dX1_isAligned_0 rfl 1 rfl ?_
  obtain ⟨h1, h2⟩ := h
  refine z_if_lt (tgt := 30) hX dX1_isAligned_1 (by decide) (fun hc => ?_) (fun hc => ?_)
  · have h := h1 hc
    refine z_loc [] rfl ?_
    exact zb_X1_isAligned_30 hX hQ hnL h
  · have h := h2 hc
    refine z_iload_n hX dX1_isAligned_4 rfl 1 rfl ?_
    refine z_aload_n (r := (some h0)) hX dX1_isAligned_5 rfl 0 rfl ?_
    obtain ⟨hk1, h⟩ := h
    refine gf_RX1_24 (r := (some h0)) hX dX1_isAligned_6 rfl hk1 ?_
    obtain ⟨a2, ha3, h⟩ := h
    obtain ⟨hk4, h⟩ := h
    refine y_alen (r := (mR M 67 h0)) hX dX1_isAligned_9 ha3 hk4 (by decide) ?_
    obtain ⟨h1, h2⟩ := h
    refine z_icmp_ge (tgt := 30) hX dX1_isAligned_10 (by decide) (fun hc => ?_) (fun hc => ?_)
    · have h := h1 hc
      refine z_loc [] rfl ?_
      exact zb_X1_isAligned_30 hX hQ hnL h
    · have h := h2 hc
      refine z_aload_n (r := (some h0)) hX dX1_isAligned_13 rfl 0 rfl ?_
      refine gf_RX1_24 (r := (some h0)) hX dX1_isAligned_14 rfl hk1 ?_
      refine z_iload_n hX dX1_isAligned_17 rfl 1 rfl ?_
      obtain ⟨hc5, h⟩ := h
      refine y_lald (r := (mR M 67 h0)) hX dX1_isAligned_18 ha3 hk4 hc5 ?_
      refine z_ldc2 (v := (-1 : Int64)) hX dX1_isAligned_19 kj_RX1_28 ?_
      refine z_lcmp hX dX1_isAligned_22 ?_
      obtain ⟨h1, h2⟩ := h
      refine z_if_eq (tgt := 30) hX dX1_isAligned_23 (by decide) (fun hc => ?_) (fun hc => ?_)
      · have h := h1 ((lg_cmp_eq _ _).mp hc)
        refine z_loc [] rfl ?_
        exact zb_X1_isAligned_30 hX hQ hnL h
      · have h := h2 (fun q => hc ((lg_cmp_eq _ _).mpr q))
        refine z_iconst (v := (1 : Int32)) hX dX1_isAligned_26 (by decide) ?_
        refine z_goto (tgt := 31) hX dX1_isAligned_27 (by decide) ?_
        refine z_loc [] rfl ?_
        exact zb_X1_isAligned_31 hX hQ hnL h
def rm_X3_init : Room := { frames := 1, cells := 1, slots := 1200, locals := 20 }
def wp_X3_init (M : Mm) (h0 : Nat) (p1 : Int32) (K : Mm → Prop) : Prop := mK M h0 = 4 ∧ ¬ ((4 : Int32) * p1) < 0 ∧ (((4 : Int32) * p1)).toNatClampNeg ≤ 1200 ∧ (∀ q3, mK (sI M 193 h0 p1) q3 = 0 → mK (na (sI M 193 h0 p1) q3 26 (((4 : Int32) * p1)).toNatClampNeg) h0 = 4 ∧ (K (sR (na (sI M 193 h0 p1) q3 26 (((4 : Int32) * p1)).toNatClampNeg) 192 h0 (some q3))))
set_option maxRecDepth 100000 in
set_option maxHeartbeats 4000000 in
theorem ct_X3_init {M : Mm} {h0 : Nat} {p1 : Int32} {K : Mm → Prop} (h : wp_X3_init M h0 p1 K) : CtV yX3_init cX3_init 2 none rm_X3_init [.ref h0, .int p1] M K := by
  refine ct_any (QV K) (by decide) (by exact Nat.le_of_ble_eq_true rfl) (fun X hX hQ hnL hnm => ?_)
  rw [show lv_args 0 [.ref h0, .int p1] = [(0, va_rf (some h0)), (1, .int p1)] by rfl]
  have hX : Ok X cX3_init RX3 rm_X3_init := hX
  unfold wp_X3_init at h
  refine z_aload_n (r := (some h0)) hX dX3_init_0 rfl 0 rfl ?_
  refine mw_RX3_1 (a := h0) hX dX3_init_1 (by decide) (by decide) ?_
  refine z_aload_n (r := (some h0)) hX dX3_init_4 rfl 0 rfl ?_
  refine z_iload_n hX dX3_init_5 rfl 1 rfl ?_
  obtain ⟨hk1, h⟩ := h
  refine pf_RX3_7 (r := (some h0)) (v := p1) hX hnm dX3_init_6 rfl hk1 ?_
  refine z_aload_n (r := (some h0)) hX dX3_init_9 rfl 0 rfl ?_
  refine z_iconst (v := (4 : Int32)) hX dX3_init_10 (by decide) ?_
  refine z_iload_n hX dX3_init_11 rfl 1 rfl ?_
  refine z_imul hX dX3_init_12 ?_
  obtain ⟨hc6, h⟩ := h
  obtain ⟨hc7, h⟩ := h
  refine y_newa_long (n := (((4 : Int32) * p1)).toNatClampNeg) hX 26 (by decide) (by decide) hc6 rfl (by show _ * 8 ≤ _; omega) dX3_init_13 (by decide) (by show _ ≤ 1200; omega) (fun q3 hq4 => ?_)
  refine z_widen 1 1200 (by omega) (by omega) ?_
  have h := h q3 hq4
  obtain ⟨hk8, h⟩ := h
  refine pf_RX3_13 (r := (some h0)) (v := (some q3)) hX hnm dX3_init_15 rfl hk8 ?_
  refine z_widen 1 1200 (by decide) (by decide) ?_
  exact z_vret hX hQ dX3_init_18 h
def rm_X3_clear : Room := { frames := 0, cells := 0, slots := 0, locals := 0 }
def wp_X3_clear (M : Mm) (h0 : Nat) (K : Mm → Prop) : Prop := mK M h0 = 4 ∧ (K (sI M 194 h0 (0 : Int32)))
set_option maxRecDepth 100000 in
set_option maxHeartbeats 4000000 in
theorem ct_X3_clear {M : Mm} {h0 : Nat} {K : Mm → Prop} (h : wp_X3_clear M h0 K) : CtV yX3_clear cX3_clear 1 none rm_X3_clear [.ref h0] M K := by
  refine ct_any (QV K) (by decide) (by exact Nat.le_of_ble_eq_true rfl) (fun X hX hQ hnL hnm => ?_)
  rw [show lv_args 0 [.ref h0] = [(0, va_rf (some h0))] by rfl]
  have hX : Ok X cX3_clear RX3 rm_X3_clear := hX
  unfold wp_X3_clear at h
  refine z_aload_n (r := (some h0)) hX dX3_clear_0 rfl 0 rfl ?_
  refine z_iconst (v := (0 : Int32)) hX dX3_clear_1 (by decide) ?_
  obtain ⟨hk1, h⟩ := h
  refine pf_RX3_17 (r := (some h0)) (v := (0 : Int32)) hX dX3_clear_2 rfl hk1 ?_
  exact z_vret hX hQ dX3_clear_5 h
def rm_X3_note : Room := { frames := 0, cells := 0, slots := 0, locals := 0 }
def bk_X3_note_70 (h0 : Nat) (K : Mm → Prop) (M : Mm) : Prop := mK M h0 = 4 ∧ (K (sI M 194 h0 ((mI M 194 h0) + (1 : Int32))))
set_option maxRecDepth 100000 in
set_option maxHeartbeats 4000000 in
theorem zb_X3_note_70 {X : Cx} {h0 : Nat} {K : Mm → Prop} (hX : Ok X cX3_note RX3 rm_X3_note) (hQ : Rq X rm_X3_note none (QV K)) (hnL : X.2.2.2.2.2.2.2.2.2.2.2.2.2.2 = 6) {M : Mm} (h : bk_X3_note_70 h0 K M) : Z X M 0 0 70 [(0, va_rf (some h0))] [] := by
  unfold bk_X3_note_70 at h
  refine z_aload_n (r := (some h0)) hX dX3_note_70 rfl 0 rfl ?_
  refine z_dup hX dX3_note_71 (cat_rf _) ?_
  obtain ⟨hk1, h⟩ := h
  refine gf_RX3_17 (r := (some h0)) hX dX3_note_72 rfl hk1 ?_
  refine z_iconst (v := (1 : Int32)) hX dX3_note_75 (by decide) ?_
  refine z_iadd hX dX3_note_76 ?_
  refine pf_RX3_17 (r := (some h0)) (v := ((mI M 194 h0) + (1 : Int32))) hX dX3_note_77 rfl hk1 ?_
  exact z_vret hX hQ dX3_note_80 h
def wp_X3_note (M : Mm) (h0 : Nat) (p1 : Int32) (p2 : Int64) (p3 : Int32) (p4 : Int32) (K : Mm → Prop) : Prop := mK M h0 = 4 ∧ (((mI M 193 h0) ≤ (mI M 194 h0) → (bk_X3_note_70 h0 K M)) ∧ (¬ (mI M 193 h0) ≤ (mI M 194 h0) → ∃ a4, (mR M 192 h0) = some a4 ∧ isA M a4 2 ∧ vp_in ((4 : Int32) * (mI M 194 h0)) (aN M a4) ∧ ∃ a8, (mR (tJ M a4 (((4 : Int32) * (mI M 194 h0))).toNatClampNeg ((p1).toInt64)) 192 h0) = some a8 ∧ isA (tJ M a4 (((4 : Int32) * (mI M 194 h0))).toNatClampNeg ((p1).toInt64)) a8 2 ∧ vp_in (((4 : Int32) * (mI (tJ M a4 (((4 : Int32) * (mI M 194 h0))).toNatClampNeg ((p1).toInt64)) 194 h0)) + (1 : Int32)) (aN (tJ M a4 (((4 : Int32) * (mI M 194 h0))).toNatClampNeg ((p1).toInt64)) a8) ∧ ∃ a12, (mR (tJ (tJ M a4 (((4 : Int32) * (mI M 194 h0))).toNatClampNeg ((p1).toInt64)) a8 ((((4 : Int32) * (mI (tJ M a4 (((4 : Int32) * (mI M 194 h0))).toNatClampNeg ((p1).toInt64)) 194 h0)) + (1 : Int32))).toNatClampNeg p2) 192 h0) = some a12 ∧ isA (tJ (tJ M a4 (((4 : Int32) * (mI M 194 h0))).toNatClampNeg ((p1).toInt64)) a8 ((((4 : Int32) * (mI (tJ M a4 (((4 : Int32) * (mI M 194 h0))).toNatClampNeg ((p1).toInt64)) 194 h0)) + (1 : Int32))).toNatClampNeg p2) a12 2 ∧ vp_in (((4 : Int32) * (mI (tJ (tJ M a4 (((4 : Int32) * (mI M 194 h0))).toNatClampNeg ((p1).toInt64)) a8 ((((4 : Int32) * (mI (tJ M a4 (((4 : Int32) * (mI M 194 h0))).toNatClampNeg ((p1).toInt64)) 194 h0)) + (1 : Int32))).toNatClampNeg p2) 194 h0)) + (2 : Int32)) (aN (tJ (tJ M a4 (((4 : Int32) * (mI M 194 h0))).toNatClampNeg ((p1).toInt64)) a8 ((((4 : Int32) * (mI (tJ M a4 (((4 : Int32) * (mI M 194 h0))).toNatClampNeg ((p1).toInt64)) 194 h0)) + (1 : Int32))).toNatClampNeg p2) a12) ∧ ∃ a16, (mR (tJ (tJ (tJ M a4 (((4 : Int32) * (mI M 194 h0))).toNatClampNeg ((p1).toInt64)) a8 ((((4 : Int32) * (mI (tJ M a4 (((4 : Int32) * (mI M 194 h0))).toNatClampNeg ((p1).toInt64)) 194 h0)) + (1 : Int32))).toNatClampNeg p2) a12 ((((4 : Int32) * (mI (tJ (tJ M a4 (((4 : Int32) * (mI M 194 h0))).toNatClampNeg ((p1).toInt64)) a8 ((((4 : Int32) * (mI (tJ M a4 (((4 : Int32) * (mI M 194 h0))).toNatClampNeg ((p1).toInt64)) 194 h0)) + (1 : Int32))).toNatClampNeg p2) 194 h0)) + (2 : Int32))).toNatClampNeg ((p3).toInt64)) 192 h0) = some a16 ∧ isA (tJ (tJ (tJ M a4 (((4 : Int32) * (mI M 194 h0))).toNatClampNeg ((p1).toInt64)) a8 ((((4 : Int32) * (mI (tJ M a4 (((4 : Int32) * (mI M 194 h0))).toNatClampNeg ((p1).toInt64)) 194 h0)) + (1 : Int32))).toNatClampNeg p2) a12 ((((4 : Int32) * (mI (tJ (tJ M a4 (((4 : Int32) * (mI M 194 h0))).toNatClampNeg ((p1).toInt64)) a8 ((((4 : Int32) * (mI (tJ M a4 (((4 : Int32) * (mI M 194 h0))).toNatClampNeg ((p1).toInt64)) 194 h0)) + (1 : Int32))).toNatClampNeg p2) 194 h0)) + (2 : Int32))).toNatClampNeg ((p3).toInt64)) a16 2 ∧ vp_in (((4 : Int32) * (mI (tJ (tJ (tJ M a4 (((4 : Int32) * (mI M 194 h0))).toNatClampNeg ((p1).toInt64)) a8 ((((4 : Int32) * (mI (tJ M a4 (((4 : Int32) * (mI M 194 h0))).toNatClampNeg ((p1).toInt64)) 194 h0)) + (1 : Int32))).toNatClampNeg p2) a12 ((((4 : Int32) * (mI (tJ (tJ M a4 (((4 : Int32) * (mI M 194 h0))).toNatClampNeg ((p1).toInt64)) a8 ((((4 : Int32) * (mI (tJ M a4 (((4 : Int32) * (mI M 194 h0))).toNatClampNeg ((p1).toInt64)) 194 h0)) + (1 : Int32))).toNatClampNeg p2) 194 h0)) + (2 : Int32))).toNatClampNeg ((p3).toInt64)) 194 h0)) + (3 : Int32)) (aN (tJ (tJ (tJ M a4 (((4 : Int32) * (mI M 194 h0))).toNatClampNeg ((p1).toInt64)) a8 ((((4 : Int32) * (mI (tJ M a4 (((4 : Int32) * (mI M 194 h0))).toNatClampNeg ((p1).toInt64)) 194 h0)) + (1 : Int32))).toNatClampNeg p2) a12 ((((4 : Int32) * (mI (tJ (tJ M a4 (((4 : Int32) * (mI M 194 h0))).toNatClampNeg ((p1).toInt64)) a8 ((((4 : Int32) * (mI (tJ M a4 (((4 : Int32) * (mI M 194 h0))).toNatClampNeg ((p1).toInt64)) 194 h0)) + (1 : Int32))).toNatClampNeg p2) 194 h0)) + (2 : Int32))).toNatClampNeg ((p3).toInt64)) a16) ∧ (bk_X3_note_70 h0 K (tJ (tJ (tJ (tJ M a4 (((4 : Int32) * (mI M 194 h0))).toNatClampNeg ((p1).toInt64)) a8 ((((4 : Int32) * (mI (tJ M a4 (((4 : Int32) * (mI M 194 h0))).toNatClampNeg ((p1).toInt64)) 194 h0)) + (1 : Int32))).toNatClampNeg p2) a12 ((((4 : Int32) * (mI (tJ (tJ M a4 (((4 : Int32) * (mI M 194 h0))).toNatClampNeg ((p1).toInt64)) a8 ((((4 : Int32) * (mI (tJ M a4 (((4 : Int32) * (mI M 194 h0))).toNatClampNeg ((p1).toInt64)) 194 h0)) + (1 : Int32))).toNatClampNeg p2) 194 h0)) + (2 : Int32))).toNatClampNeg ((p3).toInt64)) a16 ((((4 : Int32) * (mI (tJ (tJ (tJ M a4 (((4 : Int32) * (mI M 194 h0))).toNatClampNeg ((p1).toInt64)) a8 ((((4 : Int32) * (mI (tJ M a4 (((4 : Int32) * (mI M 194 h0))).toNatClampNeg ((p1).toInt64)) 194 h0)) + (1 : Int32))).toNatClampNeg p2) a12 ((((4 : Int32) * (mI (tJ (tJ M a4 (((4 : Int32) * (mI M 194 h0))).toNatClampNeg ((p1).toInt64)) a8 ((((4 : Int32) * (mI (tJ M a4 (((4 : Int32) * (mI M 194 h0))).toNatClampNeg ((p1).toInt64)) 194 h0)) + (1 : Int32))).toNatClampNeg p2) 194 h0)) + (2 : Int32))).toNatClampNeg ((p3).toInt64)) 194 h0)) + (3 : Int32))).toNatClampNeg ((p4).toInt64)))))
set_option maxRecDepth 100000 in
set_option maxHeartbeats 4000000 in
theorem ct_X3_note {M : Mm} {h0 : Nat} {p1 : Int32} {p2 : Int64} {p3 : Int32} {p4 : Int32} {K : Mm → Prop} (h : wp_X3_note M h0 p1 p2 p3 p4 K) : CtV yX3_note cX3_note 6 none rm_X3_note [.ref h0, .int p1, .long p2, .int p3, .int p4] M K := by
  refine ct_any (QV K) (by decide) (by exact Nat.le_of_ble_eq_true rfl) (fun X hX hQ hnL hnm => ?_)
  rw [show lv_args 0 [.ref h0, .int p1, .long p2, .int p3, .int p4] = [(0, va_rf (some h0)), (1, .int p1), (2, .long p2), (4, .int p3), (5, .int p4)] by rfl]
  have hX : Ok X cX3_note RX3 rm_X3_note := hX
  unfold wp_X3_note at h
  refine z_aload_n (r := (some h0)) hX dX3_note_0 rfl 0 rfl ?_
  obtain ⟨hk3, h⟩ := h
  refine gf_RX3_17 (r := (some h0)) hX dX3_note_1 rfl hk3 ?_
  refine z_aload_n (r := (some h0)) hX dX3_note_4 rfl 0 rfl ?_
  refine gf_RX3_7 (r := (some h0)) hX dX3_note_5 rfl hk3 ?_
  obtain ⟨h1, h2⟩ := h
  refine z_icmp_ge (tgt := 70) hX dX3_note_8 (by decide) (fun hc => ?_) (fun hc => ?_)
  · have h := h1 hc
    refine z_loc [0] rfl ?_
    exact zb_X3_note_70 hX hQ hnL h
  · have h := h2 hc
    refine z_aload_n (r := (some h0)) hX dX3_note_11 rfl 0 rfl ?_
    refine gf_RX3_13 (r := (some h0)) hX dX3_note_12 rfl hk3 ?_
    refine z_iconst (v := (4 : Int32)) hX dX3_note_15 (by decide) ?_
    refine z_aload_n (r := (some h0)) hX dX3_note_16 rfl 0 rfl ?_
    refine gf_RX3_17 (r := (some h0)) hX dX3_note_17 rfl hk3 ?_
    refine z_imul hX dX3_note_20 ?_
    refine z_iload_n hX dX3_note_21 rfl 1 rfl ?_
    refine z_i2l hX dX3_note_22 ?_
    obtain ⟨a4, ha5, h⟩ := h
    obtain ⟨hk6, h⟩ := h
    obtain ⟨hc7, h⟩ := h
    refine y_last (r := (mR M 192 h0)) hX dX3_note_23 ha5 hk6 hc7 ?_
    refine z_aload_n (r := (some h0)) hX dX3_note_24 rfl 0 rfl ?_
    refine gf_RX3_13 (r := (some h0)) hX dX3_note_25 rfl hk3 ?_
    refine z_iconst (v := (4 : Int32)) hX dX3_note_28 (by decide) ?_
    refine z_aload_n (r := (some h0)) hX dX3_note_29 rfl 0 rfl ?_
    refine gf_RX3_17 (r := (some h0)) hX dX3_note_30 rfl hk3 ?_
    refine z_imul hX dX3_note_33 ?_
    refine z_iconst (v := (1 : Int32)) hX dX3_note_34 (by decide) ?_
    refine z_iadd hX dX3_note_35 ?_
    refine z_lload_n hX dX3_note_36 rfl 2 rfl ?_
    obtain ⟨a8, ha9, h⟩ := h
    obtain ⟨hk10, h⟩ := h
    obtain ⟨hc11, h⟩ := h
    refine y_last (r := (mR (tJ M a4 (((4 : Int32) * (mI M 194 h0))).toNatClampNeg ((p1).toInt64)) 192 h0)) hX dX3_note_37 ha9 hk10 hc11 ?_
    refine z_aload_n (r := (some h0)) hX dX3_note_38 rfl 0 rfl ?_
    refine gf_RX3_13 (r := (some h0)) hX dX3_note_39 rfl hk3 ?_
    refine z_iconst (v := (4 : Int32)) hX dX3_note_42 (by decide) ?_
    refine z_aload_n (r := (some h0)) hX dX3_note_43 rfl 0 rfl ?_
    refine gf_RX3_17 (r := (some h0)) hX dX3_note_44 rfl hk3 ?_
    refine z_imul hX dX3_note_47 ?_
    refine z_iconst (v := (2 : Int32)) hX dX3_note_48 (by decide) ?_
    refine z_iadd hX dX3_note_49 ?_
    refine z_iload hX dX3_note_50 3 rfl ?_
    refine z_i2l hX dX3_note_52 ?_
    obtain ⟨a12, ha13, h⟩ := h
    obtain ⟨hk14, h⟩ := h
    obtain ⟨hc15, h⟩ := h
    refine y_last (r := (mR (tJ (tJ M a4 (((4 : Int32) * (mI M 194 h0))).toNatClampNeg ((p1).toInt64)) a8 ((((4 : Int32) * (mI (tJ M a4 (((4 : Int32) * (mI M 194 h0))).toNatClampNeg ((p1).toInt64)) 194 h0)) + (1 : Int32))).toNatClampNeg p2) 192 h0)) hX dX3_note_53 ha13 hk14 hc15 ?_
    refine z_aload_n (r := (some h0)) hX dX3_note_54 rfl 0 rfl ?_
    refine gf_RX3_13 (r := (some h0)) hX dX3_note_55 rfl hk3 ?_
    refine z_iconst (v := (4 : Int32)) hX dX3_note_58 (by decide) ?_
    refine z_aload_n (r := (some h0)) hX dX3_note_59 rfl 0 rfl ?_
    refine gf_RX3_17 (r := (some h0)) hX dX3_note_60 rfl hk3 ?_
    refine z_imul hX dX3_note_63 ?_
    refine z_iconst (v := (3 : Int32)) hX dX3_note_64 (by decide) ?_
    refine z_iadd hX dX3_note_65 ?_
    refine z_iload hX dX3_note_66 4 rfl ?_
    refine z_i2l hX dX3_note_68 ?_
    obtain ⟨a16, ha17, h⟩ := h
    obtain ⟨hk18, h⟩ := h
    obtain ⟨hc19, h⟩ := h
    refine y_last (r := (mR (tJ (tJ (tJ M a4 (((4 : Int32) * (mI M 194 h0))).toNatClampNeg ((p1).toInt64)) a8 ((((4 : Int32) * (mI (tJ M a4 (((4 : Int32) * (mI M 194 h0))).toNatClampNeg ((p1).toInt64)) 194 h0)) + (1 : Int32))).toNatClampNeg p2) a12 ((((4 : Int32) * (mI (tJ (tJ M a4 (((4 : Int32) * (mI M 194 h0))).toNatClampNeg ((p1).toInt64)) a8 ((((4 : Int32) * (mI (tJ M a4 (((4 : Int32) * (mI M 194 h0))).toNatClampNeg ((p1).toInt64)) 194 h0)) + (1 : Int32))).toNatClampNeg p2) 194 h0)) + (2 : Int32))).toNatClampNeg ((p3).toInt64)) 192 h0)) hX dX3_note_69 ha17 hk18 hc19 ?_
    refine z_loc [0] rfl ?_
    exact zb_X3_note_70 hX hQ hnL h
def rm_X3_has : Room := { frames := 0, cells := 0, slots := 0, locals := 0 }
def bk_X3_has_34 (h0 : Nat) (K : Int32 → Mm → Prop) (s0 : Int32) (M : Mm) : Prop := (bz s0 ∧ K s0 M)
set_option maxRecDepth 100000 in
set_option maxHeartbeats 4000000 in
theorem zb_X3_has_34 {X : Cx} {h0 : Nat} {K : Int32 → Mm → Prop} (hX : Ok X cX3_has RX3 rm_X3_has) (hQ : Rq X rm_X3_has (some .boolean) (QI K)) (hnL : X.2.2.2.2.2.2.2.2.2.2.2.2.2.2 = 3) {s0 : Int32} {M : Mm} (h : bk_X3_has_34 h0 K s0 M) : Z X M 0 0 34 [] [.int s0] := by
  unfold bk_X3_has_34 at h
  exact y_zret hX hQ dX3_has_34 h.1 h.2
def bk_X3_has_33 (h0 : Nat) (K : Int32 → Mm → Prop) (M : Mm) : Prop := (bk_X3_has_34 h0 K (0 : Int32) M)
set_option maxRecDepth 100000 in
set_option maxHeartbeats 4000000 in
theorem zb_X3_has_33 {X : Cx} {h0 : Nat} {K : Int32 → Mm → Prop} (hX : Ok X cX3_has RX3 rm_X3_has) (hQ : Rq X rm_X3_has (some .boolean) (QI K)) (hnL : X.2.2.2.2.2.2.2.2.2.2.2.2.2.2 = 3) {M : Mm} (h : bk_X3_has_33 h0 K M) : Z X M 0 0 33 [] [] := by
  unfold bk_X3_has_33 at h
  refine z_iconst (v := (0 : Int32)) hX dX3_has_33 (by decide) ?_
  exact zb_X3_has_34 hX hQ hnL h
def wp_X3_has (M : Mm) (h0 : Nat) (p1 : Int32) (p2 : Int32) (K : Int32 → Mm → Prop) : Prop := ((p1 < 0 → (bk_X3_has_33 h0 K M)) ∧ (¬ p1 < 0 → mK M h0 = 4 ∧ (((mI M 194 h0) ≤ p1 → (bk_X3_has_33 h0 K M)) ∧ (¬ (mI M 194 h0) ≤ p1 → (((mI M 193 h0) ≤ p1 → (bk_X3_has_33 h0 K M)) ∧ (¬ (mI M 193 h0) ≤ p1 → ((p2 < 0 → (bk_X3_has_33 h0 K M)) ∧ (¬ p2 < 0 → (((3 : Int32) < p2 → (bk_X3_has_33 h0 K M)) ∧ (¬ (3 : Int32) < p2 → (bk_X3_has_34 h0 K (1 : Int32) M)))))))))))
set_option maxRecDepth 100000 in
set_option maxHeartbeats 4000000 in
theorem ct_X3_has {M : Mm} {h0 : Nat} {p1 : Int32} {p2 : Int32} {K : Int32 → Mm → Prop} (h : wp_X3_has M h0 p1 p2 K) : CtI yX3_has cX3_has 3 (some .boolean) rm_X3_has [.ref h0, .int p1, .int p2] M K := by
  refine ct_any (QI K) (by decide) (by exact Nat.le_of_ble_eq_true rfl) (fun X hX hQ hnL hnm => ?_)
  rw [show lv_args 0 [.ref h0, .int p1, .int p2] = [(0, va_rf (some h0)), (1, .int p1), (2, .int p2)] by rfl]
  have hX : Ok X cX3_has RX3 rm_X3_has := hX
  unfold wp_X3_has at h
  refine z_iload_n hX dX3_has_0 rfl 1 rfl ?_
  obtain ⟨h1, h2⟩ := h
  refine z_if_lt (tgt := 33) hX dX3_has_1 (by decide) (fun hc => ?_) (fun hc => ?_)
  · have h := h1 hc
    refine z_loc [] rfl ?_
    exact zb_X3_has_33 hX hQ hnL h
  · have h := h2 hc
    refine z_iload_n hX dX3_has_4 rfl 1 rfl ?_
    refine z_aload_n (r := (some h0)) hX dX3_has_5 rfl 0 rfl ?_
    obtain ⟨hk1, h⟩ := h
    refine gf_RX3_17 (r := (some h0)) hX dX3_has_6 rfl hk1 ?_
    obtain ⟨h1, h2⟩ := h
    refine z_icmp_ge (tgt := 33) hX dX3_has_9 (by decide) (fun hc => ?_) (fun hc => ?_)
    · have h := h1 hc
      refine z_loc [] rfl ?_
      exact zb_X3_has_33 hX hQ hnL h
    · have h := h2 hc
      refine z_iload_n hX dX3_has_12 rfl 1 rfl ?_
      refine z_aload_n (r := (some h0)) hX dX3_has_13 rfl 0 rfl ?_
      refine gf_RX3_7 (r := (some h0)) hX dX3_has_14 rfl hk1 ?_
      obtain ⟨h1, h2⟩ := h
      refine z_icmp_ge (tgt := 33) hX dX3_has_17 (by decide) (fun hc => ?_) (fun hc => ?_)
      · have h := h1 hc
        refine z_loc [] rfl ?_
        exact zb_X3_has_33 hX hQ hnL h
      · have h := h2 hc
        refine z_iload_n hX dX3_has_20 rfl 2 rfl ?_
        obtain ⟨h1, h2⟩ := h
        refine z_if_lt (tgt := 33) hX dX3_has_21 (by decide) (fun hc => ?_) (fun hc => ?_)
        · have h := h1 hc
          refine z_loc [] rfl ?_
          exact zb_X3_has_33 hX hQ hnL h
        · have h := h2 hc
          refine z_iload_n hX dX3_has_24 rfl 2 rfl ?_
          refine z_iconst (v := (3 : Int32)) hX dX3_has_25 (by decide) ?_
          obtain ⟨h1, h2⟩ := h
          refine z_icmp_gt (tgt := 33) hX dX3_has_26 (by decide) (fun hc => ?_) (fun hc => ?_)
          · have h := h1 hc
            refine z_loc [] rfl ?_
            exact zb_X3_has_33 hX hQ hnL h
          · have h := h2 hc
            refine z_iconst (v := (1 : Int32)) hX dX3_has_29 (by decide) ?_
            refine z_goto (tgt := 34) hX dX3_has_30 (by decide) ?_
            refine z_loc [] rfl ?_
            exact zb_X3_has_34 hX hQ hnL h
def rm_X3_get : Room := { frames := 0, cells := 0, slots := 0, locals := 0 }
def wp_X3_get (M : Mm) (h0 : Nat) (p1 : Int32) (p2 : Int32) (K : Int64 → Mm → Prop) : Prop := mK M h0 = 4 ∧ ∃ a2, (mR M 192 h0) = some a2 ∧ isA M a2 2 ∧ vp_in (((4 : Int32) * p1) + p2) (aN M a2) ∧ (K (aJ M a2 ((((4 : Int32) * p1) + p2)).toNatClampNeg) M)
set_option maxRecDepth 100000 in
set_option maxHeartbeats 4000000 in
theorem ct_X3_get {M : Mm} {h0 : Nat} {p1 : Int32} {p2 : Int32} {K : Int64 → Mm → Prop} (h : wp_X3_get M h0 p1 p2 K) : CtJ yX3_get cX3_get 3 (some .long) rm_X3_get [.ref h0, .int p1, .int p2] M K := by
  refine ct_any (QJ K) (by decide) (by exact Nat.le_of_ble_eq_true rfl) (fun X hX hQ hnL hnm => ?_)
  rw [show lv_args 0 [.ref h0, .int p1, .int p2] = [(0, va_rf (some h0)), (1, .int p1), (2, .int p2)] by rfl]
  have hX : Ok X cX3_get RX3 rm_X3_get := hX
  unfold wp_X3_get at h
  refine z_aload_n (r := (some h0)) hX dX3_get_0 rfl 0 rfl ?_
  obtain ⟨hk1, h⟩ := h
  refine gf_RX3_13 (r := (some h0)) hX dX3_get_1 rfl hk1 ?_
  refine z_iconst (v := (4 : Int32)) hX dX3_get_4 (by decide) ?_
  refine z_iload_n hX dX3_get_5 rfl 1 rfl ?_
  refine z_imul hX dX3_get_6 ?_
  refine z_iload_n hX dX3_get_7 rfl 2 rfl ?_
  refine z_iadd hX dX3_get_8 ?_
  obtain ⟨a2, ha3, h⟩ := h
  obtain ⟨hk4, h⟩ := h
  obtain ⟨hc5, h⟩ := h
  refine y_lald (r := (mR M 192 h0)) hX dX3_get_9 ha3 hk4 hc5 ?_
  exact z_lret hX hQ dX3_get_10 h
def rm_X4_init : Room := { frames := 1, cells := 0, slots := 0, locals := 20 }
def wp_X4_init (M : Mm) (h0 : Nat) (p1 : Option Nat) (K : Mm → Prop) : Prop := mK M h0 = 5 ∧ (K (sR M 256 h0 p1))
set_option maxRecDepth 100000 in
set_option maxHeartbeats 4000000 in
theorem ct_X4_init {M : Mm} {h0 : Nat} {p1 : Option Nat} {K : Mm → Prop} (h : wp_X4_init M h0 p1 K) : CtV yX4_init cX4_init 2 none rm_X4_init [.ref h0, va_rf p1] M K := by
  refine ct_any (QV K) (by decide) (by cases p1 <;> exact Nat.le_of_ble_eq_true rfl) (fun X hX hQ hnL hnm => ?_)
  rw [show lv_args 0 [.ref h0, va_rf p1] = [(0, va_rf (some h0)), (1, va_rf p1)] by cases p1 <;> rfl]
  have hX : Ok X cX4_init RX4 rm_X4_init := hX
  unfold wp_X4_init at h
  refine z_aload_n (r := (some h0)) hX dX4_init_0 rfl 0 rfl ?_
  refine mw_RX4_3 (a := h0) hX dX4_init_1 (by decide) (by decide) ?_
  refine z_aload_n (r := (some h0)) hX dX4_init_4 rfl 0 rfl ?_
  refine z_aload_n (r := p1) hX dX4_init_5 rfl 1 rfl ?_
  obtain ⟨hk1, h⟩ := h
  refine pf_RX4_9 (r := (some h0)) (v := p1) hX hnm dX4_init_6 rfl hk1 ?_
  exact z_vret hX hQ dX4_init_9 h
def rm_X4_scanRun : Room := { frames := 1, cells := 0, slots := 0, locals := 21 }
def bk_X4_scanRun_123 (h0 : Nat) (K : Int32 → Mm → Prop) (l3 : Int32) (M : Mm) : Prop := (K l3 M)
set_option maxRecDepth 100000 in
set_option maxHeartbeats 4000000 in
theorem zb_X4_scanRun_123 {X : Cx} {h0 : Nat} {K : Int32 → Mm → Prop} (hX : Ok X cX4_scanRun RX4 rm_X4_scanRun) (hQ : Rq X rm_X4_scanRun (some .int) (QI K)) (hnL : X.2.2.2.2.2.2.2.2.2.2.2.2.2.2 = 4) {l3 : Int32} {M : Mm} (h : bk_X4_scanRun_123 h0 K l3 M) : Z X M 0 0 123 [(3, .int l3)] [] := by
  unfold bk_X4_scanRun_123 at h
  refine z_iload_n hX dX4_scanRun_123 rfl 0 rfl ?_
  exact z_iret hX hQ dX4_scanRun_124 h
def bk_X4_scanRun_104 (h0 : Nat) (R7 : Int32 → Int32 → Int32 → Mm → Prop) (K : Int32 → Mm → Prop) (l1 : Int32) (l2 : Int32) (l3 : Int32) (s0 : Int64) (s1 : Option Nat) (M : Mm) : Prop := ∃ a1, s1 = some a1 ∧ mK M a1 = 5 ∧ mK (sJ M 260 a1 s0) h0 = 5 ∧ (R7 l1 l2 (l3 + 1) (sI (sJ M 260 a1 s0) 257 h0 ((mI (sJ M 260 a1 s0) 257 h0) + (1 : Int32))))
set_option maxRecDepth 100000 in
set_option maxHeartbeats 4000000 in
theorem zb_X4_scanRun_104 {X : Cx} {h0 : Nat} {R7 : Int32 → Int32 → Int32 → Mm → Prop} {K : Int32 → Mm → Prop} (hX : Ok X cX4_scanRun RX4 rm_X4_scanRun) (hQ : Rq X rm_X4_scanRun (some .int) (QI K)) (hnL : X.2.2.2.2.2.2.2.2.2.2.2.2.2.2 = 4) (hR7 : ∀ l1 l2 l3 M, R7 l1 l2 l3 M → Z X M 0 0 7 [(0, va_rf (some h0)), (1, .int l1), (2, .int l2), (3, .int l3)] []) {l1 : Int32} {l2 : Int32} {l3 : Int32} {s0 : Int64} {s1 : Option Nat} {M : Mm} (h : bk_X4_scanRun_104 h0 R7 K l1 l2 l3 s0 s1 M) : Z X M 0 0 104 [(0, va_rf (some h0)), (1, .int l1), (2, .int l2), (3, .int l3)] [.long s0, va_rf s1] := by
  unfold bk_X4_scanRun_104 at h
  obtain ⟨a1, ha2, h⟩ := h
  obtain ⟨hk3, h⟩ := h
  refine pf_RX4_46 (r := s1) (v := s0) hX dX4_scanRun_104 ha2 hk3 ?_
  refine z_aload_n (r := (some h0)) hX dX4_scanRun_107 rfl 0 rfl ?_
  refine z_dup hX dX4_scanRun_108 (cat_rf _) ?_
  obtain ⟨hk5, h⟩ := h
  refine gf_RX4_15 (r := (some h0)) hX dX4_scanRun_109 rfl hk5 ?_
  refine z_iconst (v := (1 : Int32)) hX dX4_scanRun_112 (by decide) ?_
  refine z_iadd hX dX4_scanRun_113 ?_
  refine pf_RX4_15 (r := (some h0)) (v := ((mI (sJ M 260 a1 s0) 257 h0) + (1 : Int32))) hX dX4_scanRun_114 rfl hk5 ?_
  refine z_iinc (v := (l3 + 1)) hX [(3, .int (l3 + 1)), (0, va_rf (some h0)), (1, .int l1), (2, .int l2)] dX4_scanRun_117 3 rfl rfl (by rw [hnL]; decide) rfl ?_
  refine z_goto (tgt := 7) hX dX4_scanRun_120 (by decide) ?_
  refine z_loc [1, 2, 3, 0] rfl ?_
  exact hR7 _ _ _ _ h
def lp_X4_scanRun_7 (h0 : Nat) (K : Int32 → Mm → Prop) : Nat → Int32 → Int32 → Int32 → Mm → Prop
  | 0, _, _, _, _ => False
  | n + 1, l1, l2, l3, M => mK M h0 = 5 ∧ ∃ a8, (mR M 256 h0) = some a8 ∧ mK M a8 = 1 ∧ (((mI M 1 a8) ≤ (mI M 257 h0) → (bk_X4_scanRun_123 h0 K l3 M)) ∧ (¬ (mI M 1 a8) ≤ (mI M 257 h0) → (wp_X0_at M a8 (mI M 257 h0) (fun r11 M12 => ((r11 < l1 → (bk_X4_scanRun_123 h0 K l3 M12)) ∧ (¬ r11 < l1 → mK M12 h0 = 5 ∧ ∃ a17, (mR M12 256 h0) = some a17 ∧ mK M12 a17 = 1 ∧ (wp_X0_at M12 a17 (mI M12 257 h0) (fun r15 M16 => ((l2 < r15 → (bk_X4_scanRun_123 h0 K l3 M16)) ∧ (¬ l2 < r15 → ((¬ l1 = (48 : Int32) → mK M16 h0 = 5 ∧ ∃ a24, (mR M16 256 h0) = some a24 ∧ mK M16 a24 = 1 ∧ (wp_X0_at M16 a24 (mI M16 257 h0) (fun r22 M23 => (bk_X4_scanRun_104 h0 (lp_X4_scanRun_7 h0 K n) K l1 l2 l3 (((mJ M16 260 h0) <<< (((8 : Int32)).toInt64 &&& 63)) ||| ((r22).toInt64)) (some h0) M23)))) ∧ (l1 = (48 : Int32) → mK M16 h0 = 5 ∧ ∃ a31, (mR M16 256 h0) = some a31 ∧ mK M16 a31 = 1 ∧ (wp_X0_at M16 a31 (mI M16 257 h0) (fun r29 M30 => (bk_X4_scanRun_104 h0 (lp_X4_scanRun_7 h0 K n) K l1 l2 l3 (((mJ M16 260 h0) * (10 : Int64)) + (((r29 - l1)).toInt64)) (some h0) M30)))))))))))))))
set_option maxRecDepth 100000 in
set_option maxHeartbeats 4000000 in
theorem zl_X4_scanRun_7 {X : Cx} {h0 : Nat} {K : Int32 → Mm → Prop} (hX : Ok X cX4_scanRun RX4 rm_X4_scanRun) (hQ : Rq X rm_X4_scanRun (some .int) (QI K)) (hnL : X.2.2.2.2.2.2.2.2.2.2.2.2.2.2 = 4) : ∀ (n : Nat) (l1 : Int32) (l2 : Int32) (l3 : Int32) (M : Mm), lp_X4_scanRun_7 h0 K n l1 l2 l3 M → Z X M 0 0 7 [(0, va_rf (some h0)), (1, .int l1), (2, .int l2), (3, .int l3)] [] := by
  intro n
  induction n with
  | zero =>
    intro l1 l2 l3 M h
    exact False.elim h
  | succ n hR7 =>
    intro l1 l2 l3 M h
    refine z_aload_n (r := (some h0)) hX dX4_scanRun_7 rfl 0 rfl ?_
    obtain ⟨hk7, h⟩ := h
    refine gf_RX4_15 (r := (some h0)) hX dX4_scanRun_8 rfl hk7 ?_
    refine z_aload_n (r := (some h0)) hX dX4_scanRun_11 rfl 0 rfl ?_
    refine gf_RX4_9 (r := (some h0)) hX dX4_scanRun_12 rfl hk7 ?_
    obtain ⟨a8, ha9, h⟩ := h
    obtain ⟨hk10, h⟩ := h
    refine gf_RX4_19 (r := (mR M 256 h0)) hX dX4_scanRun_15 ha9 hk10 ?_
    obtain ⟨h1, h2⟩ := h
    refine z_icmp_ge (tgt := 123) hX dX4_scanRun_18 (by decide) (fun hc => ?_) (fun hc => ?_)
    · have h := h1 hc
      refine z_loc [3] rfl ?_
      exact zb_X4_scanRun_123 hX hQ hnL h
    · have h := h2 hc
      refine z_aload_n (r := (some h0)) hX dX4_scanRun_21 rfl 0 rfl ?_
      refine gf_RX4_9 (r := (some h0)) hX dX4_scanRun_22 rfl hk7 ?_
      refine z_aload_n (r := (some h0)) hX dX4_scanRun_25 rfl 0 rfl ?_
      refine gf_RX4_15 (r := (some h0)) hX dX4_scanRun_26 rfl hk7 ?_
      refine z_callVI (As := [.int (mI M 257 h0)]) (rest := []) (ci := 0) hX (ct_X0_at h) mw_RX4_24 rfl (by decide) rfl (by rw [ha9]; rfl) (by unfold RoomC; decide) (by decide) dX4_scanRun_29 hk10 (fun r11 M12 h => ?_)
      refine z_iload_n hX dX4_scanRun_32 rfl 1 rfl ?_
      obtain ⟨h1, h2⟩ := h
      refine z_icmp_lt (tgt := 123) hX dX4_scanRun_33 (by decide) (fun hc => ?_) (fun hc => ?_)
      · have h := h1 hc
        refine z_loc [3] rfl ?_
        exact zb_X4_scanRun_123 hX hQ hnL h
      · have h := h2 hc
        refine z_aload_n (r := (some h0)) hX dX4_scanRun_36 rfl 0 rfl ?_
        obtain ⟨hk14, h⟩ := h
        refine gf_RX4_9 (r := (some h0)) hX dX4_scanRun_37 rfl hk14 ?_
        refine z_aload_n (r := (some h0)) hX dX4_scanRun_40 rfl 0 rfl ?_
        refine gf_RX4_15 (r := (some h0)) hX dX4_scanRun_41 rfl hk14 ?_
        obtain ⟨a17, ha18, h⟩ := h
        obtain ⟨hk19, h⟩ := h
        refine z_callVI (As := [.int (mI M12 257 h0)]) (rest := []) (ci := 0) hX (ct_X0_at h) mw_RX4_24 rfl (by decide) rfl (by rw [ha18]; rfl) (by unfold RoomC; decide) (by decide) dX4_scanRun_44 hk19 (fun r15 M16 h => ?_)
        refine z_iload_n hX dX4_scanRun_47 rfl 2 rfl ?_
        obtain ⟨h1, h2⟩ := h
        refine z_icmp_gt (tgt := 123) hX dX4_scanRun_48 (by decide) (fun hc => ?_) (fun hc => ?_)
        · have h := h1 hc
          refine z_loc [3] rfl ?_
          exact zb_X4_scanRun_123 hX hQ hnL h
        · have h := h2 hc
          refine z_aload_n (r := (some h0)) hX dX4_scanRun_51 rfl 0 rfl ?_
          refine z_iload_n hX dX4_scanRun_52 rfl 1 rfl ?_
          refine z_bipush (v := (48 : Int32)) hX dX4_scanRun_53 (by decide) ?_
          obtain ⟨h1, h2⟩ := h
          refine z_icmp_ne (tgt := 84) hX dX4_scanRun_55 (by decide) (fun hc => ?_) (fun hc => ?_)
          · have h := h1 hc
            refine z_aload_n (r := (some h0)) hX dX4_scanRun_84 rfl 0 rfl ?_
            obtain ⟨hk21, h⟩ := h
            refine gf_RX4_46 (r := (some h0)) hX dX4_scanRun_85 rfl hk21 ?_
            refine z_bipush (v := (8 : Int32)) hX dX4_scanRun_88 (by decide) ?_
            refine z_lshl hX dX4_scanRun_90 ?_
            refine z_aload_n (r := (some h0)) hX dX4_scanRun_91 rfl 0 rfl ?_
            refine gf_RX4_9 (r := (some h0)) hX dX4_scanRun_92 rfl hk21 ?_
            refine z_aload_n (r := (some h0)) hX dX4_scanRun_95 rfl 0 rfl ?_
            refine gf_RX4_15 (r := (some h0)) hX dX4_scanRun_96 rfl hk21 ?_
            obtain ⟨a24, ha25, h⟩ := h
            obtain ⟨hk26, h⟩ := h
            refine z_callVI (As := [.int (mI M16 257 h0)]) (rest := [.long ((mJ M16 260 h0) <<< (((8 : Int32)).toInt64 &&& 63)), va_rf (some h0)]) (ci := 0) hX (ct_X0_at h) mw_RX4_24 rfl (by decide) rfl (by rw [ha25]; rfl) (by unfold RoomC; decide) (by simp only [List.map_cons, List.map_nil, List.sum_cons, List.sum_nil, cat_rf, cat_i, cat_j]; decide) dX4_scanRun_99 hk26 (fun r22 M23 h => ?_)
            refine z_i2l hX dX4_scanRun_102 ?_
            refine z_lor hX dX4_scanRun_103 ?_
            exact zb_X4_scanRun_104 hX hQ hnL hR7 h
          · have h := h2 hc
            refine z_aload_n (r := (some h0)) hX dX4_scanRun_58 rfl 0 rfl ?_
            obtain ⟨hk28, h⟩ := h
            refine gf_RX4_46 (r := (some h0)) hX dX4_scanRun_59 rfl hk28 ?_
            refine z_ldc2 (v := (10 : Int64)) hX dX4_scanRun_62 kj_RX4_50 ?_
            refine z_lmul hX dX4_scanRun_65 ?_
            refine z_aload_n (r := (some h0)) hX dX4_scanRun_66 rfl 0 rfl ?_
            refine gf_RX4_9 (r := (some h0)) hX dX4_scanRun_67 rfl hk28 ?_
            refine z_aload_n (r := (some h0)) hX dX4_scanRun_70 rfl 0 rfl ?_
            refine gf_RX4_15 (r := (some h0)) hX dX4_scanRun_71 rfl hk28 ?_
            obtain ⟨a31, ha32, h⟩ := h
            obtain ⟨hk33, h⟩ := h
            refine z_callVI (As := [.int (mI M16 257 h0)]) (rest := [.long ((mJ M16 260 h0) * (10 : Int64)), va_rf (some h0)]) (ci := 0) hX (ct_X0_at h) mw_RX4_24 rfl (by decide) rfl (by rw [ha32]; rfl) (by unfold RoomC; decide) (by simp only [List.map_cons, List.map_nil, List.sum_cons, List.sum_nil, cat_rf, cat_i, cat_j]; decide) dX4_scanRun_74 hk33 (fun r29 M30 h => ?_)
            refine z_iload_n hX dX4_scanRun_77 rfl 1 rfl ?_
            refine z_isub hX dX4_scanRun_78 ?_
            refine z_i2l hX dX4_scanRun_79 ?_
            refine z_ladd hX dX4_scanRun_80 ?_
            refine z_goto (tgt := 104) hX dX4_scanRun_81 (by decide) ?_
            exact zb_X4_scanRun_104 hX hQ hnL hR7 h
def wp_X4_scanRun (M : Mm) (h0 : Nat) (p1 : Int32) (p2 : Int32) (K : Int32 → Mm → Prop) : Prop := mK M h0 = 5 ∧ (∃ kk, lp_X4_scanRun_7 h0 K kk p1 p2 (0 : Int32) (sJ M 260 h0 (0 : Int64)))
set_option maxRecDepth 100000 in
set_option maxHeartbeats 4000000 in
theorem ct_X4_scanRun {M : Mm} {h0 : Nat} {p1 : Int32} {p2 : Int32} {K : Int32 → Mm → Prop} (h : wp_X4_scanRun M h0 p1 p2 K) : CtI yX4_scanRun cX4_scanRun 4 (some .int) rm_X4_scanRun [.ref h0, .int p1, .int p2] M K := by
  refine ct_any (QI K) (by decide) (by exact Nat.le_of_ble_eq_true rfl) (fun X hX hQ hnL hnm => ?_)
  rw [show lv_args 0 [.ref h0, .int p1, .int p2] = [(0, va_rf (some h0)), (1, .int p1), (2, .int p2)] by rfl]
  have hX : Ok X cX4_scanRun RX4 rm_X4_scanRun := hX
  unfold wp_X4_scanRun at h
  refine z_aload_n (r := (some h0)) hX dX4_scanRun_0 rfl 0 rfl ?_
  refine z_lconst (v := (0 : Int64)) hX dX4_scanRun_1 (by decide) ?_
  obtain ⟨hk35, h⟩ := h
  refine pf_RX4_46 (r := (some h0)) (v := (0 : Int64)) hX dX4_scanRun_2 rfl hk35 ?_
  refine z_iconst (v := (0 : Int32)) hX dX4_scanRun_5 (by decide) ?_
  refine z_istore_n hX [(3, .int (0 : Int32)), (0, va_rf (some h0)), (1, .int p1), (2, .int p2)] dX4_scanRun_6 rfl (by rw [hnL]; decide) rfl ?_
  refine z_loc [1, 2, 3, 0] rfl ?_
  obtain ⟨n, h⟩ := h
  exact zl_X4_scanRun_7 hX hQ hnL n _ _ _ _ h
def rm_X4_isKeyword : Room := { frames := 0, cells := 0, slots := 0, locals := 0 }
def bk_X4_isKeyword_170 (h0 : Nat) (K : Int32 → Mm → Prop) (s0 : Int32) (M : Mm) : Prop := (bz s0 ∧ K s0 M)
set_option maxRecDepth 100000 in
set_option maxHeartbeats 4000000 in
theorem zb_X4_isKeyword_170 {X : Cx} {h0 : Nat} {K : Int32 → Mm → Prop} (hX : Ok X cX4_isKeyword RX4 rm_X4_isKeyword) (hQ : Rq X rm_X4_isKeyword (some .boolean) (QI K)) (hnL : X.2.2.2.2.2.2.2.2.2.2.2.2.2.2 = 1) {s0 : Int32} {M : Mm} (h : bk_X4_isKeyword_170 h0 K s0 M) : Z X M 0 0 170 [] [.int s0] := by
  unfold bk_X4_isKeyword_170 at h
  exact y_zret hX hQ dX4_isKeyword_170 h.1 h.2
def bk_X4_isKeyword_165 (h0 : Nat) (K : Int32 → Mm → Prop) (M : Mm) : Prop := (bk_X4_isKeyword_170 h0 K (1 : Int32) M)
set_option maxRecDepth 100000 in
set_option maxHeartbeats 4000000 in
theorem zb_X4_isKeyword_165 {X : Cx} {h0 : Nat} {K : Int32 → Mm → Prop} (hX : Ok X cX4_isKeyword RX4 rm_X4_isKeyword) (hQ : Rq X rm_X4_isKeyword (some .boolean) (QI K)) (hnL : X.2.2.2.2.2.2.2.2.2.2.2.2.2.2 = 1) {M : Mm} (h : bk_X4_isKeyword_165 h0 K M) : Z X M 0 0 165 [] [] := by
  unfold bk_X4_isKeyword_165 at h
  refine z_iconst (v := (1 : Int32)) hX dX4_isKeyword_165 (by decide) ?_
  refine z_goto (tgt := 170) hX dX4_isKeyword_166 (by decide) ?_
  exact zb_X4_isKeyword_170 hX hQ hnL h
def wp_X4_isKeyword (M : Mm) (h0 : Nat) (K : Int32 → Mm → Prop) : Prop := mK M h0 = 5 ∧ (((mJ M 260 h0) = (126922548994917 : Int64) → (bk_X4_isKeyword_165 h0 K M)) ∧ (¬ (mJ M 260 h0) = (126922548994917 : Int64) → (((mJ M 260 h0) = (7102823 : Int64) → (bk_X4_isKeyword_165 h0 K M)) ∧ (¬ (mJ M 260 h0) = (7102823 : Int64) → (((mJ M 260 h0) = (469786323827 : Int64) → (bk_X4_isKeyword_165 h0 K M)) ∧ (¬ (mJ M 260 h0) = (469786323827 : Int64) → (((mJ M 260 h0) = (418330731890 : Int64) → (bk_X4_isKeyword_165 h0 K M)) ∧ (¬ (mJ M 260 h0) = (418330731890 : Int64) → (((mJ M 260 h0) = (444301538672 : Int64) → (bk_X4_isKeyword_165 h0 K M)) ∧ (¬ (mJ M 260 h0) = (444301538672 : Int64) → (((mJ M 260 h0) = (504363577198 : Int64) → (bk_X4_isKeyword_165 h0 K M)) ∧ (¬ (mJ M 260 h0) = (504363577198 : Int64) → (((mJ M 260 h0) = (431198331257 : Int64) → (bk_X4_isKeyword_165 h0 K M)) ∧ (¬ (mJ M 260 h0) = (431198331257 : Int64) → (((mJ M 260 h0) = (1752132708 : Int64) → (bk_X4_isKeyword_165 h0 K M)) ∧ (¬ (mJ M 260 h0) = (1752132708 : Int64) → (((mJ M 260 h0) = (1785686382 : Int64) → (bk_X4_isKeyword_165 h0 K M)) ∧ (¬ (mJ M 260 h0) = (1785686382 : Int64) → (((mJ M 260 h0) = (1718775661 : Int64) → (bk_X4_isKeyword_165 h0 K M)) ∧ (¬ (mJ M 260 h0) = (1718775661 : Int64) → (((mJ M 260 h0) = (29807 : Int64) → (bk_X4_isKeyword_165 h0 K M)) ∧ (¬ (mJ M 260 h0) = (29807 : Int64) → (((mJ M 260 h0) = (131294707347319 : Int64) → (bk_X4_isKeyword_165 h0 K M)) ∧ (¬ (mJ M 260 h0) = (131294707347319 : Int64) → (((mJ M 260 h0) = (1936292453 : Int64) → (bk_X4_isKeyword_165 h0 K M)) ∧ (¬ (mJ M 260 h0) = (1936292453 : Int64) → (((mJ M 260 h0) = (1937007984 : Int64) → (bk_X4_isKeyword_165 h0 K M)) ∧ (¬ (mJ M 260 h0) = (1937007984 : Int64) → ((¬ (mJ M 260 h0) = (418430674798 : Int64) → (bk_X4_isKeyword_170 h0 K (0 : Int32) M)) ∧ ((mJ M 260 h0) = (418430674798 : Int64) → (bk_X4_isKeyword_165 h0 K M)))))))))))))))))))))))))))))))
set_option maxRecDepth 100000 in
set_option maxHeartbeats 4000000 in
theorem ct_X4_isKeyword {M : Mm} {h0 : Nat} {K : Int32 → Mm → Prop} (h : wp_X4_isKeyword M h0 K) : CtI yX4_isKeyword cX4_isKeyword 1 (some .boolean) rm_X4_isKeyword [.ref h0] M K := by
  refine ct_any (QI K) (by decide) (by exact Nat.le_of_ble_eq_true rfl) (fun X hX hQ hnL hnm => ?_)
  rw [show lv_args 0 [.ref h0] = [(0, va_rf (some h0))] by rfl]
  have hX : Ok X cX4_isKeyword RX4 rm_X4_isKeyword := hX
  unfold wp_X4_isKeyword at h
  refine z_aload_n (r := (some h0)) hX dX4_isKeyword_0 rfl 0 rfl ?_
  obtain ⟨hk1, h⟩ := h
  refine gf_RX4_46 (r := (some h0)) hX dX4_isKeyword_1 rfl hk1 ?_
  refine z_ldc2 (v := (126922548994917 : Int64)) hX dX4_isKeyword_4 kj_RX4_52 ?_
  refine z_lcmp hX dX4_isKeyword_7 ?_
  obtain ⟨h1, h2⟩ := h
  refine z_if_eq (tgt := 165) hX dX4_isKeyword_8 (by decide) (fun hc => ?_) (fun hc => ?_)
  · have h := h1 ((lg_cmp_eq _ _).mp hc)
    refine z_loc [] rfl ?_
    exact zb_X4_isKeyword_165 hX hQ hnL h
  · have h := h2 (fun q => hc ((lg_cmp_eq _ _).mpr q))
    refine z_aload_n (r := (some h0)) hX dX4_isKeyword_11 rfl 0 rfl ?_
    refine gf_RX4_46 (r := (some h0)) hX dX4_isKeyword_12 rfl hk1 ?_
    refine z_ldc2 (v := (7102823 : Int64)) hX dX4_isKeyword_15 kj_RX4_54 ?_
    refine z_lcmp hX dX4_isKeyword_18 ?_
    obtain ⟨h1, h2⟩ := h
    refine z_if_eq (tgt := 165) hX dX4_isKeyword_19 (by decide) (fun hc => ?_) (fun hc => ?_)
    · have h := h1 ((lg_cmp_eq _ _).mp hc)
      refine z_loc [] rfl ?_
      exact zb_X4_isKeyword_165 hX hQ hnL h
    · have h := h2 (fun q => hc ((lg_cmp_eq _ _).mpr q))
      refine z_aload_n (r := (some h0)) hX dX4_isKeyword_22 rfl 0 rfl ?_
      refine gf_RX4_46 (r := (some h0)) hX dX4_isKeyword_23 rfl hk1 ?_
      refine z_ldc2 (v := (469786323827 : Int64)) hX dX4_isKeyword_26 kj_RX4_56 ?_
      refine z_lcmp hX dX4_isKeyword_29 ?_
      obtain ⟨h1, h2⟩ := h
      refine z_if_eq (tgt := 165) hX dX4_isKeyword_30 (by decide) (fun hc => ?_) (fun hc => ?_)
      · have h := h1 ((lg_cmp_eq _ _).mp hc)
        refine z_loc [] rfl ?_
        exact zb_X4_isKeyword_165 hX hQ hnL h
      · have h := h2 (fun q => hc ((lg_cmp_eq _ _).mpr q))
        refine z_aload_n (r := (some h0)) hX dX4_isKeyword_33 rfl 0 rfl ?_
        refine gf_RX4_46 (r := (some h0)) hX dX4_isKeyword_34 rfl hk1 ?_
        refine z_ldc2 (v := (418330731890 : Int64)) hX dX4_isKeyword_37 kj_RX4_58 ?_
        refine z_lcmp hX dX4_isKeyword_40 ?_
        obtain ⟨h1, h2⟩ := h
        refine z_if_eq (tgt := 165) hX dX4_isKeyword_41 (by decide) (fun hc => ?_) (fun hc => ?_)
        · have h := h1 ((lg_cmp_eq _ _).mp hc)
          refine z_loc [] rfl ?_
          exact zb_X4_isKeyword_165 hX hQ hnL h
        · have h := h2 (fun q => hc ((lg_cmp_eq _ _).mpr q))
          refine z_aload_n (r := (some h0)) hX dX4_isKeyword_44 rfl 0 rfl ?_
          refine gf_RX4_46 (r := (some h0)) hX dX4_isKeyword_45 rfl hk1 ?_
          refine z_ldc2 (v := (444301538672 : Int64)) hX dX4_isKeyword_48 kj_RX4_60 ?_
          refine z_lcmp hX dX4_isKeyword_51 ?_
          obtain ⟨h1, h2⟩ := h
          refine z_if_eq (tgt := 165) hX dX4_isKeyword_52 (by decide) (fun hc => ?_) (fun hc => ?_)
          · have h := h1 ((lg_cmp_eq _ _).mp hc)
            refine z_loc [] rfl ?_
            exact zb_X4_isKeyword_165 hX hQ hnL h
          · have h := h2 (fun q => hc ((lg_cmp_eq _ _).mpr q))
            refine z_aload_n (r := (some h0)) hX dX4_isKeyword_55 rfl 0 rfl ?_
            refine gf_RX4_46 (r := (some h0)) hX dX4_isKeyword_56 rfl hk1 ?_
            refine z_ldc2 (v := (504363577198 : Int64)) hX dX4_isKeyword_59 kj_RX4_62 ?_
            refine z_lcmp hX dX4_isKeyword_62 ?_
            obtain ⟨h1, h2⟩ := h
            refine z_if_eq (tgt := 165) hX dX4_isKeyword_63 (by decide) (fun hc => ?_) (fun hc => ?_)
            · have h := h1 ((lg_cmp_eq _ _).mp hc)
              refine z_loc [] rfl ?_
              exact zb_X4_isKeyword_165 hX hQ hnL h
            · have h := h2 (fun q => hc ((lg_cmp_eq _ _).mpr q))
              refine z_aload_n (r := (some h0)) hX dX4_isKeyword_66 rfl 0 rfl ?_
              refine gf_RX4_46 (r := (some h0)) hX dX4_isKeyword_67 rfl hk1 ?_
              refine z_ldc2 (v := (431198331257 : Int64)) hX dX4_isKeyword_70 kj_RX4_64 ?_
              refine z_lcmp hX dX4_isKeyword_73 ?_
              obtain ⟨h1, h2⟩ := h
              refine z_if_eq (tgt := 165) hX dX4_isKeyword_74 (by decide) (fun hc => ?_) (fun hc => ?_)
              · have h := h1 ((lg_cmp_eq _ _).mp hc)
                refine z_loc [] rfl ?_
                exact zb_X4_isKeyword_165 hX hQ hnL h
              · have h := h2 (fun q => hc ((lg_cmp_eq _ _).mpr q))
                refine z_aload_n (r := (some h0)) hX dX4_isKeyword_77 rfl 0 rfl ?_
                refine gf_RX4_46 (r := (some h0)) hX dX4_isKeyword_78 rfl hk1 ?_
                refine z_ldc2 (v := (1752132708 : Int64)) hX dX4_isKeyword_81 kj_RX4_66 ?_
                refine z_lcmp hX dX4_isKeyword_84 ?_
                obtain ⟨h1, h2⟩ := h
                refine z_if_eq (tgt := 165) hX dX4_isKeyword_85 (by decide) (fun hc => ?_) (fun hc => ?_)
                · have h := h1 ((lg_cmp_eq _ _).mp hc)
                  refine z_loc [] rfl ?_
                  exact zb_X4_isKeyword_165 hX hQ hnL h
                · have h := h2 (fun q => hc ((lg_cmp_eq _ _).mpr q))
                  refine z_aload_n (r := (some h0)) hX dX4_isKeyword_88 rfl 0 rfl ?_
                  refine gf_RX4_46 (r := (some h0)) hX dX4_isKeyword_89 rfl hk1 ?_
                  refine z_ldc2 (v := (1785686382 : Int64)) hX dX4_isKeyword_92 kj_RX4_68 ?_
                  refine z_lcmp hX dX4_isKeyword_95 ?_
                  obtain ⟨h1, h2⟩ := h
                  refine z_if_eq (tgt := 165) hX dX4_isKeyword_96 (by decide) (fun hc => ?_) (fun hc => ?_)
                  · have h := h1 ((lg_cmp_eq _ _).mp hc)
                    refine z_loc [] rfl ?_
                    exact zb_X4_isKeyword_165 hX hQ hnL h
                  · have h := h2 (fun q => hc ((lg_cmp_eq _ _).mpr q))
                    refine z_aload_n (r := (some h0)) hX dX4_isKeyword_99 rfl 0 rfl ?_
                    refine gf_RX4_46 (r := (some h0)) hX dX4_isKeyword_100 rfl hk1 ?_
                    refine z_ldc2 (v := (1718775661 : Int64)) hX dX4_isKeyword_103 kj_RX4_70 ?_
                    refine z_lcmp hX dX4_isKeyword_106 ?_
                    obtain ⟨h1, h2⟩ := h
                    refine z_if_eq (tgt := 165) hX dX4_isKeyword_107 (by decide) (fun hc => ?_) (fun hc => ?_)
                    · have h := h1 ((lg_cmp_eq _ _).mp hc)
                      refine z_loc [] rfl ?_
                      exact zb_X4_isKeyword_165 hX hQ hnL h
                    · have h := h2 (fun q => hc ((lg_cmp_eq _ _).mpr q))
                      refine z_aload_n (r := (some h0)) hX dX4_isKeyword_110 rfl 0 rfl ?_
                      refine gf_RX4_46 (r := (some h0)) hX dX4_isKeyword_111 rfl hk1 ?_
                      refine z_ldc2 (v := (29807 : Int64)) hX dX4_isKeyword_114 kj_RX4_72 ?_
                      refine z_lcmp hX dX4_isKeyword_117 ?_
                      obtain ⟨h1, h2⟩ := h
                      refine z_if_eq (tgt := 165) hX dX4_isKeyword_118 (by decide) (fun hc => ?_) (fun hc => ?_)
                      · have h := h1 ((lg_cmp_eq _ _).mp hc)
                        refine z_loc [] rfl ?_
                        exact zb_X4_isKeyword_165 hX hQ hnL h
                      · have h := h2 (fun q => hc ((lg_cmp_eq _ _).mpr q))
                        refine z_aload_n (r := (some h0)) hX dX4_isKeyword_121 rfl 0 rfl ?_
                        refine gf_RX4_46 (r := (some h0)) hX dX4_isKeyword_122 rfl hk1 ?_
                        refine z_ldc2 (v := (131294707347319 : Int64)) hX dX4_isKeyword_125 kj_RX4_74 ?_
                        refine z_lcmp hX dX4_isKeyword_128 ?_
                        obtain ⟨h1, h2⟩ := h
                        refine z_if_eq (tgt := 165) hX dX4_isKeyword_129 (by decide) (fun hc => ?_) (fun hc => ?_)
                        · have h := h1 ((lg_cmp_eq _ _).mp hc)
                          refine z_loc [] rfl ?_
                          exact zb_X4_isKeyword_165 hX hQ hnL h
                        · have h := h2 (fun q => hc ((lg_cmp_eq _ _).mpr q))
                          refine z_aload_n (r := (some h0)) hX dX4_isKeyword_132 rfl 0 rfl ?_
                          refine gf_RX4_46 (r := (some h0)) hX dX4_isKeyword_133 rfl hk1 ?_
                          refine z_ldc2 (v := (1936292453 : Int64)) hX dX4_isKeyword_136 kj_RX4_76 ?_
                          refine z_lcmp hX dX4_isKeyword_139 ?_
                          obtain ⟨h1, h2⟩ := h
                          refine z_if_eq (tgt := 165) hX dX4_isKeyword_140 (by decide) (fun hc => ?_) (fun hc => ?_)
                          · have h := h1 ((lg_cmp_eq _ _).mp hc)
                            refine z_loc [] rfl ?_
                            exact zb_X4_isKeyword_165 hX hQ hnL h
                          · have h := h2 (fun q => hc ((lg_cmp_eq _ _).mpr q))
                            refine z_aload_n (r := (some h0)) hX dX4_isKeyword_143 rfl 0 rfl ?_
                            refine gf_RX4_46 (r := (some h0)) hX dX4_isKeyword_144 rfl hk1 ?_
                            refine z_ldc2 (v := (1937007984 : Int64)) hX dX4_isKeyword_147 kj_RX4_78 ?_
                            refine z_lcmp hX dX4_isKeyword_150 ?_
                            obtain ⟨h1, h2⟩ := h
                            refine z_if_eq (tgt := 165) hX dX4_isKeyword_151 (by decide) (fun hc => ?_) (fun hc => ?_)
                            · have h := h1 ((lg_cmp_eq _ _).mp hc)
                              refine z_loc [] rfl ?_
                              exact zb_X4_isKeyword_165 hX hQ hnL h
                            · have h := h2 (fun q => hc ((lg_cmp_eq _ _).mpr q))
                              refine z_aload_n (r := (some h0)) hX dX4_isKeyword_154 rfl 0 rfl ?_
                              refine gf_RX4_46 (r := (some h0)) hX dX4_isKeyword_155 rfl hk1 ?_
                              refine z_ldc2 (v := (418430674798 : Int64)) hX dX4_isKeyword_158 kj_RX4_80 ?_
                              refine z_lcmp hX dX4_isKeyword_161 ?_
                              obtain ⟨h1, h2⟩ := h
                              refine z_if_ne (tgt := 169) hX dX4_isKeyword_162 (by decide) (fun hc => ?_) (fun hc => ?_)
                              · have h := h1 (fun q => hc ((lg_cmp_eq _ _).mpr q))
                                refine z_iconst (v := (0 : Int32)) hX dX4_isKeyword_169 (by decide) ?_
                                refine z_loc [] rfl ?_
                                exact zb_X4_isKeyword_170 hX hQ hnL h
                              · have h := h2 ((lg_cmp_eq _ _).mp hc)
                                refine z_loc [] rfl ?_
                                exact zb_X4_isKeyword_165 hX hQ hnL h
def rm_X4_isBlank : Room := { frames := 0, cells := 0, slots := 0, locals := 0 }
def bk_X4_isBlank_29 (K : Int32 → Mm → Prop) (s0 : Int32) (M : Mm) : Prop := (bz s0 ∧ K s0 M)
set_option maxRecDepth 100000 in
set_option maxHeartbeats 4000000 in
theorem zb_X4_isBlank_29 {X : Cx} {K : Int32 → Mm → Prop} (hX : Ok X cX4_isBlank RX4 rm_X4_isBlank) (hQ : Rq X rm_X4_isBlank (some .boolean) (QI K)) (hnL : X.2.2.2.2.2.2.2.2.2.2.2.2.2.2 = 1) {s0 : Int32} {M : Mm} (h : bk_X4_isBlank_29 K s0 M) : Z X M 0 0 29 [] [.int s0] := by
  unfold bk_X4_isBlank_29 at h
  exact y_zret hX hQ dX4_isBlank_29 h.1 h.2
def bk_X4_isBlank_24 (K : Int32 → Mm → Prop) (M : Mm) : Prop := (bk_X4_isBlank_29 K (1 : Int32) M)
set_option maxRecDepth 100000 in
set_option maxHeartbeats 4000000 in
theorem zb_X4_isBlank_24 {X : Cx} {K : Int32 → Mm → Prop} (hX : Ok X cX4_isBlank RX4 rm_X4_isBlank) (hQ : Rq X rm_X4_isBlank (some .boolean) (QI K)) (hnL : X.2.2.2.2.2.2.2.2.2.2.2.2.2.2 = 1) {M : Mm} (h : bk_X4_isBlank_24 K M) : Z X M 0 0 24 [] [] := by
  unfold bk_X4_isBlank_24 at h
  refine z_iconst (v := (1 : Int32)) hX dX4_isBlank_24 (by decide) ?_
  refine z_goto (tgt := 29) hX dX4_isBlank_25 (by decide) ?_
  exact zb_X4_isBlank_29 hX hQ hnL h
def wp_X4_isBlank (M : Mm) (p1 : Int32) (K : Int32 → Mm → Prop) : Prop := ((p1 = (9 : Int32) → (bk_X4_isBlank_24 K M)) ∧ (¬ p1 = (9 : Int32) → ((p1 = (10 : Int32) → (bk_X4_isBlank_24 K M)) ∧ (¬ p1 = (10 : Int32) → ((p1 = (13 : Int32) → (bk_X4_isBlank_24 K M)) ∧ (¬ p1 = (13 : Int32) → ((¬ p1 = (32 : Int32) → (bk_X4_isBlank_29 K (0 : Int32) M)) ∧ (p1 = (32 : Int32) → (bk_X4_isBlank_24 K M)))))))))
set_option maxRecDepth 100000 in
set_option maxHeartbeats 4000000 in
theorem ct_X4_isBlank {M : Mm} {p1 : Int32} {K : Int32 → Mm → Prop} (h : wp_X4_isBlank M p1 K) : CtI yX4_isBlank cX4_isBlank 1 (some .boolean) rm_X4_isBlank [.int p1] M K := by
  refine ct_any (QI K) (by decide) (by exact Nat.le_of_ble_eq_true rfl) (fun X hX hQ hnL hnm => ?_)
  rw [show lv_args 0 [.int p1] = [(0, .int p1)] by rfl]
  have hX : Ok X cX4_isBlank RX4 rm_X4_isBlank := hX
  unfold wp_X4_isBlank at h
  refine z_iload_n hX dX4_isBlank_0 rfl 0 rfl ?_
  refine z_bipush (v := (9 : Int32)) hX dX4_isBlank_1 (by decide) ?_
  obtain ⟨h1, h2⟩ := h
  refine z_icmp_eq (tgt := 24) hX dX4_isBlank_3 (by decide) (fun hc => ?_) (fun hc => ?_)
  · have h := h1 hc
    refine z_loc [] rfl ?_
    exact zb_X4_isBlank_24 hX hQ hnL h
  · have h := h2 hc
    refine z_iload_n hX dX4_isBlank_6 rfl 0 rfl ?_
    refine z_bipush (v := (10 : Int32)) hX dX4_isBlank_7 (by decide) ?_
    obtain ⟨h1, h2⟩ := h
    refine z_icmp_eq (tgt := 24) hX dX4_isBlank_9 (by decide) (fun hc => ?_) (fun hc => ?_)
    · have h := h1 hc
      refine z_loc [] rfl ?_
      exact zb_X4_isBlank_24 hX hQ hnL h
    · have h := h2 hc
      refine z_iload_n hX dX4_isBlank_12 rfl 0 rfl ?_
      refine z_bipush (v := (13 : Int32)) hX dX4_isBlank_13 (by decide) ?_
      obtain ⟨h1, h2⟩ := h
      refine z_icmp_eq (tgt := 24) hX dX4_isBlank_15 (by decide) (fun hc => ?_) (fun hc => ?_)
      · have h := h1 hc
        refine z_loc [] rfl ?_
        exact zb_X4_isBlank_24 hX hQ hnL h
      · have h := h2 hc
        refine z_iload_n hX dX4_isBlank_18 rfl 0 rfl ?_
        refine z_bipush (v := (32 : Int32)) hX dX4_isBlank_19 (by decide) ?_
        obtain ⟨h1, h2⟩ := h
        refine z_icmp_ne (tgt := 28) hX dX4_isBlank_21 (by decide) (fun hc => ?_) (fun hc => ?_)
        · have h := h1 hc
          refine z_iconst (v := (0 : Int32)) hX dX4_isBlank_28 (by decide) ?_
          refine z_loc [] rfl ?_
          exact zb_X4_isBlank_29 hX hQ hnL h
        · have h := h2 hc
          refine z_loc [] rfl ?_
          exact zb_X4_isBlank_24 hX hQ hnL h
def rm_X5_init : Room := { frames := 1, cells := 4, slots := 16, locals := 20 }
def lp_X5_init_57 (h0 : Nat) (K : Mm → Prop) : Nat → Int32 → Mm → Prop
  | 0, _, _ => False
  | n + 1, l6, M => (((4 : Int32) ≤ l6 → (K M)) ∧ (¬ (4 : Int32) ≤ l6 → mK M h0 = 6 ∧ ∃ a2, (mR M 325 h0) = some a2 ∧ isA M a2 2 ∧ vp_in l6 (aN M a2) ∧ ((lp_X5_init_57 h0 K n) (l6 + 1) (tJ M a2 (l6).toNatClampNeg (-9000000000000000000 : Int64)))))
set_option maxRecDepth 100000 in
set_option maxHeartbeats 4000000 in
theorem zl_X5_init_57 {X : Cx} {h0 : Nat} {K : Mm → Prop} (hX : Ok X cX5_init RX5 rm_X5_init) (hQ : Rq X rm_X5_init none (QV K)) (hnL : X.2.2.2.2.2.2.2.2.2.2.2.2.2.2 = 7) (hnm : X.2.2.2.2.2.2.2.2.1.name = "<init>") : ∀ (n : Nat) (l6 : Int32) (M : Mm), lp_X5_init_57 h0 K n l6 M → Z X M 4 16 57 [(0, va_rf (some h0)), (6, .int l6)] [] := by
  intro n
  induction n with
  | zero =>
    intro l6 M h
    exact False.elim h
  | succ n hR57 =>
    intro l6 M h
    refine z_iload hX dX5_init_57 1 rfl ?_
    refine z_iconst (v := (4 : Int32)) hX dX5_init_59 (by decide) ?_
    obtain ⟨h1, h2⟩ := h
    refine z_icmp_ge (tgt := 79) hX dX5_init_60 (by decide) (fun hc => ?_) (fun hc => ?_)
    · have h := h1 hc
      refine z_widen 4 16 (by decide) (by decide) ?_
      exact z_vret hX hQ dX5_init_79 h
    · have h := h2 hc
      refine z_aload_n (r := (some h0)) hX dX5_init_63 rfl 0 rfl ?_
      obtain ⟨hk1, h⟩ := h
      refine gf_RX5_29 (r := (some h0)) hX dX5_init_64 rfl hk1 ?_
      refine z_iload hX dX5_init_67 1 rfl ?_
      refine z_ldc2 (v := (-9000000000000000000 : Int64)) hX dX5_init_69 kj_RX5_40 ?_
      obtain ⟨a2, ha3, h⟩ := h
      obtain ⟨hk4, h⟩ := h
      obtain ⟨hc5, h⟩ := h
      refine y_last (r := (mR M 325 h0)) hX dX5_init_72 ha3 hk4 hc5 ?_
      refine z_iinc (v := (l6 + 1)) hX [(6, .int (l6 + 1)), (0, va_rf (some h0))] dX5_init_73 1 rfl rfl (by rw [hnL]; decide) rfl ?_
      refine z_goto (tgt := 57) hX dX5_init_76 (by decide) ?_
      refine z_loc [1, 0] rfl ?_
      refine z_widen 4 16 (by decide) (by decide) ?_
      exact hR57 _ _ h
def wp_X5_init (M : Mm) (h0 : Nat) (p1 : Int32) (p2 : Int64) (p3 : Int32) (p4 : Int32) (K : Mm → Prop) : Prop := mK M h0 = 6 ∧ (∀ q11, mK (sI (sI (sJ (sI M 320 h0 p1) 321 h0 p2) 322 h0 p3) 323 h0 p4) q11 = 0 → mK (na (sI (sI (sJ (sI M 320 h0 p1) 321 h0 p2) 322 h0 p3) 323 h0 p4) q11 33 4) h0 = 6 ∧ (∀ q16, mK (sR (na (sI (sI (sJ (sI M 320 h0 p1) 321 h0 p2) 322 h0 p3) 323 h0 p4) q11 33 4) 324 h0 (some q11)) q16 = 0 → mK (na (sR (na (sI (sI (sJ (sI M 320 h0 p1) 321 h0 p2) 322 h0 p3) 323 h0 p4) q11 33 4) 324 h0 (some q11)) q16 42 4) h0 = 6 ∧ (∀ q21, mK (sR (na (sR (na (sI (sI (sJ (sI M 320 h0 p1) 321 h0 p2) 322 h0 p3) 323 h0 p4) q11 33 4) 324 h0 (some q11)) q16 42 4) 325 h0 (some q16)) q21 = 0 → mK (na (sR (na (sR (na (sI (sI (sJ (sI M 320 h0 p1) 321 h0 p2) 322 h0 p3) 323 h0 p4) q11 33 4) 324 h0 (some q11)) q16 42 4) 325 h0 (some q16)) q21 49 4) h0 = 6 ∧ (∀ q26, mK (sR (na (sR (na (sR (na (sI (sI (sJ (sI M 320 h0 p1) 321 h0 p2) 322 h0 p3) 323 h0 p4) q11 33 4) 324 h0 (some q11)) q16 42 4) 325 h0 (some q16)) q21 49 4) 326 h0 (some q21)) q26 = 0 → mK (na (sR (na (sR (na (sR (na (sI (sI (sJ (sI M 320 h0 p1) 321 h0 p2) 322 h0 p3) 323 h0 p4) q11 33 4) 324 h0 (some q11)) q16 42 4) 325 h0 (some q16)) q21 49 4) 326 h0 (some q21)) q26 59 4) h0 = 6 ∧ (∃ kk, lp_X5_init_57 h0 K kk (0 : Int32) (sR (na (sR (na (sR (na (sR (na (sI (sI (sJ (sI M 320 h0 p1) 321 h0 p2) 322 h0 p3) 323 h0 p4) q11 33 4) 324 h0 (some q11)) q16 42 4) 325 h0 (some q16)) q21 49 4) 326 h0 (some q21)) q26 59 4) 327 h0 (some q26)))))))
set_option maxRecDepth 100000 in
set_option maxHeartbeats 4000000 in
theorem ct_X5_init {M : Mm} {h0 : Nat} {p1 : Int32} {p2 : Int64} {p3 : Int32} {p4 : Int32} {K : Mm → Prop} (h : wp_X5_init M h0 p1 p2 p3 p4 K) : CtV yX5_init cX5_init 7 none rm_X5_init [.ref h0, .int p1, .long p2, .int p3, .int p4] M K := by
  refine ct_any (QV K) (by decide) (by exact Nat.le_of_ble_eq_true rfl) (fun X hX hQ hnL hnm => ?_)
  rw [show lv_args 0 [.ref h0, .int p1, .long p2, .int p3, .int p4] = [(0, va_rf (some h0)), (1, .int p1), (2, .long p2), (4, .int p3), (5, .int p4)] by rfl]
  have hX : Ok X cX5_init RX5 rm_X5_init := hX
  unfold wp_X5_init at h
  refine z_aload_n (r := (some h0)) hX dX5_init_0 rfl 0 rfl ?_
  refine mw_RX5_3 (a := h0) hX dX5_init_1 (by decide) (by decide) ?_
  refine z_aload_n (r := (some h0)) hX dX5_init_4 rfl 0 rfl ?_
  refine z_iload_n hX dX5_init_5 rfl 1 rfl ?_
  obtain ⟨hk6, h⟩ := h
  refine pf_RX5_9 (r := (some h0)) (v := p1) hX hnm dX5_init_6 rfl hk6 ?_
  refine z_aload_n (r := (some h0)) hX dX5_init_9 rfl 0 rfl ?_
  refine z_lload_n hX dX5_init_10 rfl 2 rfl ?_
  refine pf_RX5_15 (r := (some h0)) (v := p2) hX hnm dX5_init_11 rfl hk6 ?_
  refine z_aload_n (r := (some h0)) hX dX5_init_14 rfl 0 rfl ?_
  refine z_iload hX dX5_init_15 3 rfl ?_
  refine pf_RX5_19 (r := (some h0)) (v := p3) hX hnm dX5_init_17 rfl hk6 ?_
  refine z_aload_n (r := (some h0)) hX dX5_init_20 rfl 0 rfl ?_
  refine z_iload hX dX5_init_21 4 rfl ?_
  refine pf_RX5_22 (r := (some h0)) (v := p4) hX hnm dX5_init_23 rfl hk6 ?_
  refine z_aload_n (r := (some h0)) hX dX5_init_26 rfl 0 rfl ?_
  refine z_iconst (v := (4 : Int32)) hX dX5_init_27 (by decide) ?_
  refine y_newa_int (n := 4) hX 33 (by decide) (by decide) (by decide) (by decide) (by decide) dX5_init_28 (by decide) (by decide) (fun q11 hq12 => ?_)
  have h := h q11 hq12
  obtain ⟨hk14, h⟩ := h
  refine pf_RX5_25 (r := (some h0)) (v := (some q11)) hX hnm dX5_init_30 rfl hk14 ?_
  refine z_aload_n (r := (some h0)) hX dX5_init_33 rfl 0 rfl ?_
  refine z_iconst (v := (4 : Int32)) hX dX5_init_34 (by decide) ?_
  refine y_newa_long (n := 4) hX 42 (by decide) (by decide) (by decide) (by decide) (by decide) dX5_init_35 (by decide) (by decide) (fun q16 hq17 => ?_)
  have h := h q16 hq17
  obtain ⟨hk19, h⟩ := h
  refine pf_RX5_29 (r := (some h0)) (v := (some q16)) hX hnm dX5_init_37 rfl hk19 ?_
  refine z_aload_n (r := (some h0)) hX dX5_init_40 rfl 0 rfl ?_
  refine z_iconst (v := (4 : Int32)) hX dX5_init_41 (by decide) ?_
  refine y_newa_int (n := 4) hX 49 (by decide) (by decide) (by decide) (by decide) (by decide) dX5_init_42 (by decide) (by decide) (fun q21 hq22 => ?_)
  have h := h q21 hq22
  obtain ⟨hk24, h⟩ := h
  refine pf_RX5_33 (r := (some h0)) (v := (some q21)) hX hnm dX5_init_44 rfl hk24 ?_
  refine z_aload_n (r := (some h0)) hX dX5_init_47 rfl 0 rfl ?_
  refine z_iconst (v := (4 : Int32)) hX dX5_init_48 (by decide) ?_
  refine y_newa_boolean (n := 4) hX 59 (by decide) (by decide) (by decide) (by decide) (by decide) dX5_init_49 (by decide) (by decide) (fun q26 hq27 => ?_)
  have h := h q26 hq27
  obtain ⟨hk29, h⟩ := h
  refine pf_RX5_36 (r := (some h0)) (v := (some q26)) hX hnm dX5_init_51 rfl hk29 ?_
  refine z_iconst (v := (0 : Int32)) hX dX5_init_54 (by decide) ?_
  refine z_istore hX [(6, .int (0 : Int32)), (0, va_rf (some h0)), (1, .int p1), (2, .long p2), (4, .int p3), (5, .int p4)] dX5_init_55 (by rw [hnL]; decide) rfl ?_
  refine z_loc [1, 0] rfl ?_
  refine z_widen 4 16 (by decide) (by decide) ?_
  obtain ⟨n, h⟩ := h
  exact zl_X5_init_57 hX hQ hnL hnm n _ _ h
def rm_X5_hear : Room := { frames := 0, cells := 0, slots := 0, locals := 0 }
def wp_X5_hear (M : Mm) (h0 : Nat) (p1 : Int32) (p2 : Int32) (K : Mm → Prop) : Prop := mK M h0 = 6 ∧ ∃ a2, (mR M 324 h0) = some a2 ∧ isA M a2 1 ∧ vp_in p1 (aN M a2) ∧ ∃ a6, (mR (tI M a2 (p1).toNatClampNeg (0 : Int32)) 326 h0) = some a6 ∧ isA (tI M a2 (p1).toNatClampNeg (0 : Int32)) a6 1 ∧ vp_in p1 (aN (tI M a2 (p1).toNatClampNeg (0 : Int32)) a6) ∧ (K (tI (tI M a2 (p1).toNatClampNeg (0 : Int32)) a6 (p1).toNatClampNeg p2))
set_option maxRecDepth 100000 in
set_option maxHeartbeats 4000000 in
theorem ct_X5_hear {M : Mm} {h0 : Nat} {p1 : Int32} {p2 : Int32} {K : Mm → Prop} (h : wp_X5_hear M h0 p1 p2 K) : CtV yX5_hear cX5_hear 3 none rm_X5_hear [.ref h0, .int p1, .int p2] M K := by
  refine ct_any (QV K) (by decide) (by exact Nat.le_of_ble_eq_true rfl) (fun X hX hQ hnL hnm => ?_)
  rw [show lv_args 0 [.ref h0, .int p1, .int p2] = [(0, va_rf (some h0)), (1, .int p1), (2, .int p2)] by rfl]
  have hX : Ok X cX5_hear RX5 rm_X5_hear := hX
  unfold wp_X5_hear at h
  refine z_aload_n (r := (some h0)) hX dX5_hear_0 rfl 0 rfl ?_
  obtain ⟨hk1, h⟩ := h
  refine gf_RX5_25 (r := (some h0)) hX dX5_hear_1 rfl hk1 ?_
  refine z_iload_n hX dX5_hear_4 rfl 1 rfl ?_
  refine z_iconst (v := (0 : Int32)) hX dX5_hear_5 (by decide) ?_
  obtain ⟨a2, ha3, h⟩ := h
  obtain ⟨hk4, h⟩ := h
  obtain ⟨hc5, h⟩ := h
  refine y_iast (r := (mR M 324 h0)) hX dX5_hear_6 ha3 hk4 hc5 ?_
  refine z_aload_n (r := (some h0)) hX dX5_hear_7 rfl 0 rfl ?_
  refine gf_RX5_33 (r := (some h0)) hX dX5_hear_8 rfl hk1 ?_
  refine z_iload_n hX dX5_hear_11 rfl 1 rfl ?_
  refine z_iload_n hX dX5_hear_12 rfl 2 rfl ?_
  obtain ⟨a6, ha7, h⟩ := h
  obtain ⟨hk8, h⟩ := h
  obtain ⟨hc9, h⟩ := h
  refine y_iast (r := (mR (tI M a2 (p1).toNatClampNeg (0 : Int32)) 326 h0)) hX dX5_hear_13 ha7 hk8 hc9 ?_
  exact z_vret hX hQ dX5_hear_14 h
def rm_X5_raise : Room := { frames := 0, cells := 0, slots := 0, locals := 0 }
def wp_X5_raise (M : Mm) (h0 : Nat) (p1 : Int32) (p2 : Int64) (K : Int32 → Mm → Prop) : Prop := mK M h0 = 6 ∧ ∃ a2, (mR M 325 h0) = some a2 ∧ isA M a2 2 ∧ vp_in p1 (aN M a2) ∧ (((aJ M a2 (p1).toNatClampNeg) < p2 → vp_in p1 (aN M a2) ∧ (K (1 : Int32) (tJ M a2 (p1).toNatClampNeg p2))) ∧ (¬ (aJ M a2 (p1).toNatClampNeg) < p2 → (K (0 : Int32) M)))
set_option maxRecDepth 100000 in
set_option maxHeartbeats 4000000 in
theorem ct_X5_raise {M : Mm} {h0 : Nat} {p1 : Int32} {p2 : Int64} {K : Int32 → Mm → Prop} (h : wp_X5_raise M h0 p1 p2 K) : CtI yX5_raise cX5_raise 4 (some .boolean) rm_X5_raise [.ref h0, .int p1, .long p2] M K := by
  refine ct_any (QI K) (by decide) (by exact Nat.le_of_ble_eq_true rfl) (fun X hX hQ hnL hnm => ?_)
  rw [show lv_args 0 [.ref h0, .int p1, .long p2] = [(0, va_rf (some h0)), (1, .int p1), (2, .long p2)] by rfl]
  have hX : Ok X cX5_raise RX5 rm_X5_raise := hX
  unfold wp_X5_raise at h
  refine z_lload_n hX dX5_raise_0 rfl 2 rfl ?_
  refine z_aload_n (r := (some h0)) hX dX5_raise_1 rfl 0 rfl ?_
  obtain ⟨hk1, h⟩ := h
  refine gf_RX5_29 (r := (some h0)) hX dX5_raise_2 rfl hk1 ?_
  refine z_iload_n hX dX5_raise_5 rfl 1 rfl ?_
  obtain ⟨a2, ha3, h⟩ := h
  obtain ⟨hk4, h⟩ := h
  obtain ⟨hc5, h⟩ := h
  refine y_lald (r := (mR M 325 h0)) hX dX5_raise_6 ha3 hk4 hc5 ?_
  refine z_lcmp hX dX5_raise_7 ?_
  obtain ⟨h1, h2⟩ := h
  refine z_if_gt (tgt := 13) hX dX5_raise_8 (by decide) (fun hc => ?_) (fun hc => ?_)
  · have h := h1 ((lg_cmp_gt _ _).mp hc)
    refine z_aload_n (r := (some h0)) hX dX5_raise_13 rfl 0 rfl ?_
    refine gf_RX5_29 (r := (some h0)) hX dX5_raise_14 rfl hk1 ?_
    refine z_iload_n hX dX5_raise_17 rfl 1 rfl ?_
    refine z_lload_n hX dX5_raise_18 rfl 2 rfl ?_
    obtain ⟨hc6, h⟩ := h
    refine y_last (r := (mR M 325 h0)) hX dX5_raise_19 ha3 hk4 hc6 ?_
    refine z_iconst (v := (1 : Int32)) hX dX5_raise_20 (by decide) ?_
    exact y_zret hX hQ dX5_raise_21 (Or.inr rfl) h
  · have h := h2 (fun q => hc ((lg_cmp_gt _ _).mpr q))
    refine z_iconst (v := (0 : Int32)) hX dX5_raise_11 (by decide) ?_
    exact y_zret hX hQ dX5_raise_12 (Or.inl rfl) h
def rm_X5_finish : Room := { frames := 0, cells := 0, slots := 0, locals := 0 }
def wp_X5_finish (M : Mm) (h0 : Nat) (p1 : Int32) (K : Mm → Prop) : Prop := mK M h0 = 6 ∧ ∃ a2, (mR M 324 h0) = some a2 ∧ isA M a2 1 ∧ vp_in p1 (aN M a2) ∧ ∃ a6, (mR (tI M a2 (p1).toNatClampNeg (2 : Int32)) 325 h0) = some a6 ∧ isA (tI M a2 (p1).toNatClampNeg (2 : Int32)) a6 2 ∧ vp_in p1 (aN (tI M a2 (p1).toNatClampNeg (2 : Int32)) a6) ∧ (K (tJ (tI M a2 (p1).toNatClampNeg (2 : Int32)) a6 (p1).toNatClampNeg (9000000000000000000 : Int64)))
set_option maxRecDepth 100000 in
set_option maxHeartbeats 4000000 in
theorem ct_X5_finish {M : Mm} {h0 : Nat} {p1 : Int32} {K : Mm → Prop} (h : wp_X5_finish M h0 p1 K) : CtV yX5_finish cX5_finish 2 none rm_X5_finish [.ref h0, .int p1] M K := by
  refine ct_any (QV K) (by decide) (by exact Nat.le_of_ble_eq_true rfl) (fun X hX hQ hnL hnm => ?_)
  rw [show lv_args 0 [.ref h0, .int p1] = [(0, va_rf (some h0)), (1, .int p1)] by rfl]
  have hX : Ok X cX5_finish RX5 rm_X5_finish := hX
  unfold wp_X5_finish at h
  refine z_aload_n (r := (some h0)) hX dX5_finish_0 rfl 0 rfl ?_
  obtain ⟨hk1, h⟩ := h
  refine gf_RX5_25 (r := (some h0)) hX dX5_finish_1 rfl hk1 ?_
  refine z_iload_n hX dX5_finish_4 rfl 1 rfl ?_
  refine z_iconst (v := (2 : Int32)) hX dX5_finish_5 (by decide) ?_
  obtain ⟨a2, ha3, h⟩ := h
  obtain ⟨hk4, h⟩ := h
  obtain ⟨hc5, h⟩ := h
  refine y_iast (r := (mR M 324 h0)) hX dX5_finish_6 ha3 hk4 hc5 ?_
  refine z_aload_n (r := (some h0)) hX dX5_finish_7 rfl 0 rfl ?_
  refine gf_RX5_29 (r := (some h0)) hX dX5_finish_8 rfl hk1 ?_
  refine z_iload_n hX dX5_finish_11 rfl 1 rfl ?_
  refine z_ldc2 (v := (9000000000000000000 : Int64)) hX dX5_finish_12 kj_RX5_42 ?_
  obtain ⟨a6, ha7, h⟩ := h
  obtain ⟨hk8, h⟩ := h
  obtain ⟨hc9, h⟩ := h
  refine y_last (r := (mR (tI M a2 (p1).toNatClampNeg (2 : Int32)) 325 h0)) hX dX5_finish_15 ha7 hk8 hc9 ?_
  exact z_vret hX hQ dX5_finish_16 h
def rm_X5_countIn : Room := { frames := 0, cells := 0, slots := 0, locals := 0 }
def bk_X5_countIn_25 (h0 : Nat) (R4 : Int32 → Int32 → Int32 → Mm → Prop) (K : Int32 → Mm → Prop) (l1 : Int32) (l2 : Int32) (l3 : Int32) (M : Mm) : Prop := (R4 l1 l2 (l3 + 1) M)
set_option maxRecDepth 100000 in
set_option maxHeartbeats 4000000 in
theorem zb_X5_countIn_25 {X : Cx} {h0 : Nat} {R4 : Int32 → Int32 → Int32 → Mm → Prop} {K : Int32 → Mm → Prop} (hX : Ok X cX5_countIn RX5 rm_X5_countIn) (hQ : Rq X rm_X5_countIn (some .int) (QI K)) (hnL : X.2.2.2.2.2.2.2.2.2.2.2.2.2.2 = 4) (hR4 : ∀ l1 l2 l3 M, R4 l1 l2 l3 M → Z X M 0 0 4 [(0, va_rf (some h0)), (1, .int l1), (2, .int l2), (3, .int l3)] []) {l1 : Int32} {l2 : Int32} {l3 : Int32} {M : Mm} (h : bk_X5_countIn_25 h0 R4 K l1 l2 l3 M) : Z X M 0 0 25 [(0, va_rf (some h0)), (1, .int l1), (2, .int l2), (3, .int l3)] [] := by
  unfold bk_X5_countIn_25 at h
  refine z_iinc (v := (l3 + 1)) hX [(3, .int (l3 + 1)), (0, va_rf (some h0)), (1, .int l1), (2, .int l2)] dX5_countIn_25 3 rfl rfl (by rw [hnL]; decide) rfl ?_
  refine z_goto (tgt := 4) hX dX5_countIn_28 (by decide) ?_
  refine z_loc [1, 2, 3, 0] rfl ?_
  exact hR4 _ _ _ _ h
def lp_X5_countIn_4 (h0 : Nat) (K : Int32 → Mm → Prop) : Nat → Int32 → Int32 → Int32 → Mm → Prop
  | 0, _, _, _, _ => False
  | n + 1, l1, l2, l3, M => mK M h0 = 6 ∧ (((mI M 320 h0) ≤ l3 → (K l2 M)) ∧ (¬ (mI M 320 h0) ≤ l3 → ∃ a2, (mR M 324 h0) = some a2 ∧ isA M a2 1 ∧ vp_in l3 (aN M a2) ∧ ((¬ (aI M a2 (l3).toNatClampNeg) = l1 → (bk_X5_countIn_25 h0 (lp_X5_countIn_4 h0 K n) K l1 l2 l3 M)) ∧ ((aI M a2 (l3).toNatClampNeg) = l1 → (bk_X5_countIn_25 h0 (lp_X5_countIn_4 h0 K n) K l1 (l2 + 1) l3 M)))))
set_option maxRecDepth 100000 in
set_option maxHeartbeats 4000000 in
theorem zl_X5_countIn_4 {X : Cx} {h0 : Nat} {K : Int32 → Mm → Prop} (hX : Ok X cX5_countIn RX5 rm_X5_countIn) (hQ : Rq X rm_X5_countIn (some .int) (QI K)) (hnL : X.2.2.2.2.2.2.2.2.2.2.2.2.2.2 = 4) : ∀ (n : Nat) (l1 : Int32) (l2 : Int32) (l3 : Int32) (M : Mm), lp_X5_countIn_4 h0 K n l1 l2 l3 M → Z X M 0 0 4 [(0, va_rf (some h0)), (1, .int l1), (2, .int l2), (3, .int l3)] [] := by
  intro n
  induction n with
  | zero =>
    intro l1 l2 l3 M h
    exact False.elim h
  | succ n hR4 =>
    intro l1 l2 l3 M h
    refine z_iload_n hX dX5_countIn_4 rfl 3 rfl ?_
    refine z_aload_n (r := (some h0)) hX dX5_countIn_5 rfl 0 rfl ?_
    obtain ⟨hk1, h⟩ := h
    refine gf_RX5_9 (r := (some h0)) hX dX5_countIn_6 rfl hk1 ?_
    obtain ⟨h1, h2⟩ := h
    refine z_icmp_ge (tgt := 31) hX dX5_countIn_9 (by decide) (fun hc => ?_) (fun hc => ?_)
    · have h := h1 hc
      refine z_iload_n hX dX5_countIn_31 rfl 2 rfl ?_
      exact z_iret hX hQ dX5_countIn_32 h
    · have h := h2 hc
      refine z_aload_n (r := (some h0)) hX dX5_countIn_12 rfl 0 rfl ?_
      refine gf_RX5_25 (r := (some h0)) hX dX5_countIn_13 rfl hk1 ?_
      refine z_iload_n hX dX5_countIn_16 rfl 3 rfl ?_
      obtain ⟨a2, ha3, h⟩ := h
      obtain ⟨hk4, h⟩ := h
      obtain ⟨hc5, h⟩ := h
      refine y_iald (r := (mR M 324 h0)) hX dX5_countIn_17 ha3 hk4 hc5 ?_
      refine z_iload_n hX dX5_countIn_18 rfl 1 rfl ?_
      obtain ⟨h1, h2⟩ := h
      refine z_icmp_ne (tgt := 25) hX dX5_countIn_19 (by decide) (fun hc => ?_) (fun hc => ?_)
      · have h := h1 hc
        exact zb_X5_countIn_25 hX hQ hnL hR4 h
      · have h := h2 hc
        refine z_iinc (v := (l2 + 1)) hX [(2, .int (l2 + 1)), (0, va_rf (some h0)), (1, .int l1), (3, .int l3)] dX5_countIn_22 2 rfl rfl (by rw [hnL]; decide) rfl ?_
        refine z_loc [1, 2, 0, 3] rfl ?_
        exact zb_X5_countIn_25 hX hQ hnL hR4 h
def wp_X5_countIn (M : Mm) (h0 : Nat) (p1 : Int32) (K : Int32 → Mm → Prop) : Prop := (∃ kk, lp_X5_countIn_4 h0 K kk p1 (0 : Int32) (0 : Int32) M)
set_option maxRecDepth 100000 in
set_option maxHeartbeats 4000000 in
theorem ct_X5_countIn {M : Mm} {h0 : Nat} {p1 : Int32} {K : Int32 → Mm → Prop} (h : wp_X5_countIn M h0 p1 K) : CtI yX5_countIn cX5_countIn 4 (some .int) rm_X5_countIn [.ref h0, .int p1] M K := by
  refine ct_any (QI K) (by decide) (by exact Nat.le_of_ble_eq_true rfl) (fun X hX hQ hnL hnm => ?_)
  rw [show lv_args 0 [.ref h0, .int p1] = [(0, va_rf (some h0)), (1, .int p1)] by rfl]
  have hX : Ok X cX5_countIn RX5 rm_X5_countIn := hX
  unfold wp_X5_countIn at h
  refine z_iconst (v := (0 : Int32)) hX dX5_countIn_0 (by decide) ?_
  refine z_istore_n hX [(2, .int (0 : Int32)), (0, va_rf (some h0)), (1, .int p1)] dX5_countIn_1 rfl (by rw [hnL]; decide) rfl ?_
  refine z_iconst (v := (0 : Int32)) hX dX5_countIn_2 (by decide) ?_
  refine z_istore_n hX [(3, .int (0 : Int32)), (2, .int (0 : Int32)), (0, va_rf (some h0)), (1, .int p1)] dX5_countIn_3 rfl (by rw [hnL]; decide) rfl ?_
  refine z_loc [2, 3, 1, 0] rfl ?_
  obtain ⟨n, h⟩ := h
  exact zl_X5_countIn_4 hX hQ hnL n _ _ _ _ h
def rm_X5_leastActive : Room := { frames := 1, cells := 0, slots := 0, locals := 23 }
def bk_X5_leastActive_34 (h0 : Nat) (R6 : Int64 → Int32 → Mm → Prop) (K : Int64 → Mm → Prop) (l1 : Int64) (l3 : Int32) (M : Mm) : Prop := (R6 l1 (l3 + 1) M)
set_option maxRecDepth 100000 in
set_option maxHeartbeats 4000000 in
theorem zb_X5_leastActive_34 {X : Cx} {h0 : Nat} {R6 : Int64 → Int32 → Mm → Prop} {K : Int64 → Mm → Prop} (hX : Ok X cX5_leastActive RX5 rm_X5_leastActive) (hQ : Rq X rm_X5_leastActive (some .long) (QJ K)) (hnL : X.2.2.2.2.2.2.2.2.2.2.2.2.2.2 = 4) (hR6 : ∀ l1 l3 M, R6 l1 l3 M → Z X M 0 0 6 [(0, va_rf (some h0)), (1, .long l1), (3, .int l3)] []) {l1 : Int64} {l3 : Int32} {M : Mm} (h : bk_X5_leastActive_34 h0 R6 K l1 l3 M) : Z X M 0 0 34 [(0, va_rf (some h0)), (1, .long l1), (3, .int l3)] [] := by
  unfold bk_X5_leastActive_34 at h
  refine z_iinc (v := (l3 + 1)) hX [(3, .int (l3 + 1)), (0, va_rf (some h0)), (1, .long l1)] dX5_leastActive_34 2 rfl rfl (by rw [hnL]; decide) rfl ?_
  refine z_goto (tgt := 6) hX dX5_leastActive_37 (by decide) ?_
  refine z_loc [1, 2, 0] rfl ?_
  exact hR6 _ _ _ h
def lp_X5_leastActive_6 (h0 : Nat) (K : Int64 → Mm → Prop) : Nat → Int64 → Int32 → Mm → Prop
  | 0, _, _, _ => False
  | n + 1, l1, l3, M => mK M h0 = 6 ∧ (((mI M 320 h0) ≤ l3 → (K l1 M)) ∧ (¬ (mI M 320 h0) ≤ l3 → ∃ a2, (mR M 324 h0) = some a2 ∧ isA M a2 1 ∧ vp_in l3 (aN M a2) ∧ ((¬ (aI M a2 (l3).toNatClampNeg) = 0 → (bk_X5_leastActive_34 h0 (lp_X5_leastActive_6 h0 K n) K l1 l3 M)) ∧ ((aI M a2 (l3).toNatClampNeg) = 0 → ∃ a6, (mR M 325 h0) = some a6 ∧ isA M a6 2 ∧ vp_in l3 (aN M a6) ∧ (bk_X5_leastActive_34 h0 (lp_X5_leastActive_6 h0 K n) K (if (aJ M a6 (l3).toNatClampNeg) < l1 then (aJ M a6 (l3).toNatClampNeg) else l1) l3 M)))))
set_option maxRecDepth 100000 in
set_option maxHeartbeats 4000000 in
theorem zl_X5_leastActive_6 {X : Cx} {h0 : Nat} {K : Int64 → Mm → Prop} (hX : Ok X cX5_leastActive RX5 rm_X5_leastActive) (hQ : Rq X rm_X5_leastActive (some .long) (QJ K)) (hnL : X.2.2.2.2.2.2.2.2.2.2.2.2.2.2 = 4) : ∀ (n : Nat) (l1 : Int64) (l3 : Int32) (M : Mm), lp_X5_leastActive_6 h0 K n l1 l3 M → Z X M 0 0 6 [(0, va_rf (some h0)), (1, .long l1), (3, .int l3)] [] := by
  intro n
  induction n with
  | zero =>
    intro l1 l3 M h
    exact False.elim h
  | succ n hR6 =>
    intro l1 l3 M h
    refine z_iload_n hX dX5_leastActive_6 rfl 2 rfl ?_
    refine z_aload_n (r := (some h0)) hX dX5_leastActive_7 rfl 0 rfl ?_
    obtain ⟨hk1, h⟩ := h
    refine gf_RX5_9 (r := (some h0)) hX dX5_leastActive_8 rfl hk1 ?_
    obtain ⟨h1, h2⟩ := h
    refine z_icmp_ge (tgt := 40) hX dX5_leastActive_11 (by decide) (fun hc => ?_) (fun hc => ?_)
    · have h := h1 hc
      refine z_lload_n hX dX5_leastActive_40 rfl 1 rfl ?_
      exact z_lret hX hQ dX5_leastActive_41 h
    · have h := h2 hc
      refine z_aload_n (r := (some h0)) hX dX5_leastActive_14 rfl 0 rfl ?_
      refine gf_RX5_25 (r := (some h0)) hX dX5_leastActive_15 rfl hk1 ?_
      refine z_iload_n hX dX5_leastActive_18 rfl 2 rfl ?_
      obtain ⟨a2, ha3, h⟩ := h
      obtain ⟨hk4, h⟩ := h
      obtain ⟨hc5, h⟩ := h
      refine y_iald (r := (mR M 324 h0)) hX dX5_leastActive_19 ha3 hk4 hc5 ?_
      obtain ⟨h1, h2⟩ := h
      refine z_if_ne (tgt := 34) hX dX5_leastActive_20 (by decide) (fun hc => ?_) (fun hc => ?_)
      · have h := h1 hc
        exact zb_X5_leastActive_34 hX hQ hnL hR6 h
      · have h := h2 hc
        refine z_lload_n hX dX5_leastActive_23 rfl 1 rfl ?_
        refine z_aload_n (r := (some h0)) hX dX5_leastActive_24 rfl 0 rfl ?_
        refine gf_RX5_29 (r := (some h0)) hX dX5_leastActive_25 rfl hk1 ?_
        refine z_iload_n hX dX5_leastActive_28 rfl 2 rfl ?_
        obtain ⟨a6, ha7, h⟩ := h
        obtain ⟨hk8, h⟩ := h
        obtain ⟨hc9, h⟩ := h
        refine y_lald (r := (mR M 325 h0)) hX dX5_leastActive_29 ha7 hk8 hc9 ?_
        refine mw_RX5_44 hX dX5_leastActive_30 (by decide) (by decide) (by decide) (by decide) ?_
        refine z_lstore_n hX [(1, .long (if (aJ M a6 (l3).toNatClampNeg) < l1 then (aJ M a6 (l3).toNatClampNeg) else l1)), (0, va_rf (some h0)), (3, .int l3)] dX5_leastActive_33 rfl (by rw [hnL]; decide) rfl ?_
        refine z_loc [1, 0, 2] rfl ?_
        exact zb_X5_leastActive_34 hX hQ hnL hR6 h
def wp_X5_leastActive (M : Mm) (h0 : Nat) (K : Int64 → Mm → Prop) : Prop := (∃ kk, lp_X5_leastActive_6 h0 K kk (9000000000000000000 : Int64) (0 : Int32) M)
set_option maxRecDepth 100000 in
set_option maxHeartbeats 4000000 in
theorem ct_X5_leastActive {M : Mm} {h0 : Nat} {K : Int64 → Mm → Prop} (h : wp_X5_leastActive M h0 K) : CtJ yX5_leastActive cX5_leastActive 4 (some .long) rm_X5_leastActive [.ref h0] M K := by
  refine ct_any (QJ K) (by decide) (by exact Nat.le_of_ble_eq_true rfl) (fun X hX hQ hnL hnm => ?_)
  rw [show lv_args 0 [.ref h0] = [(0, va_rf (some h0))] by rfl]
  have hX : Ok X cX5_leastActive RX5 rm_X5_leastActive := hX
  unfold wp_X5_leastActive at h
  refine z_ldc2 (v := (9000000000000000000 : Int64)) hX dX5_leastActive_0 kj_RX5_42 ?_
  refine z_lstore_n hX [(1, .long (9000000000000000000 : Int64)), (0, va_rf (some h0))] dX5_leastActive_3 rfl (by rw [hnL]; decide) rfl ?_
  refine z_iconst (v := (0 : Int32)) hX dX5_leastActive_4 (by decide) ?_
  refine z_istore_n hX [(3, .int (0 : Int32)), (1, .long (9000000000000000000 : Int64)), (0, va_rf (some h0))] dX5_leastActive_5 rfl (by rw [hnL]; decide) rfl ?_
  refine z_loc [2, 1, 0] rfl ?_
  obtain ⟨n, h⟩ := h
  exact zl_X5_leastActive_6 hX hQ hnL n _ _ _ h
def rm_X5_goal : Room := { frames := 2, cells := 0, slots := 0, locals := 46 }
def bk_X5_goal_34 (h0 : Nat) (K : Int64 → Mm → Prop) (s0 : Int64) (M : Mm) : Prop := (K s0 M)
set_option maxRecDepth 100000 in
set_option maxHeartbeats 4000000 in
theorem zb_X5_goal_34 {X : Cx} {h0 : Nat} {K : Int64 → Mm → Prop} (hX : Ok X cX5_goal RX5 rm_X5_goal) (hQ : Rq X rm_X5_goal (some .long) (QJ K)) (hnL : X.2.2.2.2.2.2.2.2.2.2.2.2.2.2 = 1) {s0 : Int64} {M : Mm} (h : bk_X5_goal_34 h0 K s0 M) : Z X M 0 0 34 [] [.long s0] := by
  unfold bk_X5_goal_34 at h
  exact z_lret hX hQ dX5_goal_34 h
def wp_X5_goal (M : Mm) (h0 : Nat) (K : Int64 → Mm → Prop) : Prop := mK M h0 = 6 ∧ (wp_X5_countIn M h0 (0 : Int32) (fun r1 M2 => ((r1 ≤ 0 → mK M2 h0 = 6 ∧ (wp_X5_countIn M2 h0 (2 : Int32) (fun r5 M6 => mK M6 h0 = 6 ∧ ((¬ r5 = (mI M6 320 h0) → (bk_X5_goal_34 h0 K (-9000000000000000001 : Int64) M6)) ∧ (r5 = (mI M6 320 h0) → (bk_X5_goal_34 h0 K (9000000000000000000 : Int64) M6)))))) ∧ (¬ r1 ≤ 0 → mK M2 h0 = 6 ∧ (wp_X5_leastActive M2 h0 (fun r10 M11 => (K r10 M11)))))))
set_option maxRecDepth 100000 in
set_option maxHeartbeats 4000000 in
theorem ct_X5_goal {M : Mm} {h0 : Nat} {K : Int64 → Mm → Prop} (h : wp_X5_goal M h0 K) : CtJ yX5_goal cX5_goal 1 (some .long) rm_X5_goal [.ref h0] M K := by
  refine ct_any (QJ K) (by decide) (by exact Nat.le_of_ble_eq_true rfl) (fun X hX hQ hnL hnm => ?_)
  rw [show lv_args 0 [.ref h0] = [(0, va_rf (some h0))] by rfl]
  have hX : Ok X cX5_goal RX5 rm_X5_goal := hX
  unfold wp_X5_goal at h
  refine z_aload_n (r := (some h0)) hX dX5_goal_0 rfl 0 rfl ?_
  refine z_iconst (v := (0 : Int32)) hX dX5_goal_1 (by decide) ?_
  obtain ⟨hk3, h⟩ := h
  refine z_callVI (As := [.int (0 : Int32)]) (rest := []) (ci := 5) hX (ct_X5_countIn h) mw_RX5_50 rfl (by decide) rfl (by rfl) (by unfold RoomC; decide) (by decide) dX5_goal_2 hk3 (fun r1 M2 h => ?_)
  obtain ⟨h1, h2⟩ := h
  refine z_if_le (tgt := 13) hX dX5_goal_5 (by decide) (fun hc => ?_) (fun hc => ?_)
  · have h := h1 hc
    refine z_aload_n (r := (some h0)) hX dX5_goal_13 rfl 0 rfl ?_
    refine z_iconst (v := (2 : Int32)) hX dX5_goal_14 (by decide) ?_
    obtain ⟨hk7, h⟩ := h
    refine z_callVI (As := [.int (2 : Int32)]) (rest := []) (ci := 5) hX (ct_X5_countIn h) mw_RX5_50 rfl (by decide) rfl (by rfl) (by unfold RoomC; decide) (by decide) dX5_goal_15 hk7 (fun r5 M6 h => ?_)
    refine z_aload_n (r := (some h0)) hX dX5_goal_18 rfl 0 rfl ?_
    obtain ⟨hk9, h⟩ := h
    refine gf_RX5_9 (r := (some h0)) hX dX5_goal_19 rfl hk9 ?_
    obtain ⟨h1, h2⟩ := h
    refine z_icmp_ne (tgt := 31) hX dX5_goal_22 (by decide) (fun hc => ?_) (fun hc => ?_)
    · have h := h1 hc
      refine z_ldc2 (v := (-9000000000000000001 : Int64)) hX dX5_goal_31 kj_RX5_58 ?_
      refine z_loc [] rfl ?_
      exact zb_X5_goal_34 hX hQ hnL h
    · have h := h2 hc
      refine z_ldc2 (v := (9000000000000000000 : Int64)) hX dX5_goal_25 kj_RX5_42 ?_
      refine z_goto (tgt := 34) hX dX5_goal_28 (by decide) ?_
      refine z_loc [] rfl ?_
      exact zb_X5_goal_34 hX hQ hnL h
  · have h := h2 hc
    refine z_aload_n (r := (some h0)) hX dX5_goal_8 rfl 0 rfl ?_
    obtain ⟨hk12, h⟩ := h
    refine z_callVJ (As := []) (rest := []) (ci := 5) hX (ct_X5_leastActive h) mw_RX5_54 rfl (by decide) rfl (by rfl) (by unfold RoomC; decide) (by decide) dX5_goal_9 hk12 (fun r10 M11 h => ?_)
    exact z_lret hX hQ dX5_goal_12 h
def rm_X5_isSilent : Room := { frames := 0, cells := 0, slots := 0, locals := 0 }
def bk_X5_isSilent_36 (h0 : Nat) (K : Int32 → Mm → Prop) (s0 : Int32) (M : Mm) : Prop := (bz s0 ∧ K s0 M)
set_option maxRecDepth 100000 in
set_option maxHeartbeats 4000000 in
theorem zb_X5_isSilent_36 {X : Cx} {h0 : Nat} {K : Int32 → Mm → Prop} (hX : Ok X cX5_isSilent RX5 rm_X5_isSilent) (hQ : Rq X rm_X5_isSilent (some .boolean) (QI K)) (hnL : X.2.2.2.2.2.2.2.2.2.2.2.2.2.2 = 3) {s0 : Int32} {M : Mm} (h : bk_X5_isSilent_36 h0 K s0 M) : Z X M 0 0 36 [] [.int s0] := by
  unfold bk_X5_isSilent_36 at h
  exact y_zret hX hQ dX5_isSilent_36 h.1 h.2
def bk_X5_isSilent_35 (h0 : Nat) (K : Int32 → Mm → Prop) (M : Mm) : Prop := (bk_X5_isSilent_36 h0 K (0 : Int32) M)
set_option maxRecDepth 100000 in
set_option maxHeartbeats 4000000 in
theorem zb_X5_isSilent_35 {X : Cx} {h0 : Nat} {K : Int32 → Mm → Prop} (hX : Ok X cX5_isSilent RX5 rm_X5_isSilent) (hQ : Rq X rm_X5_isSilent (some .boolean) (QI K)) (hnL : X.2.2.2.2.2.2.2.2.2.2.2.2.2.2 = 3) {M : Mm} (h : bk_X5_isSilent_35 h0 K M) : Z X M 0 0 35 [] [] := by
  unfold bk_X5_isSilent_35 at h
  refine z_iconst (v := (0 : Int32)) hX dX5_isSilent_35 (by decide) ?_
  exact zb_X5_isSilent_36 hX hQ hnL h
def wp_X5_isSilent (M : Mm) (h0 : Nat) (p1 : Int32) (p2 : Int32) (K : Int32 → Mm → Prop) : Prop := mK M h0 = 6 ∧ (((mI M 322 h0) = 0 → (bk_X5_isSilent_35 h0 K M)) ∧ (¬ (mI M 322 h0) = 0 → ∃ a2, (mR M 324 h0) = some a2 ∧ isA M a2 1 ∧ vp_in p1 (aN M a2) ∧ ((¬ (aI M a2 (p1).toNatClampNeg) = 0 → (bk_X5_isSilent_35 h0 K M)) ∧ ((aI M a2 (p1).toNatClampNeg) = 0 → ∃ a6, (mR M 326 h0) = some a6 ∧ isA M a6 1 ∧ vp_in p1 (aN M a6) ∧ (((p2 - (aI M a6 (p1).toNatClampNeg)) < (mI M 322 h0) → (bk_X5_isSilent_35 h0 K M)) ∧ (¬ (p2 - (aI M a6 (p1).toNatClampNeg)) < (mI M 322 h0) → (bk_X5_isSilent_36 h0 K (1 : Int32) M)))))))
set_option maxRecDepth 100000 in
set_option maxHeartbeats 4000000 in
theorem ct_X5_isSilent {M : Mm} {h0 : Nat} {p1 : Int32} {p2 : Int32} {K : Int32 → Mm → Prop} (h : wp_X5_isSilent M h0 p1 p2 K) : CtI yX5_isSilent cX5_isSilent 3 (some .boolean) rm_X5_isSilent [.ref h0, .int p1, .int p2] M K := by
  refine ct_any (QI K) (by decide) (by exact Nat.le_of_ble_eq_true rfl) (fun X hX hQ hnL hnm => ?_)
  rw [show lv_args 0 [.ref h0, .int p1, .int p2] = [(0, va_rf (some h0)), (1, .int p1), (2, .int p2)] by rfl]
  have hX : Ok X cX5_isSilent RX5 rm_X5_isSilent := hX
  unfold wp_X5_isSilent at h
  refine z_aload_n (r := (some h0)) hX dX5_isSilent_0 rfl 0 rfl ?_
  obtain ⟨hk1, h⟩ := h
  refine gf_RX5_19 (r := (some h0)) hX dX5_isSilent_1 rfl hk1 ?_
  obtain ⟨h1, h2⟩ := h
  refine z_if_eq (tgt := 35) hX dX5_isSilent_4 (by decide) (fun hc => ?_) (fun hc => ?_)
  · have h := h1 hc
    refine z_loc [] rfl ?_
    exact zb_X5_isSilent_35 hX hQ hnL h
  · have h := h2 hc
    refine z_aload_n (r := (some h0)) hX dX5_isSilent_7 rfl 0 rfl ?_
    refine gf_RX5_25 (r := (some h0)) hX dX5_isSilent_8 rfl hk1 ?_
    refine z_iload_n hX dX5_isSilent_11 rfl 1 rfl ?_
    obtain ⟨a2, ha3, h⟩ := h
    obtain ⟨hk4, h⟩ := h
    obtain ⟨hc5, h⟩ := h
    refine y_iald (r := (mR M 324 h0)) hX dX5_isSilent_12 ha3 hk4 hc5 ?_
    obtain ⟨h1, h2⟩ := h
    refine z_if_ne (tgt := 35) hX dX5_isSilent_13 (by decide) (fun hc => ?_) (fun hc => ?_)
    · have h := h1 hc
      refine z_loc [] rfl ?_
      exact zb_X5_isSilent_35 hX hQ hnL h
    · have h := h2 hc
      refine z_iload_n hX dX5_isSilent_16 rfl 2 rfl ?_
      refine z_aload_n (r := (some h0)) hX dX5_isSilent_17 rfl 0 rfl ?_
      refine gf_RX5_33 (r := (some h0)) hX dX5_isSilent_18 rfl hk1 ?_
      refine z_iload_n hX dX5_isSilent_21 rfl 1 rfl ?_
      obtain ⟨a6, ha7, h⟩ := h
      obtain ⟨hk8, h⟩ := h
      obtain ⟨hc9, h⟩ := h
      refine y_iald (r := (mR M 326 h0)) hX dX5_isSilent_22 ha7 hk8 hc9 ?_
      refine z_isub hX dX5_isSilent_23 ?_
      refine z_aload_n (r := (some h0)) hX dX5_isSilent_24 rfl 0 rfl ?_
      refine gf_RX5_19 (r := (some h0)) hX dX5_isSilent_25 rfl hk1 ?_
      obtain ⟨h1, h2⟩ := h
      refine z_icmp_lt (tgt := 35) hX dX5_isSilent_28 (by decide) (fun hc => ?_) (fun hc => ?_)
      · have h := h1 hc
        refine z_loc [] rfl ?_
        exact zb_X5_isSilent_35 hX hQ hnL h
      · have h := h2 hc
        refine z_iconst (v := (1 : Int32)) hX dX5_isSilent_31 (by decide) ?_
        refine z_goto (tgt := 36) hX dX5_isSilent_32 (by decide) ?_
        refine z_loc [] rfl ?_
        exact zb_X5_isSilent_36 hX hQ hnL h
def rm_X6_init : Room := { frames := 1, cells := 1, slots := 4, locals := 20 }
def wp_X6_init (M : Mm) (h0 : Nat) (p1 : Int32) (p2 : Int64) (p3 : Int64) (K : Mm → Prop) : Prop := mK M h0 = 7 ∧ (∀ q5, mK (sJ (sJ (sI M 384 h0 p1) 385 h0 p2) 386 h0 p3) q5 = 0 → mK (na (sJ (sJ (sI M 384 h0 p1) 385 h0 p2) 386 h0 p3) q5 68 4) h0 = 7 ∧ (K (sJ (sR (na (sJ (sJ (sI M 384 h0 p1) 385 h0 p2) 386 h0 p3) q5 68 4) 387 h0 (some q5)) 390 h0 (-9000000000000000000 : Int64))))
set_option maxRecDepth 100000 in
set_option maxHeartbeats 4000000 in
theorem ct_X6_init {M : Mm} {h0 : Nat} {p1 : Int32} {p2 : Int64} {p3 : Int64} {K : Mm → Prop} (h : wp_X6_init M h0 p1 p2 p3 K) : CtV yX6_init cX6_init 6 none rm_X6_init [.ref h0, .int p1, .long p2, .long p3] M K := by
  refine ct_any (QV K) (by decide) (by exact Nat.le_of_ble_eq_true rfl) (fun X hX hQ hnL hnm => ?_)
  rw [show lv_args 0 [.ref h0, .int p1, .long p2, .long p3] = [(0, va_rf (some h0)), (1, .int p1), (2, .long p2), (4, .long p3)] by rfl]
  have hX : Ok X cX6_init RX6 rm_X6_init := hX
  unfold wp_X6_init at h
  refine z_aload_n (r := (some h0)) hX dX6_init_0 rfl 0 rfl ?_
  refine mw_RX6_3 (a := h0) hX dX6_init_1 (by decide) (by decide) ?_
  refine z_aload_n (r := (some h0)) hX dX6_init_4 rfl 0 rfl ?_
  refine z_iload_n hX dX6_init_5 rfl 1 rfl ?_
  obtain ⟨hk1, h⟩ := h
  refine pf_RX6_9 (r := (some h0)) (v := p1) hX hnm dX6_init_6 rfl hk1 ?_
  refine z_aload_n (r := (some h0)) hX dX6_init_9 rfl 0 rfl ?_
  refine z_lload_n hX dX6_init_10 rfl 2 rfl ?_
  refine pf_RX6_15 (r := (some h0)) (v := p2) hX hnm dX6_init_11 rfl hk1 ?_
  refine z_aload_n (r := (some h0)) hX dX6_init_14 rfl 0 rfl ?_
  refine z_lload hX dX6_init_15 3 rfl ?_
  refine pf_RX6_19 (r := (some h0)) (v := p3) hX hnm dX6_init_17 rfl hk1 ?_
  refine z_aload_n (r := (some h0)) hX dX6_init_20 rfl 0 rfl ?_
  refine z_iconst (v := (4 : Int32)) hX dX6_init_21 (by decide) ?_
  refine z_newq (n := 4) (kd := 68) hX (wjU_mem (by decide +kernel) rfl) (by decide) (by decide) (by decide) (by decide) (by decide) dX6_init_22 (by decide) (by decide) (fun q5 hq6 => ?_)
  have h := h q5 hq6
  obtain ⟨hk8, h⟩ := h
  refine pf_RX6_22 (r := (some h0)) (v := (some q5)) hX hnm dX6_init_25 rfl hk8 ?_
  refine z_aload_n (r := (some h0)) hX dX6_init_28 rfl 0 rfl ?_
  refine z_ldc2 (v := (-9000000000000000000 : Int64)) hX dX6_init_29 kj_RX6_26 ?_
  refine pf_RX6_28 (r := (some h0)) (v := (-9000000000000000000 : Int64)) hX dX6_init_32 rfl hk8 ?_
  refine z_widen 1 4 (by decide) (by decide) ?_
  exact z_vret hX hQ dX6_init_35 h
def rm_X6_addInput : Room := { frames := 0, cells := 0, slots := 0, locals := 0 }
def bk_X6_addInput_32 (h0 : Nat) (K : Mm → Prop) (M : Mm) : Prop := (K M)
set_option maxRecDepth 100000 in
set_option maxHeartbeats 4000000 in
theorem zb_X6_addInput_32 {X : Cx} {h0 : Nat} {K : Mm → Prop} (hX : Ok X cX6_addInput RX6 rm_X6_addInput) (hQ : Rq X rm_X6_addInput none (QV K)) (hnL : X.2.2.2.2.2.2.2.2.2.2.2.2.2.2 = 2) {M : Mm} (h : bk_X6_addInput_32 h0 K M) : Z X M 0 0 32 [] [] := by
  unfold bk_X6_addInput_32 at h
  exact z_vret hX hQ dX6_addInput_32 h
def wp_X6_addInput (M : Mm) (h0 : Nat) (p1 : Option Nat) (K : Mm → Prop) : Prop := mK M h0 = 7 ∧ ∃ a2, (mR M 387 h0) = some a2 ∧ isA M a2 4 ∧ (((nI (aN M a2)) ≤ (mI M 388 h0) → (bk_X6_addInput_32 h0 K M)) ∧ (¬ (nI (aN M a2)) ≤ (mI M 388 h0) → ∃ a5, p1 = some a5 ∧ mK M a5 = 7 ∧ vp_in (mI M 388 h0) (aN M a2) ∧ (bk_X6_addInput_32 h0 K (sI (tR M a2 ((mI M 388 h0)).toNatClampNeg p1) 388 h0 ((mI (tR M a2 ((mI M 388 h0)).toNatClampNeg p1) 388 h0) + (1 : Int32))))))
set_option maxRecDepth 100000 in
set_option maxHeartbeats 4000000 in
theorem ct_X6_addInput {M : Mm} {h0 : Nat} {p1 : Option Nat} {K : Mm → Prop} (h : wp_X6_addInput M h0 p1 K) : CtV yX6_addInput cX6_addInput 2 none rm_X6_addInput [.ref h0, va_rf p1] M K := by
  refine ct_any (QV K) (by decide) (by cases p1 <;> exact Nat.le_of_ble_eq_true rfl) (fun X hX hQ hnL hnm => ?_)
  rw [show lv_args 0 [.ref h0, va_rf p1] = [(0, va_rf (some h0)), (1, va_rf p1)] by cases p1 <;> rfl]
  have hX : Ok X cX6_addInput RX6 rm_X6_addInput := hX
  unfold wp_X6_addInput at h
  refine z_aload_n (r := (some h0)) hX dX6_addInput_0 rfl 0 rfl ?_
  obtain ⟨hk1, h⟩ := h
  refine gf_RX6_31 (r := (some h0)) hX dX6_addInput_1 rfl hk1 ?_
  refine z_aload_n (r := (some h0)) hX dX6_addInput_4 rfl 0 rfl ?_
  refine gf_RX6_22 (r := (some h0)) hX dX6_addInput_5 rfl hk1 ?_
  obtain ⟨a2, ha3, h⟩ := h
  obtain ⟨hk4, h⟩ := h
  refine y_alen (r := (mR M 387 h0)) hX dX6_addInput_8 ha3 hk4 (by decide) ?_
  obtain ⟨h1, h2⟩ := h
  refine z_icmp_ge (tgt := 32) hX dX6_addInput_9 (by decide) (fun hc => ?_) (fun hc => ?_)
  · have h := h1 hc
    refine z_loc [] rfl ?_
    exact zb_X6_addInput_32 hX hQ hnL h
  · have h := h2 hc
    refine z_aload_n (r := (some h0)) hX dX6_addInput_12 rfl 0 rfl ?_
    refine gf_RX6_22 (r := (some h0)) hX dX6_addInput_13 rfl hk1 ?_
    refine z_aload_n (r := (some h0)) hX dX6_addInput_16 rfl 0 rfl ?_
    refine gf_RX6_31 (r := (some h0)) hX dX6_addInput_17 rfl hk1 ?_
    refine z_aload_n (r := p1) hX dX6_addInput_20 rfl 1 rfl ?_
    obtain ⟨a5, ha6, h⟩ := h
    obtain ⟨hk7, h⟩ := h
    obtain ⟨hc8, h⟩ := h
    refine y_astq (r := (mR M 387 h0)) (rb := p1) hX dX6_addInput_21 ha3 hk4 ha6 hk7 hc8 ?_
    refine z_aload_n (r := (some h0)) hX dX6_addInput_22 rfl 0 rfl ?_
    refine z_dup hX dX6_addInput_23 (cat_rf _) ?_
    refine gf_RX6_31 (r := (some h0)) hX dX6_addInput_24 rfl hk1 ?_
    refine z_iconst (v := (1 : Int32)) hX dX6_addInput_27 (by decide) ?_
    refine z_iadd hX dX6_addInput_28 ?_
    refine pf_RX6_31 (r := (some h0)) (v := ((mI (tR M a2 ((mI M 388 h0)).toNatClampNeg p1) 388 h0) + (1 : Int32))) hX dX6_addInput_29 rfl hk1 ?_
    refine z_loc [] rfl ?_
    exact zb_X6_addInput_32 hX hQ hnL h
def rm_X6_leastOfInputs : Room := { frames := 1, cells := 0, slots := 0, locals := 23 }
def bk_X6_leastOfInputs_84 (h0 : Nat) (K : Int64 → Mm → Prop) (s0 : Int64) (M : Mm) : Prop := (K s0 M)
set_option maxRecDepth 100000 in
set_option maxHeartbeats 4000000 in
theorem zb_X6_leastOfInputs_84 {X : Cx} {h0 : Nat} {K : Int64 → Mm → Prop} (hX : Ok X cX6_leastOfInputs RX6 rm_X6_leastOfInputs) (hQ : Rq X rm_X6_leastOfInputs (some .long) (QJ K)) (hnL : X.2.2.2.2.2.2.2.2.2.2.2.2.2.2 = 6) {s0 : Int64} {M : Mm} (h : bk_X6_leastOfInputs_84 h0 K s0 M) : Z X M 0 0 84 [] [.long s0] := by
  unfold bk_X6_leastOfInputs_84 at h
  exact z_lret hX hQ dX6_leastOfInputs_84 h
def bk_X6_leastOfInputs_77 (h0 : Nat) (K : Int64 → Mm → Prop) (l1 : Int64) (M : Mm) : Prop := (bk_X6_leastOfInputs_84 h0 K l1 M)
set_option maxRecDepth 100000 in
set_option maxHeartbeats 4000000 in
theorem zb_X6_leastOfInputs_77 {X : Cx} {h0 : Nat} {K : Int64 → Mm → Prop} (hX : Ok X cX6_leastOfInputs RX6 rm_X6_leastOfInputs) (hQ : Rq X rm_X6_leastOfInputs (some .long) (QJ K)) (hnL : X.2.2.2.2.2.2.2.2.2.2.2.2.2.2 = 6) {l1 : Int64} {M : Mm} (h : bk_X6_leastOfInputs_77 h0 K l1 M) : Z X M 0 0 77 [(1, .long l1)] [] := by
  unfold bk_X6_leastOfInputs_77 at h
  refine z_lload_n hX dX6_leastOfInputs_77 rfl 0 rfl ?_
  refine z_goto (tgt := 84) hX dX6_leastOfInputs_78 (by decide) ?_
  refine z_loc [] rfl ?_
  exact zb_X6_leastOfInputs_84 hX hQ hnL h
def bk_X6_leastOfInputs_59 (h0 : Nat) (R9 : Int64 → Int32 → Int32 → Mm → Prop) (K : Int64 → Mm → Prop) (l1 : Int64) (l3 : Int32) (l4 : Int32) (M : Mm) : Prop := (R9 l1 l3 (l4 + 1) M)
set_option maxRecDepth 100000 in
set_option maxHeartbeats 4000000 in
theorem zb_X6_leastOfInputs_59 {X : Cx} {h0 : Nat} {R9 : Int64 → Int32 → Int32 → Mm → Prop} {K : Int64 → Mm → Prop} (hX : Ok X cX6_leastOfInputs RX6 rm_X6_leastOfInputs) (hQ : Rq X rm_X6_leastOfInputs (some .long) (QJ K)) (hnL : X.2.2.2.2.2.2.2.2.2.2.2.2.2.2 = 6) (hR9 : ∀ l1 l3 l4 M, R9 l1 l3 l4 M → Z X M 0 0 9 [(0, va_rf (some h0)), (1, .long l1), (3, .int l3), (4, .int l4)] []) {l1 : Int64} {l3 : Int32} {l4 : Int32} {M : Mm} (h : bk_X6_leastOfInputs_59 h0 R9 K l1 l3 l4 M) : Z X M 0 0 59 [(0, va_rf (some h0)), (1, .long l1), (3, .int l3), (4, .int l4)] [] := by
  unfold bk_X6_leastOfInputs_59 at h
  refine z_iinc (v := (l4 + 1)) hX [(4, .int (l4 + 1)), (0, va_rf (some h0)), (1, .long l1), (3, .int l3)] dX6_leastOfInputs_59 3 rfl rfl (by rw [hnL]; decide) rfl ?_
  refine z_goto (tgt := 9) hX dX6_leastOfInputs_62 (by decide) ?_
  refine z_loc [1, 2, 3, 0] rfl ?_
  exact hR9 _ _ _ _ h
def lp_X6_leastOfInputs_9 (h0 : Nat) (K : Int64 → Mm → Prop) : Nat → Int64 → Int32 → Int32 → Mm → Prop
  | 0, _, _, _, _ => False
  | n + 1, l1, l3, l4, M => mK M h0 = 7 ∧ (((mI M 388 h0) ≤ l4 → ((¬ l1 = (9000000000000000000 : Int64) → (bk_X6_leastOfInputs_77 h0 K l1 M)) ∧ (l1 = (9000000000000000000 : Int64) → ((l3 = 0 → (bk_X6_leastOfInputs_84 h0 K (-9000000000000000001 : Int64) M)) ∧ (¬ l3 = 0 → (bk_X6_leastOfInputs_77 h0 K l1 M)))))) ∧ (¬ (mI M 388 h0) ≤ l4 → ∃ a2, (mR M 387 h0) = some a2 ∧ isA M a2 4 ∧ vp_in l4 (aN M a2) ∧ ∃ a6, (aR M a2 (l4).toNatClampNeg) = some a6 ∧ mK M a6 = 7 ∧ (((mJ M 390 a6) = (9000000000000000000 : Int64) → (bk_X6_leastOfInputs_59 h0 (lp_X6_leastOfInputs_9 h0 K n) K l1 l3 l4 M)) ∧ (¬ (mJ M 390 a6) = (9000000000000000000 : Int64) → ((¬ (mI M 391 a6) = 0 → (bk_X6_leastOfInputs_59 h0 (lp_X6_leastOfInputs_9 h0 K n) K l1 (0 : Int32) l4 M)) ∧ ((mI M 391 a6) = 0 → (bk_X6_leastOfInputs_59 h0 (lp_X6_leastOfInputs_9 h0 K n) K (if (mJ M 390 a6) < l1 then (mJ M 390 a6) else l1) (0 : Int32) l4 M)))))))
set_option maxRecDepth 100000 in
set_option maxHeartbeats 4000000 in
theorem zl_X6_leastOfInputs_9 {X : Cx} {h0 : Nat} {K : Int64 → Mm → Prop} (hX : Ok X cX6_leastOfInputs RX6 rm_X6_leastOfInputs) (hQ : Rq X rm_X6_leastOfInputs (some .long) (QJ K)) (hnL : X.2.2.2.2.2.2.2.2.2.2.2.2.2.2 = 6) : ∀ (n : Nat) (l1 : Int64) (l3 : Int32) (l4 : Int32) (M : Mm), lp_X6_leastOfInputs_9 h0 K n l1 l3 l4 M → Z X M 0 0 9 [(0, va_rf (some h0)), (1, .long l1), (3, .int l3), (4, .int l4)] [] := by
  intro n
  induction n with
  | zero =>
    intro l1 l3 l4 M h
    exact False.elim h
  | succ n hR9 =>
    intro l1 l3 l4 M h
    refine z_iload hX dX6_leastOfInputs_9 3 rfl ?_
    refine z_aload_n (r := (some h0)) hX dX6_leastOfInputs_11 rfl 0 rfl ?_
    obtain ⟨hk1, h⟩ := h
    refine gf_RX6_31 (r := (some h0)) hX dX6_leastOfInputs_12 rfl hk1 ?_
    obtain ⟨h1, h2⟩ := h
    refine z_icmp_ge (tgt := 65) hX dX6_leastOfInputs_15 (by decide) (fun hc => ?_) (fun hc => ?_)
    · have h := h1 hc
      refine z_lload_n hX dX6_leastOfInputs_65 rfl 1 rfl ?_
      refine z_ldc2 (v := (9000000000000000000 : Int64)) hX dX6_leastOfInputs_66 kj_RX6_34 ?_
      refine z_lcmp hX dX6_leastOfInputs_69 ?_
      obtain ⟨h1, h2⟩ := h
      refine z_if_ne (tgt := 77) hX dX6_leastOfInputs_70 (by decide) (fun hc => ?_) (fun hc => ?_)
      · have h := h1 (fun q => hc ((lg_cmp_eq _ _).mpr q))
        refine z_loc [1] rfl ?_
        exact zb_X6_leastOfInputs_77 hX hQ hnL h
      · have h := h2 ((lg_cmp_eq _ _).mp hc)
        refine z_iload_n hX dX6_leastOfInputs_73 rfl 2 rfl ?_
        obtain ⟨h1, h2⟩ := h
        refine z_if_eq (tgt := 81) hX dX6_leastOfInputs_74 (by decide) (fun hc => ?_) (fun hc => ?_)
        · have h := h1 hc
          refine z_ldc2 (v := (-9000000000000000001 : Int64)) hX dX6_leastOfInputs_81 kj_RX6_46 ?_
          refine z_loc [] rfl ?_
          exact zb_X6_leastOfInputs_84 hX hQ hnL h
        · have h := h2 hc
          refine z_loc [1] rfl ?_
          exact zb_X6_leastOfInputs_77 hX hQ hnL h
    · have h := h2 hc
      refine z_aload_n (r := (some h0)) hX dX6_leastOfInputs_18 rfl 0 rfl ?_
      refine gf_RX6_22 (r := (some h0)) hX dX6_leastOfInputs_19 rfl hk1 ?_
      refine z_iload hX dX6_leastOfInputs_22 3 rfl ?_
      obtain ⟨a2, ha3, h⟩ := h
      obtain ⟨hk4, h⟩ := h
      obtain ⟨hc5, h⟩ := h
      refine y_aldq (r := (mR M 387 h0)) hX dX6_leastOfInputs_24 ha3 hk4 hc5 ?_
      refine z_astore (r := (aR M a2 (l4).toNatClampNeg)) hX [(5, va_rf (aR M a2 (l4).toNatClampNeg)), (0, va_rf (some h0)), (1, .long l1), (3, .int l3), (4, .int l4)] dX6_leastOfInputs_25 (by rw [hnL]; decide) rfl ?_
      refine z_aload (r := (aR M a2 (l4).toNatClampNeg)) hX dX6_leastOfInputs_27 0 rfl ?_
      obtain ⟨a6, ha7, h⟩ := h
      obtain ⟨hk8, h⟩ := h
      refine gf_RX6_28 (r := (aR M a2 (l4).toNatClampNeg)) hX dX6_leastOfInputs_29 ha7 hk8 ?_
      refine z_ldc2 (v := (9000000000000000000 : Int64)) hX dX6_leastOfInputs_32 kj_RX6_34 ?_
      refine z_lcmp hX dX6_leastOfInputs_35 ?_
      obtain ⟨h1, h2⟩ := h
      refine z_if_eq (tgt := 59) hX dX6_leastOfInputs_36 (by decide) (fun hc => ?_) (fun hc => ?_)
      · have h := h1 ((lg_cmp_eq _ _).mp hc)
        refine z_loc [1, 2, 3, 4] rfl ?_
        exact zb_X6_leastOfInputs_59 hX hQ hnL hR9 h
      · have h := h2 (fun q => hc ((lg_cmp_eq _ _).mpr q))
        refine z_iconst (v := (0 : Int32)) hX dX6_leastOfInputs_39 (by decide) ?_
        refine z_istore_n hX [(3, .int (0 : Int32)), (5, va_rf (aR M a2 (l4).toNatClampNeg)), (0, va_rf (some h0)), (1, .long l1), (4, .int l4)] dX6_leastOfInputs_40 rfl (by rw [hnL]; decide) rfl ?_
        refine z_aload (r := (aR M a2 (l4).toNatClampNeg)) hX dX6_leastOfInputs_41 1 rfl ?_
        refine gf_RX6_36 (r := (aR M a2 (l4).toNatClampNeg)) hX dX6_leastOfInputs_43 ha7 hk8 ?_
        obtain ⟨h1, h2⟩ := h
        refine z_if_ne (tgt := 59) hX dX6_leastOfInputs_46 (by decide) (fun hc => ?_) (fun hc => ?_)
        · have h := h1 hc
          refine z_loc [2, 3, 0, 4] rfl ?_
          exact zb_X6_leastOfInputs_59 hX hQ hnL hR9 h
        · have h := h2 hc
          refine z_lload_n hX dX6_leastOfInputs_49 rfl 3 rfl ?_
          refine z_aload (r := (aR M a2 (l4).toNatClampNeg)) hX dX6_leastOfInputs_50 1 rfl ?_
          refine gf_RX6_28 (r := (aR M a2 (l4).toNatClampNeg)) hX dX6_leastOfInputs_52 ha7 hk8 ?_
          refine mw_RX6_40 hX dX6_leastOfInputs_55 (by decide) (by decide) (by decide) (by decide) ?_
          refine z_lstore_n hX [(1, .long (if (mJ M 390 a6) < l1 then (mJ M 390 a6) else l1)), (3, .int (0 : Int32)), (5, va_rf (aR M a2 (l4).toNatClampNeg)), (0, va_rf (some h0)), (4, .int l4)] dX6_leastOfInputs_58 rfl (by rw [hnL]; decide) rfl ?_
          refine z_loc [3, 0, 1, 4] rfl ?_
          exact zb_X6_leastOfInputs_59 hX hQ hnL hR9 h
def wp_X6_leastOfInputs (M : Mm) (h0 : Nat) (K : Int64 → Mm → Prop) : Prop := (∃ kk, lp_X6_leastOfInputs_9 h0 K kk (9000000000000000000 : Int64) (1 : Int32) (0 : Int32) M)
set_option maxRecDepth 100000 in
set_option maxHeartbeats 4000000 in
theorem ct_X6_leastOfInputs {M : Mm} {h0 : Nat} {K : Int64 → Mm → Prop} (h : wp_X6_leastOfInputs M h0 K) : CtJ yX6_leastOfInputs cX6_leastOfInputs 6 (some .long) rm_X6_leastOfInputs [.ref h0] M K := by
  refine ct_any (QJ K) (by decide) (by exact Nat.le_of_ble_eq_true rfl) (fun X hX hQ hnL hnm => ?_)
  rw [show lv_args 0 [.ref h0] = [(0, va_rf (some h0))] by rfl]
  have hX : Ok X cX6_leastOfInputs RX6 rm_X6_leastOfInputs := hX
  unfold wp_X6_leastOfInputs at h
  refine z_ldc2 (v := (9000000000000000000 : Int64)) hX dX6_leastOfInputs_0 kj_RX6_34 ?_
  refine z_lstore_n hX [(1, .long (9000000000000000000 : Int64)), (0, va_rf (some h0))] dX6_leastOfInputs_3 rfl (by rw [hnL]; decide) rfl ?_
  refine z_iconst (v := (1 : Int32)) hX dX6_leastOfInputs_4 (by decide) ?_
  refine z_istore_n hX [(3, .int (1 : Int32)), (1, .long (9000000000000000000 : Int64)), (0, va_rf (some h0))] dX6_leastOfInputs_5 rfl (by rw [hnL]; decide) rfl ?_
  refine z_iconst (v := (0 : Int32)) hX dX6_leastOfInputs_6 (by decide) ?_
  refine z_istore hX [(4, .int (0 : Int32)), (3, .int (1 : Int32)), (1, .long (9000000000000000000 : Int64)), (0, va_rf (some h0))] dX6_leastOfInputs_7 (by rw [hnL]; decide) rfl ?_
  refine z_loc [3, 2, 1, 0] rfl ?_
  obtain ⟨n, h⟩ := h
  exact zl_X6_leastOfInputs_9 hX hQ hnL n _ _ _ _ h
def rm_X6_write : Room := { frames := 3, cells := 0, slots := 0, locals := 70 }
def bk_X6_write_107 (h0 : Nat) (K : Mm → Prop) (l1 : Option Nat) (M : Mm) : Prop := ∃ a3, l1 = some a3 ∧ mK M a3 = 1 ∧ (wp_X0_add M a3 (10 : Int32) (fun M2 => (K M2)))
set_option maxRecDepth 100000 in
set_option maxHeartbeats 4000000 in
theorem zb_X6_write_107 {X : Cx} {h0 : Nat} {K : Mm → Prop} (hX : Ok X cX6_write RX6 rm_X6_write) (hQ : Rq X rm_X6_write none (QV K)) (hnL : X.2.2.2.2.2.2.2.2.2.2.2.2.2.2 = 3) {l1 : Option Nat} {M : Mm} (h : bk_X6_write_107 h0 K l1 M) : Z X M 0 0 107 [(1, va_rf l1)] [] := by
  unfold bk_X6_write_107 at h
  refine z_aload_n (r := l1) hX dX6_write_107 rfl 0 rfl ?_
  refine z_bipush (v := (10 : Int32)) hX dX6_write_108 (by decide) ?_
  obtain ⟨a3, ha4, h⟩ := h
  obtain ⟨hk5, h⟩ := h
  refine z_callVV (As := [.int (10 : Int32)]) (rest := []) (ci := 0) hX (ct_X0_add h) mw_RX6_54 rfl (by decide) rfl (by rw [ha4]; rfl) (by unfold RoomC; decide) (by decide) dX6_write_110 hk5 (fun M2 h => ?_)
  exact z_vret hX hQ dX6_write_113 h
def lp_X6_write_45 (h0 : Nat) (K : Mm → Prop) : Nat → Option Nat → Int32 → Mm → Prop
  | 0, _, _, _ => False
  | n + 1, l1, l2, M => mK M h0 = 7 ∧ (((mI M 388 h0) ≤ l2 → ∃ a10, l1 = some a10 ∧ mK M a10 = 1 ∧ (wp_X0_addTime M a10 (mJ M 390 h0) (fun M9 => mK M9 h0 = 7 ∧ (((mI M9 391 h0) = 0 → (bk_X6_write_107 h0 K l1 M9)) ∧ (¬ (mI M9 391 h0) = 0 → mK M9 a10 = 1 ∧ (wp_X0_add M9 a10 (32 : Int32) (fun M16 => mK M16 a10 = 1 ∧ (wp_X0_addWord M16 a10 (1768189029 : Int64) (fun M20 => (bk_X6_write_107 h0 K l1 M20)))))))))) ∧ (¬ (mI M 388 h0) ≤ l2 → ∃ a23, (mR M 387 h0) = some a23 ∧ isA M a23 4 ∧ vp_in l2 (aN M a23) ∧ ∃ a27, (aR M a23 (l2).toNatClampNeg) = some a27 ∧ mK M a27 = 7 ∧ ∃ a32, l1 = some a32 ∧ mK M a32 = 1 ∧ (wp_X0_addNumber M a32 (((mI M 384 a27)).toInt64) (fun M31 => mK M31 a32 = 1 ∧ (wp_X0_add M31 a32 (32 : Int32) (fun M37 => ((lp_X6_write_45 h0 K n) l1 (l2 + 1) M37)))))))
set_option maxRecDepth 100000 in
set_option maxHeartbeats 4000000 in
theorem zl_X6_write_45 {X : Cx} {h0 : Nat} {K : Mm → Prop} (hX : Ok X cX6_write RX6 rm_X6_write) (hQ : Rq X rm_X6_write none (QV K)) (hnL : X.2.2.2.2.2.2.2.2.2.2.2.2.2.2 = 3) : ∀ (n : Nat) (l1 : Option Nat) (l2 : Int32) (M : Mm), lp_X6_write_45 h0 K n l1 l2 M → Z X M 0 0 45 [(0, va_rf (some h0)), (1, va_rf l1), (2, .int l2)] [] := by
  intro n
  induction n with
  | zero =>
    intro l1 l2 M h
    exact False.elim h
  | succ n hR45 =>
    intro l1 l2 M h
    refine z_iload_n hX dX6_write_45 rfl 2 rfl ?_
    refine z_aload_n (r := (some h0)) hX dX6_write_46 rfl 0 rfl ?_
    obtain ⟨hk7, h⟩ := h
    refine gf_RX6_31 (r := (some h0)) hX dX6_write_47 rfl hk7 ?_
    obtain ⟨h1, h2⟩ := h
    refine z_icmp_ge (tgt := 79) hX dX6_write_50 (by decide) (fun hc => ?_) (fun hc => ?_)
    · have h := h1 hc
      refine z_aload_n (r := l1) hX dX6_write_79 rfl 1 rfl ?_
      refine z_aload_n (r := (some h0)) hX dX6_write_80 rfl 0 rfl ?_
      refine gf_RX6_28 (r := (some h0)) hX dX6_write_81 rfl hk7 ?_
      obtain ⟨a10, ha11, h⟩ := h
      obtain ⟨hk12, h⟩ := h
      refine z_callVV (As := [.long (mJ M 390 h0)]) (rest := []) (ci := 0) hX (ct_X0_addTime h) mw_RX6_61 rfl (by decide) rfl (by rw [ha11]; rfl) (by unfold RoomC; decide) (by decide) dX6_write_84 hk12 (fun M9 h => ?_)
      refine z_aload_n (r := (some h0)) hX dX6_write_87 rfl 0 rfl ?_
      obtain ⟨hk14, h⟩ := h
      refine gf_RX6_36 (r := (some h0)) hX dX6_write_88 rfl hk14 ?_
      obtain ⟨h1, h2⟩ := h
      refine z_if_eq (tgt := 107) hX dX6_write_91 (by decide) (fun hc => ?_) (fun hc => ?_)
      · have h := h1 hc
        refine z_loc [1] rfl ?_
        exact zb_X6_write_107 hX hQ hnL h
      · have h := h2 hc
        refine z_aload_n (r := l1) hX dX6_write_94 rfl 1 rfl ?_
        refine z_bipush (v := (32 : Int32)) hX dX6_write_95 (by decide) ?_
        obtain ⟨hk17, h⟩ := h
        refine z_callVV (As := [.int (32 : Int32)]) (rest := []) (ci := 0) hX (ct_X0_add h) mw_RX6_54 rfl (by decide) rfl (by rw [ha11]; rfl) (by unfold RoomC; decide) (by decide) dX6_write_97 hk17 (fun M16 h => ?_)
        refine z_aload_n (r := l1) hX dX6_write_100 rfl 1 rfl ?_
        refine z_ldc2 (v := (1768189029 : Int64)) hX dX6_write_101 kj_RX6_64 ?_
        obtain ⟨hk21, h⟩ := h
        refine z_callVV (As := [.long (1768189029 : Int64)]) (rest := []) (ci := 0) hX (ct_X0_addWord h) mw_RX6_58 rfl (by decide) rfl (by rw [ha11]; rfl) (by unfold RoomC; decide) (by decide) dX6_write_104 hk21 (fun M20 h => ?_)
        refine z_loc [1] rfl ?_
        exact zb_X6_write_107 hX hQ hnL h
    · have h := h2 hc
      refine z_aload_n (r := l1) hX dX6_write_53 rfl 1 rfl ?_
      refine z_aload_n (r := (some h0)) hX dX6_write_54 rfl 0 rfl ?_
      refine gf_RX6_22 (r := (some h0)) hX dX6_write_55 rfl hk7 ?_
      refine z_iload_n hX dX6_write_58 rfl 2 rfl ?_
      obtain ⟨a23, ha24, h⟩ := h
      obtain ⟨hk25, h⟩ := h
      obtain ⟨hc26, h⟩ := h
      refine y_aldq (r := (mR M 387 h0)) hX dX6_write_59 ha24 hk25 hc26 ?_
      obtain ⟨a27, ha28, h⟩ := h
      obtain ⟨hk29, h⟩ := h
      refine gf_RX6_9 (r := (aR M a23 (l2).toNatClampNeg)) hX dX6_write_60 ha28 hk29 ?_
      refine z_i2l hX dX6_write_63 ?_
      obtain ⟨a32, ha33, h⟩ := h
      obtain ⟨hk34, h⟩ := h
      refine z_callVV (As := [.long (((mI M 384 a27)).toInt64)]) (rest := []) (ci := 0) hX (ct_X0_addNumber h) mw_RX6_48 rfl (by decide) rfl (by rw [ha33]; rfl) (by unfold RoomC; decide) (by decide) dX6_write_64 hk34 (fun M31 h => ?_)
      refine z_aload_n (r := l1) hX dX6_write_67 rfl 1 rfl ?_
      refine z_bipush (v := (32 : Int32)) hX dX6_write_68 (by decide) ?_
      obtain ⟨hk38, h⟩ := h
      refine z_callVV (As := [.int (32 : Int32)]) (rest := []) (ci := 0) hX (ct_X0_add h) mw_RX6_54 rfl (by decide) rfl (by rw [ha33]; rfl) (by unfold RoomC; decide) (by decide) dX6_write_70 hk38 (fun M37 h => ?_)
      refine z_iinc (v := (l2 + 1)) hX [(2, .int (l2 + 1)), (0, va_rf (some h0)), (1, va_rf l1)] dX6_write_73 2 rfl rfl (by rw [hnL]; decide) (by simp [cat_rf]) ?_
      refine z_goto (tgt := 45) hX dX6_write_76 (by decide) ?_
      refine z_loc [1, 2, 0] rfl ?_
      exact hR45 _ _ _ h
def wp_X6_write (M : Mm) (h0 : Nat) (p1 : Option Nat) (K : Mm → Prop) : Prop := mK M h0 = 7 ∧ ∃ a43, p1 = some a43 ∧ mK M a43 = 1 ∧ (wp_X0_addNumber M a43 (((mI M 384 h0)).toInt64) (fun M42 => mK M42 a43 = 1 ∧ (wp_X0_add M42 a43 (32 : Int32) (fun M48 => mK M48 h0 = 7 ∧ mK M48 a43 = 1 ∧ (wp_X0_addWord M48 a43 (mJ M48 385 h0) (fun M53 => mK M53 a43 = 1 ∧ (wp_X0_add M53 a43 (32 : Int32) (fun M57 => mK M57 h0 = 7 ∧ mK M57 a43 = 1 ∧ (wp_X0_addWord M57 a43 (mJ M57 386 h0) (fun M62 => mK M62 a43 = 1 ∧ (wp_X0_add M62 a43 (32 : Int32) (fun M66 => (∃ kk, lp_X6_write_45 h0 K kk p1 (0 : Int32) M66)))))))))))))
set_option maxRecDepth 100000 in
set_option maxHeartbeats 4000000 in
theorem ct_X6_write {M : Mm} {h0 : Nat} {p1 : Option Nat} {K : Mm → Prop} (h : wp_X6_write M h0 p1 K) : CtV yX6_write cX6_write 3 none rm_X6_write [.ref h0, va_rf p1] M K := by
  refine ct_any (QV K) (by decide) (by cases p1 <;> exact Nat.le_of_ble_eq_true rfl) (fun X hX hQ hnL hnm => ?_)
  rw [show lv_args 0 [.ref h0, va_rf p1] = [(0, va_rf (some h0)), (1, va_rf p1)] by cases p1 <;> rfl]
  have hX : Ok X cX6_write RX6 rm_X6_write := hX
  unfold wp_X6_write at h
  refine z_aload_n (r := p1) hX dX6_write_0 rfl 1 rfl ?_
  refine z_aload_n (r := (some h0)) hX dX6_write_1 rfl 0 rfl ?_
  obtain ⟨hk40, h⟩ := h
  refine gf_RX6_9 (r := (some h0)) hX dX6_write_2 rfl hk40 ?_
  refine z_i2l hX dX6_write_5 ?_
  obtain ⟨a43, ha44, h⟩ := h
  obtain ⟨hk45, h⟩ := h
  refine z_callVV (As := [.long (((mI M 384 h0)).toInt64)]) (rest := []) (ci := 0) hX (ct_X0_addNumber h) mw_RX6_48 rfl (by decide) rfl (by rw [ha44]; rfl) (by unfold RoomC; decide) (by decide) dX6_write_6 hk45 (fun M42 h => ?_)
  refine z_aload_n (r := p1) hX dX6_write_9 rfl 1 rfl ?_
  refine z_bipush (v := (32 : Int32)) hX dX6_write_10 (by decide) ?_
  obtain ⟨hk49, h⟩ := h
  refine z_callVV (As := [.int (32 : Int32)]) (rest := []) (ci := 0) hX (ct_X0_add h) mw_RX6_54 rfl (by decide) rfl (by rw [ha44]; rfl) (by unfold RoomC; decide) (by decide) dX6_write_12 hk49 (fun M48 h => ?_)
  refine z_aload_n (r := p1) hX dX6_write_15 rfl 1 rfl ?_
  refine z_aload_n (r := (some h0)) hX dX6_write_16 rfl 0 rfl ?_
  obtain ⟨hk51, h⟩ := h
  refine gf_RX6_15 (r := (some h0)) hX dX6_write_17 rfl hk51 ?_
  obtain ⟨hk54, h⟩ := h
  refine z_callVV (As := [.long (mJ M48 385 h0)]) (rest := []) (ci := 0) hX (ct_X0_addWord h) mw_RX6_58 rfl (by decide) rfl (by rw [ha44]; rfl) (by unfold RoomC; decide) (by decide) dX6_write_20 hk54 (fun M53 h => ?_)
  refine z_aload_n (r := p1) hX dX6_write_23 rfl 1 rfl ?_
  refine z_bipush (v := (32 : Int32)) hX dX6_write_24 (by decide) ?_
  obtain ⟨hk58, h⟩ := h
  refine z_callVV (As := [.int (32 : Int32)]) (rest := []) (ci := 0) hX (ct_X0_add h) mw_RX6_54 rfl (by decide) rfl (by rw [ha44]; rfl) (by unfold RoomC; decide) (by decide) dX6_write_26 hk58 (fun M57 h => ?_)
  refine z_aload_n (r := p1) hX dX6_write_29 rfl 1 rfl ?_
  refine z_aload_n (r := (some h0)) hX dX6_write_30 rfl 0 rfl ?_
  obtain ⟨hk60, h⟩ := h
  refine gf_RX6_19 (r := (some h0)) hX dX6_write_31 rfl hk60 ?_
  obtain ⟨hk63, h⟩ := h
  refine z_callVV (As := [.long (mJ M57 386 h0)]) (rest := []) (ci := 0) hX (ct_X0_addWord h) mw_RX6_58 rfl (by decide) rfl (by rw [ha44]; rfl) (by unfold RoomC; decide) (by decide) dX6_write_34 hk63 (fun M62 h => ?_)
  refine z_aload_n (r := p1) hX dX6_write_37 rfl 1 rfl ?_
  refine z_bipush (v := (32 : Int32)) hX dX6_write_38 (by decide) ?_
  obtain ⟨hk67, h⟩ := h
  refine z_callVV (As := [.int (32 : Int32)]) (rest := []) (ci := 0) hX (ct_X0_add h) mw_RX6_54 rfl (by decide) rfl (by rw [ha44]; rfl) (by unfold RoomC; decide) (by decide) dX6_write_40 hk67 (fun M66 h => ?_)
  refine z_iconst (v := (0 : Int32)) hX dX6_write_43 (by decide) ?_
  refine z_istore_n (i := 2) hX [(2, .int (0 : Int32)), (0, va_rf (some h0)), (1, va_rf p1)] dX6_write_44 rfl (by rw [hnL]; decide) (by simp [cat_rf]) ?_
  refine z_loc [1, 2, 0] rfl ?_
  obtain ⟨n, h⟩ := h
  exact zl_X6_write_45 hX hQ hnL n _ _ _ h
def rm_X7_init : Room := { frames := 1, cells := 0, slots := 0, locals := 20 }
def wp_X7_init (M : Mm) (h0 : Nat) (p1 : Option Nat) (p2 : Option Nat) (K : Mm → Prop) : Prop := mK M h0 = 8 ∧ (K (sR (sR M 448 h0 p1) 449 h0 p2))
set_option maxRecDepth 100000 in
set_option maxHeartbeats 4000000 in
theorem ct_X7_init {M : Mm} {h0 : Nat} {p1 : Option Nat} {p2 : Option Nat} {K : Mm → Prop} (h : wp_X7_init M h0 p1 p2 K) : CtV yX7_init cX7_init 3 none rm_X7_init [.ref h0, va_rf p1, va_rf p2] M K := by
  refine ct_any (QV K) (by decide) (by cases p1 <;> cases p2 <;> exact Nat.le_of_ble_eq_true rfl) (fun X hX hQ hnL hnm => ?_)
  rw [show lv_args 0 [.ref h0, va_rf p1, va_rf p2] = [(0, va_rf (some h0)), (1, va_rf p1), (2, va_rf p2)] by cases p1 <;> cases p2 <;> rfl]
  have hX : Ok X cX7_init RX7 rm_X7_init := hX
  unfold wp_X7_init at h
  refine z_aload_n (r := (some h0)) hX dX7_init_0 rfl 0 rfl ?_
  refine mw_RX7_3 (a := h0) hX dX7_init_1 (by decide) (by decide) ?_
  refine z_aload_n (r := (some h0)) hX dX7_init_4 rfl 0 rfl ?_
  refine z_aload_n (r := p1) hX dX7_init_5 rfl 1 rfl ?_
  obtain ⟨hk1, h⟩ := h
  refine pf_RX7_9 (r := (some h0)) (v := p1) hX hnm dX7_init_6 rfl hk1 ?_
  refine z_aload_n (r := (some h0)) hX dX7_init_9 rfl 0 rfl ?_
  refine z_aload_n (r := p2) hX dX7_init_10 rfl 2 rfl ?_
  refine pf_RX7_15 (r := (some h0)) (v := p2) hX hnm dX7_init_11 rfl hk1 ?_
  exact z_vret hX hQ dX7_init_14 h
def rm_X7_isKeyword : Room := { frames := 0, cells := 0, slots := 0, locals := 0 }
def bk_X7_isKeyword_28 (h0 : Nat) (K : Int32 → Mm → Prop) (s0 : Int32) (M : Mm) : Prop := (bz s0 ∧ K s0 M)
set_option maxRecDepth 100000 in
set_option maxHeartbeats 4000000 in
theorem zb_X7_isKeyword_28 {X : Cx} {h0 : Nat} {K : Int32 → Mm → Prop} (hX : Ok X cX7_isKeyword RX7 rm_X7_isKeyword) (hQ : Rq X rm_X7_isKeyword (some .boolean) (QI K)) (hnL : X.2.2.2.2.2.2.2.2.2.2.2.2.2.2 = 3) {s0 : Int32} {M : Mm} (h : bk_X7_isKeyword_28 h0 K s0 M) : Z X M 0 0 28 [] [.int s0] := by
  unfold bk_X7_isKeyword_28 at h
  exact y_zret hX hQ dX7_isKeyword_28 h.1 h.2
def bk_X7_isKeyword_27 (h0 : Nat) (K : Int32 → Mm → Prop) (M : Mm) : Prop := (bk_X7_isKeyword_28 h0 K (0 : Int32) M)
set_option maxRecDepth 100000 in
set_option maxHeartbeats 4000000 in
theorem zb_X7_isKeyword_27 {X : Cx} {h0 : Nat} {K : Int32 → Mm → Prop} (hX : Ok X cX7_isKeyword RX7 rm_X7_isKeyword) (hQ : Rq X rm_X7_isKeyword (some .boolean) (QI K)) (hnL : X.2.2.2.2.2.2.2.2.2.2.2.2.2.2 = 3) {M : Mm} (h : bk_X7_isKeyword_27 h0 K M) : Z X M 0 0 27 [] [] := by
  unfold bk_X7_isKeyword_27 at h
  refine z_iconst (v := (0 : Int32)) hX dX7_isKeyword_27 (by decide) ?_
  exact zb_X7_isKeyword_28 hX hQ hnL h
def wp_X7_isKeyword (M : Mm) (h0 : Nat) (p1 : Int64) (K : Int32 → Mm → Prop) : Prop := mK M h0 = 8 ∧ ∃ a2, (mR M 448 h0) = some a2 ∧ mK M a2 = 5 ∧ ((¬ (mI M 258 a2) = (2 : Int32) → (bk_X7_isKeyword_27 h0 K M)) ∧ ((mI M 258 a2) = (2 : Int32) → ((¬ (mJ M 260 a2) = p1 → (bk_X7_isKeyword_27 h0 K M)) ∧ ((mJ M 260 a2) = p1 → (bk_X7_isKeyword_28 h0 K (1 : Int32) M)))))
set_option maxRecDepth 100000 in
set_option maxHeartbeats 4000000 in
theorem ct_X7_isKeyword {M : Mm} {h0 : Nat} {p1 : Int64} {K : Int32 → Mm → Prop} (h : wp_X7_isKeyword M h0 p1 K) : CtI yX7_isKeyword cX7_isKeyword 3 (some .boolean) rm_X7_isKeyword [.ref h0, .long p1] M K := by
  refine ct_any (QI K) (by decide) (by exact Nat.le_of_ble_eq_true rfl) (fun X hX hQ hnL hnm => ?_)
  rw [show lv_args 0 [.ref h0, .long p1] = [(0, va_rf (some h0)), (1, .long p1)] by rfl]
  have hX : Ok X cX7_isKeyword RX7 rm_X7_isKeyword := hX
  unfold wp_X7_isKeyword at h
  refine z_aload_n (r := (some h0)) hX dX7_isKeyword_0 rfl 0 rfl ?_
  obtain ⟨hk1, h⟩ := h
  refine gf_RX7_9 (r := (some h0)) hX dX7_isKeyword_1 rfl hk1 ?_
  obtain ⟨a2, ha3, h⟩ := h
  obtain ⟨hk4, h⟩ := h
  refine gf_RX7_24 (r := (mR M 448 h0)) hX dX7_isKeyword_4 ha3 hk4 ?_
  refine z_iconst (v := (2 : Int32)) hX dX7_isKeyword_7 (by decide) ?_
  obtain ⟨h1, h2⟩ := h
  refine z_icmp_ne (tgt := 27) hX dX7_isKeyword_8 (by decide) (fun hc => ?_) (fun hc => ?_)
  · have h := h1 hc
    refine z_loc [] rfl ?_
    exact zb_X7_isKeyword_27 hX hQ hnL h
  · have h := h2 hc
    refine z_aload_n (r := (some h0)) hX dX7_isKeyword_11 rfl 0 rfl ?_
    refine gf_RX7_9 (r := (some h0)) hX dX7_isKeyword_12 rfl hk1 ?_
    refine gf_RX7_81 (r := (mR M 448 h0)) hX dX7_isKeyword_15 ha3 hk4 ?_
    refine z_lload_n hX dX7_isKeyword_18 rfl 1 rfl ?_
    refine z_lcmp hX dX7_isKeyword_19 ?_
    obtain ⟨h1, h2⟩ := h
    refine z_if_ne (tgt := 27) hX dX7_isKeyword_20 (by decide) (fun hc => ?_) (fun hc => ?_)
    · have h := h1 (fun q => hc ((lg_cmp_eq _ _).mpr q))
      refine z_loc [] rfl ?_
      exact zb_X7_isKeyword_27 hX hQ hnL h
    · have h := h2 ((lg_cmp_eq _ _).mp hc)
      refine z_iconst (v := (1 : Int32)) hX dX7_isKeyword_23 (by decide) ?_
      refine z_goto (tgt := 28) hX dX7_isKeyword_24 (by decide) ?_
      refine z_loc [] rfl ?_
      exact zb_X7_isKeyword_28 hX hQ hnL h
def rm_X7_isSign : Room := { frames := 0, cells := 0, slots := 0, locals := 0 }
def bk_X7_isSign_29 (h0 : Nat) (K : Int32 → Mm → Prop) (s0 : Int32) (M : Mm) : Prop := (bz s0 ∧ K s0 M)
set_option maxRecDepth 100000 in
set_option maxHeartbeats 4000000 in
theorem zb_X7_isSign_29 {X : Cx} {h0 : Nat} {K : Int32 → Mm → Prop} (hX : Ok X cX7_isSign RX7 rm_X7_isSign) (hQ : Rq X rm_X7_isSign (some .boolean) (QI K)) (hnL : X.2.2.2.2.2.2.2.2.2.2.2.2.2.2 = 2) {s0 : Int32} {M : Mm} (h : bk_X7_isSign_29 h0 K s0 M) : Z X M 0 0 29 [] [.int s0] := by
  unfold bk_X7_isSign_29 at h
  exact y_zret hX hQ dX7_isSign_29 h.1 h.2
def bk_X7_isSign_28 (h0 : Nat) (K : Int32 → Mm → Prop) (M : Mm) : Prop := (bk_X7_isSign_29 h0 K (0 : Int32) M)
set_option maxRecDepth 100000 in
set_option maxHeartbeats 4000000 in
theorem zb_X7_isSign_28 {X : Cx} {h0 : Nat} {K : Int32 → Mm → Prop} (hX : Ok X cX7_isSign RX7 rm_X7_isSign) (hQ : Rq X rm_X7_isSign (some .boolean) (QI K)) (hnL : X.2.2.2.2.2.2.2.2.2.2.2.2.2.2 = 2) {M : Mm} (h : bk_X7_isSign_28 h0 K M) : Z X M 0 0 28 [] [] := by
  unfold bk_X7_isSign_28 at h
  refine z_iconst (v := (0 : Int32)) hX dX7_isSign_28 (by decide) ?_
  exact zb_X7_isSign_29 hX hQ hnL h
def wp_X7_isSign (M : Mm) (h0 : Nat) (p1 : Int32) (K : Int32 → Mm → Prop) : Prop := mK M h0 = 8 ∧ ∃ a2, (mR M 448 h0) = some a2 ∧ mK M a2 = 5 ∧ ((¬ (mI M 258 a2) = (5 : Int32) → (bk_X7_isSign_28 h0 K M)) ∧ ((mI M 258 a2) = (5 : Int32) → ((¬ (mJ M 260 a2) = ((p1).toInt64) → (bk_X7_isSign_28 h0 K M)) ∧ ((mJ M 260 a2) = ((p1).toInt64) → (bk_X7_isSign_29 h0 K (1 : Int32) M)))))
set_option maxRecDepth 100000 in
set_option maxHeartbeats 4000000 in
theorem ct_X7_isSign {M : Mm} {h0 : Nat} {p1 : Int32} {K : Int32 → Mm → Prop} (h : wp_X7_isSign M h0 p1 K) : CtI yX7_isSign cX7_isSign 2 (some .boolean) rm_X7_isSign [.ref h0, .int p1] M K := by
  refine ct_any (QI K) (by decide) (by exact Nat.le_of_ble_eq_true rfl) (fun X hX hQ hnL hnm => ?_)
  rw [show lv_args 0 [.ref h0, .int p1] = [(0, va_rf (some h0)), (1, .int p1)] by rfl]
  have hX : Ok X cX7_isSign RX7 rm_X7_isSign := hX
  unfold wp_X7_isSign at h
  refine z_aload_n (r := (some h0)) hX dX7_isSign_0 rfl 0 rfl ?_
  obtain ⟨hk1, h⟩ := h
  refine gf_RX7_9 (r := (some h0)) hX dX7_isSign_1 rfl hk1 ?_
  obtain ⟨a2, ha3, h⟩ := h
  obtain ⟨hk4, h⟩ := h
  refine gf_RX7_24 (r := (mR M 448 h0)) hX dX7_isSign_4 ha3 hk4 ?_
  refine z_iconst (v := (5 : Int32)) hX dX7_isSign_7 (by decide) ?_
  obtain ⟨h1, h2⟩ := h
  refine z_icmp_ne (tgt := 28) hX dX7_isSign_8 (by decide) (fun hc => ?_) (fun hc => ?_)
  · have h := h1 hc
    refine z_loc [] rfl ?_
    exact zb_X7_isSign_28 hX hQ hnL h
  · have h := h2 hc
    refine z_aload_n (r := (some h0)) hX dX7_isSign_11 rfl 0 rfl ?_
    refine gf_RX7_9 (r := (some h0)) hX dX7_isSign_12 rfl hk1 ?_
    refine gf_RX7_81 (r := (mR M 448 h0)) hX dX7_isSign_15 ha3 hk4 ?_
    refine z_iload_n hX dX7_isSign_18 rfl 1 rfl ?_
    refine z_i2l hX dX7_isSign_19 ?_
    refine z_lcmp hX dX7_isSign_20 ?_
    obtain ⟨h1, h2⟩ := h
    refine z_if_ne (tgt := 28) hX dX7_isSign_21 (by decide) (fun hc => ?_) (fun hc => ?_)
    · have h := h1 (fun q => hc ((lg_cmp_eq _ _).mpr q))
      refine z_loc [] rfl ?_
      exact zb_X7_isSign_28 hX hQ hnL h
    · have h := h2 ((lg_cmp_eq _ _).mp hc)
      refine z_iconst (v := (1 : Int32)) hX dX7_isSign_24 (by decide) ?_
      refine z_goto (tgt := 29) hX dX7_isSign_25 (by decide) ?_
      refine z_loc [] rfl ?_
      exact zb_X7_isSign_29 hX hQ hnL h
def rm_X7_refuse : Room := { frames := 0, cells := 0, slots := 0, locals := 0 }
def wp_X7_refuse (M : Mm) (h0 : Nat) (p1 : Int32) (K : Int32 → Mm → Prop) : Prop := mK M h0 = 8 ∧ ∃ a3, (mR (sI M 450 h0 p1) 448 h0) = some a3 ∧ mK (sI M 450 h0 p1) a3 = 5 ∧ (K (0 : Int32) (sI (sI M 450 h0 p1) 451 h0 (mI (sI M 450 h0 p1) 259 a3)))
set_option maxRecDepth 100000 in
set_option maxHeartbeats 4000000 in
theorem ct_X7_refuse {M : Mm} {h0 : Nat} {p1 : Int32} {K : Int32 → Mm → Prop} (h : wp_X7_refuse M h0 p1 K) : CtI yX7_refuse cX7_refuse 2 (some .boolean) rm_X7_refuse [.ref h0, .int p1] M K := by
  refine ct_any (QI K) (by decide) (by exact Nat.le_of_ble_eq_true rfl) (fun X hX hQ hnL hnm => ?_)
  rw [show lv_args 0 [.ref h0, .int p1] = [(0, va_rf (some h0)), (1, .int p1)] by rfl]
  have hX : Ok X cX7_refuse RX7 rm_X7_refuse := hX
  unfold wp_X7_refuse at h
  refine z_aload_n (r := (some h0)) hX dX7_refuse_0 rfl 0 rfl ?_
  refine z_iload_n hX dX7_refuse_1 rfl 1 rfl ?_
  obtain ⟨hk1, h⟩ := h
  refine pf_RX7_211 (r := (some h0)) (v := p1) hX dX7_refuse_2 rfl hk1 ?_
  refine z_aload_n (r := (some h0)) hX dX7_refuse_5 rfl 0 rfl ?_
  refine z_aload_n (r := (some h0)) hX dX7_refuse_6 rfl 0 rfl ?_
  refine gf_RX7_9 (r := (some h0)) hX dX7_refuse_7 rfl hk1 ?_
  obtain ⟨a3, ha4, h⟩ := h
  obtain ⟨hk5, h⟩ := h
  refine gf_RX7_214 (r := (mR (sI M 450 h0 p1) 448 h0)) hX dX7_refuse_10 ha4 hk5 ?_
  refine pf_RX7_217 (r := (some h0)) (v := (mI (sI M 450 h0 p1) 259 a3)) hX dX7_refuse_13 rfl hk1 ?_
  refine z_iconst (v := (0 : Int32)) hX dX7_refuse_16 (by decide) ?_
  exact y_zret hX hQ dX7_refuse_17 (Or.inl rfl) h
def rm_X8_init : Room := { frames := 1, cells := 3, slots := 180, locals := 20 }
def wp_X8_init (M : Mm) (h0 : Nat) (K : Mm → Prop) : Prop := (∀ q1, mK M q1 = 0 → mK (na M q1 73 60) h0 = 9 ∧ (∀ q6, mK (sR (na M q1 73 60) 512 h0 (some q1)) q6 = 0 → mK (na (sR (na M q1 73 60) 512 h0 (some q1)) q6 82 60) h0 = 9 ∧ (∀ q11, mK (sR (na (sR (na M q1 73 60) 512 h0 (some q1)) q6 82 60) 513 h0 (some q6)) q11 = 0 → mK (na (sR (na (sR (na M q1 73 60) 512 h0 (some q1)) q6 82 60) 513 h0 (some q6)) q11 91 60) h0 = 9 ∧ (K (sR (na (sR (na (sR (na M q1 73 60) 512 h0 (some q1)) q6 82 60) 513 h0 (some q6)) q11 91 60) 514 h0 (some q11))))))
set_option maxRecDepth 100000 in
set_option maxHeartbeats 4000000 in
theorem ct_X8_init {M : Mm} {h0 : Nat} {K : Mm → Prop} (h : wp_X8_init M h0 K) : CtV yX8_init cX8_init 1 none rm_X8_init [.ref h0] M K := by
  refine ct_any (QV K) (by decide) (by exact Nat.le_of_ble_eq_true rfl) (fun X hX hQ hnL hnm => ?_)
  rw [show lv_args 0 [.ref h0] = [(0, va_rf (some h0))] by rfl]
  have hX : Ok X cX8_init RX8 rm_X8_init := hX
  unfold wp_X8_init at h
  refine z_aload_n (r := (some h0)) hX dX8_init_0 rfl 0 rfl ?_
  refine mw_RX8_3 (a := h0) hX dX8_init_1 (by decide) (by decide) ?_
  refine z_aload_n (r := (some h0)) hX dX8_init_4 rfl 0 rfl ?_
  refine z_bipush (v := (60 : Int32)) hX dX8_init_5 (by decide) ?_
  refine y_newa_int (n := 60) hX 73 (by decide) (by decide) (by decide) (by decide) (by decide) dX8_init_7 (by decide) (by decide) (fun q1 hq2 => ?_)
  have h := h q1 hq2
  obtain ⟨hk4, h⟩ := h
  refine pf_RX8_9 (r := (some h0)) (v := (some q1)) hX hnm dX8_init_9 rfl hk4 ?_
  refine z_aload_n (r := (some h0)) hX dX8_init_12 rfl 0 rfl ?_
  refine z_bipush (v := (60 : Int32)) hX dX8_init_13 (by decide) ?_
  refine y_newa_long (n := 60) hX 82 (by decide) (by decide) (by decide) (by decide) (by decide) dX8_init_15 (by decide) (by decide) (fun q6 hq7 => ?_)
  have h := h q6 hq7
  obtain ⟨hk9, h⟩ := h
  refine pf_RX8_15 (r := (some h0)) (v := (some q6)) hX hnm dX8_init_17 rfl hk9 ?_
  refine z_aload_n (r := (some h0)) hX dX8_init_20 rfl 0 rfl ?_
  refine z_bipush (v := (60 : Int32)) hX dX8_init_21 (by decide) ?_
  refine y_newa_boolean (n := 60) hX 91 (by decide) (by decide) (by decide) (by decide) (by decide) dX8_init_23 (by decide) (by decide) (fun q11 hq12 => ?_)
  have h := h q11 hq12
  obtain ⟨hk14, h⟩ := h
  refine pf_RX8_19 (r := (some h0)) (v := (some q11)) hX hnm dX8_init_25 rfl hk14 ?_
  refine z_widen 3 180 (by decide) (by decide) ?_
  exact z_vret hX hQ dX8_init_28 h
def rm_X8_give : Room := { frames := 0, cells := 0, slots := 0, locals := 0 }
def wp_X8_give (M : Mm) (h0 : Nat) (p1 : Int32) (p2 : Int64) (K : Int32 → Mm → Prop) : Prop := mK M h0 = 9 ∧ (((mI M 515 h0) < (60 : Int32) → ∃ a2, (mR M 512 h0) = some a2 ∧ isA M a2 1 ∧ vp_in (mI M 515 h0) (aN M a2) ∧ ∃ a6, (mR (tI M a2 ((mI M 515 h0)).toNatClampNeg p1) 513 h0) = some a6 ∧ isA (tI M a2 ((mI M 515 h0)).toNatClampNeg p1) a6 2 ∧ vp_in (mI (tI M a2 ((mI M 515 h0)).toNatClampNeg p1) 515 h0) (aN (tI M a2 ((mI M 515 h0)).toNatClampNeg p1) a6) ∧ ∃ a10, (mR (tJ (tI M a2 ((mI M 515 h0)).toNatClampNeg p1) a6 ((mI (tI M a2 ((mI M 515 h0)).toNatClampNeg p1) 515 h0)).toNatClampNeg p2) 514 h0) = some a10 ∧ isA (tJ (tI M a2 ((mI M 515 h0)).toNatClampNeg p1) a6 ((mI (tI M a2 ((mI M 515 h0)).toNatClampNeg p1) 515 h0)).toNatClampNeg p2) a10 3 ∧ vp_in (mI (tJ (tI M a2 ((mI M 515 h0)).toNatClampNeg p1) a6 ((mI (tI M a2 ((mI M 515 h0)).toNatClampNeg p1) 515 h0)).toNatClampNeg p2) 515 h0) (aN (tJ (tI M a2 ((mI M 515 h0)).toNatClampNeg p1) a6 ((mI (tI M a2 ((mI M 515 h0)).toNatClampNeg p1) 515 h0)).toNatClampNeg p2) a10) ∧ (K ((mI (sI (tI (tJ (tI M a2 ((mI M 515 h0)).toNatClampNeg p1) a6 ((mI (tI M a2 ((mI M 515 h0)).toNatClampNeg p1) 515 h0)).toNatClampNeg p2) a10 ((mI (tJ (tI M a2 ((mI M 515 h0)).toNatClampNeg p1) a6 ((mI (tI M a2 ((mI M 515 h0)).toNatClampNeg p1) 515 h0)).toNatClampNeg p2) 515 h0)).toNatClampNeg (1 : Int32)) 515 h0 ((mI (tI (tJ (tI M a2 ((mI M 515 h0)).toNatClampNeg p1) a6 ((mI (tI M a2 ((mI M 515 h0)).toNatClampNeg p1) 515 h0)).toNatClampNeg p2) a10 ((mI (tJ (tI M a2 ((mI M 515 h0)).toNatClampNeg p1) a6 ((mI (tI M a2 ((mI M 515 h0)).toNatClampNeg p1) 515 h0)).toNatClampNeg p2) 515 h0)).toNatClampNeg (1 : Int32)) 515 h0) + (1 : Int32))) 515 h0) - (1 : Int32)) (sI (tI (tJ (tI M a2 ((mI M 515 h0)).toNatClampNeg p1) a6 ((mI (tI M a2 ((mI M 515 h0)).toNatClampNeg p1) 515 h0)).toNatClampNeg p2) a10 ((mI (tJ (tI M a2 ((mI M 515 h0)).toNatClampNeg p1) a6 ((mI (tI M a2 ((mI M 515 h0)).toNatClampNeg p1) 515 h0)).toNatClampNeg p2) 515 h0)).toNatClampNeg (1 : Int32)) 515 h0 ((mI (tI (tJ (tI M a2 ((mI M 515 h0)).toNatClampNeg p1) a6 ((mI (tI M a2 ((mI M 515 h0)).toNatClampNeg p1) 515 h0)).toNatClampNeg p2) a10 ((mI (tJ (tI M a2 ((mI M 515 h0)).toNatClampNeg p1) a6 ((mI (tI M a2 ((mI M 515 h0)).toNatClampNeg p1) 515 h0)).toNatClampNeg p2) 515 h0)).toNatClampNeg (1 : Int32)) 515 h0) + (1 : Int32))))) ∧ (¬ (mI M 515 h0) < (60 : Int32) → (K (-4 : Int32) M)))
set_option maxRecDepth 100000 in
set_option maxHeartbeats 4000000 in
theorem ct_X8_give {M : Mm} {h0 : Nat} {p1 : Int32} {p2 : Int64} {K : Int32 → Mm → Prop} (h : wp_X8_give M h0 p1 p2 K) : CtI yX8_give cX8_give 4 (some .int) rm_X8_give [.ref h0, .int p1, .long p2] M K := by
  refine ct_any (QI K) (by decide) (by exact Nat.le_of_ble_eq_true rfl) (fun X hX hQ hnL hnm => ?_)
  rw [show lv_args 0 [.ref h0, .int p1, .long p2] = [(0, va_rf (some h0)), (1, .int p1), (2, .long p2)] by rfl]
  have hX : Ok X cX8_give RX8 rm_X8_give := hX
  unfold wp_X8_give at h
  refine z_aload_n (r := (some h0)) hX dX8_give_0 rfl 0 rfl ?_
  obtain ⟨hk1, h⟩ := h
  refine gf_RX8_23 (r := (some h0)) hX dX8_give_1 rfl hk1 ?_
  refine z_bipush (v := (60 : Int32)) hX dX8_give_4 (by decide) ?_
  obtain ⟨h1, h2⟩ := h
  refine z_icmp_lt (tgt := 12) hX dX8_give_6 (by decide) (fun hc => ?_) (fun hc => ?_)
  · have h := h1 hc
    refine z_aload_n (r := (some h0)) hX dX8_give_12 rfl 0 rfl ?_
    refine gf_RX8_9 (r := (some h0)) hX dX8_give_13 rfl hk1 ?_
    refine z_aload_n (r := (some h0)) hX dX8_give_16 rfl 0 rfl ?_
    refine gf_RX8_23 (r := (some h0)) hX dX8_give_17 rfl hk1 ?_
    refine z_iload_n hX dX8_give_20 rfl 1 rfl ?_
    obtain ⟨a2, ha3, h⟩ := h
    obtain ⟨hk4, h⟩ := h
    obtain ⟨hc5, h⟩ := h
    refine y_iast (r := (mR M 512 h0)) hX dX8_give_21 ha3 hk4 hc5 ?_
    refine z_aload_n (r := (some h0)) hX dX8_give_22 rfl 0 rfl ?_
    refine gf_RX8_15 (r := (some h0)) hX dX8_give_23 rfl hk1 ?_
    refine z_aload_n (r := (some h0)) hX dX8_give_26 rfl 0 rfl ?_
    refine gf_RX8_23 (r := (some h0)) hX dX8_give_27 rfl hk1 ?_
    refine z_lload_n hX dX8_give_30 rfl 2 rfl ?_
    obtain ⟨a6, ha7, h⟩ := h
    obtain ⟨hk8, h⟩ := h
    obtain ⟨hc9, h⟩ := h
    refine y_last (r := (mR (tI M a2 ((mI M 515 h0)).toNatClampNeg p1) 513 h0)) hX dX8_give_31 ha7 hk8 hc9 ?_
    refine z_aload_n (r := (some h0)) hX dX8_give_32 rfl 0 rfl ?_
    refine gf_RX8_19 (r := (some h0)) hX dX8_give_33 rfl hk1 ?_
    refine z_aload_n (r := (some h0)) hX dX8_give_36 rfl 0 rfl ?_
    refine gf_RX8_23 (r := (some h0)) hX dX8_give_37 rfl hk1 ?_
    refine z_iconst (v := (1 : Int32)) hX dX8_give_40 (by decide) ?_
    obtain ⟨a10, ha11, h⟩ := h
    obtain ⟨hk12, h⟩ := h
    obtain ⟨hc13, h⟩ := h
    refine y_zast (r := (mR (tJ (tI M a2 ((mI M 515 h0)).toNatClampNeg p1) a6 ((mI (tI M a2 ((mI M 515 h0)).toNatClampNeg p1) 515 h0)).toNatClampNeg p2) 514 h0)) hX dX8_give_41 ha11 hk12 hc13 (Or.inr rfl)  ?_
    refine z_aload_n (r := (some h0)) hX dX8_give_42 rfl 0 rfl ?_
    refine z_dup hX dX8_give_43 (cat_rf _) ?_
    refine gf_RX8_23 (r := (some h0)) hX dX8_give_44 rfl hk1 ?_
    refine z_iconst (v := (1 : Int32)) hX dX8_give_47 (by decide) ?_
    refine z_iadd hX dX8_give_48 ?_
    refine pf_RX8_23 (r := (some h0)) (v := ((mI (tI (tJ (tI M a2 ((mI M 515 h0)).toNatClampNeg p1) a6 ((mI (tI M a2 ((mI M 515 h0)).toNatClampNeg p1) 515 h0)).toNatClampNeg p2) a10 ((mI (tJ (tI M a2 ((mI M 515 h0)).toNatClampNeg p1) a6 ((mI (tI M a2 ((mI M 515 h0)).toNatClampNeg p1) 515 h0)).toNatClampNeg p2) 515 h0)).toNatClampNeg (1 : Int32)) 515 h0) + (1 : Int32))) hX dX8_give_49 rfl hk1 ?_
    refine z_aload_n (r := (some h0)) hX dX8_give_52 rfl 0 rfl ?_
    refine gf_RX8_23 (r := (some h0)) hX dX8_give_53 rfl hk1 ?_
    refine z_iconst (v := (1 : Int32)) hX dX8_give_56 (by decide) ?_
    refine z_isub hX dX8_give_57 ?_
    exact z_iret hX hQ dX8_give_58 h
  · have h := h2 hc
    refine z_bipush (v := (-4 : Int32)) hX dX8_give_9 (by decide) ?_
    exact z_iret hX hQ dX8_give_11 h
def rm_X8_isHeld : Room := { frames := 0, cells := 0, slots := 0, locals := 0 }
def bk_X8_isHeld_26 (h0 : Nat) (K : Int32 → Mm → Prop) (s0 : Int32) (M : Mm) : Prop := (bz s0 ∧ K s0 M)
set_option maxRecDepth 100000 in
set_option maxHeartbeats 4000000 in
theorem zb_X8_isHeld_26 {X : Cx} {h0 : Nat} {K : Int32 → Mm → Prop} (hX : Ok X cX8_isHeld RX8 rm_X8_isHeld) (hQ : Rq X rm_X8_isHeld (some .boolean) (QI K)) (hnL : X.2.2.2.2.2.2.2.2.2.2.2.2.2.2 = 2) {s0 : Int32} {M : Mm} (h : bk_X8_isHeld_26 h0 K s0 M) : Z X M 0 0 26 [] [.int s0] := by
  unfold bk_X8_isHeld_26 at h
  exact y_zret hX hQ dX8_isHeld_26 h.1 h.2
def bk_X8_isHeld_25 (h0 : Nat) (K : Int32 → Mm → Prop) (M : Mm) : Prop := (bk_X8_isHeld_26 h0 K (0 : Int32) M)
set_option maxRecDepth 100000 in
set_option maxHeartbeats 4000000 in
theorem zb_X8_isHeld_25 {X : Cx} {h0 : Nat} {K : Int32 → Mm → Prop} (hX : Ok X cX8_isHeld RX8 rm_X8_isHeld) (hQ : Rq X rm_X8_isHeld (some .boolean) (QI K)) (hnL : X.2.2.2.2.2.2.2.2.2.2.2.2.2.2 = 2) {M : Mm} (h : bk_X8_isHeld_25 h0 K M) : Z X M 0 0 25 [] [] := by
  unfold bk_X8_isHeld_25 at h
  refine z_iconst (v := (0 : Int32)) hX dX8_isHeld_25 (by decide) ?_
  exact zb_X8_isHeld_26 hX hQ hnL h
def wp_X8_isHeld (M : Mm) (h0 : Nat) (p1 : Int32) (K : Int32 → Mm → Prop) : Prop := ((p1 < 0 → (bk_X8_isHeld_25 h0 K M)) ∧ (¬ p1 < 0 → mK M h0 = 9 ∧ (((mI M 515 h0) ≤ p1 → (bk_X8_isHeld_25 h0 K M)) ∧ (¬ (mI M 515 h0) ≤ p1 → ∃ a2, (mR M 514 h0) = some a2 ∧ isA M a2 3 ∧ vp_in p1 (aN M a2) ∧ (((aI M a2 (p1).toNatClampNeg) = 0 → (bk_X8_isHeld_25 h0 K M)) ∧ (¬ (aI M a2 (p1).toNatClampNeg) = 0 → (bk_X8_isHeld_26 h0 K (1 : Int32) M)))))))
set_option maxRecDepth 100000 in
set_option maxHeartbeats 4000000 in
theorem ct_X8_isHeld {M : Mm} {h0 : Nat} {p1 : Int32} {K : Int32 → Mm → Prop} (h : wp_X8_isHeld M h0 p1 K) : CtI yX8_isHeld cX8_isHeld 2 (some .boolean) rm_X8_isHeld [.ref h0, .int p1] M K := by
  refine ct_any (QI K) (by decide) (by exact Nat.le_of_ble_eq_true rfl) (fun X hX hQ hnL hnm => ?_)
  rw [show lv_args 0 [.ref h0, .int p1] = [(0, va_rf (some h0)), (1, .int p1)] by rfl]
  have hX : Ok X cX8_isHeld RX8 rm_X8_isHeld := hX
  unfold wp_X8_isHeld at h
  refine z_iload_n hX dX8_isHeld_0 rfl 1 rfl ?_
  obtain ⟨h1, h2⟩ := h
  refine z_if_lt (tgt := 25) hX dX8_isHeld_1 (by decide) (fun hc => ?_) (fun hc => ?_)
  · have h := h1 hc
    refine z_loc [] rfl ?_
    exact zb_X8_isHeld_25 hX hQ hnL h
  · have h := h2 hc
    refine z_iload_n hX dX8_isHeld_4 rfl 1 rfl ?_
    refine z_aload_n (r := (some h0)) hX dX8_isHeld_5 rfl 0 rfl ?_
    obtain ⟨hk1, h⟩ := h
    refine gf_RX8_23 (r := (some h0)) hX dX8_isHeld_6 rfl hk1 ?_
    obtain ⟨h1, h2⟩ := h
    refine z_icmp_ge (tgt := 25) hX dX8_isHeld_9 (by decide) (fun hc => ?_) (fun hc => ?_)
    · have h := h1 hc
      refine z_loc [] rfl ?_
      exact zb_X8_isHeld_25 hX hQ hnL h
    · have h := h2 hc
      refine z_aload_n (r := (some h0)) hX dX8_isHeld_12 rfl 0 rfl ?_
      refine gf_RX8_19 (r := (some h0)) hX dX8_isHeld_13 rfl hk1 ?_
      refine z_iload_n hX dX8_isHeld_16 rfl 1 rfl ?_
      obtain ⟨a2, ha3, h⟩ := h
      obtain ⟨hk4, h⟩ := h
      obtain ⟨hc5, h⟩ := h
      refine y_zald (r := (mR M 514 h0)) hX dX8_isHeld_17 ha3 hk4 hc5 ?_
      obtain ⟨h1, h2⟩ := h
      refine z_if_eq (tgt := 25) hX dX8_isHeld_18 (by decide) (fun hc => ?_) (fun hc => ?_)
      · have h := h1 hc
        refine z_loc [] rfl ?_
        exact zb_X8_isHeld_25 hX hQ hnL h
      · have h := h2 hc
        refine z_iconst (v := (1 : Int32)) hX dX8_isHeld_21 (by decide) ?_
        refine z_goto (tgt := 26) hX dX8_isHeld_22 (by decide) ?_
        refine z_loc [] rfl ?_
        exact zb_X8_isHeld_26 hX hQ hnL h
def rm_X8_countAll : Room := { frames := 0, cells := 0, slots := 0, locals := 0 }
def bk_X8_countAll_24 (h0 : Nat) (R4 : Int32 → Int32 → Mm → Prop) (K : Int32 → Mm → Prop) (l1 : Int32) (l2 : Int32) (M : Mm) : Prop := (R4 l1 (l2 + 1) M)
set_option maxRecDepth 100000 in
set_option maxHeartbeats 4000000 in
theorem zb_X8_countAll_24 {X : Cx} {h0 : Nat} {R4 : Int32 → Int32 → Mm → Prop} {K : Int32 → Mm → Prop} (hX : Ok X cX8_countAll RX8 rm_X8_countAll) (hQ : Rq X rm_X8_countAll (some .int) (QI K)) (hnL : X.2.2.2.2.2.2.2.2.2.2.2.2.2.2 = 3) (hR4 : ∀ l1 l2 M, R4 l1 l2 M → Z X M 0 0 4 [(0, va_rf (some h0)), (1, .int l1), (2, .int l2)] []) {l1 : Int32} {l2 : Int32} {M : Mm} (h : bk_X8_countAll_24 h0 R4 K l1 l2 M) : Z X M 0 0 24 [(0, va_rf (some h0)), (1, .int l1), (2, .int l2)] [] := by
  unfold bk_X8_countAll_24 at h
  refine z_iinc (v := (l2 + 1)) hX [(2, .int (l2 + 1)), (0, va_rf (some h0)), (1, .int l1)] dX8_countAll_24 2 rfl rfl (by rw [hnL]; decide) rfl ?_
  refine z_goto (tgt := 4) hX dX8_countAll_27 (by decide) ?_
  refine z_loc [1, 2, 0] rfl ?_
  exact hR4 _ _ _ h
def lp_X8_countAll_4 (h0 : Nat) (K : Int32 → Mm → Prop) : Nat → Int32 → Int32 → Mm → Prop
  | 0, _, _, _ => False
  | n + 1, l1, l2, M => mK M h0 = 9 ∧ (((mI M 515 h0) ≤ l2 → (K l1 M)) ∧ (¬ (mI M 515 h0) ≤ l2 → ∃ a2, (mR M 514 h0) = some a2 ∧ isA M a2 3 ∧ vp_in l2 (aN M a2) ∧ (((aI M a2 (l2).toNatClampNeg) = 0 → (bk_X8_countAll_24 h0 (lp_X8_countAll_4 h0 K n) K l1 l2 M)) ∧ (¬ (aI M a2 (l2).toNatClampNeg) = 0 → (bk_X8_countAll_24 h0 (lp_X8_countAll_4 h0 K n) K (l1 + 1) l2 M)))))
set_option maxRecDepth 100000 in
set_option maxHeartbeats 4000000 in
theorem zl_X8_countAll_4 {X : Cx} {h0 : Nat} {K : Int32 → Mm → Prop} (hX : Ok X cX8_countAll RX8 rm_X8_countAll) (hQ : Rq X rm_X8_countAll (some .int) (QI K)) (hnL : X.2.2.2.2.2.2.2.2.2.2.2.2.2.2 = 3) : ∀ (n : Nat) (l1 : Int32) (l2 : Int32) (M : Mm), lp_X8_countAll_4 h0 K n l1 l2 M → Z X M 0 0 4 [(0, va_rf (some h0)), (1, .int l1), (2, .int l2)] [] := by
  intro n
  induction n with
  | zero =>
    intro l1 l2 M h
    exact False.elim h
  | succ n hR4 =>
    intro l1 l2 M h
    refine z_iload_n hX dX8_countAll_4 rfl 2 rfl ?_
    refine z_aload_n (r := (some h0)) hX dX8_countAll_5 rfl 0 rfl ?_
    obtain ⟨hk1, h⟩ := h
    refine gf_RX8_23 (r := (some h0)) hX dX8_countAll_6 rfl hk1 ?_
    obtain ⟨h1, h2⟩ := h
    refine z_icmp_ge (tgt := 30) hX dX8_countAll_9 (by decide) (fun hc => ?_) (fun hc => ?_)
    · have h := h1 hc
      refine z_iload_n hX dX8_countAll_30 rfl 1 rfl ?_
      exact z_iret hX hQ dX8_countAll_31 h
    · have h := h2 hc
      refine z_aload_n (r := (some h0)) hX dX8_countAll_12 rfl 0 rfl ?_
      refine gf_RX8_19 (r := (some h0)) hX dX8_countAll_13 rfl hk1 ?_
      refine z_iload_n hX dX8_countAll_16 rfl 2 rfl ?_
      obtain ⟨a2, ha3, h⟩ := h
      obtain ⟨hk4, h⟩ := h
      obtain ⟨hc5, h⟩ := h
      refine y_zald (r := (mR M 514 h0)) hX dX8_countAll_17 ha3 hk4 hc5 ?_
      obtain ⟨h1, h2⟩ := h
      refine z_if_eq (tgt := 24) hX dX8_countAll_18 (by decide) (fun hc => ?_) (fun hc => ?_)
      · have h := h1 hc
        exact zb_X8_countAll_24 hX hQ hnL hR4 h
      · have h := h2 hc
        refine z_iinc (v := (l1 + 1)) hX [(1, .int (l1 + 1)), (0, va_rf (some h0)), (2, .int l2)] dX8_countAll_21 1 rfl rfl (by rw [hnL]; decide) rfl ?_
        refine z_loc [1, 0, 2] rfl ?_
        exact zb_X8_countAll_24 hX hQ hnL hR4 h
def wp_X8_countAll (M : Mm) (h0 : Nat) (K : Int32 → Mm → Prop) : Prop := (∃ kk, lp_X8_countAll_4 h0 K kk (0 : Int32) (0 : Int32) M)
set_option maxRecDepth 100000 in
set_option maxHeartbeats 4000000 in
theorem ct_X8_countAll {M : Mm} {h0 : Nat} {K : Int32 → Mm → Prop} (h : wp_X8_countAll M h0 K) : CtI yX8_countAll cX8_countAll 3 (some .int) rm_X8_countAll [.ref h0] M K := by
  refine ct_any (QI K) (by decide) (by exact Nat.le_of_ble_eq_true rfl) (fun X hX hQ hnL hnm => ?_)
  rw [show lv_args 0 [.ref h0] = [(0, va_rf (some h0))] by rfl]
  have hX : Ok X cX8_countAll RX8 rm_X8_countAll := hX
  unfold wp_X8_countAll at h
  refine z_iconst (v := (0 : Int32)) hX dX8_countAll_0 (by decide) ?_
  refine z_istore_n hX [(1, .int (0 : Int32)), (0, va_rf (some h0))] dX8_countAll_1 rfl (by rw [hnL]; decide) rfl ?_
  refine z_iconst (v := (0 : Int32)) hX dX8_countAll_2 (by decide) ?_
  refine z_istore_n hX [(2, .int (0 : Int32)), (1, .int (0 : Int32)), (0, va_rf (some h0))] dX8_countAll_3 rfl (by rw [hnL]; decide) rfl ?_
  refine z_loc [2, 1, 0] rfl ?_
  obtain ⟨n, h⟩ := h
  exact zl_X8_countAll_4 hX hQ hnL n _ _ _ h
def rm_X8_countIn : Room := { frames := 0, cells := 0, slots := 0, locals := 0 }
def bk_X8_countIn_34 (h0 : Nat) (R4 : Int32 → Int32 → Int32 → Mm → Prop) (K : Int32 → Mm → Prop) (l1 : Int32) (l2 : Int32) (l3 : Int32) (M : Mm) : Prop := (R4 l1 l2 (l3 + 1) M)
set_option maxRecDepth 100000 in
set_option maxHeartbeats 4000000 in
theorem zb_X8_countIn_34 {X : Cx} {h0 : Nat} {R4 : Int32 → Int32 → Int32 → Mm → Prop} {K : Int32 → Mm → Prop} (hX : Ok X cX8_countIn RX8 rm_X8_countIn) (hQ : Rq X rm_X8_countIn (some .int) (QI K)) (hnL : X.2.2.2.2.2.2.2.2.2.2.2.2.2.2 = 4) (hR4 : ∀ l1 l2 l3 M, R4 l1 l2 l3 M → Z X M 0 0 4 [(0, va_rf (some h0)), (1, .int l1), (2, .int l2), (3, .int l3)] []) {l1 : Int32} {l2 : Int32} {l3 : Int32} {M : Mm} (h : bk_X8_countIn_34 h0 R4 K l1 l2 l3 M) : Z X M 0 0 34 [(0, va_rf (some h0)), (1, .int l1), (2, .int l2), (3, .int l3)] [] := by
  unfold bk_X8_countIn_34 at h
  refine z_iinc (v := (l3 + 1)) hX [(3, .int (l3 + 1)), (0, va_rf (some h0)), (1, .int l1), (2, .int l2)] dX8_countIn_34 3 rfl rfl (by rw [hnL]; decide) rfl ?_
  refine z_goto (tgt := 4) hX dX8_countIn_37 (by decide) ?_
  refine z_loc [1, 2, 3, 0] rfl ?_
  exact hR4 _ _ _ _ h
def lp_X8_countIn_4 (h0 : Nat) (K : Int32 → Mm → Prop) : Nat → Int32 → Int32 → Int32 → Mm → Prop
  | 0, _, _, _, _ => False
  | n + 1, l1, l2, l3, M => mK M h0 = 9 ∧ (((mI M 515 h0) ≤ l3 → (K l2 M)) ∧ (¬ (mI M 515 h0) ≤ l3 → ∃ a2, (mR M 514 h0) = some a2 ∧ isA M a2 3 ∧ vp_in l3 (aN M a2) ∧ (((aI M a2 (l3).toNatClampNeg) = 0 → (bk_X8_countIn_34 h0 (lp_X8_countIn_4 h0 K n) K l1 l2 l3 M)) ∧ (¬ (aI M a2 (l3).toNatClampNeg) = 0 → ∃ a6, (mR M 512 h0) = some a6 ∧ isA M a6 1 ∧ vp_in l3 (aN M a6) ∧ ((¬ (aI M a6 (l3).toNatClampNeg) = l1 → (bk_X8_countIn_34 h0 (lp_X8_countIn_4 h0 K n) K l1 l2 l3 M)) ∧ ((aI M a6 (l3).toNatClampNeg) = l1 → (bk_X8_countIn_34 h0 (lp_X8_countIn_4 h0 K n) K l1 (l2 + 1) l3 M)))))))
set_option maxRecDepth 100000 in
set_option maxHeartbeats 4000000 in
theorem zl_X8_countIn_4 {X : Cx} {h0 : Nat} {K : Int32 → Mm → Prop} (hX : Ok X cX8_countIn RX8 rm_X8_countIn) (hQ : Rq X rm_X8_countIn (some .int) (QI K)) (hnL : X.2.2.2.2.2.2.2.2.2.2.2.2.2.2 = 4) : ∀ (n : Nat) (l1 : Int32) (l2 : Int32) (l3 : Int32) (M : Mm), lp_X8_countIn_4 h0 K n l1 l2 l3 M → Z X M 0 0 4 [(0, va_rf (some h0)), (1, .int l1), (2, .int l2), (3, .int l3)] [] := by
  intro n
  induction n with
  | zero =>
    intro l1 l2 l3 M h
    exact False.elim h
  | succ n hR4 =>
    intro l1 l2 l3 M h
    refine z_iload_n hX dX8_countIn_4 rfl 3 rfl ?_
    refine z_aload_n (r := (some h0)) hX dX8_countIn_5 rfl 0 rfl ?_
    obtain ⟨hk1, h⟩ := h
    refine gf_RX8_23 (r := (some h0)) hX dX8_countIn_6 rfl hk1 ?_
    obtain ⟨h1, h2⟩ := h
    refine z_icmp_ge (tgt := 40) hX dX8_countIn_9 (by decide) (fun hc => ?_) (fun hc => ?_)
    · have h := h1 hc
      refine z_iload_n hX dX8_countIn_40 rfl 2 rfl ?_
      exact z_iret hX hQ dX8_countIn_41 h
    · have h := h2 hc
      refine z_aload_n (r := (some h0)) hX dX8_countIn_12 rfl 0 rfl ?_
      refine gf_RX8_19 (r := (some h0)) hX dX8_countIn_13 rfl hk1 ?_
      refine z_iload_n hX dX8_countIn_16 rfl 3 rfl ?_
      obtain ⟨a2, ha3, h⟩ := h
      obtain ⟨hk4, h⟩ := h
      obtain ⟨hc5, h⟩ := h
      refine y_zald (r := (mR M 514 h0)) hX dX8_countIn_17 ha3 hk4 hc5 ?_
      obtain ⟨h1, h2⟩ := h
      refine z_if_eq (tgt := 34) hX dX8_countIn_18 (by decide) (fun hc => ?_) (fun hc => ?_)
      · have h := h1 hc
        exact zb_X8_countIn_34 hX hQ hnL hR4 h
      · have h := h2 hc
        refine z_aload_n (r := (some h0)) hX dX8_countIn_21 rfl 0 rfl ?_
        refine gf_RX8_9 (r := (some h0)) hX dX8_countIn_22 rfl hk1 ?_
        refine z_iload_n hX dX8_countIn_25 rfl 3 rfl ?_
        obtain ⟨a6, ha7, h⟩ := h
        obtain ⟨hk8, h⟩ := h
        obtain ⟨hc9, h⟩ := h
        refine y_iald (r := (mR M 512 h0)) hX dX8_countIn_26 ha7 hk8 hc9 ?_
        refine z_iload_n hX dX8_countIn_27 rfl 1 rfl ?_
        obtain ⟨h1, h2⟩ := h
        refine z_icmp_ne (tgt := 34) hX dX8_countIn_28 (by decide) (fun hc => ?_) (fun hc => ?_)
        · have h := h1 hc
          exact zb_X8_countIn_34 hX hQ hnL hR4 h
        · have h := h2 hc
          refine z_iinc (v := (l2 + 1)) hX [(2, .int (l2 + 1)), (0, va_rf (some h0)), (1, .int l1), (3, .int l3)] dX8_countIn_31 2 rfl rfl (by rw [hnL]; decide) rfl ?_
          refine z_loc [1, 2, 0, 3] rfl ?_
          exact zb_X8_countIn_34 hX hQ hnL hR4 h
def wp_X8_countIn (M : Mm) (h0 : Nat) (p1 : Int32) (K : Int32 → Mm → Prop) : Prop := (∃ kk, lp_X8_countIn_4 h0 K kk p1 (0 : Int32) (0 : Int32) M)
set_option maxRecDepth 100000 in
set_option maxHeartbeats 4000000 in
theorem ct_X8_countIn {M : Mm} {h0 : Nat} {p1 : Int32} {K : Int32 → Mm → Prop} (h : wp_X8_countIn M h0 p1 K) : CtI yX8_countIn cX8_countIn 4 (some .int) rm_X8_countIn [.ref h0, .int p1] M K := by
  refine ct_any (QI K) (by decide) (by exact Nat.le_of_ble_eq_true rfl) (fun X hX hQ hnL hnm => ?_)
  rw [show lv_args 0 [.ref h0, .int p1] = [(0, va_rf (some h0)), (1, .int p1)] by rfl]
  have hX : Ok X cX8_countIn RX8 rm_X8_countIn := hX
  unfold wp_X8_countIn at h
  refine z_iconst (v := (0 : Int32)) hX dX8_countIn_0 (by decide) ?_
  refine z_istore_n hX [(2, .int (0 : Int32)), (0, va_rf (some h0)), (1, .int p1)] dX8_countIn_1 rfl (by rw [hnL]; decide) rfl ?_
  refine z_iconst (v := (0 : Int32)) hX dX8_countIn_2 (by decide) ?_
  refine z_istore_n hX [(3, .int (0 : Int32)), (2, .int (0 : Int32)), (0, va_rf (some h0)), (1, .int p1)] dX8_countIn_3 rfl (by rw [hnL]; decide) rfl ?_
  refine z_loc [2, 3, 1, 0] rfl ?_
  obtain ⟨n, h⟩ := h
  exact zl_X8_countIn_4 hX hQ hnL n _ _ _ _ h
def rm_X8_leastIn : Room := { frames := 1, cells := 0, slots := 0, locals := 23 }
def bk_X8_leastIn_49 (h0 : Nat) (R7 : Int32 → Int64 → Int32 → Mm → Prop) (K : Int64 → Mm → Prop) (l1 : Int32) (l2 : Int64) (l4 : Int32) (M : Mm) : Prop := (R7 l1 l2 (l4 + 1) M)
set_option maxRecDepth 100000 in
set_option maxHeartbeats 4000000 in
theorem zb_X8_leastIn_49 {X : Cx} {h0 : Nat} {R7 : Int32 → Int64 → Int32 → Mm → Prop} {K : Int64 → Mm → Prop} (hX : Ok X cX8_leastIn RX8 rm_X8_leastIn) (hQ : Rq X rm_X8_leastIn (some .long) (QJ K)) (hnL : X.2.2.2.2.2.2.2.2.2.2.2.2.2.2 = 5) (hR7 : ∀ l1 l2 l4 M, R7 l1 l2 l4 M → Z X M 0 0 7 [(0, va_rf (some h0)), (1, .int l1), (2, .long l2), (4, .int l4)] []) {l1 : Int32} {l2 : Int64} {l4 : Int32} {M : Mm} (h : bk_X8_leastIn_49 h0 R7 K l1 l2 l4 M) : Z X M 0 0 49 [(0, va_rf (some h0)), (1, .int l1), (2, .long l2), (4, .int l4)] [] := by
  unfold bk_X8_leastIn_49 at h
  refine z_iinc (v := (l4 + 1)) hX [(4, .int (l4 + 1)), (0, va_rf (some h0)), (1, .int l1), (2, .long l2)] dX8_leastIn_49 3 rfl rfl (by rw [hnL]; decide) rfl ?_
  refine z_goto (tgt := 7) hX dX8_leastIn_52 (by decide) ?_
  refine z_loc [1, 2, 3, 0] rfl ?_
  exact hR7 _ _ _ _ h
def lp_X8_leastIn_7 (h0 : Nat) (K : Int64 → Mm → Prop) : Nat → Int32 → Int64 → Int32 → Mm → Prop
  | 0, _, _, _, _ => False
  | n + 1, l1, l2, l4, M => mK M h0 = 9 ∧ (((mI M 515 h0) ≤ l4 → (K l2 M)) ∧ (¬ (mI M 515 h0) ≤ l4 → ∃ a2, (mR M 514 h0) = some a2 ∧ isA M a2 3 ∧ vp_in l4 (aN M a2) ∧ (((aI M a2 (l4).toNatClampNeg) = 0 → (bk_X8_leastIn_49 h0 (lp_X8_leastIn_7 h0 K n) K l1 l2 l4 M)) ∧ (¬ (aI M a2 (l4).toNatClampNeg) = 0 → ∃ a6, (mR M 512 h0) = some a6 ∧ isA M a6 1 ∧ vp_in l4 (aN M a6) ∧ ((¬ (aI M a6 (l4).toNatClampNeg) = l1 → (bk_X8_leastIn_49 h0 (lp_X8_leastIn_7 h0 K n) K l1 l2 l4 M)) ∧ ((aI M a6 (l4).toNatClampNeg) = l1 → ∃ a10, (mR M 513 h0) = some a10 ∧ isA M a10 2 ∧ vp_in l4 (aN M a10) ∧ (bk_X8_leastIn_49 h0 (lp_X8_leastIn_7 h0 K n) K l1 (if (aJ M a10 (l4).toNatClampNeg) < l2 then (aJ M a10 (l4).toNatClampNeg) else l2) l4 M)))))))
set_option maxRecDepth 100000 in
set_option maxHeartbeats 4000000 in
theorem zl_X8_leastIn_7 {X : Cx} {h0 : Nat} {K : Int64 → Mm → Prop} (hX : Ok X cX8_leastIn RX8 rm_X8_leastIn) (hQ : Rq X rm_X8_leastIn (some .long) (QJ K)) (hnL : X.2.2.2.2.2.2.2.2.2.2.2.2.2.2 = 5) : ∀ (n : Nat) (l1 : Int32) (l2 : Int64) (l4 : Int32) (M : Mm), lp_X8_leastIn_7 h0 K n l1 l2 l4 M → Z X M 0 0 7 [(0, va_rf (some h0)), (1, .int l1), (2, .long l2), (4, .int l4)] [] := by
  intro n
  induction n with
  | zero =>
    intro l1 l2 l4 M h
    exact False.elim h
  | succ n hR7 =>
    intro l1 l2 l4 M h
    refine z_iload hX dX8_leastIn_7 3 rfl ?_
    refine z_aload_n (r := (some h0)) hX dX8_leastIn_9 rfl 0 rfl ?_
    obtain ⟨hk1, h⟩ := h
    refine gf_RX8_23 (r := (some h0)) hX dX8_leastIn_10 rfl hk1 ?_
    obtain ⟨h1, h2⟩ := h
    refine z_icmp_ge (tgt := 55) hX dX8_leastIn_13 (by decide) (fun hc => ?_) (fun hc => ?_)
    · have h := h1 hc
      refine z_lload_n hX dX8_leastIn_55 rfl 2 rfl ?_
      exact z_lret hX hQ dX8_leastIn_56 h
    · have h := h2 hc
      refine z_aload_n (r := (some h0)) hX dX8_leastIn_16 rfl 0 rfl ?_
      refine gf_RX8_19 (r := (some h0)) hX dX8_leastIn_17 rfl hk1 ?_
      refine z_iload hX dX8_leastIn_20 3 rfl ?_
      obtain ⟨a2, ha3, h⟩ := h
      obtain ⟨hk4, h⟩ := h
      obtain ⟨hc5, h⟩ := h
      refine y_zald (r := (mR M 514 h0)) hX dX8_leastIn_22 ha3 hk4 hc5 ?_
      obtain ⟨h1, h2⟩ := h
      refine z_if_eq (tgt := 49) hX dX8_leastIn_23 (by decide) (fun hc => ?_) (fun hc => ?_)
      · have h := h1 hc
        exact zb_X8_leastIn_49 hX hQ hnL hR7 h
      · have h := h2 hc
        refine z_aload_n (r := (some h0)) hX dX8_leastIn_26 rfl 0 rfl ?_
        refine gf_RX8_9 (r := (some h0)) hX dX8_leastIn_27 rfl hk1 ?_
        refine z_iload hX dX8_leastIn_30 3 rfl ?_
        obtain ⟨a6, ha7, h⟩ := h
        obtain ⟨hk8, h⟩ := h
        obtain ⟨hc9, h⟩ := h
        refine y_iald (r := (mR M 512 h0)) hX dX8_leastIn_32 ha7 hk8 hc9 ?_
        refine z_iload_n hX dX8_leastIn_33 rfl 1 rfl ?_
        obtain ⟨h1, h2⟩ := h
        refine z_icmp_ne (tgt := 49) hX dX8_leastIn_34 (by decide) (fun hc => ?_) (fun hc => ?_)
        · have h := h1 hc
          exact zb_X8_leastIn_49 hX hQ hnL hR7 h
        · have h := h2 hc
          refine z_lload_n hX dX8_leastIn_37 rfl 2 rfl ?_
          refine z_aload_n (r := (some h0)) hX dX8_leastIn_38 rfl 0 rfl ?_
          refine gf_RX8_15 (r := (some h0)) hX dX8_leastIn_39 rfl hk1 ?_
          refine z_iload hX dX8_leastIn_42 3 rfl ?_
          obtain ⟨a10, ha11, h⟩ := h
          obtain ⟨hk12, h⟩ := h
          obtain ⟨hc13, h⟩ := h
          refine y_lald (r := (mR M 513 h0)) hX dX8_leastIn_44 ha11 hk12 hc13 ?_
          refine mw_RX8_29 hX dX8_leastIn_45 (by decide) (by decide) (by decide) (by decide) ?_
          refine z_lstore_n hX [(2, .long (if (aJ M a10 (l4).toNatClampNeg) < l2 then (aJ M a10 (l4).toNatClampNeg) else l2)), (0, va_rf (some h0)), (1, .int l1), (4, .int l4)] dX8_leastIn_48 rfl (by rw [hnL]; decide) rfl ?_
          refine z_loc [1, 2, 0, 3] rfl ?_
          exact zb_X8_leastIn_49 hX hQ hnL hR7 h
def wp_X8_leastIn (M : Mm) (h0 : Nat) (p1 : Int32) (K : Int64 → Mm → Prop) : Prop := (∃ kk, lp_X8_leastIn_7 h0 K kk p1 (9000000000000000000 : Int64) (0 : Int32) M)
set_option maxRecDepth 100000 in
set_option maxHeartbeats 4000000 in
theorem ct_X8_leastIn {M : Mm} {h0 : Nat} {p1 : Int32} {K : Int64 → Mm → Prop} (h : wp_X8_leastIn M h0 p1 K) : CtJ yX8_leastIn cX8_leastIn 5 (some .long) rm_X8_leastIn [.ref h0, .int p1] M K := by
  refine ct_any (QJ K) (by decide) (by exact Nat.le_of_ble_eq_true rfl) (fun X hX hQ hnL hnm => ?_)
  rw [show lv_args 0 [.ref h0, .int p1] = [(0, va_rf (some h0)), (1, .int p1)] by rfl]
  have hX : Ok X cX8_leastIn RX8 rm_X8_leastIn := hX
  unfold wp_X8_leastIn at h
  refine z_ldc2 (v := (9000000000000000000 : Int64)) hX dX8_leastIn_0 kj_RX8_27 ?_
  refine z_lstore_n hX [(2, .long (9000000000000000000 : Int64)), (0, va_rf (some h0)), (1, .int p1)] dX8_leastIn_3 rfl (by rw [hnL]; decide) rfl ?_
  refine z_iconst (v := (0 : Int32)) hX dX8_leastIn_4 (by decide) ?_
  refine z_istore hX [(4, .int (0 : Int32)), (2, .long (9000000000000000000 : Int64)), (0, va_rf (some h0)), (1, .int p1)] dX8_leastIn_5 (by rw [hnL]; decide) rfl ?_
  refine z_loc [2, 3, 1, 0] rfl ?_
  obtain ⟨n, h⟩ := h
  exact zl_X8_leastIn_7 hX hQ hnL n _ _ _ _ h
def rm_X9_init : Room := { frames := 1, cells := 3, slots := 72, locals := 20 }
def wp_X9_init (M : Mm) (h0 : Nat) (p1 : Int64) (p2 : Int64) (K : Mm → Prop) : Prop := mK M h0 = 10 ∧ (∀ q4, mK (sJ (sJ M 576 h0 p1) 577 h0 p2) q4 = 0 → mK (na (sJ (sJ M 576 h0 p1) 577 h0 p2) q4 98 24) h0 = 10 ∧ (∀ q9, mK (sR (na (sJ (sJ M 576 h0 p1) 577 h0 p2) q4 98 24) 578 h0 (some q4)) q9 = 0 → mK (na (sR (na (sJ (sJ M 576 h0 p1) 577 h0 p2) q4 98 24) 578 h0 (some q4)) q9 105 24) h0 = 10 ∧ (∀ q14, mK (sR (na (sR (na (sJ (sJ M 576 h0 p1) 577 h0 p2) q4 98 24) 578 h0 (some q4)) q9 105 24) 579 h0 (some q9)) q14 = 0 → mK (na (sR (na (sR (na (sJ (sJ M 576 h0 p1) 577 h0 p2) q4 98 24) 578 h0 (some q4)) q9 105 24) 579 h0 (some q9)) q14 113 24) h0 = 10 ∧ (K (sR (na (sR (na (sR (na (sJ (sJ M 576 h0 p1) 577 h0 p2) q4 98 24) 578 h0 (some q4)) q9 105 24) 579 h0 (some q9)) q14 113 24) 580 h0 (some q14))))))
set_option maxRecDepth 100000 in
set_option maxHeartbeats 4000000 in
theorem ct_X9_init {M : Mm} {h0 : Nat} {p1 : Int64} {p2 : Int64} {K : Mm → Prop} (h : wp_X9_init M h0 p1 p2 K) : CtV yX9_init cX9_init 5 none rm_X9_init [.ref h0, .long p1, .long p2] M K := by
  refine ct_any (QV K) (by decide) (by exact Nat.le_of_ble_eq_true rfl) (fun X hX hQ hnL hnm => ?_)
  rw [show lv_args 0 [.ref h0, .long p1, .long p2] = [(0, va_rf (some h0)), (1, .long p1), (3, .long p2)] by rfl]
  have hX : Ok X cX9_init RX9 rm_X9_init := hX
  unfold wp_X9_init at h
  refine z_aload_n (r := (some h0)) hX dX9_init_0 rfl 0 rfl ?_
  refine mw_RX9_3 (a := h0) hX dX9_init_1 (by decide) (by decide) ?_
  refine z_aload_n (r := (some h0)) hX dX9_init_4 rfl 0 rfl ?_
  refine z_lload_n hX dX9_init_5 rfl 1 rfl ?_
  obtain ⟨hk1, h⟩ := h
  refine pf_RX9_9 (r := (some h0)) (v := p1) hX hnm dX9_init_6 rfl hk1 ?_
  refine z_aload_n (r := (some h0)) hX dX9_init_9 rfl 0 rfl ?_
  refine z_lload_n hX dX9_init_10 rfl 2 rfl ?_
  refine pf_RX9_15 (r := (some h0)) (v := p2) hX hnm dX9_init_11 rfl hk1 ?_
  refine z_aload_n (r := (some h0)) hX dX9_init_14 rfl 0 rfl ?_
  refine z_bipush (v := (24 : Int32)) hX dX9_init_15 (by decide) ?_
  refine y_newa_long (n := 24) hX 98 (by decide) (by decide) (by decide) (by decide) (by decide) dX9_init_17 (by decide) (by decide) (fun q4 hq5 => ?_)
  have h := h q4 hq5
  obtain ⟨hk7, h⟩ := h
  refine pf_RX9_18 (r := (some h0)) (v := (some q4)) hX hnm dX9_init_19 rfl hk7 ?_
  refine z_aload_n (r := (some h0)) hX dX9_init_22 rfl 0 rfl ?_
  refine z_bipush (v := (24 : Int32)) hX dX9_init_23 (by decide) ?_
  refine y_newa_int (n := 24) hX 105 (by decide) (by decide) (by decide) (by decide) (by decide) dX9_init_25 (by decide) (by decide) (fun q9 hq10 => ?_)
  have h := h q9 hq10
  obtain ⟨hk12, h⟩ := h
  refine pf_RX9_22 (r := (some h0)) (v := (some q9)) hX hnm dX9_init_27 rfl hk12 ?_
  refine z_aload_n (r := (some h0)) hX dX9_init_30 rfl 0 rfl ?_
  refine z_bipush (v := (24 : Int32)) hX dX9_init_31 (by decide) ?_
  refine y_newa_int (n := 24) hX 113 (by decide) (by decide) (by decide) (by decide) (by decide) dX9_init_33 (by decide) (by decide) (fun q14 hq15 => ?_)
  have h := h q14 hq15
  obtain ⟨hk17, h⟩ := h
  refine pf_RX9_26 (r := (some h0)) (v := (some q14)) hX hnm dX9_init_35 rfl hk17 ?_
  refine z_widen 3 72 (by decide) (by decide) ?_
  exact z_vret hX hQ dX9_init_38 h
def rm_X9_isAhead : Room := { frames := 0, cells := 0, slots := 0, locals := 0 }
def bk_X9_isAhead_38 (h0 : Nat) (K : Int32 → Mm → Prop) (s0 : Int32) (M : Mm) : Prop := (bz s0 ∧ K s0 M)
set_option maxRecDepth 100000 in
set_option maxHeartbeats 4000000 in
theorem zb_X9_isAhead_38 {X : Cx} {h0 : Nat} {K : Int32 → Mm → Prop} (hX : Ok X cX9_isAhead RX9 rm_X9_isAhead) (hQ : Rq X rm_X9_isAhead (some .boolean) (QI K)) (hnL : X.2.2.2.2.2.2.2.2.2.2.2.2.2.2 = 5) {s0 : Int32} {M : Mm} (h : bk_X9_isAhead_38 h0 K s0 M) : Z X M 0 0 38 [] [.int s0] := by
  unfold bk_X9_isAhead_38 at h
  exact y_zret hX hQ dX9_isAhead_38 h.1 h.2
def bk_X9_isAhead_33 (h0 : Nat) (K : Int32 → Mm → Prop) (M : Mm) : Prop := (bk_X9_isAhead_38 h0 K (1 : Int32) M)
set_option maxRecDepth 100000 in
set_option maxHeartbeats 4000000 in
theorem zb_X9_isAhead_33 {X : Cx} {h0 : Nat} {K : Int32 → Mm → Prop} (hX : Ok X cX9_isAhead RX9 rm_X9_isAhead) (hQ : Rq X rm_X9_isAhead (some .boolean) (QI K)) (hnL : X.2.2.2.2.2.2.2.2.2.2.2.2.2.2 = 5) {M : Mm} (h : bk_X9_isAhead_33 h0 K M) : Z X M 0 0 33 [] [] := by
  unfold bk_X9_isAhead_33 at h
  refine z_iconst (v := (1 : Int32)) hX dX9_isAhead_33 (by decide) ?_
  refine z_goto (tgt := 38) hX dX9_isAhead_34 (by decide) ?_
  exact zb_X9_isAhead_38 hX hQ hnL h
def bk_X9_isAhead_37 (h0 : Nat) (K : Int32 → Mm → Prop) (M : Mm) : Prop := (bk_X9_isAhead_38 h0 K (0 : Int32) M)
set_option maxRecDepth 100000 in
set_option maxHeartbeats 4000000 in
theorem zb_X9_isAhead_37 {X : Cx} {h0 : Nat} {K : Int32 → Mm → Prop} (hX : Ok X cX9_isAhead RX9 rm_X9_isAhead) (hQ : Rq X rm_X9_isAhead (some .boolean) (QI K)) (hnL : X.2.2.2.2.2.2.2.2.2.2.2.2.2.2 = 5) {M : Mm} (h : bk_X9_isAhead_37 h0 K M) : Z X M 0 0 37 [] [] := by
  unfold bk_X9_isAhead_37 at h
  refine z_iconst (v := (0 : Int32)) hX dX9_isAhead_37 (by decide) ?_
  exact zb_X9_isAhead_38 hX hQ hnL h
def wp_X9_isAhead (M : Mm) (h0 : Nat) (p1 : Int32) (p2 : Int64) (p3 : Int32) (K : Int32 → Mm → Prop) : Prop := mK M h0 = 10 ∧ ∃ a2, (mR M 578 h0) = some a2 ∧ isA M a2 2 ∧ vp_in p1 (aN M a2) ∧ (((aJ M a2 (p1).toNatClampNeg) < p2 → (bk_X9_isAhead_33 h0 K M)) ∧ (¬ (aJ M a2 (p1).toNatClampNeg) < p2 → vp_in p1 (aN M a2) ∧ ((¬ (aJ M a2 (p1).toNatClampNeg) = p2 → (bk_X9_isAhead_37 h0 K M)) ∧ ((aJ M a2 (p1).toNatClampNeg) = p2 → ∃ a7, (mR M 579 h0) = some a7 ∧ isA M a7 1 ∧ vp_in p1 (aN M a7) ∧ ((p3 ≤ (aI M a7 (p1).toNatClampNeg) → (bk_X9_isAhead_37 h0 K M)) ∧ (¬ p3 ≤ (aI M a7 (p1).toNatClampNeg) → (bk_X9_isAhead_33 h0 K M)))))))
set_option maxRecDepth 100000 in
set_option maxHeartbeats 4000000 in
theorem ct_X9_isAhead {M : Mm} {h0 : Nat} {p1 : Int32} {p2 : Int64} {p3 : Int32} {K : Int32 → Mm → Prop} (h : wp_X9_isAhead M h0 p1 p2 p3 K) : CtI yX9_isAhead cX9_isAhead 5 (some .boolean) rm_X9_isAhead [.ref h0, .int p1, .long p2, .int p3] M K := by
  refine ct_any (QI K) (by decide) (by exact Nat.le_of_ble_eq_true rfl) (fun X hX hQ hnL hnm => ?_)
  rw [show lv_args 0 [.ref h0, .int p1, .long p2, .int p3] = [(0, va_rf (some h0)), (1, .int p1), (2, .long p2), (4, .int p3)] by rfl]
  have hX : Ok X cX9_isAhead RX9 rm_X9_isAhead := hX
  unfold wp_X9_isAhead at h
  refine z_aload_n (r := (some h0)) hX dX9_isAhead_0 rfl 0 rfl ?_
  obtain ⟨hk1, h⟩ := h
  refine gf_RX9_18 (r := (some h0)) hX dX9_isAhead_1 rfl hk1 ?_
  refine z_iload_n hX dX9_isAhead_4 rfl 1 rfl ?_
  obtain ⟨a2, ha3, h⟩ := h
  obtain ⟨hk4, h⟩ := h
  obtain ⟨hc5, h⟩ := h
  refine y_lald (r := (mR M 578 h0)) hX dX9_isAhead_5 ha3 hk4 hc5 ?_
  refine z_lload_n hX dX9_isAhead_6 rfl 2 rfl ?_
  refine z_lcmp hX dX9_isAhead_7 ?_
  obtain ⟨h1, h2⟩ := h
  refine z_if_lt (tgt := 33) hX dX9_isAhead_8 (by decide) (fun hc => ?_) (fun hc => ?_)
  · have h := h1 ((lg_cmp_lt _ _).mp hc)
    refine z_loc [] rfl ?_
    exact zb_X9_isAhead_33 hX hQ hnL h
  · have h := h2 (fun q => hc ((lg_cmp_lt _ _).mpr q))
    refine z_aload_n (r := (some h0)) hX dX9_isAhead_11 rfl 0 rfl ?_
    refine gf_RX9_18 (r := (some h0)) hX dX9_isAhead_12 rfl hk1 ?_
    refine z_iload_n hX dX9_isAhead_15 rfl 1 rfl ?_
    obtain ⟨hc6, h⟩ := h
    refine y_lald (r := (mR M 578 h0)) hX dX9_isAhead_16 ha3 hk4 hc6 ?_
    refine z_lload_n hX dX9_isAhead_17 rfl 2 rfl ?_
    refine z_lcmp hX dX9_isAhead_18 ?_
    obtain ⟨h1, h2⟩ := h
    refine z_if_ne (tgt := 37) hX dX9_isAhead_19 (by decide) (fun hc => ?_) (fun hc => ?_)
    · have h := h1 (fun q => hc ((lg_cmp_eq _ _).mpr q))
      refine z_loc [] rfl ?_
      exact zb_X9_isAhead_37 hX hQ hnL h
    · have h := h2 ((lg_cmp_eq _ _).mp hc)
      refine z_aload_n (r := (some h0)) hX dX9_isAhead_22 rfl 0 rfl ?_
      refine gf_RX9_22 (r := (some h0)) hX dX9_isAhead_23 rfl hk1 ?_
      refine z_iload_n hX dX9_isAhead_26 rfl 1 rfl ?_
      obtain ⟨a7, ha8, h⟩ := h
      obtain ⟨hk9, h⟩ := h
      obtain ⟨hc10, h⟩ := h
      refine y_iald (r := (mR M 579 h0)) hX dX9_isAhead_27 ha8 hk9 hc10 ?_
      refine z_iload hX dX9_isAhead_28 3 rfl ?_
      obtain ⟨h1, h2⟩ := h
      refine z_icmp_ge (tgt := 37) hX dX9_isAhead_30 (by decide) (fun hc => ?_) (fun hc => ?_)
      · have h := h1 hc
        refine z_loc [] rfl ?_
        exact zb_X9_isAhead_37 hX hQ hnL h
      · have h := h2 hc
        refine z_loc [] rfl ?_
        exact zb_X9_isAhead_33 hX hQ hnL h
def rm_X9_put : Room := { frames := 0, cells := 0, slots := 0, locals := 0 }
def wp_X9_put (M : Mm) (h0 : Nat) (p1 : Int32) (p2 : Int64) (p3 : Int32) (p4 : Int32) (K : Mm → Prop) : Prop := mK M h0 = 10 ∧ ∃ a2, (mR M 578 h0) = some a2 ∧ isA M a2 2 ∧ vp_in p1 (aN M a2) ∧ ∃ a6, (mR (tJ M a2 (p1).toNatClampNeg p2) 579 h0) = some a6 ∧ isA (tJ M a2 (p1).toNatClampNeg p2) a6 1 ∧ vp_in p1 (aN (tJ M a2 (p1).toNatClampNeg p2) a6) ∧ ∃ a10, (mR (tI (tJ M a2 (p1).toNatClampNeg p2) a6 (p1).toNatClampNeg p3) 580 h0) = some a10 ∧ isA (tI (tJ M a2 (p1).toNatClampNeg p2) a6 (p1).toNatClampNeg p3) a10 1 ∧ vp_in p1 (aN (tI (tJ M a2 (p1).toNatClampNeg p2) a6 (p1).toNatClampNeg p3) a10) ∧ (K (tI (tI (tJ M a2 (p1).toNatClampNeg p2) a6 (p1).toNatClampNeg p3) a10 (p1).toNatClampNeg p4))
set_option maxRecDepth 100000 in
set_option maxHeartbeats 4000000 in
theorem ct_X9_put {M : Mm} {h0 : Nat} {p1 : Int32} {p2 : Int64} {p3 : Int32} {p4 : Int32} {K : Mm → Prop} (h : wp_X9_put M h0 p1 p2 p3 p4 K) : CtV yX9_put cX9_put 6 none rm_X9_put [.ref h0, .int p1, .long p2, .int p3, .int p4] M K := by
  refine ct_any (QV K) (by decide) (by exact Nat.le_of_ble_eq_true rfl) (fun X hX hQ hnL hnm => ?_)
  rw [show lv_args 0 [.ref h0, .int p1, .long p2, .int p3, .int p4] = [(0, va_rf (some h0)), (1, .int p1), (2, .long p2), (4, .int p3), (5, .int p4)] by rfl]
  have hX : Ok X cX9_put RX9 rm_X9_put := hX
  unfold wp_X9_put at h
  refine z_aload_n (r := (some h0)) hX dX9_put_0 rfl 0 rfl ?_
  obtain ⟨hk1, h⟩ := h
  refine gf_RX9_18 (r := (some h0)) hX dX9_put_1 rfl hk1 ?_
  refine z_iload_n hX dX9_put_4 rfl 1 rfl ?_
  refine z_lload_n hX dX9_put_5 rfl 2 rfl ?_
  obtain ⟨a2, ha3, h⟩ := h
  obtain ⟨hk4, h⟩ := h
  obtain ⟨hc5, h⟩ := h
  refine y_last (r := (mR M 578 h0)) hX dX9_put_6 ha3 hk4 hc5 ?_
  refine z_aload_n (r := (some h0)) hX dX9_put_7 rfl 0 rfl ?_
  refine gf_RX9_22 (r := (some h0)) hX dX9_put_8 rfl hk1 ?_
  refine z_iload_n hX dX9_put_11 rfl 1 rfl ?_
  refine z_iload hX dX9_put_12 3 rfl ?_
  obtain ⟨a6, ha7, h⟩ := h
  obtain ⟨hk8, h⟩ := h
  obtain ⟨hc9, h⟩ := h
  refine y_iast (r := (mR (tJ M a2 (p1).toNatClampNeg p2) 579 h0)) hX dX9_put_14 ha7 hk8 hc9 ?_
  refine z_aload_n (r := (some h0)) hX dX9_put_15 rfl 0 rfl ?_
  refine gf_RX9_26 (r := (some h0)) hX dX9_put_16 rfl hk1 ?_
  refine z_iload_n hX dX9_put_19 rfl 1 rfl ?_
  refine z_iload hX dX9_put_20 4 rfl ?_
  obtain ⟨a10, ha11, h⟩ := h
  obtain ⟨hk12, h⟩ := h
  obtain ⟨hc13, h⟩ := h
  refine y_iast (r := (mR (tI (tJ M a2 (p1).toNatClampNeg p2) a6 (p1).toNatClampNeg p3) 580 h0)) hX dX9_put_22 ha11 hk12 hc13 ?_
  exact z_vret hX hQ dX9_put_23 h
def rm_X9_dropFirst : Room := { frames := 1, cells := 0, slots := 0, locals := 25 }
def bk_X9_dropFirst_58 (h0 : Nat) (K : Mm → Prop) (M : Mm) : Prop := (K M)
set_option maxRecDepth 100000 in
set_option maxHeartbeats 4000000 in
theorem zb_X9_dropFirst_58 {X : Cx} {h0 : Nat} {K : Mm → Prop} (hX : Ok X cX9_dropFirst RX9 rm_X9_dropFirst) (hQ : Rq X rm_X9_dropFirst none (QV K)) (hnL : X.2.2.2.2.2.2.2.2.2.2.2.2.2.2 = 2) {M : Mm} (h : bk_X9_dropFirst_58 h0 K M) : Z X M 0 0 58 [] [] := by
  unfold bk_X9_dropFirst_58 at h
  exact z_vret hX hQ dX9_dropFirst_58 h
def lp_X9_dropFirst_2 (h0 : Nat) (K : Mm → Prop) : Nat → Int32 → Mm → Prop
  | 0, _, _ => False
  | n + 1, l1, M => mK M h0 = 10 ∧ (((mI M 581 h0) ≤ l1 → (((mI M 581 h0) ≤ 0 → (bk_X9_dropFirst_58 h0 K M)) ∧ (¬ (mI M 581 h0) ≤ 0 → (bk_X9_dropFirst_58 h0 K (sI M 581 h0 ((mI M 581 h0) - (1 : Int32))))))) ∧ (¬ (mI M 581 h0) ≤ l1 → ∃ a3, (mR M 578 h0) = some a3 ∧ isA M a3 2 ∧ vp_in l1 (aN M a3) ∧ ∃ a7, (mR M 579 h0) = some a7 ∧ isA M a7 1 ∧ vp_in l1 (aN M a7) ∧ ∃ a11, (mR M 580 h0) = some a11 ∧ isA M a11 1 ∧ vp_in l1 (aN M a11) ∧ (wp_X9_put M h0 (l1 - (1 : Int32)) (aJ M a3 (l1).toNatClampNeg) (aI M a7 (l1).toNatClampNeg) (aI M a11 (l1).toNatClampNeg) (fun M16 => ((lp_X9_dropFirst_2 h0 K n) (l1 + 1) M16)))))
set_option maxRecDepth 100000 in
set_option maxHeartbeats 4000000 in
theorem zl_X9_dropFirst_2 {X : Cx} {h0 : Nat} {K : Mm → Prop} (hX : Ok X cX9_dropFirst RX9 rm_X9_dropFirst) (hQ : Rq X rm_X9_dropFirst none (QV K)) (hnL : X.2.2.2.2.2.2.2.2.2.2.2.2.2.2 = 2) : ∀ (n : Nat) (l1 : Int32) (M : Mm), lp_X9_dropFirst_2 h0 K n l1 M → Z X M 0 0 2 [(0, va_rf (some h0)), (1, .int l1)] [] := by
  intro n
  induction n with
  | zero =>
    intro l1 M h
    exact False.elim h
  | succ n hR2 =>
    intro l1 M h
    refine z_iload_n hX dX9_dropFirst_2 rfl 1 rfl ?_
    refine z_aload_n (r := (some h0)) hX dX9_dropFirst_3 rfl 0 rfl ?_
    obtain ⟨hk1, h⟩ := h
    refine gf_RX9_39 (r := (some h0)) hX dX9_dropFirst_4 rfl hk1 ?_
    obtain ⟨h1, h2⟩ := h
    refine z_icmp_ge (tgt := 41) hX dX9_dropFirst_7 (by decide) (fun hc => ?_) (fun hc => ?_)
    · have h := h1 hc
      refine z_aload_n (r := (some h0)) hX dX9_dropFirst_41 rfl 0 rfl ?_
      refine gf_RX9_39 (r := (some h0)) hX dX9_dropFirst_42 rfl hk1 ?_
      obtain ⟨h1, h2⟩ := h
      refine z_if_le (tgt := 58) hX dX9_dropFirst_45 (by decide) (fun hc => ?_) (fun hc => ?_)
      · have h := h1 hc
        refine z_loc [] rfl ?_
        exact zb_X9_dropFirst_58 hX hQ hnL h
      · have h := h2 hc
        refine z_aload_n (r := (some h0)) hX dX9_dropFirst_48 rfl 0 rfl ?_
        refine z_dup hX dX9_dropFirst_49 (cat_rf _) ?_
        refine gf_RX9_39 (r := (some h0)) hX dX9_dropFirst_50 rfl hk1 ?_
        refine z_iconst (v := (1 : Int32)) hX dX9_dropFirst_53 (by decide) ?_
        refine z_isub hX dX9_dropFirst_54 ?_
        refine pf_RX9_39 (r := (some h0)) (v := ((mI M 581 h0) - (1 : Int32))) hX dX9_dropFirst_55 rfl hk1 ?_
        refine z_loc [] rfl ?_
        exact zb_X9_dropFirst_58 hX hQ hnL h
    · have h := h2 hc
      refine z_aload_n (r := (some h0)) hX dX9_dropFirst_10 rfl 0 rfl ?_
      refine z_iload_n hX dX9_dropFirst_11 rfl 1 rfl ?_
      refine z_iconst (v := (1 : Int32)) hX dX9_dropFirst_12 (by decide) ?_
      refine z_isub hX dX9_dropFirst_13 ?_
      refine z_aload_n (r := (some h0)) hX dX9_dropFirst_14 rfl 0 rfl ?_
      refine gf_RX9_18 (r := (some h0)) hX dX9_dropFirst_15 rfl hk1 ?_
      refine z_iload_n hX dX9_dropFirst_18 rfl 1 rfl ?_
      obtain ⟨a3, ha4, h⟩ := h
      obtain ⟨hk5, h⟩ := h
      obtain ⟨hc6, h⟩ := h
      refine y_lald (r := (mR M 578 h0)) hX dX9_dropFirst_19 ha4 hk5 hc6 ?_
      refine z_aload_n (r := (some h0)) hX dX9_dropFirst_20 rfl 0 rfl ?_
      refine gf_RX9_22 (r := (some h0)) hX dX9_dropFirst_21 rfl hk1 ?_
      refine z_iload_n hX dX9_dropFirst_24 rfl 1 rfl ?_
      obtain ⟨a7, ha8, h⟩ := h
      obtain ⟨hk9, h⟩ := h
      obtain ⟨hc10, h⟩ := h
      refine y_iald (r := (mR M 579 h0)) hX dX9_dropFirst_25 ha8 hk9 hc10 ?_
      refine z_aload_n (r := (some h0)) hX dX9_dropFirst_26 rfl 0 rfl ?_
      refine gf_RX9_26 (r := (some h0)) hX dX9_dropFirst_27 rfl hk1 ?_
      refine z_iload_n hX dX9_dropFirst_30 rfl 1 rfl ?_
      obtain ⟨a11, ha12, h⟩ := h
      obtain ⟨hk13, h⟩ := h
      obtain ⟨hc14, h⟩ := h
      refine y_iald (r := (mR M 580 h0)) hX dX9_dropFirst_31 ha12 hk13 hc14 ?_
      refine z_callVV (As := [.int (l1 - (1 : Int32)), .long (aJ M a3 (l1).toNatClampNeg), .int (aI M a7 (l1).toNatClampNeg), .int (aI M a11 (l1).toNatClampNeg)]) (rest := []) (ci := 9) hX (ct_X9_put h) mw_RX9_47 rfl (by decide) rfl (by rfl) (by unfold RoomC; decide) (by decide) dX9_dropFirst_32 hk1 (fun M16 h => ?_)
      refine z_iinc (v := (l1 + 1)) hX [(1, .int (l1 + 1)), (0, va_rf (some h0))] dX9_dropFirst_35 1 rfl rfl (by rw [hnL]; decide) rfl ?_
      refine z_goto (tgt := 2) hX dX9_dropFirst_38 (by decide) ?_
      refine z_loc [1, 0] rfl ?_
      exact hR2 _ _ h
def wp_X9_dropFirst (M : Mm) (h0 : Nat) (K : Mm → Prop) : Prop := (∃ kk, lp_X9_dropFirst_2 h0 K kk (1 : Int32) M)
set_option maxRecDepth 100000 in
set_option maxHeartbeats 4000000 in
theorem ct_X9_dropFirst {M : Mm} {h0 : Nat} {K : Mm → Prop} (h : wp_X9_dropFirst M h0 K) : CtV yX9_dropFirst cX9_dropFirst 2 none rm_X9_dropFirst [.ref h0] M K := by
  refine ct_any (QV K) (by decide) (by exact Nat.le_of_ble_eq_true rfl) (fun X hX hQ hnL hnm => ?_)
  rw [show lv_args 0 [.ref h0] = [(0, va_rf (some h0))] by rfl]
  have hX : Ok X cX9_dropFirst RX9 rm_X9_dropFirst := hX
  unfold wp_X9_dropFirst at h
  refine z_iconst (v := (1 : Int32)) hX dX9_dropFirst_0 (by decide) ?_
  refine z_istore_n hX [(1, .int (1 : Int32)), (0, va_rf (some h0))] dX9_dropFirst_1 rfl (by rw [hnL]; decide) rfl ?_
  refine z_loc [1, 0] rfl ?_
  obtain ⟨n, h⟩ := h
  exact zl_X9_dropFirst_2 hX hQ hnL n _ _ h
def rm_X10_init : Room := { frames := 2, cells := 8, slots := 4010, locals := 41 }
def wp_X10_init (M : Mm) (h0 : Nat) (K : Mm → Prop) : Prop := (∀ q1, mK M q1 = 0 → (wp_X0_init (nw M q1 1) q1 (600 : Int32) (fun M5 => mK M5 h0 = 11 ∧ (∀ q9, mK (sR M5 640 h0 (some q1)) q9 = 0 → (wp_X0_init (nw (sR M5 640 h0 (some q1)) q9 1) q9 (800 : Int32) (fun M13 => mK M13 h0 = 11 ∧ (∀ q17, mK (sR M13 641 h0 (some q9)) q17 = 0 → (wp_X3_init (nw (sR M13 641 h0 (some q9)) q17 4) q17 (300 : Int32) (fun M21 => mK M21 h0 = 11 ∧ (∀ q25, mK (sR M21 642 h0 (some q17)) q25 = 0 → (wp_X3_init (nw (sR M21 642 h0 (some q17)) q25 4) q25 (200 : Int32) (fun M29 => mK M29 h0 = 11 ∧ (K (sI (sR (sR M29 643 h0 (some q25)) 644 h0 none) 645 h0 (0 : Int32)))))))))))))))
set_option maxRecDepth 100000 in
set_option maxHeartbeats 4000000 in
theorem ct_X10_init {M : Mm} {h0 : Nat} {K : Mm → Prop} (h : wp_X10_init M h0 K) : CtV yX10_init cX10_init 1 none rm_X10_init [.ref h0] M K := by
  refine ct_any (QV K) (by decide) (by exact Nat.le_of_ble_eq_true rfl) (fun X hX hQ hnL hnm => ?_)
  rw [show lv_args 0 [.ref h0] = [(0, va_rf (some h0))] by rfl]
  have hX : Ok X cX10_init RX10 rm_X10_init := hX
  unfold wp_X10_init at h
  refine z_aload_n (r := (some h0)) hX dX10_init_0 rfl 0 rfl ?_
  refine mw_RX10_3 (a := h0) hX dX10_init_1 (by decide) (by decide) ?_
  refine z_aload_n (r := (some h0)) hX dX10_init_4 rfl 0 rfl ?_
  refine nq_RX10_9 hX dX10_init_5 (by decide) (by decide) (fun q1 hq2 => ?_)
  have h := h q1 hq2
  refine z_dup hX dX10_init_8 (cat_rf _) ?_
  refine z_sipush (v := (600 : Int32)) hX dX10_init_9 (by decide) ?_
  refine z_callIV (As := [.int (600 : Int32)]) (rest := [va_rf (some q1), va_rf (some h0)]) hX (ct_X0_init h) mw_RX10_11 rfl (by rfl) (by unfold RoomC; decide) (by simp only [List.map_cons, List.map_nil, List.sum_cons, List.sum_nil, cat_rf, cat_i, cat_j]; decide) dX10_init_12 (fun M5 h => ?_)
  obtain ⟨hk7, h⟩ := h
  refine pf_RX10_14 (r := (some h0)) (v := (some q1)) hX hnm dX10_init_15 rfl hk7 ?_
  refine z_aload_n (r := (some h0)) hX dX10_init_18 rfl 0 rfl ?_
  refine nq_RX10_9 hX dX10_init_19 (by decide) (by decide) (fun q9 hq10 => ?_)
  have h := h q9 hq10
  refine z_dup hX dX10_init_22 (cat_rf _) ?_
  refine z_sipush (v := (800 : Int32)) hX dX10_init_23 (by decide) ?_
  refine z_callIV (As := [.int (800 : Int32)]) (rest := [va_rf (some q9), va_rf (some h0)]) hX (ct_X0_init h) mw_RX10_11 rfl (by rfl) (by unfold RoomC; decide) (by simp only [List.map_cons, List.map_nil, List.sum_cons, List.sum_nil, cat_rf, cat_i, cat_j]; decide) dX10_init_26 (fun M13 h => ?_)
  obtain ⟨hk15, h⟩ := h
  refine pf_RX10_18 (r := (some h0)) (v := (some q9)) hX hnm dX10_init_29 rfl hk15 ?_
  refine z_aload_n (r := (some h0)) hX dX10_init_32 rfl 0 rfl ?_
  refine nq_RX10_21 hX dX10_init_33 (by decide) (by decide) (fun q17 hq18 => ?_)
  have h := h q17 hq18
  refine z_dup hX dX10_init_36 (cat_rf _) ?_
  refine z_sipush (v := (300 : Int32)) hX dX10_init_37 (by decide) ?_
  refine z_callIV (As := [.int (300 : Int32)]) (rest := [va_rf (some q17), va_rf (some h0)]) hX (ct_X3_init h) mw_RX10_23 rfl (by rfl) (by unfold RoomC; decide) (by simp only [List.map_cons, List.map_nil, List.sum_cons, List.sum_nil, cat_rf, cat_i, cat_j]; decide) dX10_init_40 (fun M21 h => ?_)
  obtain ⟨hk23, h⟩ := h
  refine pf_RX10_24 (r := (some h0)) (v := (some q17)) hX hnm dX10_init_43 rfl hk23 ?_
  refine z_aload_n (r := (some h0)) hX dX10_init_46 rfl 0 rfl ?_
  refine nq_RX10_21 hX dX10_init_47 (by decide) (by decide) (fun q25 hq26 => ?_)
  have h := h q25 hq26
  refine z_dup hX dX10_init_50 (cat_rf _) ?_
  refine z_sipush (v := (200 : Int32)) hX dX10_init_51 (by decide) ?_
  refine z_callIV (As := [.int (200 : Int32)]) (rest := [va_rf (some q25), va_rf (some h0)]) hX (ct_X3_init h) mw_RX10_23 rfl (by rfl) (by unfold RoomC; decide) (by simp only [List.map_cons, List.map_nil, List.sum_cons, List.sum_nil, cat_rf, cat_i, cat_j]; decide) dX10_init_54 (fun M29 h => ?_)
  obtain ⟨hk31, h⟩ := h
  refine pf_RX10_28 (r := (some h0)) (v := (some q25)) hX hnm dX10_init_57 rfl hk31 ?_
  refine z_aload_n (r := (some h0)) hX dX10_init_60 rfl 0 rfl ?_
  refine z_null hX dX10_init_61 ?_
  refine pf_RX10_31 (r := (some h0)) (v := none) hX dX10_init_62 rfl hk31 ?_
  refine z_aload_n (r := (some h0)) hX dX10_init_65 rfl 0 rfl ?_
  refine z_iconst (v := (0 : Int32)) hX dX10_init_66 (by decide) ?_
  refine pf_RX10_35 (r := (some h0)) (v := (0 : Int32)) hX dX10_init_67 rfl hk31 ?_
  refine z_widen 8 4010 (by decide) (by decide) ?_
  exact z_vret hX hQ dX10_init_70 h
def rm_X10_feed : Room := { frames := 1, cells := 0, slots := 0, locals := 21 }
def bk_X10_feed_26 (h0 : Nat) (K : Int32 → Mm → Prop) (M : Mm) : Prop := (K (-1 : Int32) M)
set_option maxRecDepth 100000 in
set_option maxHeartbeats 4000000 in
theorem zb_X10_feed_26 {X : Cx} {h0 : Nat} {K : Int32 → Mm → Prop} (hX : Ok X cX10_feed RX10 rm_X10_feed) (hQ : Rq X rm_X10_feed (some .int) (QI K)) (hnL : X.2.2.2.2.2.2.2.2.2.2.2.2.2.2 = 5) {M : Mm} (h : bk_X10_feed_26 h0 K M) : Z X M 0 0 26 [] [] := by
  unfold bk_X10_feed_26 at h
  refine z_iconst (v := (-1 : Int32)) hX dX10_feed_26 (by decide) ?_
  exact z_iret hX hQ dX10_feed_27 h
def lp_X10_feed_33 (h0 : Nat) (K : Int32 → Mm → Prop) : Nat → Int64 → Int32 → Mm → Prop
  | 0, _, _, _ => False
  | n + 1, l1, l4, M => ((l4 < 0 → mK M h0 = 11 ∧ ∃ a2, (mR M 640 h0) = some a2 ∧ mK M a2 = 1 ∧ (K (mI M 1 a2) M)) ∧ (¬ l4 < 0 → mK M h0 = 11 ∧ ∃ a8, (mR M 640 h0) = some a8 ∧ mK M a8 = 1 ∧ (wp_X0_add M a8 ((((((l1).toUInt64 >>> ((((8 : Int32) * l4)).toInt64.toUInt64 &&& Int64.toUInt64 63)).toInt64)).toInt32) &&& (255 : Int32)) (fun M7 => ((lp_X10_feed_33 h0 K n) l1 (l4 + (-1)) M7)))))
set_option maxRecDepth 100000 in
set_option maxHeartbeats 4000000 in
theorem zl_X10_feed_33 {X : Cx} {h0 : Nat} {K : Int32 → Mm → Prop} (hX : Ok X cX10_feed RX10 rm_X10_feed) (hQ : Rq X rm_X10_feed (some .int) (QI K)) (hnL : X.2.2.2.2.2.2.2.2.2.2.2.2.2.2 = 5) : ∀ (n : Nat) (l1 : Int64) (l4 : Int32) (M : Mm), lp_X10_feed_33 h0 K n l1 l4 M → Z X M 0 0 33 [(0, va_rf (some h0)), (1, .long l1), (4, .int l4)] [] := by
  intro n
  induction n with
  | zero =>
    intro l1 l4 M h
    exact False.elim h
  | succ n hR33 =>
    intro l1 l4 M h
    refine z_iload hX dX10_feed_33 2 rfl ?_
    obtain ⟨h1, h2⟩ := h
    refine z_if_lt (tgt := 63) hX dX10_feed_35 (by decide) (fun hc => ?_) (fun hc => ?_)
    · have h := h1 hc
      refine z_aload_n (r := (some h0)) hX dX10_feed_63 rfl 0 rfl ?_
      obtain ⟨hk1, h⟩ := h
      refine gf_RX10_14 (r := (some h0)) hX dX10_feed_64 rfl hk1 ?_
      obtain ⟨a2, ha3, h⟩ := h
      obtain ⟨hk4, h⟩ := h
      refine gf_RX10_39 (r := (mR M 640 h0)) hX dX10_feed_67 ha3 hk4 ?_
      exact z_iret hX hQ dX10_feed_70 h
    · have h := h2 hc
      refine z_aload_n (r := (some h0)) hX dX10_feed_38 rfl 0 rfl ?_
      obtain ⟨hk5, h⟩ := h
      refine gf_RX10_14 (r := (some h0)) hX dX10_feed_39 rfl hk5 ?_
      refine z_lload_n hX dX10_feed_42 rfl 1 rfl ?_
      refine z_bipush (v := (8 : Int32)) hX dX10_feed_43 (by decide) ?_
      refine z_iload hX dX10_feed_45 2 rfl ?_
      refine z_imul hX dX10_feed_47 ?_
      refine z_lushr hX dX10_feed_48 ?_
      refine z_l2i hX dX10_feed_49 ?_
      refine z_sipush (v := (255 : Int32)) hX dX10_feed_50 (by decide) ?_
      refine z_iand hX dX10_feed_53 ?_
      obtain ⟨a8, ha9, h⟩ := h
      obtain ⟨hk10, h⟩ := h
      refine z_callVV (As := [.int ((((((l1).toUInt64 >>> ((((8 : Int32) * l4)).toInt64.toUInt64 &&& Int64.toUInt64 63)).toInt64)).toInt32) &&& (255 : Int32))]) (rest := []) (ci := 0) hX (ct_X0_add h) mw_RX10_42 rfl (by decide) rfl (by rw [ha9]; rfl) (by unfold RoomC; decide) (by decide) dX10_feed_54 hk10 (fun M7 h => ?_)
      refine z_iinc (v := (l4 + (-1))) hX [(4, .int (l4 + (-1))), (0, va_rf (some h0)), (1, .long l1)] dX10_feed_57 2 rfl rfl (by rw [hnL]; decide) rfl ?_
      refine z_goto (tgt := 33) hX dX10_feed_60 (by decide) ?_
      refine z_loc [1, 2, 0] rfl ?_
      exact hR33 _ _ _ h
def wp_X10_feed (M : Mm) (h0 : Nat) (p1 : Int64) (p2 : Int32) (K : Int32 → Mm → Prop) : Prop := ((p2 < (1 : Int32) → (bk_X10_feed_26 h0 K M)) ∧ (¬ p2 < (1 : Int32) → (((8 : Int32) < p2 → (bk_X10_feed_26 h0 K M)) ∧ (¬ (8 : Int32) < p2 → mK M h0 = 11 ∧ ∃ a13, (mR M 640 h0) = some a13 ∧ mK M a13 = 1 ∧ ((p2 ≤ ((600 : Int32) - (mI M 1 a13)) → (∃ kk, lp_X10_feed_33 h0 K kk p1 (p2 - (1 : Int32)) M)) ∧ (¬ p2 ≤ ((600 : Int32) - (mI M 1 a13)) → (bk_X10_feed_26 h0 K M)))))))
set_option maxRecDepth 100000 in
set_option maxHeartbeats 4000000 in
theorem ct_X10_feed {M : Mm} {h0 : Nat} {p1 : Int64} {p2 : Int32} {K : Int32 → Mm → Prop} (h : wp_X10_feed M h0 p1 p2 K) : CtI yX10_feed cX10_feed 5 (some .int) rm_X10_feed [.ref h0, .long p1, .int p2] M K := by
  refine ct_any (QI K) (by decide) (by exact Nat.le_of_ble_eq_true rfl) (fun X hX hQ hnL hnm => ?_)
  rw [show lv_args 0 [.ref h0, .long p1, .int p2] = [(0, va_rf (some h0)), (1, .long p1), (3, .int p2)] by rfl]
  have hX : Ok X cX10_feed RX10 rm_X10_feed := hX
  unfold wp_X10_feed at h
  refine z_iload_n hX dX10_feed_0 rfl 2 rfl ?_
  refine z_iconst (v := (1 : Int32)) hX dX10_feed_1 (by decide) ?_
  obtain ⟨h1, h2⟩ := h
  refine z_icmp_lt (tgt := 26) hX dX10_feed_2 (by decide) (fun hc => ?_) (fun hc => ?_)
  · have h := h1 hc
    refine z_loc [] rfl ?_
    exact zb_X10_feed_26 hX hQ hnL h
  · have h := h2 hc
    refine z_iload_n hX dX10_feed_5 rfl 2 rfl ?_
    refine z_bipush (v := (8 : Int32)) hX dX10_feed_6 (by decide) ?_
    obtain ⟨h1, h2⟩ := h
    refine z_icmp_gt (tgt := 26) hX dX10_feed_8 (by decide) (fun hc => ?_) (fun hc => ?_)
    · have h := h1 hc
      refine z_loc [] rfl ?_
      exact zb_X10_feed_26 hX hQ hnL h
    · have h := h2 hc
      refine z_iload_n hX dX10_feed_11 rfl 2 rfl ?_
      refine z_sipush (v := (600 : Int32)) hX dX10_feed_12 (by decide) ?_
      refine z_aload_n (r := (some h0)) hX dX10_feed_15 rfl 0 rfl ?_
      obtain ⟨hk12, h⟩ := h
      refine gf_RX10_14 (r := (some h0)) hX dX10_feed_16 rfl hk12 ?_
      obtain ⟨a13, ha14, h⟩ := h
      obtain ⟨hk15, h⟩ := h
      refine gf_RX10_39 (r := (mR M 640 h0)) hX dX10_feed_19 ha14 hk15 ?_
      refine z_isub hX dX10_feed_22 ?_
      obtain ⟨h1, h2⟩ := h
      refine z_icmp_le (tgt := 28) hX dX10_feed_23 (by decide) (fun hc => ?_) (fun hc => ?_)
      · have h := h1 hc
        refine z_iload_n hX dX10_feed_28 rfl 2 rfl ?_
        refine z_iconst (v := (1 : Int32)) hX dX10_feed_29 (by decide) ?_
        refine z_isub hX dX10_feed_30 ?_
        refine z_istore hX [(4, .int (p2 - (1 : Int32))), (0, va_rf (some h0)), (1, .long p1), (3, .int p2)] dX10_feed_31 (by rw [hnL]; decide) rfl ?_
        refine z_loc [1, 2, 0] rfl ?_
        obtain ⟨n, h⟩ := h
        exact zl_X10_feed_33 hX hQ hnL n _ _ _ h
      · have h := h2 hc
        refine z_loc [] rfl ?_
        exact zb_X10_feed_26 hX hQ hnL h
def rm_X10_fault : Room := { frames := 0, cells := 0, slots := 0, locals := 0 }
def wp_X10_fault (M : Mm) (h0 : Nat) (K : Int32 → Mm → Prop) : Prop := mK M h0 = 11 ∧ (K (mI M 645 h0) M)
set_option maxRecDepth 100000 in
set_option maxHeartbeats 4000000 in
theorem ct_X10_fault {M : Mm} {h0 : Nat} {K : Int32 → Mm → Prop} (h : wp_X10_fault M h0 K) : CtI yX10_fault cX10_fault 1 (some .int) rm_X10_fault [.ref h0] M K := by
  refine ct_any (QI K) (by decide) (by exact Nat.le_of_ble_eq_true rfl) (fun X hX hQ hnL hnm => ?_)
  rw [show lv_args 0 [.ref h0] = [(0, va_rf (some h0))] by rfl]
  have hX : Ok X cX10_fault RX10 rm_X10_fault := hX
  unfold wp_X10_fault at h
  refine z_aload_n (r := (some h0)) hX dX10_fault_0 rfl 0 rfl ?_
  obtain ⟨hk1, h⟩ := h
  refine gf_RX10_35 (r := (some h0)) hX dX10_fault_1 rfl hk1 ?_
  exact z_iret hX hQ dX10_fault_4 h
def rm_X10_letter : Room := { frames := 1, cells := 0, slots := 0, locals := 21 }
def bk_X10_letter_18 (h0 : Nat) (K : Int32 → Mm → Prop) (s0 : Int32) (M : Mm) : Prop := (K s0 M)
set_option maxRecDepth 100000 in
set_option maxHeartbeats 4000000 in
theorem zb_X10_letter_18 {X : Cx} {h0 : Nat} {K : Int32 → Mm → Prop} (hX : Ok X cX10_letter RX10 rm_X10_letter) (hQ : Rq X rm_X10_letter (some .int) (QI K)) (hnL : X.2.2.2.2.2.2.2.2.2.2.2.2.2.2 = 3) {s0 : Int32} {M : Mm} (h : bk_X10_letter_18 h0 K s0 M) : Z X M 0 0 18 [] [.int s0] := by
  unfold bk_X10_letter_18 at h
  exact z_iret hX hQ dX10_letter_18 h
def wp_X10_letter (M : Mm) (h0 : Nat) (p1 : Int32) (K : Int32 → Mm → Prop) : Prop := mK M h0 = 11 ∧ ∃ a4, (mR M 641 h0) = some a4 ∧ mK M a4 = 1 ∧ (wp_X0_at M a4 p1 (fun r2 M3 => ((0 ≤ r2 → (bk_X10_letter_18 h0 K r2 M3)) ∧ (¬ 0 ≤ r2 → (bk_X10_letter_18 h0 K (-1 : Int32) M3)))))
set_option maxRecDepth 100000 in
set_option maxHeartbeats 4000000 in
theorem ct_X10_letter {M : Mm} {h0 : Nat} {p1 : Int32} {K : Int32 → Mm → Prop} (h : wp_X10_letter M h0 p1 K) : CtI yX10_letter cX10_letter 3 (some .int) rm_X10_letter [.ref h0, .int p1] M K := by
  refine ct_any (QI K) (by decide) (by exact Nat.le_of_ble_eq_true rfl) (fun X hX hQ hnL hnm => ?_)
  rw [show lv_args 0 [.ref h0, .int p1] = [(0, va_rf (some h0)), (1, .int p1)] by rfl]
  have hX : Ok X cX10_letter RX10 rm_X10_letter := hX
  unfold wp_X10_letter at h
  refine z_aload_n (r := (some h0)) hX dX10_letter_0 rfl 0 rfl ?_
  obtain ⟨hk1, h⟩ := h
  refine gf_RX10_18 (r := (some h0)) hX dX10_letter_1 rfl hk1 ?_
  refine z_iload_n hX dX10_letter_4 rfl 1 rfl ?_
  obtain ⟨a4, ha5, h⟩ := h
  obtain ⟨hk6, h⟩ := h
  refine z_callVI (As := [.int p1]) (rest := []) (ci := 0) hX (ct_X0_at h) mw_RX10_242 rfl (by decide) rfl (by rw [ha5]; rfl) (by unfold RoomC; decide) (by decide) dX10_letter_5 hk6 (fun r2 M3 h => ?_)
  refine z_istore_n hX [(2, .int r2), (0, va_rf (some h0)), (1, .int p1)] dX10_letter_8 rfl (by rw [hnL]; decide) rfl ?_
  refine z_iload_n hX dX10_letter_9 rfl 0 rfl ?_
  obtain ⟨h1, h2⟩ := h
  refine z_if_ge (tgt := 17) hX dX10_letter_10 (by decide) (fun hc => ?_) (fun hc => ?_)
  · have h := h1 hc
    refine z_iload_n hX dX10_letter_17 rfl 0 rfl ?_
    refine z_loc [] rfl ?_
    exact zb_X10_letter_18 hX hQ hnL h
  · have h := h2 hc
    refine z_iconst (v := (-1 : Int32)) hX dX10_letter_13 (by decide) ?_
    refine z_goto (tgt := 18) hX dX10_letter_14 (by decide) ?_
    refine z_loc [] rfl ?_
    exact zb_X10_letter_18 hX hQ hnL h
def rm_X10_streamOrNull : Room := { frames := 0, cells := 0, slots := 0, locals := 0 }
def bk_X10_streamOrNull_22 (h0 : Nat) (K : Option Nat → Mm → Prop) (M : Mm) : Prop := (K none M)
set_option maxRecDepth 100000 in
set_option maxHeartbeats 4000000 in
theorem zb_X10_streamOrNull_22 {X : Cx} {h0 : Nat} {K : Option Nat → Mm → Prop} (hX : Ok X cX10_streamOrNull RX10 rm_X10_streamOrNull) (hQ : Rq X rm_X10_streamOrNull (some (.object "WatermarkJoin$Stream")) (QR K)) (hnL : X.2.2.2.2.2.2.2.2.2.2.2.2.2.2 = 2) {M : Mm} (h : bk_X10_streamOrNull_22 h0 K M) : Z X M 0 0 22 [] [] := by
  unfold bk_X10_streamOrNull_22 at h
  refine z_null hX dX10_streamOrNull_22 ?_
  exact z_aret hX hQ dX10_streamOrNull_23 h
def wp_X10_streamOrNull (M : Mm) (h0 : Nat) (p1 : Int32) (K : Option Nat → Mm → Prop) : Prop := mK M h0 = 11 ∧ (((mR M 644 h0) = none → (bk_X10_streamOrNull_22 h0 K M)) ∧ (∀ a2, (mR M 644 h0) = some a2 → ((p1 < 0 → (bk_X10_streamOrNull_22 h0 K M)) ∧ (¬ p1 < 0 → mK M a2 = 2 ∧ ((p1 < (mI M 69 a2) → ∃ a5, (mR M 66 a2) = some a5 ∧ isA M a5 4 ∧ vp_in p1 (aN M a5) ∧ (K (aR M a5 (p1).toNatClampNeg) M)) ∧ (¬ p1 < (mI M 69 a2) → (bk_X10_streamOrNull_22 h0 K M)))))))
set_option maxRecDepth 100000 in
set_option maxHeartbeats 4000000 in
theorem ct_X10_streamOrNull {M : Mm} {h0 : Nat} {p1 : Int32} {K : Option Nat → Mm → Prop} (h : wp_X10_streamOrNull M h0 p1 K) : CtR yX10_streamOrNull cX10_streamOrNull 2 (some (.object "WatermarkJoin$Stream")) rm_X10_streamOrNull [.ref h0, .int p1] M K := by
  refine ct_any (QR K) (by decide) (by exact Nat.le_of_ble_eq_true rfl) (fun X hX hQ hnL hnm => ?_)
  rw [show lv_args 0 [.ref h0, .int p1] = [(0, va_rf (some h0)), (1, .int p1)] by rfl]
  have hX : Ok X cX10_streamOrNull RX10 rm_X10_streamOrNull := hX
  unfold wp_X10_streamOrNull at h
  refine z_aload_n (r := (some h0)) hX dX10_streamOrNull_0 rfl 0 rfl ?_
  obtain ⟨hk1, h⟩ := h
  refine gf_RX10_31 (r := (some h0)) hX dX10_streamOrNull_1 rfl hk1 ?_
  obtain ⟨h1, h2⟩ := h
  refine z_ifnull (r := (mR M 644 h0)) (tgt := 22) hX dX10_streamOrNull_4 (by decide) (fun hc => ?_) (fun a2 ha3 => ?_)
  · have h := h1 hc
    refine z_loc [] rfl ?_
    exact zb_X10_streamOrNull_22 hX hQ hnL h
  · have h := h2 a2 ha3
    refine z_iload_n hX dX10_streamOrNull_7 rfl 1 rfl ?_
    obtain ⟨h1, h2⟩ := h
    refine z_if_lt (tgt := 22) hX dX10_streamOrNull_8 (by decide) (fun hc => ?_) (fun hc => ?_)
    · have h := h1 hc
      refine z_loc [] rfl ?_
      exact zb_X10_streamOrNull_22 hX hQ hnL h
    · have h := h2 hc
      refine z_iload_n hX dX10_streamOrNull_11 rfl 1 rfl ?_
      refine z_aload_n (r := (some h0)) hX dX10_streamOrNull_12 rfl 0 rfl ?_
      refine gf_RX10_31 (r := (some h0)) hX dX10_streamOrNull_13 rfl hk1 ?_
      obtain ⟨hk4, h⟩ := h
      refine gf_RX10_73 (r := (mR M 644 h0)) hX dX10_streamOrNull_16 ha3 hk4 ?_
      obtain ⟨h1, h2⟩ := h
      refine z_icmp_lt (tgt := 24) hX dX10_streamOrNull_19 (by decide) (fun hc => ?_) (fun hc => ?_)
      · have h := h1 hc
        refine z_aload_n (r := (some h0)) hX dX10_streamOrNull_24 rfl 0 rfl ?_
        refine gf_RX10_31 (r := (some h0)) hX dX10_streamOrNull_25 rfl hk1 ?_
        refine gf_RX10_245 (r := (mR M 644 h0)) hX dX10_streamOrNull_28 ha3 hk4 ?_
        refine z_iload_n hX dX10_streamOrNull_31 rfl 1 rfl ?_
        obtain ⟨a5, ha6, h⟩ := h
        obtain ⟨hk7, h⟩ := h
        obtain ⟨hc8, h⟩ := h
        refine y_aldq (r := (mR M 66 a2)) hX dX10_streamOrNull_32 ha6 hk7 hc8 ?_
        exact z_aret hX hQ dX10_streamOrNull_33 h
      · have h := h2 hc
        refine z_loc [] rfl ?_
        exact zb_X10_streamOrNull_22 hX hQ hnL h
def rm_X10_sourceWith : Room := { frames := 1, cells := 0, slots := 0, locals := 21 }
def bk_X10_sourceWith_32 (h0 : Nat) (K : Option Nat → Mm → Prop) (M : Mm) : Prop := (K none M)
set_option maxRecDepth 100000 in
set_option maxHeartbeats 4000000 in
theorem zb_X10_sourceWith_32 {X : Cx} {h0 : Nat} {K : Option Nat → Mm → Prop} (hX : Ok X cX10_sourceWith RX10 rm_X10_sourceWith) (hQ : Rq X rm_X10_sourceWith (some (.object "WatermarkJoin$Stream")) (QR K)) (hnL : X.2.2.2.2.2.2.2.2.2.2.2.2.2.2 = 4) {M : Mm} (h : bk_X10_sourceWith_32 h0 K M) : Z X M 0 0 32 [] [] := by
  unfold bk_X10_sourceWith_32 at h
  refine z_null hX dX10_sourceWith_32 ?_
  exact z_aret hX hQ dX10_sourceWith_33 h
def wp_X10_sourceWith (M : Mm) (h0 : Nat) (p1 : Int32) (p2 : Int32) (K : Option Nat → Mm → Prop) : Prop := mK M h0 = 11 ∧ (wp_X10_streamOrNull M h0 p1 (fun r1 M2 => ((r1 = none → (bk_X10_sourceWith_32 h0 K M2)) ∧ (∀ a5, r1 = some a5 → mK M2 a5 = 7 ∧ (((mR M2 393 a5) = none → (bk_X10_sourceWith_32 h0 K M2)) ∧ (∀ a8, (mR M2 393 a5) = some a8 → ((p2 < 0 → (bk_X10_sourceWith_32 h0 K M2)) ∧ (¬ p2 < 0 → mK M2 a8 = 6 ∧ ((p2 < (mI M2 320 a8) → (K r1 M2)) ∧ (¬ p2 < (mI M2 320 a8) → (bk_X10_sourceWith_32 h0 K M2)))))))))))
set_option maxRecDepth 100000 in
set_option maxHeartbeats 4000000 in
theorem ct_X10_sourceWith {M : Mm} {h0 : Nat} {p1 : Int32} {p2 : Int32} {K : Option Nat → Mm → Prop} (h : wp_X10_sourceWith M h0 p1 p2 K) : CtR yX10_sourceWith cX10_sourceWith 4 (some (.object "WatermarkJoin$Stream")) rm_X10_sourceWith [.ref h0, .int p1, .int p2] M K := by
  refine ct_any (QR K) (by decide) (by exact Nat.le_of_ble_eq_true rfl) (fun X hX hQ hnL hnm => ?_)
  rw [show lv_args 0 [.ref h0, .int p1, .int p2] = [(0, va_rf (some h0)), (1, .int p1), (2, .int p2)] by rfl]
  have hX : Ok X cX10_sourceWith RX10 rm_X10_sourceWith := hX
  unfold wp_X10_sourceWith at h
  refine z_aload_n (r := (some h0)) hX dX10_sourceWith_0 rfl 0 rfl ?_
  refine z_iload_n hX dX10_sourceWith_1 rfl 1 rfl ?_
  obtain ⟨hk3, h⟩ := h
  refine z_callVR (As := [.int p1]) (rest := []) (ci := 10) hX (ct_X10_streamOrNull h) mw_RX10_129 rfl (by decide) rfl (by rfl) (by unfold RoomC; decide) (by decide) dX10_sourceWith_2 hk3 (fun r1 M2 h => ?_)
  refine z_astore_n (r := r1) hX [(3, va_rf r1), (0, va_rf (some h0)), (1, .int p1), (2, .int p2)] dX10_sourceWith_5 rfl (by rw [hnL]; decide) rfl ?_
  refine z_aload_n (r := r1) hX dX10_sourceWith_6 rfl 0 rfl ?_
  obtain ⟨h1, h2⟩ := h
  refine z_ifnull (r := r1) (tgt := 32) hX dX10_sourceWith_7 (by decide) (fun hc => ?_) (fun a5 ha6 => ?_)
  · have h := h1 hc
    refine z_loc [] rfl ?_
    exact zb_X10_sourceWith_32 hX hQ hnL h
  · have h := h2 a5 ha6
    refine z_aload_n (r := r1) hX dX10_sourceWith_10 rfl 0 rfl ?_
    obtain ⟨hk7, h⟩ := h
    refine gf_RX10_88 (r := r1) hX dX10_sourceWith_11 ha6 hk7 ?_
    obtain ⟨h1, h2⟩ := h
    refine z_ifnull (r := (mR M2 393 a5)) (tgt := 32) hX dX10_sourceWith_14 (by decide) (fun hc => ?_) (fun a8 ha9 => ?_)
    · have h := h1 hc
      refine z_loc [] rfl ?_
      exact zb_X10_sourceWith_32 hX hQ hnL h
    · have h := h2 a8 ha9
      refine z_iload_n hX dX10_sourceWith_17 rfl 3 rfl ?_
      obtain ⟨h1, h2⟩ := h
      refine z_if_lt (tgt := 32) hX dX10_sourceWith_18 (by decide) (fun hc => ?_) (fun hc => ?_)
      · have h := h1 hc
        refine z_loc [] rfl ?_
        exact zb_X10_sourceWith_32 hX hQ hnL h
      · have h := h2 hc
        refine z_iload_n hX dX10_sourceWith_21 rfl 3 rfl ?_
        refine z_aload_n (r := r1) hX dX10_sourceWith_22 rfl 0 rfl ?_
        refine gf_RX10_88 (r := r1) hX dX10_sourceWith_23 ha6 hk7 ?_
        obtain ⟨hk10, h⟩ := h
        refine gf_RX10_251 (r := (mR M2 393 a5)) hX dX10_sourceWith_26 ha9 hk10 ?_
        obtain ⟨h1, h2⟩ := h
        refine z_icmp_lt (tgt := 34) hX dX10_sourceWith_29 (by decide) (fun hc => ?_) (fun hc => ?_)
        · have h := h1 hc
          refine z_aload_n (r := r1) hX dX10_sourceWith_34 rfl 0 rfl ?_
          exact z_aret hX hQ dX10_sourceWith_35 h
        · have h := h2 hc
          refine z_loc [] rfl ?_
          exact zb_X10_sourceWith_32 hX hQ hnL h
def rm_X10_isTime : Room := { frames := 0, cells := 0, slots := 0, locals := 0 }
def bk_X10_isTime_21 (K : Int32 → Mm → Prop) (s0 : Int32) (M : Mm) : Prop := (bz s0 ∧ K s0 M)
set_option maxRecDepth 100000 in
set_option maxHeartbeats 4000000 in
theorem zb_X10_isTime_21 {X : Cx} {K : Int32 → Mm → Prop} (hX : Ok X cX10_isTime RX10 rm_X10_isTime) (hQ : Rq X rm_X10_isTime (some .boolean) (QI K)) (hnL : X.2.2.2.2.2.2.2.2.2.2.2.2.2.2 = 2) {s0 : Int32} {M : Mm} (h : bk_X10_isTime_21 K s0 M) : Z X M 0 0 21 [] [.int s0] := by
  unfold bk_X10_isTime_21 at h
  exact y_zret hX hQ dX10_isTime_21 h.1 h.2
def bk_X10_isTime_20 (K : Int32 → Mm → Prop) (M : Mm) : Prop := (bk_X10_isTime_21 K (0 : Int32) M)
set_option maxRecDepth 100000 in
set_option maxHeartbeats 4000000 in
theorem zb_X10_isTime_20 {X : Cx} {K : Int32 → Mm → Prop} (hX : Ok X cX10_isTime RX10 rm_X10_isTime) (hQ : Rq X rm_X10_isTime (some .boolean) (QI K)) (hnL : X.2.2.2.2.2.2.2.2.2.2.2.2.2.2 = 2) {M : Mm} (h : bk_X10_isTime_20 K M) : Z X M 0 0 20 [] [] := by
  unfold bk_X10_isTime_20 at h
  refine z_iconst (v := (0 : Int32)) hX dX10_isTime_20 (by decide) ?_
  exact zb_X10_isTime_21 hX hQ hnL h
def wp_X10_isTime (M : Mm) (p1 : Int64) (K : Int32 → Mm → Prop) : Prop := ((p1 < (-100000000000000000 : Int64) → (bk_X10_isTime_20 K M)) ∧ (¬ p1 < (-100000000000000000 : Int64) → (((100000000000000000 : Int64) < p1 → (bk_X10_isTime_20 K M)) ∧ (¬ (100000000000000000 : Int64) < p1 → (bk_X10_isTime_21 K (1 : Int32) M)))))
set_option maxRecDepth 100000 in
set_option maxHeartbeats 4000000 in
theorem ct_X10_isTime {M : Mm} {p1 : Int64} {K : Int32 → Mm → Prop} (h : wp_X10_isTime M p1 K) : CtI yX10_isTime cX10_isTime 2 (some .boolean) rm_X10_isTime [.long p1] M K := by
  refine ct_any (QI K) (by decide) (by exact Nat.le_of_ble_eq_true rfl) (fun X hX hQ hnL hnm => ?_)
  rw [show lv_args 0 [.long p1] = [(0, .long p1)] by rfl]
  have hX : Ok X cX10_isTime RX10 rm_X10_isTime := hX
  unfold wp_X10_isTime at h
  refine z_lload_n hX dX10_isTime_0 rfl 0 rfl ?_
  refine z_ldc2 (v := (-100000000000000000 : Int64)) hX dX10_isTime_1 kj_RX10_254 ?_
  refine z_lcmp hX dX10_isTime_4 ?_
  obtain ⟨h1, h2⟩ := h
  refine z_if_lt (tgt := 20) hX dX10_isTime_5 (by decide) (fun hc => ?_) (fun hc => ?_)
  · have h := h1 ((lg_cmp_lt _ _).mp hc)
    refine z_loc [] rfl ?_
    exact zb_X10_isTime_20 hX hQ hnL h
  · have h := h2 (fun q => hc ((lg_cmp_lt _ _).mpr q))
    refine z_lload_n hX dX10_isTime_8 rfl 0 rfl ?_
    refine z_ldc2 (v := (100000000000000000 : Int64)) hX dX10_isTime_9 kj_RX10_256 ?_
    refine z_lcmp hX dX10_isTime_12 ?_
    obtain ⟨h1, h2⟩ := h
    refine z_if_gt (tgt := 20) hX dX10_isTime_13 (by decide) (fun hc => ?_) (fun hc => ?_)
    · have h := h1 ((lg_cmp_gt _ _).mp hc)
      refine z_loc [] rfl ?_
      exact zb_X10_isTime_20 hX hQ hnL h
    · have h := h2 (fun q => hc ((lg_cmp_gt _ _).mpr q))
      refine z_iconst (v := (1 : Int32)) hX dX10_isTime_16 (by decide) ?_
      refine z_goto (tgt := 21) hX dX10_isTime_17 (by decide) ?_
      refine z_loc [] rfl ?_
      exact zb_X10_isTime_21 hX hQ hnL h
def rm_X10_isKey : Room := { frames := 0, cells := 0, slots := 0, locals := 0 }
def bk_X10_isKey_15 (K : Int32 → Mm → Prop) (s0 : Int32) (M : Mm) : Prop := (bz s0 ∧ K s0 M)
set_option maxRecDepth 100000 in
set_option maxHeartbeats 4000000 in
theorem zb_X10_isKey_15 {X : Cx} {K : Int32 → Mm → Prop} (hX : Ok X cX10_isKey RX10 rm_X10_isKey) (hQ : Rq X rm_X10_isKey (some .boolean) (QI K)) (hnL : X.2.2.2.2.2.2.2.2.2.2.2.2.2.2 = 1) {s0 : Int32} {M : Mm} (h : bk_X10_isKey_15 K s0 M) : Z X M 0 0 15 [] [.int s0] := by
  unfold bk_X10_isKey_15 at h
  exact y_zret hX hQ dX10_isKey_15 h.1 h.2
def bk_X10_isKey_14 (K : Int32 → Mm → Prop) (M : Mm) : Prop := (bk_X10_isKey_15 K (0 : Int32) M)
set_option maxRecDepth 100000 in
set_option maxHeartbeats 4000000 in
theorem zb_X10_isKey_14 {X : Cx} {K : Int32 → Mm → Prop} (hX : Ok X cX10_isKey RX10 rm_X10_isKey) (hQ : Rq X rm_X10_isKey (some .boolean) (QI K)) (hnL : X.2.2.2.2.2.2.2.2.2.2.2.2.2.2 = 1) {M : Mm} (h : bk_X10_isKey_14 K M) : Z X M 0 0 14 [] [] := by
  unfold bk_X10_isKey_14 at h
  refine z_iconst (v := (0 : Int32)) hX dX10_isKey_14 (by decide) ?_
  exact zb_X10_isKey_15 hX hQ hnL h
def wp_X10_isKey (M : Mm) (p1 : Int32) (K : Int32 → Mm → Prop) : Prop := ((p1 < 0 → (bk_X10_isKey_14 K M)) ∧ (¬ p1 < 0 → (((9 : Int32) < p1 → (bk_X10_isKey_14 K M)) ∧ (¬ (9 : Int32) < p1 → (bk_X10_isKey_15 K (1 : Int32) M)))))
set_option maxRecDepth 100000 in
set_option maxHeartbeats 4000000 in
theorem ct_X10_isKey {M : Mm} {p1 : Int32} {K : Int32 → Mm → Prop} (h : wp_X10_isKey M p1 K) : CtI yX10_isKey cX10_isKey 1 (some .boolean) rm_X10_isKey [.int p1] M K := by
  refine ct_any (QI K) (by decide) (by exact Nat.le_of_ble_eq_true rfl) (fun X hX hQ hnL hnm => ?_)
  rw [show lv_args 0 [.int p1] = [(0, .int p1)] by rfl]
  have hX : Ok X cX10_isKey RX10 rm_X10_isKey := hX
  unfold wp_X10_isKey at h
  refine z_iload_n hX dX10_isKey_0 rfl 0 rfl ?_
  obtain ⟨h1, h2⟩ := h
  refine z_if_lt (tgt := 14) hX dX10_isKey_1 (by decide) (fun hc => ?_) (fun hc => ?_)
  · have h := h1 hc
    refine z_loc [] rfl ?_
    exact zb_X10_isKey_14 hX hQ hnL h
  · have h := h2 hc
    refine z_iload_n hX dX10_isKey_4 rfl 0 rfl ?_
    refine z_bipush (v := (9 : Int32)) hX dX10_isKey_5 (by decide) ?_
    obtain ⟨h1, h2⟩ := h
    refine z_icmp_gt (tgt := 14) hX dX10_isKey_7 (by decide) (fun hc => ?_) (fun hc => ?_)
    · have h := h1 hc
      refine z_loc [] rfl ?_
      exact zb_X10_isKey_14 hX hQ hnL h
    · have h := h2 hc
      refine z_iconst (v := (1 : Int32)) hX dX10_isKey_10 (by decide) ?_
      refine z_goto (tgt := 15) hX dX10_isKey_11 (by decide) ?_
      refine z_loc [] rfl ?_
      exact zb_X10_isKey_15 hX hQ hnL h
def rm_X10_together : Room := { frames := 1, cells := 0, slots := 0, locals := 23 }
def bk_X10_together_16 (K : Int64 → Mm → Prop) (l0 : Int64) (M : Mm) : Prop := (K l0 M)
set_option maxRecDepth 100000 in
set_option maxHeartbeats 4000000 in
theorem zb_X10_together_16 {X : Cx} {K : Int64 → Mm → Prop} (hX : Ok X cX10_together RX10 rm_X10_together) (hQ : Rq X rm_X10_together (some .long) (QJ K)) (hnL : X.2.2.2.2.2.2.2.2.2.2.2.2.2.2 = 4) {l0 : Int64} {M : Mm} (h : bk_X10_together_16 K l0 M) : Z X M 0 0 16 [(0, .long l0)] [] := by
  unfold bk_X10_together_16 at h
  refine z_lload_n hX dX10_together_16 rfl 0 rfl ?_
  exact z_lret hX hQ dX10_together_17 h
def wp_X10_together (M : Mm) (p1 : Int64) (p2 : Int64) (K : Int64 → Mm → Prop) : Prop := ((p1 = (-9000000000000000000 : Int64) → (bk_X10_together_16 K p1 M)) ∧ (¬ p1 = (-9000000000000000000 : Int64) → ((¬ p1 = (9000000000000000000 : Int64) → (K (if (if (p1 + p2) < (8000000000000000000 : Int64) then (p1 + p2) else (8000000000000000000 : Int64)) < (-8000000000000000000 : Int64) then (-8000000000000000000 : Int64) else (if (p1 + p2) < (8000000000000000000 : Int64) then (p1 + p2) else (8000000000000000000 : Int64))) M)) ∧ (p1 = (9000000000000000000 : Int64) → (bk_X10_together_16 K p1 M)))))
set_option maxRecDepth 100000 in
set_option maxHeartbeats 4000000 in
theorem ct_X10_together {M : Mm} {p1 : Int64} {p2 : Int64} {K : Int64 → Mm → Prop} (h : wp_X10_together M p1 p2 K) : CtJ yX10_together cX10_together 4 (some .long) rm_X10_together [.long p1, .long p2] M K := by
  refine ct_any (QJ K) (by decide) (by exact Nat.le_of_ble_eq_true rfl) (fun X hX hQ hnL hnm => ?_)
  rw [show lv_args 0 [.long p1, .long p2] = [(0, .long p1), (2, .long p2)] by rfl]
  have hX : Ok X cX10_together RX10 rm_X10_together := hX
  unfold wp_X10_together at h
  refine z_lload_n hX dX10_together_0 rfl 0 rfl ?_
  refine z_ldc2 (v := (-9000000000000000000 : Int64)) hX dX10_together_1 kj_RX10_258 ?_
  refine z_lcmp hX dX10_together_4 ?_
  obtain ⟨h1, h2⟩ := h
  refine z_if_eq (tgt := 16) hX dX10_together_5 (by decide) (fun hc => ?_) (fun hc => ?_)
  · have h := h1 ((lg_cmp_eq _ _).mp hc)
    refine z_loc [0] rfl ?_
    exact zb_X10_together_16 hX hQ hnL h
  · have h := h2 (fun q => hc ((lg_cmp_eq _ _).mpr q))
    refine z_lload_n hX dX10_together_8 rfl 0 rfl ?_
    refine z_ldc2 (v := (9000000000000000000 : Int64)) hX dX10_together_9 kj_RX10_260 ?_
    refine z_lcmp hX dX10_together_12 ?_
    obtain ⟨h1, h2⟩ := h
    refine z_if_ne (tgt := 18) hX dX10_together_13 (by decide) (fun hc => ?_) (fun hc => ?_)
    · have h := h1 (fun q => hc ((lg_cmp_eq _ _).mpr q))
      refine z_ldc2 (v := (-8000000000000000000 : Int64)) hX dX10_together_18 kj_RX10_262 ?_
      refine z_ldc2 (v := (8000000000000000000 : Int64)) hX dX10_together_21 kj_RX10_264 ?_
      refine z_lload_n hX dX10_together_24 rfl 0 rfl ?_
      refine z_lload_n hX dX10_together_25 rfl 1 rfl ?_
      refine z_ladd hX dX10_together_26 ?_
      refine mw_RX10_266 hX dX10_together_27 (by decide) (by simp only [List.map_cons, List.map_nil, List.sum_cons, List.sum_nil, cat_rf, cat_i, cat_j]; decide) (by decide) (by decide) ?_
      refine mw_RX10_272 hX dX10_together_30 (by decide) (by decide) (by decide) (by decide) ?_
      exact z_lret hX hQ dX10_together_33 h
    · have h := h2 ((lg_cmp_eq _ _).mp hc)
      refine z_loc [0] rfl ?_
      exact zb_X10_together_16 hX hQ hnL h
def rm_X11_init : Room := { frames := 1, cells := 36, slots := 6206, locals := 20 }
def wp_X11_init (M : Mm) (h0 : Nat) (K : Mm → Prop) : Prop := (∀ q1, mK M q1 = 0 → mK (na M q1 120 600) h0 = 12 ∧ (∀ q6, mK (sR (na M q1 120 600) 705 h0 (some q1)) q6 = 0 → mK (na (sR (na M q1 120 600) 705 h0 (some q1)) q6 129 24) h0 = 12 ∧ (∀ q11, mK (sR (na (sR (na M q1 120 600) 705 h0 (some q1)) q6 129 24) 715 h0 (some q6)) q11 = 0 → mK (na (sR (na (sR (na M q1 120 600) 705 h0 (some q1)) q6 129 24) 715 h0 (some q6)) q11 138 24) h0 = 12 ∧ (∀ q16, mK (sR (na (sR (na (sR (na M q1 120 600) 705 h0 (some q1)) q6 129 24) 715 h0 (some q6)) q11 138 24) 716 h0 (some q11)) q16 = 0 → mK (na (sR (na (sR (na (sR (na M q1 120 600) 705 h0 (some q1)) q6 129 24) 715 h0 (some q6)) q11 138 24) 716 h0 (some q11)) q16 145 24) h0 = 12 ∧ (∀ q21, mK (sR (na (sR (na (sR (na (sR (na M q1 120 600) 705 h0 (some q1)) q6 129 24) 715 h0 (some q6)) q11 138 24) 716 h0 (some q11)) q16 145 24) 717 h0 (some q16)) q21 = 0 → mK (na (sR (na (sR (na (sR (na (sR (na M q1 120 600) 705 h0 (some q1)) q6 129 24) 715 h0 (some q6)) q11 138 24) 716 h0 (some q11)) q16 145 24) 717 h0 (some q16)) q21 153 24) h0 = 12 ∧ (∀ q26, mK (sR (na (sR (na (sR (na (sR (na (sR (na M q1 120 600) 705 h0 (some q1)) q6 129 24) 715 h0 (some q6)) q11 138 24) 716 h0 (some q11)) q16 145 24) 717 h0 (some q16)) q21 153 24) 718 h0 (some q21)) q26 = 0 → mK (na (sR (na (sR (na (sR (na (sR (na (sR (na M q1 120 600) 705 h0 (some q1)) q6 129 24) 715 h0 (some q6)) q11 138 24) 716 h0 (some q11)) q16 145 24) 717 h0 (some q16)) q21 153 24) 718 h0 (some q21)) q26 163 24) h0 = 12 ∧ (∀ q31, mK (sR (na (sR (na (sR (na (sR (na (sR (na (sR (na M q1 120 600) 705 h0 (some q1)) q6 129 24) 715 h0 (some q6)) q11 138 24) 716 h0 (some q11)) q16 145 24) 717 h0 (some q16)) q21 153 24) 718 h0 (some q21)) q26 163 24) 719 h0 (some q26)) q31 = 0 → mK (na (sR (na (sR (na (sR (na (sR (na (sR (na (sR (na M q1 120 600) 705 h0 (some q1)) q6 129 24) 715 h0 (some q6)) q11 138 24) 716 h0 (some q11)) q16 145 24) 717 h0 (some q16)) q21 153 24) 718 h0 (some q21)) q26 163 24) 719 h0 (some q26)) q31 170 24) h0 = 12 ∧ (∀ q36, mK (sR (na (sR (na (sR (na (sR (na (sR (na (sR (na (sR (na M q1 120 600) 705 h0 (some q1)) q6 129 24) 715 h0 (some q6)) q11 138 24) 716 h0 (some q11)) q16 145 24) 717 h0 (some q16)) q21 153 24) 718 h0 (some q21)) q26 163 24) 719 h0 (some q26)) q31 170 24) 720 h0 (some q31)) q36 = 0 → mK (na (sR (na (sR (na (sR (na (sR (na (sR (na (sR (na (sR (na M q1 120 600) 705 h0 (some q1)) q6 129 24) 715 h0 (some q6)) q11 138 24) 716 h0 (some q11)) q16 145 24) 717 h0 (some q16)) q21 153 24) 718 h0 (some q21)) q26 163 24) 719 h0 (some q26)) q31 170 24) 720 h0 (some q31)) q36 178 24) h0 = 12 ∧ (∀ q41, mK (sR (na (sR (na (sR (na (sR (na (sR (na (sR (na (sR (na (sR (na M q1 120 600) 705 h0 (some q1)) q6 129 24) 715 h0 (some q6)) q11 138 24) 716 h0 (some q11)) q16 145 24) 717 h0 (some q16)) q21 153 24) 718 h0 (some q21)) q26 163 24) 719 h0 (some q26)) q31 170 24) 720 h0 (some q31)) q36 178 24) 721 h0 (some q36)) q41 = 0 → mK (na (sR (na (sR (na (sR (na (sR (na (sR (na (sR (na (sR (na (sR (na M q1 120 600) 705 h0 (some q1)) q6 129 24) 715 h0 (some q6)) q11 138 24) 716 h0 (some q11)) q16 145 24) 717 h0 (some q16)) q21 153 24) 718 h0 (some q21)) q26 163 24) 719 h0 (some q26)) q31 170 24) 720 h0 (some q31)) q36 178 24) 721 h0 (some q36)) q41 185 24) h0 = 12 ∧ (∀ q46, mK (sR (na (sR (na (sR (na (sR (na (sR (na (sR (na (sR (na (sR (na (sR (na M q1 120 600) 705 h0 (some q1)) q6 129 24) 715 h0 (some q6)) q11 138 24) 716 h0 (some q11)) q16 145 24) 717 h0 (some q16)) q21 153 24) 718 h0 (some q21)) q26 163 24) 719 h0 (some q26)) q31 170 24) 720 h0 (some q31)) q36 178 24) 721 h0 (some q36)) q41 185 24) 722 h0 (some q41)) q46 = 0 → mK (na (sR (na (sR (na (sR (na (sR (na (sR (na (sR (na (sR (na (sR (na (sR (na M q1 120 600) 705 h0 (some q1)) q6 129 24) 715 h0 (some q6)) q11 138 24) 716 h0 (some q11)) q16 145 24) 717 h0 (some q16)) q21 153 24) 718 h0 (some q21)) q26 163 24) 719 h0 (some q26)) q31 170 24) 720 h0 (some q31)) q36 178 24) 721 h0 (some q36)) q41 185 24) 722 h0 (some q41)) q46 193 24) h0 = 12 ∧ (∀ q51, mK (sR (na (sR (na (sR (na (sR (na (sR (na (sR (na (sR (na (sR (na (sR (na (sR (na M q1 120 600) 705 h0 (some q1)) q6 129 24) 715 h0 (some q6)) q11 138 24) 716 h0 (some q11)) q16 145 24) 717 h0 (some q16)) q21 153 24) 718 h0 (some q21)) q26 163 24) 719 h0 (some q26)) q31 170 24) 720 h0 (some q31)) q36 178 24) 721 h0 (some q36)) q41 185 24) 722 h0 (some q41)) q46 193 24) 723 h0 (some q46)) q51 = 0 → mK (na (sR (na (sR (na (sR (na (sR (na (sR (na (sR (na (sR (na (sR (na (sR (na (sR (na M q1 120 600) 705 h0 (some q1)) q6 129 24) 715 h0 (some q6)) q11 138 24) 716 h0 (some q11)) q16 145 24) 717 h0 (some q16)) q21 153 24) 718 h0 (some q21)) q26 163 24) 719 h0 (some q26)) q31 170 24) 720 h0 (some q31)) q36 178 24) 721 h0 (some q36)) q41 185 24) 722 h0 (some q41)) q46 193 24) 723 h0 (some q46)) q51 201 24) h0 = 12 ∧ (∀ q56, mK (sR (na (sR (na (sR (na (sR (na (sR (na (sR (na (sR (na (sR (na (sR (na (sR (na (sR (na M q1 120 600) 705 h0 (some q1)) q6 129 24) 715 h0 (some q6)) q11 138 24) 716 h0 (some q11)) q16 145 24) 717 h0 (some q16)) q21 153 24) 718 h0 (some q21)) q26 163 24) 719 h0 (some q26)) q31 170 24) 720 h0 (some q31)) q36 178 24) 721 h0 (some q36)) q41 185 24) 722 h0 (some q41)) q46 193 24) 723 h0 (some q46)) q51 201 24) 724 h0 (some q51)) q56 = 0 → mK (na (sR (na (sR (na (sR (na (sR (na (sR (na (sR (na (sR (na (sR (na (sR (na (sR (na (sR (na M q1 120 600) 705 h0 (some q1)) q6 129 24) 715 h0 (some q6)) q11 138 24) 716 h0 (some q11)) q16 145 24) 717 h0 (some q16)) q21 153 24) 718 h0 (some q21)) q26 163 24) 719 h0 (some q26)) q31 170 24) 720 h0 (some q31)) q36 178 24) 721 h0 (some q36)) q41 185 24) 722 h0 (some q41)) q46 193 24) 723 h0 (some q46)) q51 201 24) 724 h0 (some q51)) q56 209 96) h0 = 12 ∧ (∀ q61, mK (sR (na (sR (na (sR (na (sR (na (sR (na (sR (na (sR (na (sR (na (sR (na (sR (na (sR (na (sR (na M q1 120 600) 705 h0 (some q1)) q6 129 24) 715 h0 (some q6)) q11 138 24) 716 h0 (some q11)) q16 145 24) 717 h0 (some q16)) q21 153 24) 718 h0 (some q21)) q26 163 24) 719 h0 (some q26)) q31 170 24) 720 h0 (some q31)) q36 178 24) 721 h0 (some q36)) q41 185 24) 722 h0 (some q41)) q46 193 24) 723 h0 (some q46)) q51 201 24) 724 h0 (some q51)) q56 209 96) 725 h0 (some q56)) q61 = 0 → mK (na (sR (na (sR (na (sR (na (sR (na (sR (na (sR (na (sR (na (sR (na (sR (na (sR (na (sR (na (sR (na M q1 120 600) 705 h0 (some q1)) q6 129 24) 715 h0 (some q6)) q11 138 24) 716 h0 (some q11)) q16 145 24) 717 h0 (some q16)) q21 153 24) 718 h0 (some q21)) q26 163 24) 719 h0 (some q26)) q31 170 24) 720 h0 (some q31)) q36 178 24) 721 h0 (some q36)) q41 185 24) 722 h0 (some q41)) q46 193 24) 723 h0 (some q46)) q51 201 24) 724 h0 (some q51)) q56 209 96) 725 h0 (some q56)) q61 217 24) h0 = 12 ∧ (∀ q66, mK (sR (na (sR (na (sR (na (sR (na (sR (na (sR (na (sR (na (sR (na (sR (na (sR (na (sR (na (sR (na (sR (na M q1 120 600) 705 h0 (some q1)) q6 129 24) 715 h0 (some q6)) q11 138 24) 716 h0 (some q11)) q16 145 24) 717 h0 (some q16)) q21 153 24) 718 h0 (some q21)) q26 163 24) 719 h0 (some q26)) q31 170 24) 720 h0 (some q31)) q36 178 24) 721 h0 (some q36)) q41 185 24) 722 h0 (some q41)) q46 193 24) 723 h0 (some q46)) q51 201 24) 724 h0 (some q51)) q56 209 96) 725 h0 (some q56)) q61 217 24) 726 h0 (some q61)) q66 = 0 → mK (na (sR (na (sR (na (sR (na (sR (na (sR (na (sR (na (sR (na (sR (na (sR (na (sR (na (sR (na (sR (na (sR (na M q1 120 600) 705 h0 (some q1)) q6 129 24) 715 h0 (some q6)) q11 138 24) 716 h0 (some q11)) q16 145 24) 717 h0 (some q16)) q21 153 24) 718 h0 (some q21)) q26 163 24) 719 h0 (some q26)) q31 170 24) 720 h0 (some q31)) q36 178 24) 721 h0 (some q36)) q41 185 24) 722 h0 (some q41)) q46 193 24) 723 h0 (some q46)) q51 201 24) 724 h0 (some q51)) q56 209 96) 725 h0 (some q56)) q61 217 24) 726 h0 (some q61)) q66 227 8) h0 = 12 ∧ (∀ q71, mK (sR (na (sR (na (sR (na (sR (na (sR (na (sR (na (sR (na (sR (na (sR (na (sR (na (sR (na (sR (na (sR (na (sR (na M q1 120 600) 705 h0 (some q1)) q6 129 24) 715 h0 (some q6)) q11 138 24) 716 h0 (some q11)) q16 145 24) 717 h0 (some q16)) q21 153 24) 718 h0 (some q21)) q26 163 24) 719 h0 (some q26)) q31 170 24) 720 h0 (some q31)) q36 178 24) 721 h0 (some q36)) q41 185 24) 722 h0 (some q41)) q46 193 24) 723 h0 (some q46)) q51 201 24) 724 h0 (some q51)) q56 209 96) 725 h0 (some q56)) q61 217 24) 726 h0 (some q61)) q66 227 8) 727 h0 (some q66)) q71 = 0 → mK (na (sR (na (sR (na (sR (na (sR (na (sR (na (sR (na (sR (na (sR (na (sR (na (sR (na (sR (na (sR (na (sR (na (sR (na M q1 120 600) 705 h0 (some q1)) q6 129 24) 715 h0 (some q6)) q11 138 24) 716 h0 (some q11)) q16 145 24) 717 h0 (some q16)) q21 153 24) 718 h0 (some q21)) q26 163 24) 719 h0 (some q26)) q31 170 24) 720 h0 (some q31)) q36 178 24) 721 h0 (some q36)) q41 185 24) 722 h0 (some q41)) q46 193 24) 723 h0 (some q46)) q51 201 24) 724 h0 (some q51)) q56 209 96) 725 h0 (some q56)) q61 217 24) 726 h0 (some q61)) q66 227 8) 727 h0 (some q66)) q71 234 8) h0 = 12 ∧ (∀ q76, mK (sR (na (sR (na (sR (na (sR (na (sR (na (sR (na (sR (na (sR (na (sR (na (sR (na (sR (na (sR (na (sR (na (sR (na (sR (na M q1 120 600) 705 h0 (some q1)) q6 129 24) 715 h0 (some q6)) q11 138 24) 716 h0 (some q11)) q16 145 24) 717 h0 (some q16)) q21 153 24) 718 h0 (some q21)) q26 163 24) 719 h0 (some q26)) q31 170 24) 720 h0 (some q31)) q36 178 24) 721 h0 (some q36)) q41 185 24) 722 h0 (some q41)) q46 193 24) 723 h0 (some q46)) q51 201 24) 724 h0 (some q51)) q56 209 96) 725 h0 (some q56)) q61 217 24) 726 h0 (some q61)) q66 227 8) 727 h0 (some q66)) q71 234 8) 728 h0 (some q71)) q76 = 0 → mK (na (sR (na (sR (na (sR (na (sR (na (sR (na (sR (na (sR (na (sR (na (sR (na (sR (na (sR (na (sR (na (sR (na (sR (na (sR (na M q1 120 600) 705 h0 (some q1)) q6 129 24) 715 h0 (some q6)) q11 138 24) 716 h0 (some q11)) q16 145 24) 717 h0 (some q16)) q21 153 24) 718 h0 (some q21)) q26 163 24) 719 h0 (some q26)) q31 170 24) 720 h0 (some q31)) q36 178 24) 721 h0 (some q36)) q41 185 24) 722 h0 (some q41)) q46 193 24) 723 h0 (some q46)) q51 201 24) 724 h0 (some q51)) q56 209 96) 725 h0 (some q56)) q61 217 24) 726 h0 (some q61)) q66 227 8) 727 h0 (some q66)) q71 234 8) 728 h0 (some q71)) q76 241 2) h0 = 12 ∧ (∀ q81, mK (sR (na (sR (na (sR (na (sR (na (sR (na (sR (na (sR (na (sR (na (sR (na (sR (na (sR (na (sR (na (sR (na (sR (na (sR (na (sR (na M q1 120 600) 705 h0 (some q1)) q6 129 24) 715 h0 (some q6)) q11 138 24) 716 h0 (some q11)) q16 145 24) 717 h0 (some q16)) q21 153 24) 718 h0 (some q21)) q26 163 24) 719 h0 (some q26)) q31 170 24) 720 h0 (some q31)) q36 178 24) 721 h0 (some q36)) q41 185 24) 722 h0 (some q41)) q46 193 24) 723 h0 (some q46)) q51 201 24) 724 h0 (some q51)) q56 209 96) 725 h0 (some q56)) q61 217 24) 726 h0 (some q61)) q66 227 8) 727 h0 (some q66)) q71 234 8) 728 h0 (some q71)) q76 241 2) 729 h0 (some q76)) q81 = 0 → mK (na (sR (na (sR (na (sR (na (sR (na (sR (na (sR (na (sR (na (sR (na (sR (na (sR (na (sR (na (sR (na (sR (na (sR (na (sR (na (sR (na M q1 120 600) 705 h0 (some q1)) q6 129 24) 715 h0 (some q6)) q11 138 24) 716 h0 (some q11)) q16 145 24) 717 h0 (some q16)) q21 153 24) 718 h0 (some q21)) q26 163 24) 719 h0 (some q26)) q31 170 24) 720 h0 (some q31)) q36 178 24) 721 h0 (some q36)) q41 185 24) 722 h0 (some q41)) q46 193 24) 723 h0 (some q46)) q51 201 24) 724 h0 (some q51)) q56 209 96) 725 h0 (some q56)) q61 217 24) 726 h0 (some q61)) q66 227 8) 727 h0 (some q66)) q71 234 8) 728 h0 (some q71)) q76 241 2) 729 h0 (some q76)) q81 250 12) h0 = 12 ∧ (∀ q86, mK (sR (na (sR (na (sR (na (sR (na (sR (na (sR (na (sR (na (sR (na (sR (na (sR (na (sR (na (sR (na (sR (na (sR (na (sR (na (sR (na (sR (na M q1 120 600) 705 h0 (some q1)) q6 129 24) 715 h0 (some q6)) q11 138 24) 716 h0 (some q11)) q16 145 24) 717 h0 (some q16)) q21 153 24) 718 h0 (some q21)) q26 163 24) 719 h0 (some q26)) q31 170 24) 720 h0 (some q31)) q36 178 24) 721 h0 (some q36)) q41 185 24) 722 h0 (some q41)) q46 193 24) 723 h0 (some q46)) q51 201 24) 724 h0 (some q51)) q56 209 96) 725 h0 (some q56)) q61 217 24) 726 h0 (some q61)) q66 227 8) 727 h0 (some q66)) q71 234 8) 728 h0 (some q71)) q76 241 2) 729 h0 (some q76)) q81 250 12) 733 h0 (some q81)) q86 = 0 → mK (na (sR (na (sR (na (sR (na (sR (na (sR (na (sR (na (sR (na (sR (na (sR (na (sR (na (sR (na (sR (na (sR (na (sR (na (sR (na (sR (na (sR (na M q1 120 600) 705 h0 (some q1)) q6 129 24) 715 h0 (some q6)) q11 138 24) 716 h0 (some q11)) q16 145 24) 717 h0 (some q16)) q21 153 24) 718 h0 (some q21)) q26 163 24) 719 h0 (some q26)) q31 170 24) 720 h0 (some q31)) q36 178 24) 721 h0 (some q36)) q41 185 24) 722 h0 (some q41)) q46 193 24) 723 h0 (some q46)) q51 201 24) 724 h0 (some q51)) q56 209 96) 725 h0 (some q56)) q61 217 24) 726 h0 (some q61)) q66 227 8) 727 h0 (some q66)) q71 234 8) 728 h0 (some q71)) q76 241 2) 729 h0 (some q76)) q81 250 12) 733 h0 (some q81)) q86 259 12) h0 = 12 ∧ (∀ q91, mK (sR (na (sR (na (sR (na (sR (na (sR (na (sR (na (sR (na (sR (na (sR (na (sR (na (sR (na (sR (na (sR (na (sR (na (sR (na (sR (na (sR (na (sR (na M q1 120 600) 705 h0 (some q1)) q6 129 24) 715 h0 (some q6)) q11 138 24) 716 h0 (some q11)) q16 145 24) 717 h0 (some q16)) q21 153 24) 718 h0 (some q21)) q26 163 24) 719 h0 (some q26)) q31 170 24) 720 h0 (some q31)) q36 178 24) 721 h0 (some q36)) q41 185 24) 722 h0 (some q41)) q46 193 24) 723 h0 (some q46)) q51 201 24) 724 h0 (some q51)) q56 209 96) 725 h0 (some q56)) q61 217 24) 726 h0 (some q61)) q66 227 8) 727 h0 (some q66)) q71 234 8) 728 h0 (some q71)) q76 241 2) 729 h0 (some q76)) q81 250 12) 733 h0 (some q81)) q86 259 12) 734 h0 (some q86)) q91 = 0 → mK (na (sR (na (sR (na (sR (na (sR (na (sR (na (sR (na (sR (na (sR (na (sR (na (sR (na (sR (na (sR (na (sR (na (sR (na (sR (na (sR (na (sR (na (sR (na M q1 120 600) 705 h0 (some q1)) q6 129 24) 715 h0 (some q6)) q11 138 24) 716 h0 (some q11)) q16 145 24) 717 h0 (some q16)) q21 153 24) 718 h0 (some q21)) q26 163 24) 719 h0 (some q26)) q31 170 24) 720 h0 (some q31)) q36 178 24) 721 h0 (some q36)) q41 185 24) 722 h0 (some q41)) q46 193 24) 723 h0 (some q46)) q51 201 24) 724 h0 (some q51)) q56 209 96) 725 h0 (some q56)) q61 217 24) 726 h0 (some q61)) q66 227 8) 727 h0 (some q66)) q71 234 8) 728 h0 (some q71)) q76 241 2) 729 h0 (some q76)) q81 250 12) 733 h0 (some q81)) q86 259 12) 734 h0 (some q86)) q91 265 48) h0 = 12 ∧ (∀ q96, mK (sR (na (sR (na (sR (na (sR (na (sR (na (sR (na (sR (na (sR (na (sR (na (sR (na (sR (na (sR (na (sR (na (sR (na (sR (na (sR (na (sR (na (sR (na (sR (na M q1 120 600) 705 h0 (some q1)) q6 129 24) 715 h0 (some q6)) q11 138 24) 716 h0 (some q11)) q16 145 24) 717 h0 (some q16)) q21 153 24) 718 h0 (some q21)) q26 163 24) 719 h0 (some q26)) q31 170 24) 720 h0 (some q31)) q36 178 24) 721 h0 (some q36)) q41 185 24) 722 h0 (some q41)) q46 193 24) 723 h0 (some q46)) q51 201 24) 724 h0 (some q51)) q56 209 96) 725 h0 (some q56)) q61 217 24) 726 h0 (some q61)) q66 227 8) 727 h0 (some q66)) q71 234 8) 728 h0 (some q71)) q76 241 2) 729 h0 (some q76)) q81 250 12) 733 h0 (some q81)) q86 259 12) 734 h0 (some q86)) q91 265 48) 735 h0 (some q91)) q96 = 0 → mK (na (sR (na (sR (na (sR (na (sR (na (sR (na (sR (na (sR (na (sR (na (sR (na (sR (na (sR (na (sR (na (sR (na (sR (na (sR (na (sR (na (sR (na (sR (na (sR (na M q1 120 600) 705 h0 (some q1)) q6 129 24) 715 h0 (some q6)) q11 138 24) 716 h0 (some q11)) q16 145 24) 717 h0 (some q16)) q21 153 24) 718 h0 (some q21)) q26 163 24) 719 h0 (some q26)) q31 170 24) 720 h0 (some q31)) q36 178 24) 721 h0 (some q36)) q41 185 24) 722 h0 (some q41)) q46 193 24) 723 h0 (some q46)) q51 201 24) 724 h0 (some q51)) q56 209 96) 725 h0 (some q56)) q61 217 24) 726 h0 (some q61)) q66 227 8) 727 h0 (some q66)) q71 234 8) 728 h0 (some q71)) q76 241 2) 729 h0 (some q76)) q81 250 12) 733 h0 (some q81)) q86 259 12) 734 h0 (some q86)) q91 265 48) 735 h0 (some q91)) q96 274 48) h0 = 12 ∧ (∀ q101, mK (sR (na (sR (na (sR (na (sR (na (sR (na (sR (na (sR (na (sR (na (sR (na (sR (na (sR (na (sR (na (sR (na (sR (na (sR (na (sR (na (sR (na (sR (na (sR (na (sR (na M q1 120 600) 705 h0 (some q1)) q6 129 24) 715 h0 (some q6)) q11 138 24) 716 h0 (some q11)) q16 145 24) 717 h0 (some q16)) q21 153 24) 718 h0 (some q21)) q26 163 24) 719 h0 (some q26)) q31 170 24) 720 h0 (some q31)) q36 178 24) 721 h0 (some q36)) q41 185 24) 722 h0 (some q41)) q46 193 24) 723 h0 (some q46)) q51 201 24) 724 h0 (some q51)) q56 209 96) 725 h0 (some q56)) q61 217 24) 726 h0 (some q61)) q66 227 8) 727 h0 (some q66)) q71 234 8) 728 h0 (some q71)) q76 241 2) 729 h0 (some q76)) q81 250 12) 733 h0 (some q81)) q86 259 12) 734 h0 (some q86)) q91 265 48) 735 h0 (some q91)) q96 274 48) 736 h0 (some q96)) q101 = 0 → mK (na (sR (na (sR (na (sR (na (sR (na (sR (na (sR (na (sR (na (sR (na (sR (na (sR (na (sR (na (sR (na (sR (na (sR (na (sR (na (sR (na (sR (na (sR (na (sR (na (sR (na M q1 120 600) 705 h0 (some q1)) q6 129 24) 715 h0 (some q6)) q11 138 24) 716 h0 (some q11)) q16 145 24) 717 h0 (some q16)) q21 153 24) 718 h0 (some q21)) q26 163 24) 719 h0 (some q26)) q31 170 24) 720 h0 (some q31)) q36 178 24) 721 h0 (some q36)) q41 185 24) 722 h0 (some q41)) q46 193 24) 723 h0 (some q46)) q51 201 24) 724 h0 (some q51)) q56 209 96) 725 h0 (some q56)) q61 217 24) 726 h0 (some q61)) q66 227 8) 727 h0 (some q66)) q71 234 8) 728 h0 (some q71)) q76 241 2) 729 h0 (some q76)) q81 250 12) 733 h0 (some q81)) q86 259 12) 734 h0 (some q86)) q91 265 48) 735 h0 (some q91)) q96 274 48) 736 h0 (some q96)) q101 281 48) h0 = 12 ∧ (∀ q106, mK (sR (na (sR (na (sR (na (sR (na (sR (na (sR (na (sR (na (sR (na (sR (na (sR (na (sR (na (sR (na (sR (na (sR (na (sR (na (sR (na (sR (na (sR (na (sR (na (sR (na (sR (na M q1 120 600) 705 h0 (some q1)) q6 129 24) 715 h0 (some q6)) q11 138 24) 716 h0 (some q11)) q16 145 24) 717 h0 (some q16)) q21 153 24) 718 h0 (some q21)) q26 163 24) 719 h0 (some q26)) q31 170 24) 720 h0 (some q31)) q36 178 24) 721 h0 (some q36)) q41 185 24) 722 h0 (some q41)) q46 193 24) 723 h0 (some q46)) q51 201 24) 724 h0 (some q51)) q56 209 96) 725 h0 (some q56)) q61 217 24) 726 h0 (some q61)) q66 227 8) 727 h0 (some q66)) q71 234 8) 728 h0 (some q71)) q76 241 2) 729 h0 (some q76)) q81 250 12) 733 h0 (some q81)) q86 259 12) 734 h0 (some q86)) q91 265 48) 735 h0 (some q91)) q96 274 48) 736 h0 (some q96)) q101 281 48) 737 h0 (some q101)) q106 = 0 → mK (na (sR (na (sR (na (sR (na (sR (na (sR (na (sR (na (sR (na (sR (na (sR (na (sR (na (sR (na (sR (na (sR (na (sR (na (sR (na (sR (na (sR (na (sR (na (sR (na (sR (na (sR (na M q1 120 600) 705 h0 (some q1)) q6 129 24) 715 h0 (some q6)) q11 138 24) 716 h0 (some q11)) q16 145 24) 717 h0 (some q16)) q21 153 24) 718 h0 (some q21)) q26 163 24) 719 h0 (some q26)) q31 170 24) 720 h0 (some q31)) q36 178 24) 721 h0 (some q36)) q41 185 24) 722 h0 (some q41)) q46 193 24) 723 h0 (some q46)) q51 201 24) 724 h0 (some q51)) q56 209 96) 725 h0 (some q56)) q61 217 24) 726 h0 (some q61)) q66 227 8) 727 h0 (some q66)) q71 234 8) 728 h0 (some q71)) q76 241 2) 729 h0 (some q76)) q81 250 12) 733 h0 (some q81)) q86 259 12) 734 h0 (some q86)) q91 265 48) 735 h0 (some q91)) q96 274 48) 736 h0 (some q96)) q101 281 48) 737 h0 (some q101)) q106 290 1200) h0 = 12 ∧ (∀ q111, mK (sR (na (sR (na (sR (na (sR (na (sR (na (sR (na (sR (na (sR (na (sR (na (sR (na (sR (na (sR (na (sR (na (sR (na (sR (na (sR (na (sR (na (sR (na (sR (na (sR (na (sR (na (sR (na M q1 120 600) 705 h0 (some q1)) q6 129 24) 715 h0 (some q6)) q11 138 24) 716 h0 (some q11)) q16 145 24) 717 h0 (some q16)) q21 153 24) 718 h0 (some q21)) q26 163 24) 719 h0 (some q26)) q31 170 24) 720 h0 (some q31)) q36 178 24) 721 h0 (some q36)) q41 185 24) 722 h0 (some q41)) q46 193 24) 723 h0 (some q46)) q51 201 24) 724 h0 (some q51)) q56 209 96) 725 h0 (some q56)) q61 217 24) 726 h0 (some q61)) q66 227 8) 727 h0 (some q66)) q71 234 8) 728 h0 (some q71)) q76 241 2) 729 h0 (some q76)) q81 250 12) 733 h0 (some q81)) q86 259 12) 734 h0 (some q86)) q91 265 48) 735 h0 (some q91)) q96 274 48) 736 h0 (some q96)) q101 281 48) 737 h0 (some q101)) q106 290 1200) 740 h0 (some q106)) q111 = 0 → mK (na (sR (na (sR (na (sR (na (sR (na (sR (na (sR (na (sR (na (sR (na (sR (na (sR (na (sR (na (sR (na (sR (na (sR (na (sR (na (sR (na (sR (na (sR (na (sR (na (sR (na (sR (na (sR (na M q1 120 600) 705 h0 (some q1)) q6 129 24) 715 h0 (some q6)) q11 138 24) 716 h0 (some q11)) q16 145 24) 717 h0 (some q16)) q21 153 24) 718 h0 (some q21)) q26 163 24) 719 h0 (some q26)) q31 170 24) 720 h0 (some q31)) q36 178 24) 721 h0 (some q36)) q41 185 24) 722 h0 (some q41)) q46 193 24) 723 h0 (some q46)) q51 201 24) 724 h0 (some q51)) q56 209 96) 725 h0 (some q56)) q61 217 24) 726 h0 (some q61)) q66 227 8) 727 h0 (some q66)) q71 234 8) 728 h0 (some q71)) q76 241 2) 729 h0 (some q76)) q81 250 12) 733 h0 (some q81)) q86 259 12) 734 h0 (some q86)) q91 265 48) 735 h0 (some q91)) q96 274 48) 736 h0 (some q96)) q101 281 48) 737 h0 (some q101)) q106 290 1200) 740 h0 (some q106)) q111 298 800) h0 = 12 ∧ (∀ q116, mK (sR (na (sR (na (sR (na (sR (na (sR (na (sR (na (sR (na (sR (na (sR (na (sR (na (sR (na (sR (na (sR (na (sR (na (sR (na (sR (na (sR (na (sR (na (sR (na (sR (na (sR (na (sR (na (sR (na M q1 120 600) 705 h0 (some q1)) q6 129 24) 715 h0 (some q6)) q11 138 24) 716 h0 (some q11)) q16 145 24) 717 h0 (some q16)) q21 153 24) 718 h0 (some q21)) q26 163 24) 719 h0 (some q26)) q31 170 24) 720 h0 (some q31)) q36 178 24) 721 h0 (some q36)) q41 185 24) 722 h0 (some q41)) q46 193 24) 723 h0 (some q46)) q51 201 24) 724 h0 (some q51)) q56 209 96) 725 h0 (some q56)) q61 217 24) 726 h0 (some q61)) q66 227 8) 727 h0 (some q66)) q71 234 8) 728 h0 (some q71)) q76 241 2) 729 h0 (some q76)) q81 250 12) 733 h0 (some q81)) q86 259 12) 734 h0 (some q86)) q91 265 48) 735 h0 (some q91)) q96 274 48) 736 h0 (some q96)) q101 281 48) 737 h0 (some q101)) q106 290 1200) 740 h0 (some q106)) q111 298 800) 742 h0 (some q111)) q116 = 0 → mK (na (sR (na (sR (na (sR (na (sR (na (sR (na (sR (na (sR (na (sR (na (sR (na (sR (na (sR (na (sR (na (sR (na (sR (na (sR (na (sR (na (sR (na (sR (na (sR (na (sR (na (sR (na (sR (na (sR (na M q1 120 600) 705 h0 (some q1)) q6 129 24) 715 h0 (some q6)) q11 138 24) 716 h0 (some q11)) q16 145 24) 717 h0 (some q16)) q21 153 24) 718 h0 (some q21)) q26 163 24) 719 h0 (some q26)) q31 170 24) 720 h0 (some q31)) q36 178 24) 721 h0 (some q36)) q41 185 24) 722 h0 (some q41)) q46 193 24) 723 h0 (some q46)) q51 201 24) 724 h0 (some q51)) q56 209 96) 725 h0 (some q56)) q61 217 24) 726 h0 (some q61)) q66 227 8) 727 h0 (some q66)) q71 234 8) 728 h0 (some q71)) q76 241 2) 729 h0 (some q76)) q81 250 12) 733 h0 (some q81)) q86 259 12) 734 h0 (some q86)) q91 265 48) 735 h0 (some q91)) q96 274 48) 736 h0 (some q96)) q101 281 48) 737 h0 (some q101)) q106 290 1200) 740 h0 (some q106)) q111 298 800) 742 h0 (some q111)) q116 305 12) h0 = 12 ∧ (∀ q121, mK (sR (na (sR (na (sR (na (sR (na (sR (na (sR (na (sR (na (sR (na (sR (na (sR (na (sR (na (sR (na (sR (na (sR (na (sR (na (sR (na (sR (na (sR (na (sR (na (sR (na (sR (na (sR (na (sR (na (sR (na M q1 120 600) 705 h0 (some q1)) q6 129 24) 715 h0 (some q6)) q11 138 24) 716 h0 (some q11)) q16 145 24) 717 h0 (some q16)) q21 153 24) 718 h0 (some q21)) q26 163 24) 719 h0 (some q26)) q31 170 24) 720 h0 (some q31)) q36 178 24) 721 h0 (some q36)) q41 185 24) 722 h0 (some q41)) q46 193 24) 723 h0 (some q46)) q51 201 24) 724 h0 (some q51)) q56 209 96) 725 h0 (some q56)) q61 217 24) 726 h0 (some q61)) q66 227 8) 727 h0 (some q66)) q71 234 8) 728 h0 (some q71)) q76 241 2) 729 h0 (some q76)) q81 250 12) 733 h0 (some q81)) q86 259 12) 734 h0 (some q86)) q91 265 48) 735 h0 (some q91)) q96 274 48) 736 h0 (some q96)) q101 281 48) 737 h0 (some q101)) q106 290 1200) 740 h0 (some q106)) q111 298 800) 742 h0 (some q111)) q116 305 12) 744 h0 (some q116)) q121 = 0 → mK (na (sR (na (sR (na (sR (na (sR (na (sR (na (sR (na (sR (na (sR (na (sR (na (sR (na (sR (na (sR (na (sR (na (sR (na (sR (na (sR (na (sR (na (sR (na (sR (na (sR (na (sR (na (sR (na (sR (na (sR (na M q1 120 600) 705 h0 (some q1)) q6 129 24) 715 h0 (some q6)) q11 138 24) 716 h0 (some q11)) q16 145 24) 717 h0 (some q16)) q21 153 24) 718 h0 (some q21)) q26 163 24) 719 h0 (some q26)) q31 170 24) 720 h0 (some q31)) q36 178 24) 721 h0 (some q36)) q41 185 24) 722 h0 (some q41)) q46 193 24) 723 h0 (some q46)) q51 201 24) 724 h0 (some q51)) q56 209 96) 725 h0 (some q56)) q61 217 24) 726 h0 (some q61)) q66 227 8) 727 h0 (some q66)) q71 234 8) 728 h0 (some q71)) q76 241 2) 729 h0 (some q76)) q81 250 12) 733 h0 (some q81)) q86 259 12) 734 h0 (some q86)) q91 265 48) 735 h0 (some q91)) q96 274 48) 736 h0 (some q96)) q101 281 48) 737 h0 (some q101)) q106 290 1200) 740 h0 (some q106)) q111 298 800) 742 h0 (some q111)) q116 305 12) 744 h0 (some q116)) q121 314 288) h0 = 12 ∧ (∀ q126, mK (sR (na (sR (na (sR (na (sR (na (sR (na (sR (na (sR (na (sR (na (sR (na (sR (na (sR (na (sR (na (sR (na (sR (na (sR (na (sR (na (sR (na (sR (na (sR (na (sR (na (sR (na (sR (na (sR (na (sR (na (sR (na M q1 120 600) 705 h0 (some q1)) q6 129 24) 715 h0 (some q6)) q11 138 24) 716 h0 (some q11)) q16 145 24) 717 h0 (some q16)) q21 153 24) 718 h0 (some q21)) q26 163 24) 719 h0 (some q26)) q31 170 24) 720 h0 (some q31)) q36 178 24) 721 h0 (some q36)) q41 185 24) 722 h0 (some q41)) q46 193 24) 723 h0 (some q46)) q51 201 24) 724 h0 (some q51)) q56 209 96) 725 h0 (some q56)) q61 217 24) 726 h0 (some q61)) q66 227 8) 727 h0 (some q66)) q71 234 8) 728 h0 (some q71)) q76 241 2) 729 h0 (some q76)) q81 250 12) 733 h0 (some q81)) q86 259 12) 734 h0 (some q86)) q91 265 48) 735 h0 (some q91)) q96 274 48) 736 h0 (some q96)) q101 281 48) 737 h0 (some q101)) q106 290 1200) 740 h0 (some q106)) q111 298 800) 742 h0 (some q111)) q116 305 12) 744 h0 (some q116)) q121 314 288) 745 h0 (some q121)) q126 = 0 → mK (na (sR (na (sR (na (sR (na (sR (na (sR (na (sR (na (sR (na (sR (na (sR (na (sR (na (sR (na (sR (na (sR (na (sR (na (sR (na (sR (na (sR (na (sR (na (sR (na (sR (na (sR (na (sR (na (sR (na (sR (na (sR (na M q1 120 600) 705 h0 (some q1)) q6 129 24) 715 h0 (some q6)) q11 138 24) 716 h0 (some q11)) q16 145 24) 717 h0 (some q16)) q21 153 24) 718 h0 (some q21)) q26 163 24) 719 h0 (some q26)) q31 170 24) 720 h0 (some q31)) q36 178 24) 721 h0 (some q36)) q41 185 24) 722 h0 (some q41)) q46 193 24) 723 h0 (some q46)) q51 201 24) 724 h0 (some q51)) q56 209 96) 725 h0 (some q56)) q61 217 24) 726 h0 (some q61)) q66 227 8) 727 h0 (some q66)) q71 234 8) 728 h0 (some q71)) q76 241 2) 729 h0 (some q76)) q81 250 12) 733 h0 (some q81)) q86 259 12) 734 h0 (some q86)) q91 265 48) 735 h0 (some q91)) q96 274 48) 736 h0 (some q96)) q101 281 48) 737 h0 (some q101)) q106 290 1200) 740 h0 (some q106)) q111 298 800) 742 h0 (some q111)) q116 305 12) 744 h0 (some q116)) q121 314 288) 745 h0 (some q121)) q126 321 288) h0 = 12 ∧ (∀ q131, mK (sR (na (sR (na (sR (na (sR (na (sR (na (sR (na (sR (na (sR (na (sR (na (sR (na (sR (na (sR (na (sR (na (sR (na (sR (na (sR (na (sR (na (sR (na (sR (na (sR (na (sR (na (sR (na (sR (na (sR (na (sR (na (sR (na M q1 120 600) 705 h0 (some q1)) q6 129 24) 715 h0 (some q6)) q11 138 24) 716 h0 (some q11)) q16 145 24) 717 h0 (some q16)) q21 153 24) 718 h0 (some q21)) q26 163 24) 719 h0 (some q26)) q31 170 24) 720 h0 (some q31)) q36 178 24) 721 h0 (some q36)) q41 185 24) 722 h0 (some q41)) q46 193 24) 723 h0 (some q46)) q51 201 24) 724 h0 (some q51)) q56 209 96) 725 h0 (some q56)) q61 217 24) 726 h0 (some q61)) q66 227 8) 727 h0 (some q66)) q71 234 8) 728 h0 (some q71)) q76 241 2) 729 h0 (some q76)) q81 250 12) 733 h0 (some q81)) q86 259 12) 734 h0 (some q86)) q91 265 48) 735 h0 (some q91)) q96 274 48) 736 h0 (some q96)) q101 281 48) 737 h0 (some q101)) q106 290 1200) 740 h0 (some q106)) q111 298 800) 742 h0 (some q111)) q116 305 12) 744 h0 (some q116)) q121 314 288) 745 h0 (some q121)) q126 321 288) 746 h0 (some q126)) q131 = 0 → mK (na (sR (na (sR (na (sR (na (sR (na (sR (na (sR (na (sR (na (sR (na (sR (na (sR (na (sR (na (sR (na (sR (na (sR (na (sR (na (sR (na (sR (na (sR (na (sR (na (sR (na (sR (na (sR (na (sR (na (sR (na (sR (na (sR (na M q1 120 600) 705 h0 (some q1)) q6 129 24) 715 h0 (some q6)) q11 138 24) 716 h0 (some q11)) q16 145 24) 717 h0 (some q16)) q21 153 24) 718 h0 (some q21)) q26 163 24) 719 h0 (some q26)) q31 170 24) 720 h0 (some q31)) q36 178 24) 721 h0 (some q36)) q41 185 24) 722 h0 (some q41)) q46 193 24) 723 h0 (some q46)) q51 201 24) 724 h0 (some q51)) q56 209 96) 725 h0 (some q56)) q61 217 24) 726 h0 (some q61)) q66 227 8) 727 h0 (some q66)) q71 234 8) 728 h0 (some q71)) q76 241 2) 729 h0 (some q76)) q81 250 12) 733 h0 (some q81)) q86 259 12) 734 h0 (some q86)) q91 265 48) 735 h0 (some q91)) q96 274 48) 736 h0 (some q96)) q101 281 48) 737 h0 (some q101)) q106 290 1200) 740 h0 (some q106)) q111 298 800) 742 h0 (some q111)) q116 305 12) 744 h0 (some q116)) q121 314 288) 745 h0 (some q121)) q126 321 288) 746 h0 (some q126)) q131 329 288) h0 = 12 ∧ (∀ q136, mK (sR (na (sR (na (sR (na (sR (na (sR (na (sR (na (sR (na (sR (na (sR (na (sR (na (sR (na (sR (na (sR (na (sR (na (sR (na (sR (na (sR (na (sR (na (sR (na (sR (na (sR (na (sR (na (sR (na (sR (na (sR (na (sR (na (sR (na M q1 120 600) 705 h0 (some q1)) q6 129 24) 715 h0 (some q6)) q11 138 24) 716 h0 (some q11)) q16 145 24) 717 h0 (some q16)) q21 153 24) 718 h0 (some q21)) q26 163 24) 719 h0 (some q26)) q31 170 24) 720 h0 (some q31)) q36 178 24) 721 h0 (some q36)) q41 185 24) 722 h0 (some q41)) q46 193 24) 723 h0 (some q46)) q51 201 24) 724 h0 (some q51)) q56 209 96) 725 h0 (some q56)) q61 217 24) 726 h0 (some q61)) q66 227 8) 727 h0 (some q66)) q71 234 8) 728 h0 (some q71)) q76 241 2) 729 h0 (some q76)) q81 250 12) 733 h0 (some q81)) q86 259 12) 734 h0 (some q86)) q91 265 48) 735 h0 (some q91)) q96 274 48) 736 h0 (some q96)) q101 281 48) 737 h0 (some q101)) q106 290 1200) 740 h0 (some q106)) q111 298 800) 742 h0 (some q111)) q116 305 12) 744 h0 (some q116)) q121 314 288) 745 h0 (some q121)) q126 321 288) 746 h0 (some q126)) q131 329 288) 747 h0 (some q131)) q136 = 0 → mK (na (sR (na (sR (na (sR (na (sR (na (sR (na (sR (na (sR (na (sR (na (sR (na (sR (na (sR (na (sR (na (sR (na (sR (na (sR (na (sR (na (sR (na (sR (na (sR (na (sR (na (sR (na (sR (na (sR (na (sR (na (sR (na (sR (na (sR (na M q1 120 600) 705 h0 (some q1)) q6 129 24) 715 h0 (some q6)) q11 138 24) 716 h0 (some q11)) q16 145 24) 717 h0 (some q16)) q21 153 24) 718 h0 (some q21)) q26 163 24) 719 h0 (some q26)) q31 170 24) 720 h0 (some q31)) q36 178 24) 721 h0 (some q36)) q41 185 24) 722 h0 (some q41)) q46 193 24) 723 h0 (some q46)) q51 201 24) 724 h0 (some q51)) q56 209 96) 725 h0 (some q56)) q61 217 24) 726 h0 (some q61)) q66 227 8) 727 h0 (some q66)) q71 234 8) 728 h0 (some q71)) q76 241 2) 729 h0 (some q76)) q81 250 12) 733 h0 (some q81)) q86 259 12) 734 h0 (some q86)) q91 265 48) 735 h0 (some q91)) q96 274 48) 736 h0 (some q96)) q101 281 48) 737 h0 (some q101)) q106 290 1200) 740 h0 (some q106)) q111 298 800) 742 h0 (some q111)) q116 305 12) 744 h0 (some q116)) q121 314 288) 745 h0 (some q121)) q126 321 288) 746 h0 (some q126)) q131 329 288) 747 h0 (some q131)) q136 337 24) h0 = 12 ∧ (∀ q141, mK (sR (na (sR (na (sR (na (sR (na (sR (na (sR (na (sR (na (sR (na (sR (na (sR (na (sR (na (sR (na (sR (na (sR (na (sR (na (sR (na (sR (na (sR (na (sR (na (sR (na (sR (na (sR (na (sR (na (sR (na (sR (na (sR (na (sR (na (sR (na M q1 120 600) 705 h0 (some q1)) q6 129 24) 715 h0 (some q6)) q11 138 24) 716 h0 (some q11)) q16 145 24) 717 h0 (some q16)) q21 153 24) 718 h0 (some q21)) q26 163 24) 719 h0 (some q26)) q31 170 24) 720 h0 (some q31)) q36 178 24) 721 h0 (some q36)) q41 185 24) 722 h0 (some q41)) q46 193 24) 723 h0 (some q46)) q51 201 24) 724 h0 (some q51)) q56 209 96) 725 h0 (some q56)) q61 217 24) 726 h0 (some q61)) q66 227 8) 727 h0 (some q66)) q71 234 8) 728 h0 (some q71)) q76 241 2) 729 h0 (some q76)) q81 250 12) 733 h0 (some q81)) q86 259 12) 734 h0 (some q86)) q91 265 48) 735 h0 (some q91)) q96 274 48) 736 h0 (some q96)) q101 281 48) 737 h0 (some q101)) q106 290 1200) 740 h0 (some q106)) q111 298 800) 742 h0 (some q111)) q116 305 12) 744 h0 (some q116)) q121 314 288) 745 h0 (some q121)) q126 321 288) 746 h0 (some q126)) q131 329 288) 747 h0 (some q131)) q136 337 24) 748 h0 (some q136)) q141 = 0 → mK (na (sR (na (sR (na (sR (na (sR (na (sR (na (sR (na (sR (na (sR (na (sR (na (sR (na (sR (na (sR (na (sR (na (sR (na (sR (na (sR (na (sR (na (sR (na (sR (na (sR (na (sR (na (sR (na (sR (na (sR (na (sR (na (sR (na (sR (na (sR (na M q1 120 600) 705 h0 (some q1)) q6 129 24) 715 h0 (some q6)) q11 138 24) 716 h0 (some q11)) q16 145 24) 717 h0 (some q16)) q21 153 24) 718 h0 (some q21)) q26 163 24) 719 h0 (some q26)) q31 170 24) 720 h0 (some q31)) q36 178 24) 721 h0 (some q36)) q41 185 24) 722 h0 (some q41)) q46 193 24) 723 h0 (some q46)) q51 201 24) 724 h0 (some q51)) q56 209 96) 725 h0 (some q56)) q61 217 24) 726 h0 (some q61)) q66 227 8) 727 h0 (some q66)) q71 234 8) 728 h0 (some q71)) q76 241 2) 729 h0 (some q76)) q81 250 12) 733 h0 (some q81)) q86 259 12) 734 h0 (some q86)) q91 265 48) 735 h0 (some q91)) q96 274 48) 736 h0 (some q96)) q101 281 48) 737 h0 (some q101)) q106 290 1200) 740 h0 (some q106)) q111 298 800) 742 h0 (some q111)) q116 305 12) 744 h0 (some q116)) q121 314 288) 745 h0 (some q121)) q126 321 288) 746 h0 (some q126)) q131 329 288) 747 h0 (some q131)) q136 337 24) 748 h0 (some q136)) q141 346 144) h0 = 12 ∧ (∀ q146, mK (sR (na (sR (na (sR (na (sR (na (sR (na (sR (na (sR (na (sR (na (sR (na (sR (na (sR (na (sR (na (sR (na (sR (na (sR (na (sR (na (sR (na (sR (na (sR (na (sR (na (sR (na (sR (na (sR (na (sR (na (sR (na (sR (na (sR (na (sR (na (sR (na M q1 120 600) 705 h0 (some q1)) q6 129 24) 715 h0 (some q6)) q11 138 24) 716 h0 (some q11)) q16 145 24) 717 h0 (some q16)) q21 153 24) 718 h0 (some q21)) q26 163 24) 719 h0 (some q26)) q31 170 24) 720 h0 (some q31)) q36 178 24) 721 h0 (some q36)) q41 185 24) 722 h0 (some q41)) q46 193 24) 723 h0 (some q46)) q51 201 24) 724 h0 (some q51)) q56 209 96) 725 h0 (some q56)) q61 217 24) 726 h0 (some q61)) q66 227 8) 727 h0 (some q66)) q71 234 8) 728 h0 (some q71)) q76 241 2) 729 h0 (some q76)) q81 250 12) 733 h0 (some q81)) q86 259 12) 734 h0 (some q86)) q91 265 48) 735 h0 (some q91)) q96 274 48) 736 h0 (some q96)) q101 281 48) 737 h0 (some q101)) q106 290 1200) 740 h0 (some q106)) q111 298 800) 742 h0 (some q111)) q116 305 12) 744 h0 (some q116)) q121 314 288) 745 h0 (some q121)) q126 321 288) 746 h0 (some q126)) q131 329 288) 747 h0 (some q131)) q136 337 24) 748 h0 (some q136)) q141 346 144) 749 h0 (some q141)) q146 = 0 → mK (na (sR (na (sR (na (sR (na (sR (na (sR (na (sR (na (sR (na (sR (na (sR (na (sR (na (sR (na (sR (na (sR (na (sR (na (sR (na (sR (na (sR (na (sR (na (sR (na (sR (na (sR (na (sR (na (sR (na (sR (na (sR (na (sR (na (sR (na (sR (na (sR (na M q1 120 600) 705 h0 (some q1)) q6 129 24) 715 h0 (some q6)) q11 138 24) 716 h0 (some q11)) q16 145 24) 717 h0 (some q16)) q21 153 24) 718 h0 (some q21)) q26 163 24) 719 h0 (some q26)) q31 170 24) 720 h0 (some q31)) q36 178 24) 721 h0 (some q36)) q41 185 24) 722 h0 (some q41)) q46 193 24) 723 h0 (some q46)) q51 201 24) 724 h0 (some q51)) q56 209 96) 725 h0 (some q56)) q61 217 24) 726 h0 (some q61)) q66 227 8) 727 h0 (some q66)) q71 234 8) 728 h0 (some q71)) q76 241 2) 729 h0 (some q76)) q81 250 12) 733 h0 (some q81)) q86 259 12) 734 h0 (some q86)) q91 265 48) 735 h0 (some q91)) q96 274 48) 736 h0 (some q96)) q101 281 48) 737 h0 (some q101)) q106 290 1200) 740 h0 (some q106)) q111 298 800) 742 h0 (some q111)) q116 305 12) 744 h0 (some q116)) q121 314 288) 745 h0 (some q121)) q126 321 288) 746 h0 (some q126)) q131 329 288) 747 h0 (some q131)) q136 337 24) 748 h0 (some q136)) q141 346 144) 749 h0 (some q141)) q146 353 144) h0 = 12 ∧ (∀ q151, mK (sR (na (sR (na (sR (na (sR (na (sR (na (sR (na (sR (na (sR (na (sR (na (sR (na (sR (na (sR (na (sR (na (sR (na (sR (na (sR (na (sR (na (sR (na (sR (na (sR (na (sR (na (sR (na (sR (na (sR (na (sR (na (sR (na (sR (na (sR (na (sR (na (sR (na M q1 120 600) 705 h0 (some q1)) q6 129 24) 715 h0 (some q6)) q11 138 24) 716 h0 (some q11)) q16 145 24) 717 h0 (some q16)) q21 153 24) 718 h0 (some q21)) q26 163 24) 719 h0 (some q26)) q31 170 24) 720 h0 (some q31)) q36 178 24) 721 h0 (some q36)) q41 185 24) 722 h0 (some q41)) q46 193 24) 723 h0 (some q46)) q51 201 24) 724 h0 (some q51)) q56 209 96) 725 h0 (some q56)) q61 217 24) 726 h0 (some q61)) q66 227 8) 727 h0 (some q66)) q71 234 8) 728 h0 (some q71)) q76 241 2) 729 h0 (some q76)) q81 250 12) 733 h0 (some q81)) q86 259 12) 734 h0 (some q86)) q91 265 48) 735 h0 (some q91)) q96 274 48) 736 h0 (some q96)) q101 281 48) 737 h0 (some q101)) q106 290 1200) 740 h0 (some q106)) q111 298 800) 742 h0 (some q111)) q116 305 12) 744 h0 (some q116)) q121 314 288) 745 h0 (some q121)) q126 321 288) 746 h0 (some q126)) q131 329 288) 747 h0 (some q131)) q136 337 24) 748 h0 (some q136)) q141 346 144) 749 h0 (some q141)) q146 353 144) 750 h0 (some q146)) q151 = 0 → mK (na (sR (na (sR (na (sR (na (sR (na (sR (na (sR (na (sR (na (sR (na (sR (na (sR (na (sR (na (sR (na (sR (na (sR (na (sR (na (sR (na (sR (na (sR (na (sR (na (sR (na (sR (na (sR (na (sR (na (sR (na (sR (na (sR (na (sR (na (sR (na (sR (na (sR (na M q1 120 600) 705 h0 (some q1)) q6 129 24) 715 h0 (some q6)) q11 138 24) 716 h0 (some q11)) q16 145 24) 717 h0 (some q16)) q21 153 24) 718 h0 (some q21)) q26 163 24) 719 h0 (some q26)) q31 170 24) 720 h0 (some q31)) q36 178 24) 721 h0 (some q36)) q41 185 24) 722 h0 (some q41)) q46 193 24) 723 h0 (some q46)) q51 201 24) 724 h0 (some q51)) q56 209 96) 725 h0 (some q56)) q61 217 24) 726 h0 (some q61)) q66 227 8) 727 h0 (some q66)) q71 234 8) 728 h0 (some q71)) q76 241 2) 729 h0 (some q76)) q81 250 12) 733 h0 (some q81)) q86 259 12) 734 h0 (some q86)) q91 265 48) 735 h0 (some q91)) q96 274 48) 736 h0 (some q96)) q101 281 48) 737 h0 (some q101)) q106 290 1200) 740 h0 (some q106)) q111 298 800) 742 h0 (some q111)) q116 305 12) 744 h0 (some q116)) q121 314 288) 745 h0 (some q121)) q126 321 288) 746 h0 (some q126)) q131 329 288) 747 h0 (some q131)) q136 337 24) 748 h0 (some q136)) q141 346 144) 749 h0 (some q141)) q146 353 144) 750 h0 (some q146)) q151 361 144) h0 = 12 ∧ (∀ q156, mK (sR (na (sR (na (sR (na (sR (na (sR (na (sR (na (sR (na (sR (na (sR (na (sR (na (sR (na (sR (na (sR (na (sR (na (sR (na (sR (na (sR (na (sR (na (sR (na (sR (na (sR (na (sR (na (sR (na (sR (na (sR (na (sR (na (sR (na (sR (na (sR (na (sR (na (sR (na M q1 120 600) 705 h0 (some q1)) q6 129 24) 715 h0 (some q6)) q11 138 24) 716 h0 (some q11)) q16 145 24) 717 h0 (some q16)) q21 153 24) 718 h0 (some q21)) q26 163 24) 719 h0 (some q26)) q31 170 24) 720 h0 (some q31)) q36 178 24) 721 h0 (some q36)) q41 185 24) 722 h0 (some q41)) q46 193 24) 723 h0 (some q46)) q51 201 24) 724 h0 (some q51)) q56 209 96) 725 h0 (some q56)) q61 217 24) 726 h0 (some q61)) q66 227 8) 727 h0 (some q66)) q71 234 8) 728 h0 (some q71)) q76 241 2) 729 h0 (some q76)) q81 250 12) 733 h0 (some q81)) q86 259 12) 734 h0 (some q86)) q91 265 48) 735 h0 (some q91)) q96 274 48) 736 h0 (some q96)) q101 281 48) 737 h0 (some q101)) q106 290 1200) 740 h0 (some q106)) q111 298 800) 742 h0 (some q111)) q116 305 12) 744 h0 (some q116)) q121 314 288) 745 h0 (some q121)) q126 321 288) 746 h0 (some q126)) q131 329 288) 747 h0 (some q131)) q136 337 24) 748 h0 (some q136)) q141 346 144) 749 h0 (some q141)) q146 353 144) 750 h0 (some q146)) q151 361 144) 751 h0 (some q151)) q156 = 0 → mK (na (sR (na (sR (na (sR (na (sR (na (sR (na (sR (na (sR (na (sR (na (sR (na (sR (na (sR (na (sR (na (sR (na (sR (na (sR (na (sR (na (sR (na (sR (na (sR (na (sR (na (sR (na (sR (na (sR (na (sR (na (sR (na (sR (na (sR (na (sR (na (sR (na (sR (na (sR (na M q1 120 600) 705 h0 (some q1)) q6 129 24) 715 h0 (some q6)) q11 138 24) 716 h0 (some q11)) q16 145 24) 717 h0 (some q16)) q21 153 24) 718 h0 (some q21)) q26 163 24) 719 h0 (some q26)) q31 170 24) 720 h0 (some q31)) q36 178 24) 721 h0 (some q36)) q41 185 24) 722 h0 (some q41)) q46 193 24) 723 h0 (some q46)) q51 201 24) 724 h0 (some q51)) q56 209 96) 725 h0 (some q56)) q61 217 24) 726 h0 (some q61)) q66 227 8) 727 h0 (some q66)) q71 234 8) 728 h0 (some q71)) q76 241 2) 729 h0 (some q76)) q81 250 12) 733 h0 (some q81)) q86 259 12) 734 h0 (some q86)) q91 265 48) 735 h0 (some q91)) q96 274 48) 736 h0 (some q96)) q101 281 48) 737 h0 (some q101)) q106 290 1200) 740 h0 (some q106)) q111 298 800) 742 h0 (some q111)) q116 305 12) 744 h0 (some q116)) q121 314 288) 745 h0 (some q121)) q126 321 288) 746 h0 (some q126)) q131 329 288) 747 h0 (some q131)) q136 337 24) 748 h0 (some q136)) q141 346 144) 749 h0 (some q141)) q146 353 144) 750 h0 (some q146)) q151 361 144) 751 h0 (some q151)) q156 369 60) h0 = 12 ∧ (∀ q161, mK (sR (na (sR (na (sR (na (sR (na (sR (na (sR (na (sR (na (sR (na (sR (na (sR (na (sR (na (sR (na (sR (na (sR (na (sR (na (sR (na (sR (na (sR (na (sR (na (sR (na (sR (na (sR (na (sR (na (sR (na (sR (na (sR (na (sR (na (sR (na (sR (na (sR (na (sR (na (sR (na M q1 120 600) 705 h0 (some q1)) q6 129 24) 715 h0 (some q6)) q11 138 24) 716 h0 (some q11)) q16 145 24) 717 h0 (some q16)) q21 153 24) 718 h0 (some q21)) q26 163 24) 719 h0 (some q26)) q31 170 24) 720 h0 (some q31)) q36 178 24) 721 h0 (some q36)) q41 185 24) 722 h0 (some q41)) q46 193 24) 723 h0 (some q46)) q51 201 24) 724 h0 (some q51)) q56 209 96) 725 h0 (some q56)) q61 217 24) 726 h0 (some q61)) q66 227 8) 727 h0 (some q66)) q71 234 8) 728 h0 (some q71)) q76 241 2) 729 h0 (some q76)) q81 250 12) 733 h0 (some q81)) q86 259 12) 734 h0 (some q86)) q91 265 48) 735 h0 (some q91)) q96 274 48) 736 h0 (some q96)) q101 281 48) 737 h0 (some q101)) q106 290 1200) 740 h0 (some q106)) q111 298 800) 742 h0 (some q111)) q116 305 12) 744 h0 (some q116)) q121 314 288) 745 h0 (some q121)) q126 321 288) 746 h0 (some q126)) q131 329 288) 747 h0 (some q131)) q136 337 24) 748 h0 (some q136)) q141 346 144) 749 h0 (some q141)) q146 353 144) 750 h0 (some q146)) q151 361 144) 751 h0 (some q151)) q156 369 60) 753 h0 (some q156)) q161 = 0 → mK (na (sR (na (sR (na (sR (na (sR (na (sR (na (sR (na (sR (na (sR (na (sR (na (sR (na (sR (na (sR (na (sR (na (sR (na (sR (na (sR (na (sR (na (sR (na (sR (na (sR (na (sR (na (sR (na (sR (na (sR (na (sR (na (sR (na (sR (na (sR (na (sR (na (sR (na (sR (na (sR (na M q1 120 600) 705 h0 (some q1)) q6 129 24) 715 h0 (some q6)) q11 138 24) 716 h0 (some q11)) q16 145 24) 717 h0 (some q16)) q21 153 24) 718 h0 (some q21)) q26 163 24) 719 h0 (some q26)) q31 170 24) 720 h0 (some q31)) q36 178 24) 721 h0 (some q36)) q41 185 24) 722 h0 (some q41)) q46 193 24) 723 h0 (some q46)) q51 201 24) 724 h0 (some q51)) q56 209 96) 725 h0 (some q56)) q61 217 24) 726 h0 (some q61)) q66 227 8) 727 h0 (some q66)) q71 234 8) 728 h0 (some q71)) q76 241 2) 729 h0 (some q76)) q81 250 12) 733 h0 (some q81)) q86 259 12) 734 h0 (some q86)) q91 265 48) 735 h0 (some q91)) q96 274 48) 736 h0 (some q96)) q101 281 48) 737 h0 (some q101)) q106 290 1200) 740 h0 (some q106)) q111 298 800) 742 h0 (some q111)) q116 305 12) 744 h0 (some q116)) q121 314 288) 745 h0 (some q121)) q126 321 288) 746 h0 (some q126)) q131 329 288) 747 h0 (some q131)) q136 337 24) 748 h0 (some q136)) q141 346 144) 749 h0 (some q141)) q146 353 144) 750 h0 (some q146)) q151 361 144) 751 h0 (some q151)) q156 369 60) 753 h0 (some q156)) q161 378 60) h0 = 12 ∧ (∀ q166, mK (sR (na (sR (na (sR (na (sR (na (sR (na (sR (na (sR (na (sR (na (sR (na (sR (na (sR (na (sR (na (sR (na (sR (na (sR (na (sR (na (sR (na (sR (na (sR (na (sR (na (sR (na (sR (na (sR (na (sR (na (sR (na (sR (na (sR (na (sR (na (sR (na (sR (na (sR (na (sR (na (sR (na M q1 120 600) 705 h0 (some q1)) q6 129 24) 715 h0 (some q6)) q11 138 24) 716 h0 (some q11)) q16 145 24) 717 h0 (some q16)) q21 153 24) 718 h0 (some q21)) q26 163 24) 719 h0 (some q26)) q31 170 24) 720 h0 (some q31)) q36 178 24) 721 h0 (some q36)) q41 185 24) 722 h0 (some q41)) q46 193 24) 723 h0 (some q46)) q51 201 24) 724 h0 (some q51)) q56 209 96) 725 h0 (some q56)) q61 217 24) 726 h0 (some q61)) q66 227 8) 727 h0 (some q66)) q71 234 8) 728 h0 (some q71)) q76 241 2) 729 h0 (some q76)) q81 250 12) 733 h0 (some q81)) q86 259 12) 734 h0 (some q86)) q91 265 48) 735 h0 (some q91)) q96 274 48) 736 h0 (some q96)) q101 281 48) 737 h0 (some q101)) q106 290 1200) 740 h0 (some q106)) q111 298 800) 742 h0 (some q111)) q116 305 12) 744 h0 (some q116)) q121 314 288) 745 h0 (some q121)) q126 321 288) 746 h0 (some q126)) q131 329 288) 747 h0 (some q131)) q136 337 24) 748 h0 (some q136)) q141 346 144) 749 h0 (some q141)) q146 353 144) 750 h0 (some q146)) q151 361 144) 751 h0 (some q151)) q156 369 60) 753 h0 (some q156)) q161 378 60) 754 h0 (some q161)) q166 = 0 → mK (na (sR (na (sR (na (sR (na (sR (na (sR (na (sR (na (sR (na (sR (na (sR (na (sR (na (sR (na (sR (na (sR (na (sR (na (sR (na (sR (na (sR (na (sR (na (sR (na (sR (na (sR (na (sR (na (sR (na (sR (na (sR (na (sR (na (sR (na (sR (na (sR (na (sR (na (sR (na (sR (na (sR (na M q1 120 600) 705 h0 (some q1)) q6 129 24) 715 h0 (some q6)) q11 138 24) 716 h0 (some q11)) q16 145 24) 717 h0 (some q16)) q21 153 24) 718 h0 (some q21)) q26 163 24) 719 h0 (some q26)) q31 170 24) 720 h0 (some q31)) q36 178 24) 721 h0 (some q36)) q41 185 24) 722 h0 (some q41)) q46 193 24) 723 h0 (some q46)) q51 201 24) 724 h0 (some q51)) q56 209 96) 725 h0 (some q56)) q61 217 24) 726 h0 (some q61)) q66 227 8) 727 h0 (some q66)) q71 234 8) 728 h0 (some q71)) q76 241 2) 729 h0 (some q76)) q81 250 12) 733 h0 (some q81)) q86 259 12) 734 h0 (some q86)) q91 265 48) 735 h0 (some q91)) q96 274 48) 736 h0 (some q96)) q101 281 48) 737 h0 (some q101)) q106 290 1200) 740 h0 (some q106)) q111 298 800) 742 h0 (some q111)) q116 305 12) 744 h0 (some q116)) q121 314 288) 745 h0 (some q121)) q126 321 288) 746 h0 (some q126)) q131 329 288) 747 h0 (some q131)) q136 337 24) 748 h0 (some q136)) q141 346 144) 749 h0 (some q141)) q146 353 144) 750 h0 (some q146)) q151 361 144) 751 h0 (some q151)) q156 369 60) 753 h0 (some q156)) q161 378 60) 754 h0 (some q161)) q166 387 60) h0 = 12 ∧ (∀ q171, mK (sR (na (sR (na (sR (na (sR (na (sR (na (sR (na (sR (na (sR (na (sR (na (sR (na (sR (na (sR (na (sR (na (sR (na (sR (na (sR (na (sR (na (sR (na (sR (na (sR (na (sR (na (sR (na (sR (na (sR (na (sR (na (sR (na (sR (na (sR (na (sR (na (sR (na (sR (na (sR (na (sR (na (sR (na M q1 120 600) 705 h0 (some q1)) q6 129 24) 715 h0 (some q6)) q11 138 24) 716 h0 (some q11)) q16 145 24) 717 h0 (some q16)) q21 153 24) 718 h0 (some q21)) q26 163 24) 719 h0 (some q26)) q31 170 24) 720 h0 (some q31)) q36 178 24) 721 h0 (some q36)) q41 185 24) 722 h0 (some q41)) q46 193 24) 723 h0 (some q46)) q51 201 24) 724 h0 (some q51)) q56 209 96) 725 h0 (some q56)) q61 217 24) 726 h0 (some q61)) q66 227 8) 727 h0 (some q66)) q71 234 8) 728 h0 (some q71)) q76 241 2) 729 h0 (some q76)) q81 250 12) 733 h0 (some q81)) q86 259 12) 734 h0 (some q86)) q91 265 48) 735 h0 (some q91)) q96 274 48) 736 h0 (some q96)) q101 281 48) 737 h0 (some q101)) q106 290 1200) 740 h0 (some q106)) q111 298 800) 742 h0 (some q111)) q116 305 12) 744 h0 (some q116)) q121 314 288) 745 h0 (some q121)) q126 321 288) 746 h0 (some q126)) q131 329 288) 747 h0 (some q131)) q136 337 24) 748 h0 (some q136)) q141 346 144) 749 h0 (some q141)) q146 353 144) 750 h0 (some q146)) q151 361 144) 751 h0 (some q151)) q156 369 60) 753 h0 (some q156)) q161 378 60) 754 h0 (some q161)) q166 387 60) 755 h0 (some q166)) q171 = 0 → mK (na (sR (na (sR (na (sR (na (sR (na (sR (na (sR (na (sR (na (sR (na (sR (na (sR (na (sR (na (sR (na (sR (na (sR (na (sR (na (sR (na (sR (na (sR (na (sR (na (sR (na (sR (na (sR (na (sR (na (sR (na (sR (na (sR (na (sR (na (sR (na (sR (na (sR (na (sR (na (sR (na (sR (na (sR (na M q1 120 600) 705 h0 (some q1)) q6 129 24) 715 h0 (some q6)) q11 138 24) 716 h0 (some q11)) q16 145 24) 717 h0 (some q16)) q21 153 24) 718 h0 (some q21)) q26 163 24) 719 h0 (some q26)) q31 170 24) 720 h0 (some q31)) q36 178 24) 721 h0 (some q36)) q41 185 24) 722 h0 (some q41)) q46 193 24) 723 h0 (some q46)) q51 201 24) 724 h0 (some q51)) q56 209 96) 725 h0 (some q56)) q61 217 24) 726 h0 (some q61)) q66 227 8) 727 h0 (some q66)) q71 234 8) 728 h0 (some q71)) q76 241 2) 729 h0 (some q76)) q81 250 12) 733 h0 (some q81)) q86 259 12) 734 h0 (some q86)) q91 265 48) 735 h0 (some q91)) q96 274 48) 736 h0 (some q96)) q101 281 48) 737 h0 (some q101)) q106 290 1200) 740 h0 (some q106)) q111 298 800) 742 h0 (some q111)) q116 305 12) 744 h0 (some q116)) q121 314 288) 745 h0 (some q121)) q126 321 288) 746 h0 (some q126)) q131 329 288) 747 h0 (some q131)) q136 337 24) 748 h0 (some q136)) q141 346 144) 749 h0 (some q141)) q146 353 144) 750 h0 (some q146)) q151 361 144) 751 h0 (some q151)) q156 369 60) 753 h0 (some q156)) q161 378 60) 754 h0 (some q161)) q166 387 60) 755 h0 (some q166)) q171 395 48) h0 = 12 ∧ (∀ q176, mK (sR (na (sR (na (sR (na (sR (na (sR (na (sR (na (sR (na (sR (na (sR (na (sR (na (sR (na (sR (na (sR (na (sR (na (sR (na (sR (na (sR (na (sR (na (sR (na (sR (na (sR (na (sR (na (sR (na (sR (na (sR (na (sR (na (sR (na (sR (na (sR (na (sR (na (sR (na (sR (na (sR (na (sR (na (sR (na M q1 120 600) 705 h0 (some q1)) q6 129 24) 715 h0 (some q6)) q11 138 24) 716 h0 (some q11)) q16 145 24) 717 h0 (some q16)) q21 153 24) 718 h0 (some q21)) q26 163 24) 719 h0 (some q26)) q31 170 24) 720 h0 (some q31)) q36 178 24) 721 h0 (some q36)) q41 185 24) 722 h0 (some q41)) q46 193 24) 723 h0 (some q46)) q51 201 24) 724 h0 (some q51)) q56 209 96) 725 h0 (some q56)) q61 217 24) 726 h0 (some q61)) q66 227 8) 727 h0 (some q66)) q71 234 8) 728 h0 (some q71)) q76 241 2) 729 h0 (some q76)) q81 250 12) 733 h0 (some q81)) q86 259 12) 734 h0 (some q86)) q91 265 48) 735 h0 (some q91)) q96 274 48) 736 h0 (some q96)) q101 281 48) 737 h0 (some q101)) q106 290 1200) 740 h0 (some q106)) q111 298 800) 742 h0 (some q111)) q116 305 12) 744 h0 (some q116)) q121 314 288) 745 h0 (some q121)) q126 321 288) 746 h0 (some q126)) q131 329 288) 747 h0 (some q131)) q136 337 24) 748 h0 (some q136)) q141 346 144) 749 h0 (some q141)) q146 353 144) 750 h0 (some q146)) q151 361 144) 751 h0 (some q151)) q156 369 60) 753 h0 (some q156)) q161 378 60) 754 h0 (some q161)) q166 387 60) 755 h0 (some q166)) q171 395 48) 758 h0 (some q171)) q176 = 0 → mK (na (sR (na (sR (na (sR (na (sR (na (sR (na (sR (na (sR (na (sR (na (sR (na (sR (na (sR (na (sR (na (sR (na (sR (na (sR (na (sR (na (sR (na (sR (na (sR (na (sR (na (sR (na (sR (na (sR (na (sR (na (sR (na (sR (na (sR (na (sR (na (sR (na (sR (na (sR (na (sR (na (sR (na (sR (na (sR (na M q1 120 600) 705 h0 (some q1)) q6 129 24) 715 h0 (some q6)) q11 138 24) 716 h0 (some q11)) q16 145 24) 717 h0 (some q16)) q21 153 24) 718 h0 (some q21)) q26 163 24) 719 h0 (some q26)) q31 170 24) 720 h0 (some q31)) q36 178 24) 721 h0 (some q36)) q41 185 24) 722 h0 (some q41)) q46 193 24) 723 h0 (some q46)) q51 201 24) 724 h0 (some q51)) q56 209 96) 725 h0 (some q56)) q61 217 24) 726 h0 (some q61)) q66 227 8) 727 h0 (some q66)) q71 234 8) 728 h0 (some q71)) q76 241 2) 729 h0 (some q76)) q81 250 12) 733 h0 (some q81)) q86 259 12) 734 h0 (some q86)) q91 265 48) 735 h0 (some q91)) q96 274 48) 736 h0 (some q96)) q101 281 48) 737 h0 (some q101)) q106 290 1200) 740 h0 (some q106)) q111 298 800) 742 h0 (some q111)) q116 305 12) 744 h0 (some q116)) q121 314 288) 745 h0 (some q121)) q126 321 288) 746 h0 (some q126)) q131 329 288) 747 h0 (some q131)) q136 337 24) 748 h0 (some q136)) q141 346 144) 749 h0 (some q141)) q146 353 144) 750 h0 (some q146)) q151 361 144) 751 h0 (some q151)) q156 369 60) 753 h0 (some q156)) q161 378 60) 754 h0 (some q161)) q166 387 60) 755 h0 (some q166)) q171 395 48) 758 h0 (some q171)) q176 400 1500) h0 = 12 ∧ (K (sR (na (sR (na (sR (na (sR (na (sR (na (sR (na (sR (na (sR (na (sR (na (sR (na (sR (na (sR (na (sR (na (sR (na (sR (na (sR (na (sR (na (sR (na (sR (na (sR (na (sR (na (sR (na (sR (na (sR (na (sR (na (sR (na (sR (na (sR (na (sR (na (sR (na (sR (na (sR (na (sR (na (sR (na (sR (na (sR (na M q1 120 600) 705 h0 (some q1)) q6 129 24) 715 h0 (some q6)) q11 138 24) 716 h0 (some q11)) q16 145 24) 717 h0 (some q16)) q21 153 24) 718 h0 (some q21)) q26 163 24) 719 h0 (some q26)) q31 170 24) 720 h0 (some q31)) q36 178 24) 721 h0 (some q36)) q41 185 24) 722 h0 (some q41)) q46 193 24) 723 h0 (some q46)) q51 201 24) 724 h0 (some q51)) q56 209 96) 725 h0 (some q56)) q61 217 24) 726 h0 (some q61)) q66 227 8) 727 h0 (some q66)) q71 234 8) 728 h0 (some q71)) q76 241 2) 729 h0 (some q76)) q81 250 12) 733 h0 (some q81)) q86 259 12) 734 h0 (some q86)) q91 265 48) 735 h0 (some q91)) q96 274 48) 736 h0 (some q96)) q101 281 48) 737 h0 (some q101)) q106 290 1200) 740 h0 (some q106)) q111 298 800) 742 h0 (some q111)) q116 305 12) 744 h0 (some q116)) q121 314 288) 745 h0 (some q121)) q126 321 288) 746 h0 (some q126)) q131 329 288) 747 h0 (some q131)) q136 337 24) 748 h0 (some q136)) q141 346 144) 749 h0 (some q141)) q146 353 144) 750 h0 (some q146)) q151 361 144) 751 h0 (some q151)) q156 369 60) 753 h0 (some q156)) q161 378 60) 754 h0 (some q161)) q166 387 60) 755 h0 (some q166)) q171 395 48) 758 h0 (some q171)) q176 400 1500) 759 h0 (some q176)))))))))))))))))))))))))))))))))))))))
set_option maxRecDepth 100000 in
set_option maxHeartbeats 4000000 in
theorem ct_X11_init {M : Mm} {h0 : Nat} {K : Mm → Prop} (h : wp_X11_init M h0 K) : CtV yX11_init cX11_init 1 none rm_X11_init [.ref h0] M K := by
  refine ct_any (QV K) (by decide) (by exact Nat.le_of_ble_eq_true rfl) (fun X hX hQ hnL hnm => ?_)
  rw [show lv_args 0 [.ref h0] = [(0, va_rf (some h0))] by rfl]
  have hX : Ok X cX11_init RX11 rm_X11_init := hX
  unfold wp_X11_init at h
  refine z_aload_n (r := (some h0)) hX dX11_init_0 rfl 0 rfl ?_
  refine mw_RX11_5 (a := h0) hX dX11_init_1 (by decide) (by decide) ?_
  refine z_aload_n (r := (some h0)) hX dX11_init_4 rfl 0 rfl ?_
  refine z_sipush (v := (600 : Int32)) hX dX11_init_5 (by decide) ?_
  refine y_newa_byte (n := 600) hX 120 (by decide) (by decide) (by decide) (by decide) (by decide) dX11_init_8 (by decide) (by decide) (fun q1 hq2 => ?_)
  have h := h q1 hq2
  obtain ⟨hk4, h⟩ := h
  refine pf_RX11_11 (r := (some h0)) (v := (some q1)) hX hnm dX11_init_10 rfl hk4 ?_
  refine z_aload_n (r := (some h0)) hX dX11_init_13 rfl 0 rfl ?_
  refine z_bipush (v := (24 : Int32)) hX dX11_init_14 (by decide) ?_
  refine y_newa_int (n := 24) hX 129 (by decide) (by decide) (by decide) (by decide) (by decide) dX11_init_16 (by decide) (by decide) (fun q6 hq7 => ?_)
  have h := h q6 hq7
  obtain ⟨hk9, h⟩ := h
  refine pf_RX11_15 (r := (some h0)) (v := (some q6)) hX hnm dX11_init_18 rfl hk9 ?_
  refine z_aload_n (r := (some h0)) hX dX11_init_21 rfl 0 rfl ?_
  refine z_bipush (v := (24 : Int32)) hX dX11_init_22 (by decide) ?_
  refine y_newa_long (n := 24) hX 138 (by decide) (by decide) (by decide) (by decide) (by decide) dX11_init_24 (by decide) (by decide) (fun q11 hq12 => ?_)
  have h := h q11 hq12
  obtain ⟨hk14, h⟩ := h
  refine pf_RX11_19 (r := (some h0)) (v := (some q11)) hX hnm dX11_init_26 rfl hk14 ?_
  refine z_aload_n (r := (some h0)) hX dX11_init_29 rfl 0 rfl ?_
  refine z_bipush (v := (24 : Int32)) hX dX11_init_30 (by decide) ?_
  refine y_newa_int (n := 24) hX 145 (by decide) (by decide) (by decide) (by decide) (by decide) dX11_init_32 (by decide) (by decide) (fun q16 hq17 => ?_)
  have h := h q16 hq17
  obtain ⟨hk19, h⟩ := h
  refine pf_RX11_23 (r := (some h0)) (v := (some q16)) hX hnm dX11_init_34 rfl hk19 ?_
  refine z_aload_n (r := (some h0)) hX dX11_init_37 rfl 0 rfl ?_
  refine z_bipush (v := (24 : Int32)) hX dX11_init_38 (by decide) ?_
  refine y_newa_int (n := 24) hX 153 (by decide) (by decide) (by decide) (by decide) (by decide) dX11_init_40 (by decide) (by decide) (fun q21 hq22 => ?_)
  have h := h q21 hq22
  obtain ⟨hk24, h⟩ := h
  refine pf_RX11_26 (r := (some h0)) (v := (some q21)) hX hnm dX11_init_42 rfl hk24 ?_
  refine z_aload_n (r := (some h0)) hX dX11_init_45 rfl 0 rfl ?_
  refine z_bipush (v := (24 : Int32)) hX dX11_init_46 (by decide) ?_
  refine y_newa_boolean (n := 24) hX 163 (by decide) (by decide) (by decide) (by decide) (by decide) dX11_init_48 (by decide) (by decide) (fun q26 hq27 => ?_)
  have h := h q26 hq27
  obtain ⟨hk29, h⟩ := h
  refine pf_RX11_29 (r := (some h0)) (v := (some q26)) hX hnm dX11_init_50 rfl hk29 ?_
  refine z_aload_n (r := (some h0)) hX dX11_init_53 rfl 0 rfl ?_
  refine z_bipush (v := (24 : Int32)) hX dX11_init_54 (by decide) ?_
  refine y_newa_long (n := 24) hX 170 (by decide) (by decide) (by decide) (by decide) (by decide) dX11_init_56 (by decide) (by decide) (fun q31 hq32 => ?_)
  have h := h q31 hq32
  obtain ⟨hk34, h⟩ := h
  refine pf_RX11_33 (r := (some h0)) (v := (some q31)) hX hnm dX11_init_58 rfl hk34 ?_
  refine z_aload_n (r := (some h0)) hX dX11_init_61 rfl 0 rfl ?_
  refine z_bipush (v := (24 : Int32)) hX dX11_init_62 (by decide) ?_
  refine y_newa_long (n := 24) hX 178 (by decide) (by decide) (by decide) (by decide) (by decide) dX11_init_64 (by decide) (by decide) (fun q36 hq37 => ?_)
  have h := h q36 hq37
  obtain ⟨hk39, h⟩ := h
  refine pf_RX11_36 (r := (some h0)) (v := (some q36)) hX hnm dX11_init_66 rfl hk39 ?_
  refine z_aload_n (r := (some h0)) hX dX11_init_69 rfl 0 rfl ?_
  refine z_bipush (v := (24 : Int32)) hX dX11_init_70 (by decide) ?_
  refine y_newa_int (n := 24) hX 185 (by decide) (by decide) (by decide) (by decide) (by decide) dX11_init_72 (by decide) (by decide) (fun q41 hq42 => ?_)
  have h := h q41 hq42
  obtain ⟨hk44, h⟩ := h
  refine pf_RX11_39 (r := (some h0)) (v := (some q41)) hX hnm dX11_init_74 rfl hk44 ?_
  refine z_aload_n (r := (some h0)) hX dX11_init_77 rfl 0 rfl ?_
  refine z_bipush (v := (24 : Int32)) hX dX11_init_78 (by decide) ?_
  refine y_newa_int (n := 24) hX 193 (by decide) (by decide) (by decide) (by decide) (by decide) dX11_init_80 (by decide) (by decide) (fun q46 hq47 => ?_)
  have h := h q46 hq47
  obtain ⟨hk49, h⟩ := h
  refine pf_RX11_42 (r := (some h0)) (v := (some q46)) hX hnm dX11_init_82 rfl hk49 ?_
  refine z_aload_n (r := (some h0)) hX dX11_init_85 rfl 0 rfl ?_
  refine z_bipush (v := (24 : Int32)) hX dX11_init_86 (by decide) ?_
  refine y_newa_int (n := 24) hX 201 (by decide) (by decide) (by decide) (by decide) (by decide) dX11_init_88 (by decide) (by decide) (fun q51 hq52 => ?_)
  have h := h q51 hq52
  obtain ⟨hk54, h⟩ := h
  refine pf_RX11_45 (r := (some h0)) (v := (some q51)) hX hnm dX11_init_90 rfl hk54 ?_
  refine z_aload_n (r := (some h0)) hX dX11_init_93 rfl 0 rfl ?_
  refine z_bipush (v := (96 : Int32)) hX dX11_init_94 (by decide) ?_
  refine y_newa_int (n := 96) hX 209 (by decide) (by decide) (by decide) (by decide) (by decide) dX11_init_96 (by decide) (by decide) (fun q56 hq57 => ?_)
  have h := h q56 hq57
  obtain ⟨hk59, h⟩ := h
  refine pf_RX11_48 (r := (some h0)) (v := (some q56)) hX hnm dX11_init_98 rfl hk59 ?_
  refine z_aload_n (r := (some h0)) hX dX11_init_101 rfl 0 rfl ?_
  refine z_bipush (v := (24 : Int32)) hX dX11_init_102 (by decide) ?_
  refine y_newa_int (n := 24) hX 217 (by decide) (by decide) (by decide) (by decide) (by decide) dX11_init_104 (by decide) (by decide) (fun q61 hq62 => ?_)
  have h := h q61 hq62
  obtain ⟨hk64, h⟩ := h
  refine pf_RX11_51 (r := (some h0)) (v := (some q61)) hX hnm dX11_init_106 rfl hk64 ?_
  refine z_aload_n (r := (some h0)) hX dX11_init_109 rfl 0 rfl ?_
  refine z_bipush (v := (8 : Int32)) hX dX11_init_110 (by decide) ?_
  refine y_newa_boolean (n := 8) hX 227 (by decide) (by decide) (by decide) (by decide) (by decide) dX11_init_112 (by decide) (by decide) (fun q66 hq67 => ?_)
  have h := h q66 hq67
  obtain ⟨hk69, h⟩ := h
  refine pf_RX11_54 (r := (some h0)) (v := (some q66)) hX hnm dX11_init_114 rfl hk69 ?_
  refine z_aload_n (r := (some h0)) hX dX11_init_117 rfl 0 rfl ?_
  refine z_bipush (v := (8 : Int32)) hX dX11_init_118 (by decide) ?_
  refine y_newa_long (n := 8) hX 234 (by decide) (by decide) (by decide) (by decide) (by decide) dX11_init_120 (by decide) (by decide) (fun q71 hq72 => ?_)
  have h := h q71 hq72
  obtain ⟨hk74, h⟩ := h
  refine pf_RX11_57 (r := (some h0)) (v := (some q71)) hX hnm dX11_init_122 rfl hk74 ?_
  refine z_aload_n (r := (some h0)) hX dX11_init_125 rfl 0 rfl ?_
  refine z_iconst (v := (2 : Int32)) hX dX11_init_126 (by decide) ?_
  refine y_newa_int (n := 2) hX 241 (by decide) (by decide) (by decide) (by decide) (by decide) dX11_init_127 (by decide) (by decide) (fun q76 hq77 => ?_)
  have h := h q76 hq77
  obtain ⟨hk79, h⟩ := h
  refine pf_RX11_60 (r := (some h0)) (v := (some q76)) hX hnm dX11_init_129 rfl hk79 ?_
  refine z_aload_n (r := (some h0)) hX dX11_init_132 rfl 0 rfl ?_
  refine z_bipush (v := (12 : Int32)) hX dX11_init_133 (by decide) ?_
  refine y_newa_long (n := 12) hX 250 (by decide) (by decide) (by decide) (by decide) (by decide) dX11_init_135 (by decide) (by decide) (fun q81 hq82 => ?_)
  have h := h q81 hq82
  obtain ⟨hk84, h⟩ := h
  refine pf_RX11_63 (r := (some h0)) (v := (some q81)) hX hnm dX11_init_137 rfl hk84 ?_
  refine z_aload_n (r := (some h0)) hX dX11_init_140 rfl 0 rfl ?_
  refine z_bipush (v := (12 : Int32)) hX dX11_init_141 (by decide) ?_
  refine y_newa_boolean (n := 12) hX 259 (by decide) (by decide) (by decide) (by decide) (by decide) dX11_init_143 (by decide) (by decide) (fun q86 hq87 => ?_)
  have h := h q86 hq87
  obtain ⟨hk89, h⟩ := h
  refine pf_RX11_66 (r := (some h0)) (v := (some q86)) hX hnm dX11_init_145 rfl hk89 ?_
  refine z_aload_n (r := (some h0)) hX dX11_init_148 rfl 0 rfl ?_
  refine z_bipush (v := (48 : Int32)) hX dX11_init_149 (by decide) ?_
  refine y_newa_int (n := 48) hX 265 (by decide) (by decide) (by decide) (by decide) (by decide) dX11_init_151 (by decide) (by decide) (fun q91 hq92 => ?_)
  have h := h q91 hq92
  obtain ⟨hk94, h⟩ := h
  refine pf_RX11_69 (r := (some h0)) (v := (some q91)) hX hnm dX11_init_153 rfl hk94 ?_
  refine z_aload_n (r := (some h0)) hX dX11_init_156 rfl 0 rfl ?_
  refine z_bipush (v := (48 : Int32)) hX dX11_init_157 (by decide) ?_
  refine y_newa_long (n := 48) hX 274 (by decide) (by decide) (by decide) (by decide) (by decide) dX11_init_159 (by decide) (by decide) (fun q96 hq97 => ?_)
  have h := h q96 hq97
  obtain ⟨hk99, h⟩ := h
  refine pf_RX11_72 (r := (some h0)) (v := (some q96)) hX hnm dX11_init_161 rfl hk99 ?_
  refine z_aload_n (r := (some h0)) hX dX11_init_164 rfl 0 rfl ?_
  refine z_bipush (v := (48 : Int32)) hX dX11_init_165 (by decide) ?_
  refine y_newa_int (n := 48) hX 281 (by decide) (by decide) (by decide) (by decide) (by decide) dX11_init_167 (by decide) (by decide) (fun q101 hq102 => ?_)
  have h := h q101 hq102
  obtain ⟨hk104, h⟩ := h
  refine pf_RX11_75 (r := (some h0)) (v := (some q101)) hX hnm dX11_init_169 rfl hk104 ?_
  refine z_aload_n (r := (some h0)) hX dX11_init_172 rfl 0 rfl ?_
  refine z_sipush (v := (1200 : Int32)) hX dX11_init_173 (by decide) ?_
  refine y_newa_long (n := 1200) hX 290 (by decide) (by decide) (by decide) (by decide) (by decide) dX11_init_176 (by decide) (by decide) (fun q106 hq107 => ?_)
  have h := h q106 hq107
  obtain ⟨hk109, h⟩ := h
  refine pf_RX11_78 (r := (some h0)) (v := (some q106)) hX hnm dX11_init_178 rfl hk109 ?_
  refine z_aload_n (r := (some h0)) hX dX11_init_181 rfl 0 rfl ?_
  refine z_sipush (v := (800 : Int32)) hX dX11_init_182 (by decide) ?_
  refine y_newa_long (n := 800) hX 298 (by decide) (by decide) (by decide) (by decide) (by decide) dX11_init_185 (by decide) (by decide) (fun q111 hq112 => ?_)
  have h := h q111 hq112
  obtain ⟨hk114, h⟩ := h
  refine pf_RX11_81 (r := (some h0)) (v := (some q111)) hX hnm dX11_init_187 rfl hk114 ?_
  refine z_aload_n (r := (some h0)) hX dX11_init_190 rfl 0 rfl ?_
  refine z_bipush (v := (12 : Int32)) hX dX11_init_191 (by decide) ?_
  refine y_newa_int (n := 12) hX 305 (by decide) (by decide) (by decide) (by decide) (by decide) dX11_init_193 (by decide) (by decide) (fun q116 hq117 => ?_)
  have h := h q116 hq117
  obtain ⟨hk119, h⟩ := h
  refine pf_RX11_84 (r := (some h0)) (v := (some q116)) hX hnm dX11_init_195 rfl hk119 ?_
  refine z_aload_n (r := (some h0)) hX dX11_init_198 rfl 0 rfl ?_
  refine z_sipush (v := (288 : Int32)) hX dX11_init_199 (by decide) ?_
  refine y_newa_long (n := 288) hX 314 (by decide) (by decide) (by decide) (by decide) (by decide) dX11_init_202 (by decide) (by decide) (fun q121 hq122 => ?_)
  have h := h q121 hq122
  obtain ⟨hk124, h⟩ := h
  refine pf_RX11_87 (r := (some h0)) (v := (some q121)) hX hnm dX11_init_204 rfl hk124 ?_
  refine z_aload_n (r := (some h0)) hX dX11_init_207 rfl 0 rfl ?_
  refine z_sipush (v := (288 : Int32)) hX dX11_init_208 (by decide) ?_
  refine y_newa_int (n := 288) hX 321 (by decide) (by decide) (by decide) (by decide) (by decide) dX11_init_211 (by decide) (by decide) (fun q126 hq127 => ?_)
  have h := h q126 hq127
  obtain ⟨hk129, h⟩ := h
  refine pf_RX11_90 (r := (some h0)) (v := (some q126)) hX hnm dX11_init_213 rfl hk129 ?_
  refine z_aload_n (r := (some h0)) hX dX11_init_216 rfl 0 rfl ?_
  refine z_sipush (v := (288 : Int32)) hX dX11_init_217 (by decide) ?_
  refine y_newa_int (n := 288) hX 329 (by decide) (by decide) (by decide) (by decide) (by decide) dX11_init_220 (by decide) (by decide) (fun q131 hq132 => ?_)
  have h := h q131 hq132
  obtain ⟨hk134, h⟩ := h
  refine pf_RX11_93 (r := (some h0)) (v := (some q131)) hX hnm dX11_init_222 rfl hk134 ?_
  refine z_aload_n (r := (some h0)) hX dX11_init_225 rfl 0 rfl ?_
  refine z_bipush (v := (24 : Int32)) hX dX11_init_226 (by decide) ?_
  refine y_newa_int (n := 24) hX 337 (by decide) (by decide) (by decide) (by decide) (by decide) dX11_init_228 (by decide) (by decide) (fun q136 hq137 => ?_)
  have h := h q136 hq137
  obtain ⟨hk139, h⟩ := h
  refine pf_RX11_96 (r := (some h0)) (v := (some q136)) hX hnm dX11_init_230 rfl hk139 ?_
  refine z_aload_n (r := (some h0)) hX dX11_init_233 rfl 0 rfl ?_
  refine z_sipush (v := (144 : Int32)) hX dX11_init_234 (by decide) ?_
  refine y_newa_long (n := 144) hX 346 (by decide) (by decide) (by decide) (by decide) (by decide) dX11_init_237 (by decide) (by decide) (fun q141 hq142 => ?_)
  have h := h q141 hq142
  obtain ⟨hk144, h⟩ := h
  refine pf_RX11_99 (r := (some h0)) (v := (some q141)) hX hnm dX11_init_239 rfl hk144 ?_
  refine z_aload_n (r := (some h0)) hX dX11_init_242 rfl 0 rfl ?_
  refine z_sipush (v := (144 : Int32)) hX dX11_init_243 (by decide) ?_
  refine y_newa_int (n := 144) hX 353 (by decide) (by decide) (by decide) (by decide) (by decide) dX11_init_246 (by decide) (by decide) (fun q146 hq147 => ?_)
  have h := h q146 hq147
  obtain ⟨hk149, h⟩ := h
  refine pf_RX11_102 (r := (some h0)) (v := (some q146)) hX hnm dX11_init_248 rfl hk149 ?_
  refine z_aload_n (r := (some h0)) hX dX11_init_251 rfl 0 rfl ?_
  refine z_sipush (v := (144 : Int32)) hX dX11_init_252 (by decide) ?_
  refine y_newa_int (n := 144) hX 361 (by decide) (by decide) (by decide) (by decide) (by decide) dX11_init_255 (by decide) (by decide) (fun q151 hq152 => ?_)
  have h := h q151 hq152
  obtain ⟨hk154, h⟩ := h
  refine pf_RX11_105 (r := (some h0)) (v := (some q151)) hX hnm dX11_init_257 rfl hk154 ?_
  refine z_aload_n (r := (some h0)) hX dX11_init_260 rfl 0 rfl ?_
  refine z_bipush (v := (60 : Int32)) hX dX11_init_261 (by decide) ?_
  refine y_newa_int (n := 60) hX 369 (by decide) (by decide) (by decide) (by decide) (by decide) dX11_init_263 (by decide) (by decide) (fun q156 hq157 => ?_)
  have h := h q156 hq157
  obtain ⟨hk159, h⟩ := h
  refine pf_RX11_108 (r := (some h0)) (v := (some q156)) hX hnm dX11_init_265 rfl hk159 ?_
  refine z_aload_n (r := (some h0)) hX dX11_init_268 rfl 0 rfl ?_
  refine z_bipush (v := (60 : Int32)) hX dX11_init_269 (by decide) ?_
  refine y_newa_long (n := 60) hX 378 (by decide) (by decide) (by decide) (by decide) (by decide) dX11_init_271 (by decide) (by decide) (fun q161 hq162 => ?_)
  have h := h q161 hq162
  obtain ⟨hk164, h⟩ := h
  refine pf_RX11_111 (r := (some h0)) (v := (some q161)) hX hnm dX11_init_273 rfl hk164 ?_
  refine z_aload_n (r := (some h0)) hX dX11_init_276 rfl 0 rfl ?_
  refine z_bipush (v := (60 : Int32)) hX dX11_init_277 (by decide) ?_
  refine y_newa_boolean (n := 60) hX 387 (by decide) (by decide) (by decide) (by decide) (by decide) dX11_init_279 (by decide) (by decide) (fun q166 hq167 => ?_)
  have h := h q166 hq167
  obtain ⟨hk169, h⟩ := h
  refine pf_RX11_114 (r := (some h0)) (v := (some q166)) hX hnm dX11_init_281 rfl hk169 ?_
  refine z_aload_n (r := (some h0)) hX dX11_init_284 rfl 0 rfl ?_
  refine z_bipush (v := (48 : Int32)) hX dX11_init_285 (by decide) ?_
  refine y_newa_boolean (n := 48) hX 395 (by decide) (by decide) (by decide) (by decide) (by decide) dX11_init_287 (by decide) (by decide) (fun q171 hq172 => ?_)
  have h := h q171 hq172
  obtain ⟨hk174, h⟩ := h
  refine pf_RX11_117 (r := (some h0)) (v := (some q171)) hX hnm dX11_init_289 rfl hk174 ?_
  refine z_aload_n (r := (some h0)) hX dX11_init_292 rfl 0 rfl ?_
  refine z_sipush (v := (1500 : Int32)) hX dX11_init_293 (by decide) ?_
  refine y_newa_byte (n := 1500) hX 400 (by decide) (by decide) (by decide) (by decide) (by decide) dX11_init_296 (by decide) (by decide) (fun q176 hq177 => ?_)
  have h := h q176 hq177
  obtain ⟨hk179, h⟩ := h
  refine pf_RX11_120 (r := (some h0)) (v := (some q176)) hX hnm dX11_init_298 rfl hk179 ?_
  refine z_widen 36 6206 (by decide) (by decide) ?_
  exact z_vret hX hQ dX11_init_301 h
def rm_X11_thrown : Room := { frames := 0, cells := 0, slots := 0, locals := 0 }
def wp_X11_thrown (M : Mm) (h0 : Nat) (K : Int32 → Mm → Prop) : Prop := mK M h0 = 12 ∧ (K (mI M 704 h0) M)
set_option maxRecDepth 100000 in
set_option maxHeartbeats 4000000 in
theorem ct_X11_thrown {M : Mm} {h0 : Nat} {K : Int32 → Mm → Prop} (h : wp_X11_thrown M h0 K) : CtI yX11_thrown cX11_thrown 1 (some .int) rm_X11_thrown [.ref h0] M K := by
  refine ct_any (QI K) (by decide) (by exact Nat.le_of_ble_eq_true rfl) (fun X hX hQ hnL hnm => ?_)
  rw [show lv_args 0 [.ref h0] = [(0, va_rf (some h0))] by rfl]
  have hX : Ok X cX11_thrown RX11 rm_X11_thrown := hX
  unfold wp_X11_thrown at h
  refine z_aload_n (r := (some h0)) hX dX11_thrown_0 rfl 0 rfl ?_
  obtain ⟨hk1, h⟩ := h
  refine gf_RX11_123 (r := (some h0)) hX dX11_thrown_1 rfl hk1 ?_
  exact z_iret hX hQ dX11_thrown_4 h
def rm_X11_feed : Room := { frames := 0, cells := 0, slots := 0, locals := 0 }
def bk_X11_feed_28 (h0 : Nat) (K : Int32 → Mm → Prop) (M : Mm) : Prop := (K (-1 : Int32) M)
set_option maxRecDepth 100000 in
set_option maxHeartbeats 4000000 in
theorem zb_X11_feed_28 {X : Cx} {h0 : Nat} {K : Int32 → Mm → Prop} (hX : Ok X cX11_feed RX11 rm_X11_feed) (hQ : Rq X rm_X11_feed (some .int) (QI K)) (hnL : X.2.2.2.2.2.2.2.2.2.2.2.2.2.2 = 5) {M : Mm} (h : bk_X11_feed_28 h0 K M) : Z X M 0 0 28 [] [] := by
  unfold bk_X11_feed_28 at h
  refine z_iconst (v := (-1 : Int32)) hX dX11_feed_28 (by decide) ?_
  exact z_iret hX hQ dX11_feed_29 h
def lp_X11_feed_35 (h0 : Nat) (K : Int32 → Mm → Prop) : Nat → Int64 → Int32 → Mm → Prop
  | 0, _, _, _ => False
  | n + 1, l1, l4, M => ((l4 < 0 → mK M h0 = 12 ∧ (K (mI M 706 h0) M)) ∧ (¬ l4 < 0 → mK M h0 = 12 ∧ ∃ a3, (mR M 705 h0) = some a3 ∧ isA M a3 0 ∧ vp_in (mI M 706 h0) (aN M a3) ∧ ((lp_X11_feed_35 h0 K n) l1 (l4 + (-1)) (sI (tI M a3 ((mI M 706 h0)).toNatClampNeg (((((((l1 >>> ((((8 : Int32) * l4)).toInt64 &&& 63))).toInt32)).toInt8.toInt32)).toInt8.toInt32)) 706 h0 ((mI (tI M a3 ((mI M 706 h0)).toNatClampNeg (((((((l1 >>> ((((8 : Int32) * l4)).toInt64 &&& 63))).toInt32)).toInt8.toInt32)).toInt8.toInt32)) 706 h0) + (1 : Int32))))))
set_option maxRecDepth 100000 in
set_option maxHeartbeats 4000000 in
theorem zl_X11_feed_35 {X : Cx} {h0 : Nat} {K : Int32 → Mm → Prop} (hX : Ok X cX11_feed RX11 rm_X11_feed) (hQ : Rq X rm_X11_feed (some .int) (QI K)) (hnL : X.2.2.2.2.2.2.2.2.2.2.2.2.2.2 = 5) : ∀ (n : Nat) (l1 : Int64) (l4 : Int32) (M : Mm), lp_X11_feed_35 h0 K n l1 l4 M → Z X M 0 0 35 [(0, va_rf (some h0)), (1, .long l1), (4, .int l4)] [] := by
  intro n
  induction n with
  | zero =>
    intro l1 l4 M h
    exact False.elim h
  | succ n hR35 =>
    intro l1 l4 M h
    refine z_iload hX dX11_feed_35 2 rfl ?_
    obtain ⟨h1, h2⟩ := h
    refine z_if_lt (tgt := 74) hX dX11_feed_37 (by decide) (fun hc => ?_) (fun hc => ?_)
    · have h := h1 hc
      refine z_aload_n (r := (some h0)) hX dX11_feed_74 rfl 0 rfl ?_
      obtain ⟨hk1, h⟩ := h
      refine gf_RX11_127 (r := (some h0)) hX dX11_feed_75 rfl hk1 ?_
      exact z_iret hX hQ dX11_feed_78 h
    · have h := h2 hc
      refine z_aload_n (r := (some h0)) hX dX11_feed_40 rfl 0 rfl ?_
      obtain ⟨hk2, h⟩ := h
      refine gf_RX11_11 (r := (some h0)) hX dX11_feed_41 rfl hk2 ?_
      refine z_aload_n (r := (some h0)) hX dX11_feed_44 rfl 0 rfl ?_
      refine gf_RX11_127 (r := (some h0)) hX dX11_feed_45 rfl hk2 ?_
      refine z_lload_n hX dX11_feed_48 rfl 1 rfl ?_
      refine z_bipush (v := (8 : Int32)) hX dX11_feed_49 (by decide) ?_
      refine z_iload hX dX11_feed_51 2 rfl ?_
      refine z_imul hX dX11_feed_53 ?_
      refine z_lshr hX dX11_feed_54 ?_
      refine z_l2i hX dX11_feed_55 ?_
      refine z_i2b hX dX11_feed_56 ?_
      obtain ⟨a3, ha4, h⟩ := h
      obtain ⟨hk5, h⟩ := h
      obtain ⟨hc6, h⟩ := h
      refine y_bast (r := (mR M 705 h0)) hX dX11_feed_57 ha4 hk5 hc6 ?_
      refine z_aload_n (r := (some h0)) hX dX11_feed_58 rfl 0 rfl ?_
      refine z_dup hX dX11_feed_59 (cat_rf _) ?_
      refine gf_RX11_127 (r := (some h0)) hX dX11_feed_60 rfl hk2 ?_
      refine z_iconst (v := (1 : Int32)) hX dX11_feed_63 (by decide) ?_
      refine z_iadd hX dX11_feed_64 ?_
      refine pf_RX11_127 (r := (some h0)) (v := ((mI (tI M a3 ((mI M 706 h0)).toNatClampNeg (((((((l1 >>> ((((8 : Int32) * l4)).toInt64 &&& 63))).toInt32)).toInt8.toInt32)).toInt8.toInt32)) 706 h0) + (1 : Int32))) hX dX11_feed_65 rfl hk2 ?_
      refine z_iinc (v := (l4 + (-1))) hX [(4, .int (l4 + (-1))), (0, va_rf (some h0)), (1, .long l1)] dX11_feed_68 2 rfl rfl (by rw [hnL]; decide) rfl ?_
      refine z_goto (tgt := 35) hX dX11_feed_71 (by decide) ?_
      refine z_loc [1, 2, 0] rfl ?_
      exact hR35 _ _ _ h
def wp_X11_feed (M : Mm) (h0 : Nat) (p1 : Int64) (p2 : Int32) (K : Int32 → Mm → Prop) : Prop := mK M h0 = 12 ∧ ((p2 < (1 : Int32) → (bk_X11_feed_28 h0 K (sI M 704 h0 (0 : Int32)))) ∧ (¬ p2 < (1 : Int32) → (((8 : Int32) < p2 → (bk_X11_feed_28 h0 K (sI M 704 h0 (0 : Int32)))) ∧ (¬ (8 : Int32) < p2 → ((((mI (sI M 704 h0 (0 : Int32)) 706 h0) + p2) ≤ (600 : Int32) → (∃ kk, lp_X11_feed_35 h0 K kk p1 (p2 - (1 : Int32)) (sI M 704 h0 (0 : Int32)))) ∧ (¬ ((mI (sI M 704 h0 (0 : Int32)) 706 h0) + p2) ≤ (600 : Int32) → (bk_X11_feed_28 h0 K (sI M 704 h0 (0 : Int32)))))))))
set_option maxRecDepth 100000 in
set_option maxHeartbeats 4000000 in
theorem ct_X11_feed {M : Mm} {h0 : Nat} {p1 : Int64} {p2 : Int32} {K : Int32 → Mm → Prop} (h : wp_X11_feed M h0 p1 p2 K) : CtI yX11_feed cX11_feed 5 (some .int) rm_X11_feed [.ref h0, .long p1, .int p2] M K := by
  refine ct_any (QI K) (by decide) (by exact Nat.le_of_ble_eq_true rfl) (fun X hX hQ hnL hnm => ?_)
  rw [show lv_args 0 [.ref h0, .long p1, .int p2] = [(0, va_rf (some h0)), (1, .long p1), (3, .int p2)] by rfl]
  have hX : Ok X cX11_feed RX11 rm_X11_feed := hX
  unfold wp_X11_feed at h
  refine z_aload_n (r := (some h0)) hX dX11_feed_0 rfl 0 rfl ?_
  refine z_iconst (v := (0 : Int32)) hX dX11_feed_1 (by decide) ?_
  obtain ⟨hk8, h⟩ := h
  refine pf_RX11_123 (r := (some h0)) (v := (0 : Int32)) hX dX11_feed_2 rfl hk8 ?_
  refine z_iload_n hX dX11_feed_5 rfl 2 rfl ?_
  refine z_iconst (v := (1 : Int32)) hX dX11_feed_6 (by decide) ?_
  obtain ⟨h1, h2⟩ := h
  refine z_icmp_lt (tgt := 28) hX dX11_feed_7 (by decide) (fun hc => ?_) (fun hc => ?_)
  · have h := h1 hc
    refine z_loc [] rfl ?_
    exact zb_X11_feed_28 hX hQ hnL h
  · have h := h2 hc
    refine z_iload_n hX dX11_feed_10 rfl 2 rfl ?_
    refine z_bipush (v := (8 : Int32)) hX dX11_feed_11 (by decide) ?_
    obtain ⟨h1, h2⟩ := h
    refine z_icmp_gt (tgt := 28) hX dX11_feed_13 (by decide) (fun hc => ?_) (fun hc => ?_)
    · have h := h1 hc
      refine z_loc [] rfl ?_
      exact zb_X11_feed_28 hX hQ hnL h
    · have h := h2 hc
      refine z_aload_n (r := (some h0)) hX dX11_feed_16 rfl 0 rfl ?_
      refine gf_RX11_127 (r := (some h0)) hX dX11_feed_17 rfl hk8 ?_
      refine z_iload_n hX dX11_feed_20 rfl 2 rfl ?_
      refine z_iadd hX dX11_feed_21 ?_
      refine z_sipush (v := (600 : Int32)) hX dX11_feed_22 (by decide) ?_
      obtain ⟨h1, h2⟩ := h
      refine z_icmp_le (tgt := 30) hX dX11_feed_25 (by decide) (fun hc => ?_) (fun hc => ?_)
      · have h := h1 hc
        refine z_iload_n hX dX11_feed_30 rfl 2 rfl ?_
        refine z_iconst (v := (1 : Int32)) hX dX11_feed_31 (by decide) ?_
        refine z_isub hX dX11_feed_32 ?_
        refine z_istore hX [(4, .int (p2 - (1 : Int32))), (0, va_rf (some h0)), (1, .long p1), (3, .int p2)] dX11_feed_33 (by rw [hnL]; decide) rfl ?_
        refine z_loc [1, 2, 0] rfl ?_
        obtain ⟨n, h⟩ := h
        exact zl_X11_feed_35 hX hQ hnL n _ _ _ h
      · have h := h2 hc
        refine z_loc [] rfl ?_
        exact zb_X11_feed_28 hX hQ hnL h
def rm_X11_byteAt : Room := { frames := 0, cells := 0, slots := 0, locals := 0 }
def bk_X11_byteAt_18 (h0 : Nat) (K : Int32 → Mm → Prop) (s0 : Int32) (M : Mm) : Prop := (K s0 M)
set_option maxRecDepth 100000 in
set_option maxHeartbeats 4000000 in
theorem zb_X11_byteAt_18 {X : Cx} {h0 : Nat} {K : Int32 → Mm → Prop} (hX : Ok X cX11_byteAt RX11 rm_X11_byteAt) (hQ : Rq X rm_X11_byteAt (some .int) (QI K)) (hnL : X.2.2.2.2.2.2.2.2.2.2.2.2.2.2 = 2) {s0 : Int32} {M : Mm} (h : bk_X11_byteAt_18 h0 K s0 M) : Z X M 0 0 18 [] [.int s0] := by
  unfold bk_X11_byteAt_18 at h
  exact z_iret hX hQ dX11_byteAt_18 h
def wp_X11_byteAt (M : Mm) (h0 : Nat) (p1 : Int32) (K : Int32 → Mm → Prop) : Prop := mK M h0 = 12 ∧ (((mI M 706 h0) ≤ p1 → (bk_X11_byteAt_18 h0 K (0 : Int32) M)) ∧ (¬ (mI M 706 h0) ≤ p1 → ∃ a2, (mR M 705 h0) = some a2 ∧ isA M a2 0 ∧ vp_in p1 (aN M a2) ∧ (bk_X11_byteAt_18 h0 K (aI M a2 (p1).toNatClampNeg) M)))
set_option maxRecDepth 100000 in
set_option maxHeartbeats 4000000 in
theorem ct_X11_byteAt {M : Mm} {h0 : Nat} {p1 : Int32} {K : Int32 → Mm → Prop} (h : wp_X11_byteAt M h0 p1 K) : CtI yX11_byteAt cX11_byteAt 2 (some .int) rm_X11_byteAt [.ref h0, .int p1] M K := by
  refine ct_any (QI K) (by decide) (by exact Nat.le_of_ble_eq_true rfl) (fun X hX hQ hnL hnm => ?_)
  rw [show lv_args 0 [.ref h0, .int p1] = [(0, va_rf (some h0)), (1, .int p1)] by rfl]
  have hX : Ok X cX11_byteAt RX11 rm_X11_byteAt := hX
  unfold wp_X11_byteAt at h
  refine z_iload_n hX dX11_byteAt_0 rfl 1 rfl ?_
  refine z_aload_n (r := (some h0)) hX dX11_byteAt_1 rfl 0 rfl ?_
  obtain ⟨hk1, h⟩ := h
  refine gf_RX11_127 (r := (some h0)) hX dX11_byteAt_2 rfl hk1 ?_
  obtain ⟨h1, h2⟩ := h
  refine z_icmp_ge (tgt := 17) hX dX11_byteAt_5 (by decide) (fun hc => ?_) (fun hc => ?_)
  · have h := h1 hc
    refine z_iconst (v := (0 : Int32)) hX dX11_byteAt_17 (by decide) ?_
    refine z_loc [] rfl ?_
    exact zb_X11_byteAt_18 hX hQ hnL h
  · have h := h2 hc
    refine z_aload_n (r := (some h0)) hX dX11_byteAt_8 rfl 0 rfl ?_
    refine gf_RX11_11 (r := (some h0)) hX dX11_byteAt_9 rfl hk1 ?_
    refine z_iload_n hX dX11_byteAt_12 rfl 1 rfl ?_
    obtain ⟨a2, ha3, h⟩ := h
    obtain ⟨hk4, h⟩ := h
    obtain ⟨hc5, h⟩ := h
    refine y_bald (r := (mR M 705 h0)) hX dX11_byteAt_13 ha3 hk4 hc5 ?_
    refine z_goto (tgt := 18) hX dX11_byteAt_14 (by decide) ?_
    refine z_loc [] rfl ?_
    exact zb_X11_byteAt_18 hX hQ hnL h
def rm_X11_isLetter : Room := { frames := 0, cells := 0, slots := 0, locals := 0 }
def bk_X11_isLetter_17 (K : Int32 → Mm → Prop) (s0 : Int32) (M : Mm) : Prop := (bz s0 ∧ K s0 M)
set_option maxRecDepth 100000 in
set_option maxHeartbeats 4000000 in
theorem zb_X11_isLetter_17 {X : Cx} {K : Int32 → Mm → Prop} (hX : Ok X cX11_isLetter RX11 rm_X11_isLetter) (hQ : Rq X rm_X11_isLetter (some .boolean) (QI K)) (hnL : X.2.2.2.2.2.2.2.2.2.2.2.2.2.2 = 1) {s0 : Int32} {M : Mm} (h : bk_X11_isLetter_17 K s0 M) : Z X M 0 0 17 [] [.int s0] := by
  unfold bk_X11_isLetter_17 at h
  exact y_zret hX hQ dX11_isLetter_17 h.1 h.2
def bk_X11_isLetter_16 (K : Int32 → Mm → Prop) (M : Mm) : Prop := (bk_X11_isLetter_17 K (0 : Int32) M)
set_option maxRecDepth 100000 in
set_option maxHeartbeats 4000000 in
theorem zb_X11_isLetter_16 {X : Cx} {K : Int32 → Mm → Prop} (hX : Ok X cX11_isLetter RX11 rm_X11_isLetter) (hQ : Rq X rm_X11_isLetter (some .boolean) (QI K)) (hnL : X.2.2.2.2.2.2.2.2.2.2.2.2.2.2 = 1) {M : Mm} (h : bk_X11_isLetter_16 K M) : Z X M 0 0 16 [] [] := by
  unfold bk_X11_isLetter_16 at h
  refine z_iconst (v := (0 : Int32)) hX dX11_isLetter_16 (by decide) ?_
  exact zb_X11_isLetter_17 hX hQ hnL h
def wp_X11_isLetter (M : Mm) (p1 : Int32) (K : Int32 → Mm → Prop) : Prop := ((p1 < (97 : Int32) → (bk_X11_isLetter_16 K M)) ∧ (¬ p1 < (97 : Int32) → (((122 : Int32) < p1 → (bk_X11_isLetter_16 K M)) ∧ (¬ (122 : Int32) < p1 → (bk_X11_isLetter_17 K (1 : Int32) M)))))
set_option maxRecDepth 100000 in
set_option maxHeartbeats 4000000 in
theorem ct_X11_isLetter {M : Mm} {p1 : Int32} {K : Int32 → Mm → Prop} (h : wp_X11_isLetter M p1 K) : CtI yX11_isLetter cX11_isLetter 1 (some .boolean) rm_X11_isLetter [.int p1] M K := by
  refine ct_any (QI K) (by decide) (by exact Nat.le_of_ble_eq_true rfl) (fun X hX hQ hnL hnm => ?_)
  rw [show lv_args 0 [.int p1] = [(0, .int p1)] by rfl]
  have hX : Ok X cX11_isLetter RX11 rm_X11_isLetter := hX
  unfold wp_X11_isLetter at h
  refine z_iload_n hX dX11_isLetter_0 rfl 0 rfl ?_
  refine z_bipush (v := (97 : Int32)) hX dX11_isLetter_1 (by decide) ?_
  obtain ⟨h1, h2⟩ := h
  refine z_icmp_lt (tgt := 16) hX dX11_isLetter_3 (by decide) (fun hc => ?_) (fun hc => ?_)
  · have h := h1 hc
    refine z_loc [] rfl ?_
    exact zb_X11_isLetter_16 hX hQ hnL h
  · have h := h2 hc
    refine z_iload_n hX dX11_isLetter_6 rfl 0 rfl ?_
    refine z_bipush (v := (122 : Int32)) hX dX11_isLetter_7 (by decide) ?_
    obtain ⟨h1, h2⟩ := h
    refine z_icmp_gt (tgt := 16) hX dX11_isLetter_9 (by decide) (fun hc => ?_) (fun hc => ?_)
    · have h := h1 hc
      refine z_loc [] rfl ?_
      exact zb_X11_isLetter_16 hX hQ hnL h
    · have h := h2 hc
      refine z_iconst (v := (1 : Int32)) hX dX11_isLetter_12 (by decide) ?_
      refine z_goto (tgt := 17) hX dX11_isLetter_13 (by decide) ?_
      refine z_loc [] rfl ?_
      exact zb_X11_isLetter_17 hX hQ hnL h
def rm_X11_isDigit : Room := { frames := 0, cells := 0, slots := 0, locals := 0 }
def bk_X11_isDigit_17 (K : Int32 → Mm → Prop) (s0 : Int32) (M : Mm) : Prop := (bz s0 ∧ K s0 M)
set_option maxRecDepth 100000 in
set_option maxHeartbeats 4000000 in
theorem zb_X11_isDigit_17 {X : Cx} {K : Int32 → Mm → Prop} (hX : Ok X cX11_isDigit RX11 rm_X11_isDigit) (hQ : Rq X rm_X11_isDigit (some .boolean) (QI K)) (hnL : X.2.2.2.2.2.2.2.2.2.2.2.2.2.2 = 1) {s0 : Int32} {M : Mm} (h : bk_X11_isDigit_17 K s0 M) : Z X M 0 0 17 [] [.int s0] := by
  unfold bk_X11_isDigit_17 at h
  exact y_zret hX hQ dX11_isDigit_17 h.1 h.2
def bk_X11_isDigit_16 (K : Int32 → Mm → Prop) (M : Mm) : Prop := (bk_X11_isDigit_17 K (0 : Int32) M)
set_option maxRecDepth 100000 in
set_option maxHeartbeats 4000000 in
theorem zb_X11_isDigit_16 {X : Cx} {K : Int32 → Mm → Prop} (hX : Ok X cX11_isDigit RX11 rm_X11_isDigit) (hQ : Rq X rm_X11_isDigit (some .boolean) (QI K)) (hnL : X.2.2.2.2.2.2.2.2.2.2.2.2.2.2 = 1) {M : Mm} (h : bk_X11_isDigit_16 K M) : Z X M 0 0 16 [] [] := by
  unfold bk_X11_isDigit_16 at h
  refine z_iconst (v := (0 : Int32)) hX dX11_isDigit_16 (by decide) ?_
  exact zb_X11_isDigit_17 hX hQ hnL h
def wp_X11_isDigit (M : Mm) (p1 : Int32) (K : Int32 → Mm → Prop) : Prop := ((p1 < (48 : Int32) → (bk_X11_isDigit_16 K M)) ∧ (¬ p1 < (48 : Int32) → (((57 : Int32) < p1 → (bk_X11_isDigit_16 K M)) ∧ (¬ (57 : Int32) < p1 → (bk_X11_isDigit_17 K (1 : Int32) M)))))
set_option maxRecDepth 100000 in
set_option maxHeartbeats 4000000 in
theorem ct_X11_isDigit {M : Mm} {p1 : Int32} {K : Int32 → Mm → Prop} (h : wp_X11_isDigit M p1 K) : CtI yX11_isDigit cX11_isDigit 1 (some .boolean) rm_X11_isDigit [.int p1] M K := by
  refine ct_any (QI K) (by decide) (by exact Nat.le_of_ble_eq_true rfl) (fun X hX hQ hnL hnm => ?_)
  rw [show lv_args 0 [.int p1] = [(0, .int p1)] by rfl]
  have hX : Ok X cX11_isDigit RX11 rm_X11_isDigit := hX
  unfold wp_X11_isDigit at h
  refine z_iload_n hX dX11_isDigit_0 rfl 0 rfl ?_
  refine z_bipush (v := (48 : Int32)) hX dX11_isDigit_1 (by decide) ?_
  obtain ⟨h1, h2⟩ := h
  refine z_icmp_lt (tgt := 16) hX dX11_isDigit_3 (by decide) (fun hc => ?_) (fun hc => ?_)
  · have h := h1 hc
    refine z_loc [] rfl ?_
    exact zb_X11_isDigit_16 hX hQ hnL h
  · have h := h2 hc
    refine z_iload_n hX dX11_isDigit_6 rfl 0 rfl ?_
    refine z_bipush (v := (57 : Int32)) hX dX11_isDigit_7 (by decide) ?_
    obtain ⟨h1, h2⟩ := h
    refine z_icmp_gt (tgt := 16) hX dX11_isDigit_9 (by decide) (fun hc => ?_) (fun hc => ?_)
    · have h := h1 hc
      refine z_loc [] rfl ?_
      exact zb_X11_isDigit_16 hX hQ hnL h
    · have h := h2 hc
      refine z_iconst (v := (1 : Int32)) hX dX11_isDigit_12 (by decide) ?_
      refine z_goto (tgt := 17) hX dX11_isDigit_13 (by decide) ?_
      refine z_loc [] rfl ?_
      exact zb_X11_isDigit_17 hX hQ hnL h
def rm_X11_fault : Room := { frames := 0, cells := 0, slots := 0, locals := 0 }
def bk_X11_fault_20 (h0 : Nat) (K : Mm → Prop) (M : Mm) : Prop := (K M)
set_option maxRecDepth 100000 in
set_option maxHeartbeats 4000000 in
theorem zb_X11_fault_20 {X : Cx} {h0 : Nat} {K : Mm → Prop} (hX : Ok X cX11_fault RX11 rm_X11_fault) (hQ : Rq X rm_X11_fault none (QV K)) (hnL : X.2.2.2.2.2.2.2.2.2.2.2.2.2.2 = 2) {M : Mm} (h : bk_X11_fault_20 h0 K M) : Z X M 0 0 20 [] [] := by
  unfold bk_X11_fault_20 at h
  exact z_vret hX hQ dX11_fault_20 h
def wp_X11_fault (M : Mm) (h0 : Nat) (p1 : Int32) (K : Mm → Prop) : Prop := mK M h0 = 12 ∧ ((¬ (mI M 712 h0) = 0 → (bk_X11_fault_20 h0 K M)) ∧ ((mI M 712 h0) = 0 → (bk_X11_fault_20 h0 K (sI (sI M 712 h0 p1) 713 h0 (mI (sI M 712 h0 p1) 709 h0)))))
set_option maxRecDepth 100000 in
set_option maxHeartbeats 4000000 in
theorem ct_X11_fault {M : Mm} {h0 : Nat} {p1 : Int32} {K : Mm → Prop} (h : wp_X11_fault M h0 p1 K) : CtV yX11_fault cX11_fault 2 none rm_X11_fault [.ref h0, .int p1] M K := by
  refine ct_any (QV K) (by decide) (by exact Nat.le_of_ble_eq_true rfl) (fun X hX hQ hnL hnm => ?_)
  rw [show lv_args 0 [.ref h0, .int p1] = [(0, va_rf (some h0)), (1, .int p1)] by rfl]
  have hX : Ok X cX11_fault RX11 rm_X11_fault := hX
  unfold wp_X11_fault at h
  refine z_aload_n (r := (some h0)) hX dX11_fault_0 rfl 0 rfl ?_
  obtain ⟨hk1, h⟩ := h
  refine gf_RX11_181 (r := (some h0)) hX dX11_fault_1 rfl hk1 ?_
  obtain ⟨h1, h2⟩ := h
  refine z_if_ne (tgt := 20) hX dX11_fault_4 (by decide) (fun hc => ?_) (fun hc => ?_)
  · have h := h1 hc
    refine z_loc [] rfl ?_
    exact zb_X11_fault_20 hX hQ hnL h
  · have h := h2 hc
    refine z_aload_n (r := (some h0)) hX dX11_fault_7 rfl 0 rfl ?_
    refine z_iload_n hX dX11_fault_8 rfl 1 rfl ?_
    refine pf_RX11_181 (r := (some h0)) (v := p1) hX dX11_fault_9 rfl hk1 ?_
    refine z_aload_n (r := (some h0)) hX dX11_fault_12 rfl 0 rfl ?_
    refine z_aload_n (r := (some h0)) hX dX11_fault_13 rfl 0 rfl ?_
    refine gf_RX11_137 (r := (some h0)) hX dX11_fault_14 rfl hk1 ?_
    refine pf_RX11_184 (r := (some h0)) (v := (mI (sI M 712 h0 p1) 709 h0)) hX dX11_fault_17 rfl hk1 ?_
    refine z_loc [] rfl ?_
    exact zb_X11_fault_20 hX hQ hnL h
def rm_X11_misplaced : Room := { frames := 1, cells := 0, slots := 0, locals := 21 }
def bk_X11_misplaced_14 (h0 : Nat) (K : Mm → Prop) (s0 : Int32) (s1 : Option Nat) (M : Mm) : Prop := ∃ a3, s1 = some a3 ∧ mK M a3 = 12 ∧ (wp_X11_fault M a3 s0 (fun M2 => (K M2)))
set_option maxRecDepth 100000 in
set_option maxHeartbeats 4000000 in
theorem zb_X11_misplaced_14 {X : Cx} {h0 : Nat} {K : Mm → Prop} (hX : Ok X cX11_misplaced RX11 rm_X11_misplaced) (hQ : Rq X rm_X11_misplaced none (QV K)) (hnL : X.2.2.2.2.2.2.2.2.2.2.2.2.2.2 = 1) {s0 : Int32} {s1 : Option Nat} {M : Mm} (h : bk_X11_misplaced_14 h0 K s0 s1 M) : Z X M 0 0 14 [] [.int s0, va_rf s1] := by
  unfold bk_X11_misplaced_14 at h
  obtain ⟨a3, ha4, h⟩ := h
  obtain ⟨hk5, h⟩ := h
  refine z_callVV (As := [.int s0]) (rest := []) (ci := 11) hX (ct_X11_fault h) mw_RX11_187 rfl (by decide) rfl (by rw [ha4]; rfl) (by unfold RoomC; decide) (by decide) dX11_misplaced_14 hk5 (fun M2 h => ?_)
  exact z_vret hX hQ dX11_misplaced_17 h
def wp_X11_misplaced (M : Mm) (h0 : Nat) (K : Mm → Prop) : Prop := mK M h0 = 12 ∧ ((¬ (mI M 708 h0) = (4 : Int32) → (bk_X11_misplaced_14 h0 K (2 : Int32) (some h0) M)) ∧ ((mI M 708 h0) = (4 : Int32) → (bk_X11_misplaced_14 h0 K (1 : Int32) (some h0) M)))
set_option maxRecDepth 100000 in
set_option maxHeartbeats 4000000 in
theorem ct_X11_misplaced {M : Mm} {h0 : Nat} {K : Mm → Prop} (h : wp_X11_misplaced M h0 K) : CtV yX11_misplaced cX11_misplaced 1 none rm_X11_misplaced [.ref h0] M K := by
  refine ct_any (QV K) (by decide) (by exact Nat.le_of_ble_eq_true rfl) (fun X hX hQ hnL hnm => ?_)
  rw [show lv_args 0 [.ref h0] = [(0, va_rf (some h0))] by rfl]
  have hX : Ok X cX11_misplaced RX11 rm_X11_misplaced := hX
  unfold wp_X11_misplaced at h
  refine z_aload_n (r := (some h0)) hX dX11_misplaced_0 rfl 0 rfl ?_
  refine z_aload_n (r := (some h0)) hX dX11_misplaced_1 rfl 0 rfl ?_
  obtain ⟨hk7, h⟩ := h
  refine gf_RX11_147 (r := (some h0)) hX dX11_misplaced_2 rfl hk7 ?_
  refine z_iconst (v := (4 : Int32)) hX dX11_misplaced_5 (by decide) ?_
  obtain ⟨h1, h2⟩ := h
  refine z_icmp_ne (tgt := 13) hX dX11_misplaced_6 (by decide) (fun hc => ?_) (fun hc => ?_)
  · have h := h1 hc
    refine z_iconst (v := (2 : Int32)) hX dX11_misplaced_13 (by decide) ?_
    refine z_loc [] rfl ?_
    exact zb_X11_misplaced_14 hX hQ hnL h
  · have h := h2 hc
    refine z_iconst (v := (1 : Int32)) hX dX11_misplaced_9 (by decide) ?_
    refine z_goto (tgt := 14) hX dX11_misplaced_10 (by decide) ?_
    refine z_loc [] rfl ?_
    exact zb_X11_misplaced_14 hX hQ hnL h
def rm_X11_good : Room := { frames := 0, cells := 0, slots := 0, locals := 0 }
def bk_X11_good_12 (h0 : Nat) (K : Int32 → Mm → Prop) (s0 : Int32) (M : Mm) : Prop := (bz s0 ∧ K s0 M)
set_option maxRecDepth 100000 in
set_option maxHeartbeats 4000000 in
theorem zb_X11_good_12 {X : Cx} {h0 : Nat} {K : Int32 → Mm → Prop} (hX : Ok X cX11_good RX11 rm_X11_good) (hQ : Rq X rm_X11_good (some .boolean) (QI K)) (hnL : X.2.2.2.2.2.2.2.2.2.2.2.2.2.2 = 1) {s0 : Int32} {M : Mm} (h : bk_X11_good_12 h0 K s0 M) : Z X M 0 0 12 [] [.int s0] := by
  unfold bk_X11_good_12 at h
  exact y_zret hX hQ dX11_good_12 h.1 h.2
def wp_X11_good (M : Mm) (h0 : Nat) (K : Int32 → Mm → Prop) : Prop := mK M h0 = 12 ∧ ((¬ (mI M 712 h0) = 0 → (bk_X11_good_12 h0 K (0 : Int32) M)) ∧ ((mI M 712 h0) = 0 → (bk_X11_good_12 h0 K (1 : Int32) M)))
set_option maxRecDepth 100000 in
set_option maxHeartbeats 4000000 in
theorem ct_X11_good {M : Mm} {h0 : Nat} {K : Int32 → Mm → Prop} (h : wp_X11_good M h0 K) : CtI yX11_good cX11_good 1 (some .boolean) rm_X11_good [.ref h0] M K := by
  refine ct_any (QI K) (by decide) (by exact Nat.le_of_ble_eq_true rfl) (fun X hX hQ hnL hnm => ?_)
  rw [show lv_args 0 [.ref h0] = [(0, va_rf (some h0))] by rfl]
  have hX : Ok X cX11_good RX11 rm_X11_good := hX
  unfold wp_X11_good at h
  refine z_aload_n (r := (some h0)) hX dX11_good_0 rfl 0 rfl ?_
  obtain ⟨hk1, h⟩ := h
  refine gf_RX11_181 (r := (some h0)) hX dX11_good_1 rfl hk1 ?_
  obtain ⟨h1, h2⟩ := h
  refine z_if_ne (tgt := 11) hX dX11_good_4 (by decide) (fun hc => ?_) (fun hc => ?_)
  · have h := h1 hc
    refine z_iconst (v := (0 : Int32)) hX dX11_good_11 (by decide) ?_
    refine z_loc [] rfl ?_
    exact zb_X11_good_12 hX hQ hnL h
  · have h := h2 hc
    refine z_iconst (v := (1 : Int32)) hX dX11_good_7 (by decide) ?_
    refine z_goto (tgt := 12) hX dX11_good_8 (by decide) ?_
    refine z_loc [] rfl ?_
    exact zb_X11_good_12 hX hQ hnL h
def rm_X11_isName : Room := { frames := 0, cells := 0, slots := 0, locals := 0 }
def bk_X11_isName_20 (h0 : Nat) (K : Int32 → Mm → Prop) (s0 : Int32) (M : Mm) : Prop := (bz s0 ∧ K s0 M)
set_option maxRecDepth 100000 in
set_option maxHeartbeats 4000000 in
theorem zb_X11_isName_20 {X : Cx} {h0 : Nat} {K : Int32 → Mm → Prop} (hX : Ok X cX11_isName RX11 rm_X11_isName) (hQ : Rq X rm_X11_isName (some .boolean) (QI K)) (hnL : X.2.2.2.2.2.2.2.2.2.2.2.2.2.2 = 1) {s0 : Int32} {M : Mm} (h : bk_X11_isName_20 h0 K s0 M) : Z X M 0 0 20 [] [.int s0] := by
  unfold bk_X11_isName_20 at h
  exact y_zret hX hQ dX11_isName_20 h.1 h.2
def bk_X11_isName_19 (h0 : Nat) (K : Int32 → Mm → Prop) (M : Mm) : Prop := (bk_X11_isName_20 h0 K (0 : Int32) M)
set_option maxRecDepth 100000 in
set_option maxHeartbeats 4000000 in
theorem zb_X11_isName_19 {X : Cx} {h0 : Nat} {K : Int32 → Mm → Prop} (hX : Ok X cX11_isName RX11 rm_X11_isName) (hQ : Rq X rm_X11_isName (some .boolean) (QI K)) (hnL : X.2.2.2.2.2.2.2.2.2.2.2.2.2.2 = 1) {M : Mm} (h : bk_X11_isName_19 h0 K M) : Z X M 0 0 19 [] [] := by
  unfold bk_X11_isName_19 at h
  refine z_iconst (v := (0 : Int32)) hX dX11_isName_19 (by decide) ?_
  exact zb_X11_isName_20 hX hQ hnL h
def wp_X11_isName (M : Mm) (h0 : Nat) (K : Int32 → Mm → Prop) : Prop := mK M h0 = 12 ∧ ((¬ (mI M 708 h0) = (1 : Int32) → (bk_X11_isName_19 h0 K M)) ∧ ((mI M 708 h0) = (1 : Int32) → ((0 ≤ (mI M 711 h0) → (bk_X11_isName_19 h0 K M)) ∧ (¬ 0 ≤ (mI M 711 h0) → (bk_X11_isName_20 h0 K (1 : Int32) M)))))
set_option maxRecDepth 100000 in
set_option maxHeartbeats 4000000 in
theorem ct_X11_isName {M : Mm} {h0 : Nat} {K : Int32 → Mm → Prop} (h : wp_X11_isName M h0 K) : CtI yX11_isName cX11_isName 1 (some .boolean) rm_X11_isName [.ref h0] M K := by
  refine ct_any (QI K) (by decide) (by exact Nat.le_of_ble_eq_true rfl) (fun X hX hQ hnL hnm => ?_)
  rw [show lv_args 0 [.ref h0] = [(0, va_rf (some h0))] by rfl]
  have hX : Ok X cX11_isName RX11 rm_X11_isName := hX
  unfold wp_X11_isName at h
  refine z_aload_n (r := (some h0)) hX dX11_isName_0 rfl 0 rfl ?_
  obtain ⟨hk1, h⟩ := h
  refine gf_RX11_147 (r := (some h0)) hX dX11_isName_1 rfl hk1 ?_
  refine z_iconst (v := (1 : Int32)) hX dX11_isName_4 (by decide) ?_
  obtain ⟨h1, h2⟩ := h
  refine z_icmp_ne (tgt := 19) hX dX11_isName_5 (by decide) (fun hc => ?_) (fun hc => ?_)
  · have h := h1 hc
    refine z_loc [] rfl ?_
    exact zb_X11_isName_19 hX hQ hnL h
  · have h := h2 hc
    refine z_aload_n (r := (some h0)) hX dX11_isName_8 rfl 0 rfl ?_
    refine gf_RX11_144 (r := (some h0)) hX dX11_isName_9 rfl hk1 ?_
    obtain ⟨h1, h2⟩ := h
    refine z_if_ge (tgt := 19) hX dX11_isName_12 (by decide) (fun hc => ?_) (fun hc => ?_)
    · have h := h1 hc
      refine z_loc [] rfl ?_
      exact zb_X11_isName_19 hX hQ hnL h
    · have h := h2 hc
      refine z_iconst (v := (1 : Int32)) hX dX11_isName_15 (by decide) ?_
      refine z_goto (tgt := 20) hX dX11_isName_16 (by decide) ?_
      refine z_loc [] rfl ?_
      exact zb_X11_isName_20 hX hQ hnL h
def rm_X11_isKeyword : Room := { frames := 0, cells := 0, slots := 0, locals := 0 }
def bk_X11_isKeyword_21 (h0 : Nat) (K : Int32 → Mm → Prop) (s0 : Int32) (M : Mm) : Prop := (bz s0 ∧ K s0 M)
set_option maxRecDepth 100000 in
set_option maxHeartbeats 4000000 in
theorem zb_X11_isKeyword_21 {X : Cx} {h0 : Nat} {K : Int32 → Mm → Prop} (hX : Ok X cX11_isKeyword RX11 rm_X11_isKeyword) (hQ : Rq X rm_X11_isKeyword (some .boolean) (QI K)) (hnL : X.2.2.2.2.2.2.2.2.2.2.2.2.2.2 = 2) {s0 : Int32} {M : Mm} (h : bk_X11_isKeyword_21 h0 K s0 M) : Z X M 0 0 21 [] [.int s0] := by
  unfold bk_X11_isKeyword_21 at h
  exact y_zret hX hQ dX11_isKeyword_21 h.1 h.2
def bk_X11_isKeyword_20 (h0 : Nat) (K : Int32 → Mm → Prop) (M : Mm) : Prop := (bk_X11_isKeyword_21 h0 K (0 : Int32) M)
set_option maxRecDepth 100000 in
set_option maxHeartbeats 4000000 in
theorem zb_X11_isKeyword_20 {X : Cx} {h0 : Nat} {K : Int32 → Mm → Prop} (hX : Ok X cX11_isKeyword RX11 rm_X11_isKeyword) (hQ : Rq X rm_X11_isKeyword (some .boolean) (QI K)) (hnL : X.2.2.2.2.2.2.2.2.2.2.2.2.2.2 = 2) {M : Mm} (h : bk_X11_isKeyword_20 h0 K M) : Z X M 0 0 20 [] [] := by
  unfold bk_X11_isKeyword_20 at h
  refine z_iconst (v := (0 : Int32)) hX dX11_isKeyword_20 (by decide) ?_
  exact zb_X11_isKeyword_21 hX hQ hnL h
def wp_X11_isKeyword (M : Mm) (h0 : Nat) (p1 : Int32) (K : Int32 → Mm → Prop) : Prop := mK M h0 = 12 ∧ ((¬ (mI M 708 h0) = (1 : Int32) → (bk_X11_isKeyword_20 h0 K M)) ∧ ((mI M 708 h0) = (1 : Int32) → ((¬ (mI M 711 h0) = p1 → (bk_X11_isKeyword_20 h0 K M)) ∧ ((mI M 711 h0) = p1 → (bk_X11_isKeyword_21 h0 K (1 : Int32) M)))))
set_option maxRecDepth 100000 in
set_option maxHeartbeats 4000000 in
theorem ct_X11_isKeyword {M : Mm} {h0 : Nat} {p1 : Int32} {K : Int32 → Mm → Prop} (h : wp_X11_isKeyword M h0 p1 K) : CtI yX11_isKeyword cX11_isKeyword 2 (some .boolean) rm_X11_isKeyword [.ref h0, .int p1] M K := by
  refine ct_any (QI K) (by decide) (by exact Nat.le_of_ble_eq_true rfl) (fun X hX hQ hnL hnm => ?_)
  rw [show lv_args 0 [.ref h0, .int p1] = [(0, va_rf (some h0)), (1, .int p1)] by rfl]
  have hX : Ok X cX11_isKeyword RX11 rm_X11_isKeyword := hX
  unfold wp_X11_isKeyword at h
  refine z_aload_n (r := (some h0)) hX dX11_isKeyword_0 rfl 0 rfl ?_
  obtain ⟨hk1, h⟩ := h
  refine gf_RX11_147 (r := (some h0)) hX dX11_isKeyword_1 rfl hk1 ?_
  refine z_iconst (v := (1 : Int32)) hX dX11_isKeyword_4 (by decide) ?_
  obtain ⟨h1, h2⟩ := h
  refine z_icmp_ne (tgt := 20) hX dX11_isKeyword_5 (by decide) (fun hc => ?_) (fun hc => ?_)
  · have h := h1 hc
    refine z_loc [] rfl ?_
    exact zb_X11_isKeyword_20 hX hQ hnL h
  · have h := h2 hc
    refine z_aload_n (r := (some h0)) hX dX11_isKeyword_8 rfl 0 rfl ?_
    refine gf_RX11_144 (r := (some h0)) hX dX11_isKeyword_9 rfl hk1 ?_
    refine z_iload_n hX dX11_isKeyword_12 rfl 1 rfl ?_
    obtain ⟨h1, h2⟩ := h
    refine z_icmp_ne (tgt := 20) hX dX11_isKeyword_13 (by decide) (fun hc => ?_) (fun hc => ?_)
    · have h := h1 hc
      refine z_loc [] rfl ?_
      exact zb_X11_isKeyword_20 hX hQ hnL h
    · have h := h2 hc
      refine z_iconst (v := (1 : Int32)) hX dX11_isKeyword_16 (by decide) ?_
      refine z_goto (tgt := 21) hX dX11_isKeyword_17 (by decide) ?_
      refine z_loc [] rfl ?_
      exact zb_X11_isKeyword_21 hX hQ hnL h
def rm_X11_findName : Room := { frames := 0, cells := 0, slots := 0, locals := 0 }
def bk_X11_findName_44 (h0 : Nat) (K : Int32 → Mm → Prop) (s0 : Int32) (M : Mm) : Prop := (K s0 M)
set_option maxRecDepth 100000 in
set_option maxHeartbeats 4000000 in
theorem zb_X11_findName_44 {X : Cx} {h0 : Nat} {K : Int32 → Mm → Prop} (hX : Ok X cX11_findName RX11 rm_X11_findName) (hQ : Rq X rm_X11_findName (some .int) (QI K)) (hnL : X.2.2.2.2.2.2.2.2.2.2.2.2.2.2 = 4) {s0 : Int32} {M : Mm} (h : bk_X11_findName_44 h0 K s0 M) : Z X M 0 0 44 [] [.int s0] := by
  unfold bk_X11_findName_44 at h
  exact z_iret hX hQ dX11_findName_44 h
def bk_X11_findName_29 (h0 : Nat) (K : Int32 → Mm → Prop) (l3 : Int32) (M : Mm) : Prop := mK M h0 = 12 ∧ ∃ a2, (mR M 729 h0) = some a2 ∧ isA M a2 1 ∧ vp_in (0 : Int32) (aN M a2) ∧ (((aI M a2 ((0 : Int32)).toNatClampNeg) ≤ l3 → (bk_X11_findName_44 h0 K (-1 : Int32) M)) ∧ (¬ (aI M a2 ((0 : Int32)).toNatClampNeg) ≤ l3 → (bk_X11_findName_44 h0 K l3 M)))
set_option maxRecDepth 100000 in
set_option maxHeartbeats 4000000 in
theorem zb_X11_findName_29 {X : Cx} {h0 : Nat} {K : Int32 → Mm → Prop} (hX : Ok X cX11_findName RX11 rm_X11_findName) (hQ : Rq X rm_X11_findName (some .int) (QI K)) (hnL : X.2.2.2.2.2.2.2.2.2.2.2.2.2.2 = 4) {l3 : Int32} {M : Mm} (h : bk_X11_findName_29 h0 K l3 M) : Z X M 0 0 29 [(0, va_rf (some h0)), (3, .int l3)] [] := by
  unfold bk_X11_findName_29 at h
  refine z_iload_n hX dX11_findName_29 rfl 1 rfl ?_
  refine z_aload_n (r := (some h0)) hX dX11_findName_30 rfl 0 rfl ?_
  obtain ⟨hk1, h⟩ := h
  refine gf_RX11_60 (r := (some h0)) hX dX11_findName_31 rfl hk1 ?_
  refine z_iconst (v := (0 : Int32)) hX dX11_findName_34 (by decide) ?_
  obtain ⟨a2, ha3, h⟩ := h
  obtain ⟨hk4, h⟩ := h
  obtain ⟨hc5, h⟩ := h
  refine y_iald (r := (mR M 729 h0)) hX dX11_findName_35 ha3 hk4 hc5 ?_
  obtain ⟨h1, h2⟩ := h
  refine z_icmp_ge (tgt := 43) hX dX11_findName_36 (by decide) (fun hc => ?_) (fun hc => ?_)
  · have h := h1 hc
    refine z_iconst (v := (-1 : Int32)) hX dX11_findName_43 (by decide) ?_
    refine z_loc [] rfl ?_
    exact zb_X11_findName_44 hX hQ hnL h
  · have h := h2 hc
    refine z_iload_n hX dX11_findName_39 rfl 1 rfl ?_
    refine z_goto (tgt := 44) hX dX11_findName_40 (by decide) ?_
    refine z_loc [] rfl ?_
    exact zb_X11_findName_44 hX hQ hnL h
def lp_X11_findName_2 (h0 : Nat) (K : Int32 → Mm → Prop) : Nat → Int64 → Int32 → Mm → Prop
  | 0, _, _, _ => False
  | n + 1, l1, l3, M => mK M h0 = 12 ∧ ∃ a7, (mR M 729 h0) = some a7 ∧ isA M a7 1 ∧ vp_in (0 : Int32) (aN M a7) ∧ (((aI M a7 ((0 : Int32)).toNatClampNeg) ≤ l3 → (bk_X11_findName_29 h0 K l3 M)) ∧ (¬ (aI M a7 ((0 : Int32)).toNatClampNeg) ≤ l3 → ∃ a11, (mR M 716 h0) = some a11 ∧ isA M a11 2 ∧ vp_in l3 (aN M a11) ∧ (((aJ M a11 (l3).toNatClampNeg) = l1 → (bk_X11_findName_29 h0 K l3 M)) ∧ (¬ (aJ M a11 (l3).toNatClampNeg) = l1 → ((lp_X11_findName_2 h0 K n) l1 (l3 + 1) M)))))
set_option maxRecDepth 100000 in
set_option maxHeartbeats 4000000 in
theorem zl_X11_findName_2 {X : Cx} {h0 : Nat} {K : Int32 → Mm → Prop} (hX : Ok X cX11_findName RX11 rm_X11_findName) (hQ : Rq X rm_X11_findName (some .int) (QI K)) (hnL : X.2.2.2.2.2.2.2.2.2.2.2.2.2.2 = 4) : ∀ (n : Nat) (l1 : Int64) (l3 : Int32) (M : Mm), lp_X11_findName_2 h0 K n l1 l3 M → Z X M 0 0 2 [(0, va_rf (some h0)), (1, .long l1), (3, .int l3)] [] := by
  intro n
  induction n with
  | zero =>
    intro l1 l3 M h
    exact False.elim h
  | succ n hR2 =>
    intro l1 l3 M h
    refine z_iload_n hX dX11_findName_2 rfl 2 rfl ?_
    refine z_aload_n (r := (some h0)) hX dX11_findName_3 rfl 0 rfl ?_
    obtain ⟨hk6, h⟩ := h
    refine gf_RX11_60 (r := (some h0)) hX dX11_findName_4 rfl hk6 ?_
    refine z_iconst (v := (0 : Int32)) hX dX11_findName_7 (by decide) ?_
    obtain ⟨a7, ha8, h⟩ := h
    obtain ⟨hk9, h⟩ := h
    obtain ⟨hc10, h⟩ := h
    refine y_iald (r := (mR M 729 h0)) hX dX11_findName_8 ha8 hk9 hc10 ?_
    obtain ⟨h1, h2⟩ := h
    refine z_icmp_ge (tgt := 29) hX dX11_findName_9 (by decide) (fun hc => ?_) (fun hc => ?_)
    · have h := h1 hc
      refine z_loc [0, 2] rfl ?_
      exact zb_X11_findName_29 hX hQ hnL h
    · have h := h2 hc
      refine z_aload_n (r := (some h0)) hX dX11_findName_12 rfl 0 rfl ?_
      refine gf_RX11_19 (r := (some h0)) hX dX11_findName_13 rfl hk6 ?_
      refine z_iload_n hX dX11_findName_16 rfl 2 rfl ?_
      obtain ⟨a11, ha12, h⟩ := h
      obtain ⟨hk13, h⟩ := h
      obtain ⟨hc14, h⟩ := h
      refine y_lald (r := (mR M 716 h0)) hX dX11_findName_17 ha12 hk13 hc14 ?_
      refine z_lload_n hX dX11_findName_18 rfl 1 rfl ?_
      refine z_lcmp hX dX11_findName_19 ?_
      obtain ⟨h1, h2⟩ := h
      refine z_if_eq (tgt := 29) hX dX11_findName_20 (by decide) (fun hc => ?_) (fun hc => ?_)
      · have h := h1 ((lg_cmp_eq _ _).mp hc)
        refine z_loc [0, 2] rfl ?_
        exact zb_X11_findName_29 hX hQ hnL h
      · have h := h2 (fun q => hc ((lg_cmp_eq _ _).mpr q))
        refine z_iinc (v := (l3 + 1)) hX [(3, .int (l3 + 1)), (0, va_rf (some h0)), (1, .long l1)] dX11_findName_23 2 rfl rfl (by rw [hnL]; decide) rfl ?_
        refine z_goto (tgt := 2) hX dX11_findName_26 (by decide) ?_
        refine z_loc [1, 2, 0] rfl ?_
        exact hR2 _ _ _ h
def wp_X11_findName (M : Mm) (h0 : Nat) (p1 : Int64) (K : Int32 → Mm → Prop) : Prop := (∃ kk, lp_X11_findName_2 h0 K kk p1 (0 : Int32) M)
set_option maxRecDepth 100000 in
set_option maxHeartbeats 4000000 in
theorem ct_X11_findName {M : Mm} {h0 : Nat} {p1 : Int64} {K : Int32 → Mm → Prop} (h : wp_X11_findName M h0 p1 K) : CtI yX11_findName cX11_findName 4 (some .int) rm_X11_findName [.ref h0, .long p1] M K := by
  refine ct_any (QI K) (by decide) (by exact Nat.le_of_ble_eq_true rfl) (fun X hX hQ hnL hnm => ?_)
  rw [show lv_args 0 [.ref h0, .long p1] = [(0, va_rf (some h0)), (1, .long p1)] by rfl]
  have hX : Ok X cX11_findName RX11 rm_X11_findName := hX
  unfold wp_X11_findName at h
  refine z_iconst (v := (0 : Int32)) hX dX11_findName_0 (by decide) ?_
  refine z_istore_n hX [(3, .int (0 : Int32)), (0, va_rf (some h0)), (1, .long p1)] dX11_findName_1 rfl (by rw [hnL]; decide) rfl ?_
  refine z_loc [1, 2, 0] rfl ?_
  obtain ⟨n, h⟩ := h
  exact zl_X11_findName_2 hX hQ hnL n _ _ _ h
def rm_X11_fault_ : Room := { frames := 0, cells := 0, slots := 0, locals := 0 }
def wp_X11_fault_ (M : Mm) (h0 : Nat) (K : Int32 → Mm → Prop) : Prop := mK M h0 = 12 ∧ (K (mI (sI M 704 h0 (0 : Int32)) 714 h0) (sI M 704 h0 (0 : Int32)))
set_option maxRecDepth 100000 in
set_option maxHeartbeats 4000000 in
theorem ct_X11_fault_ {M : Mm} {h0 : Nat} {K : Int32 → Mm → Prop} (h : wp_X11_fault_ M h0 K) : CtI yX11_fault_ cX11_fault_ 1 (some .int) rm_X11_fault_ [.ref h0] M K := by
  refine ct_any (QI K) (by decide) (by exact Nat.le_of_ble_eq_true rfl) (fun X hX hQ hnL hnm => ?_)
  rw [show lv_args 0 [.ref h0] = [(0, va_rf (some h0))] by rfl]
  have hX : Ok X cX11_fault_ RX11 rm_X11_fault_ := hX
  unfold wp_X11_fault_ at h
  refine z_aload_n (r := (some h0)) hX dX11_fault__0 rfl 0 rfl ?_
  refine z_iconst (v := (0 : Int32)) hX dX11_fault__1 (by decide) ?_
  obtain ⟨hk1, h⟩ := h
  refine pf_RX11_123 (r := (some h0)) (v := (0 : Int32)) hX dX11_fault__2 rfl hk1 ?_
  refine z_aload_n (r := (some h0)) hX dX11_fault__5 rfl 0 rfl ?_
  refine gf_RX11_265 (r := (some h0)) hX dX11_fault__6 rfl hk1 ?_
  exact z_iret hX hQ dX11_fault__9 h
def rm_X11_plus : Room := { frames := 0, cells := 0, slots := 0, locals := 0 }
def bk_X11_plus_16 (K : Int64 → Mm → Prop) (l0 : Int64) (M : Mm) : Prop := (K l0 M)
set_option maxRecDepth 100000 in
set_option maxHeartbeats 4000000 in
theorem zb_X11_plus_16 {X : Cx} {K : Int64 → Mm → Prop} (hX : Ok X cX11_plus RX11 rm_X11_plus) (hQ : Rq X rm_X11_plus (some .long) (QJ K)) (hnL : X.2.2.2.2.2.2.2.2.2.2.2.2.2.2 = 6) {l0 : Int64} {M : Mm} (h : bk_X11_plus_16 K l0 M) : Z X M 0 0 16 [(0, .long l0)] [] := by
  unfold bk_X11_plus_16 at h
  refine z_lload_n hX dX11_plus_16 rfl 0 rfl ?_
  exact z_lret hX hQ dX11_plus_17 h
def bk_X11_plus_55 (K : Int64 → Mm → Prop) (s0 : Int64) (M : Mm) : Prop := (K s0 M)
set_option maxRecDepth 100000 in
set_option maxHeartbeats 4000000 in
theorem zb_X11_plus_55 {X : Cx} {K : Int64 → Mm → Prop} (hX : Ok X cX11_plus RX11 rm_X11_plus) (hQ : Rq X rm_X11_plus (some .long) (QJ K)) (hnL : X.2.2.2.2.2.2.2.2.2.2.2.2.2.2 = 6) {s0 : Int64} {M : Mm} (h : bk_X11_plus_55 K s0 M) : Z X M 0 0 55 [] [.long s0] := by
  unfold bk_X11_plus_55 at h
  exact z_lret hX hQ dX11_plus_55 h
def wp_X11_plus (M : Mm) (p1 : Int64) (p2 : Int64) (K : Int64 → Mm → Prop) : Prop := ((p1 = (-9000000000000000000 : Int64) → (bk_X11_plus_16 K p1 M)) ∧ (¬ p1 = (-9000000000000000000 : Int64) → ((¬ p1 = (9000000000000000000 : Int64) → (((p1 + p2) ≤ (8000000000000000000 : Int64) → (((-8000000000000000000 : Int64) ≤ (p1 + p2) → (bk_X11_plus_55 K (p1 + p2) M)) ∧ (¬ (-8000000000000000000 : Int64) ≤ (p1 + p2) → (bk_X11_plus_55 K (-8000000000000000000 : Int64) M)))) ∧ (¬ (p1 + p2) ≤ (8000000000000000000 : Int64) → (bk_X11_plus_55 K (8000000000000000000 : Int64) M)))) ∧ (p1 = (9000000000000000000 : Int64) → (bk_X11_plus_16 K p1 M)))))
set_option maxRecDepth 100000 in
set_option maxHeartbeats 4000000 in
theorem ct_X11_plus {M : Mm} {p1 : Int64} {p2 : Int64} {K : Int64 → Mm → Prop} (h : wp_X11_plus M p1 p2 K) : CtJ yX11_plus cX11_plus 6 (some .long) rm_X11_plus [.long p1, .long p2] M K := by
  refine ct_any (QJ K) (by decide) (by exact Nat.le_of_ble_eq_true rfl) (fun X hX hQ hnL hnm => ?_)
  rw [show lv_args 0 [.long p1, .long p2] = [(0, .long p1), (2, .long p2)] by rfl]
  have hX : Ok X cX11_plus RX11 rm_X11_plus := hX
  unfold wp_X11_plus at h
  refine z_lload_n hX dX11_plus_0 rfl 0 rfl ?_
  refine z_ldc2 (v := (-9000000000000000000 : Int64)) hX dX11_plus_1 kj_RX11_281 ?_
  refine z_lcmp hX dX11_plus_4 ?_
  obtain ⟨h1, h2⟩ := h
  refine z_if_eq (tgt := 16) hX dX11_plus_5 (by decide) (fun hc => ?_) (fun hc => ?_)
  · have h := h1 ((lg_cmp_eq _ _).mp hc)
    refine z_loc [0] rfl ?_
    exact zb_X11_plus_16 hX hQ hnL h
  · have h := h2 (fun q => hc ((lg_cmp_eq _ _).mpr q))
    refine z_lload_n hX dX11_plus_8 rfl 0 rfl ?_
    refine z_ldc2 (v := (9000000000000000000 : Int64)) hX dX11_plus_9 kj_RX11_298 ?_
    refine z_lcmp hX dX11_plus_12 ?_
    obtain ⟨h1, h2⟩ := h
    refine z_if_ne (tgt := 18) hX dX11_plus_13 (by decide) (fun hc => ?_) (fun hc => ?_)
    · have h := h1 (fun q => hc ((lg_cmp_eq _ _).mpr q))
      refine z_lload_n hX dX11_plus_18 rfl 0 rfl ?_
      refine z_lload_n hX dX11_plus_19 rfl 1 rfl ?_
      refine z_ladd hX dX11_plus_20 ?_
      refine z_lstore hX [(4, .long (p1 + p2)), (0, .long p1), (2, .long p2)] dX11_plus_21 (by rw [hnL]; decide) rfl ?_
      refine z_lload hX dX11_plus_23 0 rfl ?_
      refine z_ldc2 (v := (8000000000000000000 : Int64)) hX dX11_plus_25 kj_RX11_300 ?_
      refine z_lcmp hX dX11_plus_28 ?_
      obtain ⟨h1, h2⟩ := h
      refine z_if_le (tgt := 38) hX dX11_plus_29 (by decide) (fun hc => ?_) (fun hc => ?_)
      · have h := h1 ((lg_cmp_le _ _).mp hc)
        refine z_lload hX dX11_plus_38 0 rfl ?_
        refine z_ldc2 (v := (-8000000000000000000 : Int64)) hX dX11_plus_40 kj_RX11_302 ?_
        refine z_lcmp hX dX11_plus_43 ?_
        obtain ⟨h1, h2⟩ := h
        refine z_if_ge (tgt := 53) hX dX11_plus_44 (by decide) (fun hc => ?_) (fun hc => ?_)
        · have h := h1 ((lg_cmp_ge _ _).mp hc)
          refine z_lload hX dX11_plus_53 0 rfl ?_
          refine z_loc [] rfl ?_
          exact zb_X11_plus_55 hX hQ hnL h
        · have h := h2 (fun q => hc ((lg_cmp_ge _ _).mpr q))
          refine z_ldc2 (v := (-8000000000000000000 : Int64)) hX dX11_plus_47 kj_RX11_302 ?_
          refine z_goto (tgt := 55) hX dX11_plus_50 (by decide) ?_
          refine z_loc [] rfl ?_
          exact zb_X11_plus_55 hX hQ hnL h
      · have h := h2 (fun q => hc ((lg_cmp_le _ _).mpr q))
        refine z_ldc2 (v := (8000000000000000000 : Int64)) hX dX11_plus_32 kj_RX11_300 ?_
        refine z_goto (tgt := 55) hX dX11_plus_35 (by decide) ?_
        refine z_loc [] rfl ?_
        exact zb_X11_plus_55 hX hQ hnL h
    · have h := h2 ((lg_cmp_eq _ _).mp hc)
      refine z_loc [0] rfl ?_
      exact zb_X11_plus_16 hX hQ hnL h
def rm_X11_kindOf : Room := { frames := 0, cells := 0, slots := 0, locals := 0 }
def wp_X11_kindOf (M : Mm) (h0 : Nat) (p1 : Int32) (K : Int32 → Mm → Prop) : Prop := mK M h0 = 12 ∧ ∃ a2, (mR M 715 h0) = some a2 ∧ isA M a2 1 ∧ vp_in ((12 : Int32) + p1) (aN M a2) ∧ (K (aI M a2 (((12 : Int32) + p1)).toNatClampNeg) M)
set_option maxRecDepth 100000 in
set_option maxHeartbeats 4000000 in
theorem ct_X11_kindOf {M : Mm} {h0 : Nat} {p1 : Int32} {K : Int32 → Mm → Prop} (h : wp_X11_kindOf M h0 p1 K) : CtI yX11_kindOf cX11_kindOf 2 (some .int) rm_X11_kindOf [.ref h0, .int p1] M K := by
  refine ct_any (QI K) (by decide) (by exact Nat.le_of_ble_eq_true rfl) (fun X hX hQ hnL hnm => ?_)
  rw [show lv_args 0 [.ref h0, .int p1] = [(0, va_rf (some h0)), (1, .int p1)] by rfl]
  have hX : Ok X cX11_kindOf RX11 rm_X11_kindOf := hX
  unfold wp_X11_kindOf at h
  refine z_aload_n (r := (some h0)) hX dX11_kindOf_0 rfl 0 rfl ?_
  obtain ⟨hk1, h⟩ := h
  refine gf_RX11_15 (r := (some h0)) hX dX11_kindOf_1 rfl hk1 ?_
  refine z_bipush (v := (12 : Int32)) hX dX11_kindOf_4 (by decide) ?_
  refine z_iload_n hX dX11_kindOf_6 rfl 1 rfl ?_
  refine z_iadd hX dX11_kindOf_7 ?_
  obtain ⟨a2, ha3, h⟩ := h
  obtain ⟨hk4, h⟩ := h
  obtain ⟨hc5, h⟩ := h
  refine y_iald (r := (mR M 715 h0)) hX dX11_kindOf_8 ha3 hk4 hc5 ?_
  exact z_iret hX hQ dX11_kindOf_9 h
def rm_X11_inputOf : Room := { frames := 0, cells := 0, slots := 0, locals := 0 }
def wp_X11_inputOf (M : Mm) (h0 : Nat) (p1 : Int32) (p2 : Int32) (K : Int32 → Mm → Prop) : Prop := mK M h0 = 12 ∧ ∃ a2, (mR M 725 h0) = some a2 ∧ isA M a2 1 ∧ vp_in (((4 : Int32) * ((12 : Int32) + p1)) + p2) (aN M a2) ∧ (K (aI M a2 ((((4 : Int32) * ((12 : Int32) + p1)) + p2)).toNatClampNeg) M)
set_option maxRecDepth 100000 in
set_option maxHeartbeats 4000000 in
theorem ct_X11_inputOf {M : Mm} {h0 : Nat} {p1 : Int32} {p2 : Int32} {K : Int32 → Mm → Prop} (h : wp_X11_inputOf M h0 p1 p2 K) : CtI yX11_inputOf cX11_inputOf 3 (some .int) rm_X11_inputOf [.ref h0, .int p1, .int p2] M K := by
  refine ct_any (QI K) (by decide) (by exact Nat.le_of_ble_eq_true rfl) (fun X hX hQ hnL hnm => ?_)
  rw [show lv_args 0 [.ref h0, .int p1, .int p2] = [(0, va_rf (some h0)), (1, .int p1), (2, .int p2)] by rfl]
  have hX : Ok X cX11_inputOf RX11 rm_X11_inputOf := hX
  unfold wp_X11_inputOf at h
  refine z_aload_n (r := (some h0)) hX dX11_inputOf_0 rfl 0 rfl ?_
  obtain ⟨hk1, h⟩ := h
  refine gf_RX11_48 (r := (some h0)) hX dX11_inputOf_1 rfl hk1 ?_
  refine z_iconst (v := (4 : Int32)) hX dX11_inputOf_4 (by decide) ?_
  refine z_bipush (v := (12 : Int32)) hX dX11_inputOf_5 (by decide) ?_
  refine z_iload_n hX dX11_inputOf_7 rfl 1 rfl ?_
  refine z_iadd hX dX11_inputOf_8 ?_
  refine z_imul hX dX11_inputOf_9 ?_
  refine z_iload_n hX dX11_inputOf_10 rfl 2 rfl ?_
  refine z_iadd hX dX11_inputOf_11 ?_
  obtain ⟨a2, ha3, h⟩ := h
  obtain ⟨hk4, h⟩ := h
  obtain ⟨hc5, h⟩ := h
  refine y_iald (r := (mR M 725 h0)) hX dX11_inputOf_12 ha3 hk4 hc5 ?_
  exact z_iret hX hQ dX11_inputOf_13 h
def rm_X11_note : Room := { frames := 0, cells := 0, slots := 0, locals := 0 }
def bk_X11_note_42 (h0 : Nat) (K : Mm → Prop) (M : Mm) : Prop := (K M)
set_option maxRecDepth 100000 in
set_option maxHeartbeats 4000000 in
theorem zb_X11_note_42 {X : Cx} {h0 : Nat} {K : Mm → Prop} (hX : Ok X cX11_note RX11 rm_X11_note) (hQ : Rq X rm_X11_note none (QV K)) (hnL : X.2.2.2.2.2.2.2.2.2.2.2.2.2.2 = 9) {M : Mm} (h : bk_X11_note_42 h0 K M) : Z X M 0 0 42 [] [] := by
  unfold bk_X11_note_42 at h
  exact z_vret hX hQ dX11_note_42 h
def wp_X11_note (M : Mm) (h0 : Nat) (p1 : Option Nat) (p2 : Int32) (p3 : Int32) (p4 : Int32) (p5 : Int64) (p6 : Int32) (p7 : Int32) (K : Mm → Prop) : Prop := ((p3 ≤ p2 → (bk_X11_note_42 h0 K M)) ∧ (¬ p3 ≤ p2 → ∃ a1, p1 = some a1 ∧ isA M a1 2 ∧ vp_in ((4 : Int32) * p2) (aN M a1) ∧ vp_in (((4 : Int32) * p2) + (1 : Int32)) (aN (tJ M a1 (((4 : Int32) * p2)).toNatClampNeg ((p4).toInt64)) a1) ∧ vp_in (((4 : Int32) * p2) + (2 : Int32)) (aN (tJ (tJ M a1 (((4 : Int32) * p2)).toNatClampNeg ((p4).toInt64)) a1 ((((4 : Int32) * p2) + (1 : Int32))).toNatClampNeg p5) a1) ∧ vp_in (((4 : Int32) * p2) + (3 : Int32)) (aN (tJ (tJ (tJ M a1 (((4 : Int32) * p2)).toNatClampNeg ((p4).toInt64)) a1 ((((4 : Int32) * p2) + (1 : Int32))).toNatClampNeg p5) a1 ((((4 : Int32) * p2) + (2 : Int32))).toNatClampNeg ((p6).toInt64)) a1) ∧ (bk_X11_note_42 h0 K (tJ (tJ (tJ (tJ M a1 (((4 : Int32) * p2)).toNatClampNeg ((p4).toInt64)) a1 ((((4 : Int32) * p2) + (1 : Int32))).toNatClampNeg p5) a1 ((((4 : Int32) * p2) + (2 : Int32))).toNatClampNeg ((p6).toInt64)) a1 ((((4 : Int32) * p2) + (3 : Int32))).toNatClampNeg ((p7).toInt64)))))
set_option maxRecDepth 100000 in
set_option maxHeartbeats 4000000 in
theorem ct_X11_note {M : Mm} {h0 : Nat} {p1 : Option Nat} {p2 : Int32} {p3 : Int32} {p4 : Int32} {p5 : Int64} {p6 : Int32} {p7 : Int32} {K : Mm → Prop} (h : wp_X11_note M h0 p1 p2 p3 p4 p5 p6 p7 K) : CtV yX11_note cX11_note 9 none rm_X11_note [.ref h0, va_rf p1, .int p2, .int p3, .int p4, .long p5, .int p6, .int p7] M K := by
  refine ct_any (QV K) (by decide) (by cases p1 <;> exact Nat.le_of_ble_eq_true rfl) (fun X hX hQ hnL hnm => ?_)
  rw [show lv_args 0 [.ref h0, va_rf p1, .int p2, .int p3, .int p4, .long p5, .int p6, .int p7] = [(0, va_rf (some h0)), (1, va_rf p1), (2, .int p2), (3, .int p3), (4, .int p4), (5, .long p5), (7, .int p6), (8, .int p7)] by cases p1 <;> rfl]
  have hX : Ok X cX11_note RX11 rm_X11_note := hX
  unfold wp_X11_note at h
  refine z_iload_n hX dX11_note_0 rfl 2 rfl ?_
  refine z_iload_n hX dX11_note_1 rfl 3 rfl ?_
  obtain ⟨h1, h2⟩ := h
  refine z_icmp_ge (tgt := 42) hX dX11_note_2 (by decide) (fun hc => ?_) (fun hc => ?_)
  · have h := h1 hc
    refine z_loc [] rfl ?_
    exact zb_X11_note_42 hX hQ hnL h
  · have h := h2 hc
    refine z_aload_n (r := p1) hX dX11_note_5 rfl 1 rfl ?_
    refine z_iconst (v := (4 : Int32)) hX dX11_note_6 (by decide) ?_
    refine z_iload_n hX dX11_note_7 rfl 2 rfl ?_
    refine z_imul hX dX11_note_8 ?_
    refine z_iload hX dX11_note_9 4 rfl ?_
    refine z_i2l hX dX11_note_11 ?_
    obtain ⟨a1, ha2, h⟩ := h
    obtain ⟨hk3, h⟩ := h
    obtain ⟨hc4, h⟩ := h
    refine y_last (r := p1) hX dX11_note_12 ha2 hk3 hc4 ?_
    refine z_aload_n (r := p1) hX dX11_note_13 rfl 1 rfl ?_
    refine z_iconst (v := (4 : Int32)) hX dX11_note_14 (by decide) ?_
    refine z_iload_n hX dX11_note_15 rfl 2 rfl ?_
    refine z_imul hX dX11_note_16 ?_
    refine z_iconst (v := (1 : Int32)) hX dX11_note_17 (by decide) ?_
    refine z_iadd hX dX11_note_18 ?_
    refine z_lload hX dX11_note_19 5 rfl ?_
    obtain ⟨hc5, h⟩ := h
    refine y_last (r := p1) hX dX11_note_21 ha2 hk3 hc5 ?_
    refine z_aload_n (r := p1) hX dX11_note_22 rfl 1 rfl ?_
    refine z_iconst (v := (4 : Int32)) hX dX11_note_23 (by decide) ?_
    refine z_iload_n hX dX11_note_24 rfl 2 rfl ?_
    refine z_imul hX dX11_note_25 ?_
    refine z_iconst (v := (2 : Int32)) hX dX11_note_26 (by decide) ?_
    refine z_iadd hX dX11_note_27 ?_
    refine z_iload hX dX11_note_28 6 rfl ?_
    refine z_i2l hX dX11_note_30 ?_
    obtain ⟨hc6, h⟩ := h
    refine y_last (r := p1) hX dX11_note_31 ha2 hk3 hc6 ?_
    refine z_aload_n (r := p1) hX dX11_note_32 rfl 1 rfl ?_
    refine z_iconst (v := (4 : Int32)) hX dX11_note_33 (by decide) ?_
    refine z_iload_n hX dX11_note_34 rfl 2 rfl ?_
    refine z_imul hX dX11_note_35 ?_
    refine z_iconst (v := (3 : Int32)) hX dX11_note_36 (by decide) ?_
    refine z_iadd hX dX11_note_37 ?_
    refine z_iload hX dX11_note_38 7 rfl ?_
    refine z_i2l hX dX11_note_40 ?_
    obtain ⟨hc7, h⟩ := h
    refine y_last (r := p1) hX dX11_note_41 ha2 hk3 hc7 ?_
    refine z_loc [] rfl ?_
    exact zb_X11_note_42 hX hQ hnL h
def rm_X11_late : Room := { frames := 1, cells := 0, slots := 0, locals := 28 }
def wp_X11_late (M : Mm) (h0 : Nat) (p1 : Int32) (p2 : Int64) (p3 : Int32) (p4 : Int32) (K : Mm → Prop) : Prop := mK M h0 = 12 ∧ (wp_X11_note M h0 (mR M 742 h0) (mI M 741 h0) (200 : Int32) p1 p2 p3 p4 (fun M3 => mK M3 h0 = 12 ∧ (K (sI M3 741 h0 ((mI M3 741 h0) + (1 : Int32))))))
set_option maxRecDepth 100000 in
set_option maxHeartbeats 4000000 in
theorem ct_X11_late {M : Mm} {h0 : Nat} {p1 : Int32} {p2 : Int64} {p3 : Int32} {p4 : Int32} {K : Mm → Prop} (h : wp_X11_late M h0 p1 p2 p3 p4 K) : CtV yX11_late cX11_late 6 none rm_X11_late [.ref h0, .int p1, .long p2, .int p3, .int p4] M K := by
  refine ct_any (QV K) (by decide) (by exact Nat.le_of_ble_eq_true rfl) (fun X hX hQ hnL hnm => ?_)
  rw [show lv_args 0 [.ref h0, .int p1, .long p2, .int p3, .int p4] = [(0, va_rf (some h0)), (1, .int p1), (2, .long p2), (4, .int p3), (5, .int p4)] by rfl]
  have hX : Ok X cX11_late RX11 rm_X11_late := hX
  unfold wp_X11_late at h
  refine z_aload_n (r := (some h0)) hX dX11_late_0 rfl 0 rfl ?_
  refine z_aload_n (r := (some h0)) hX dX11_late_1 rfl 0 rfl ?_
  obtain ⟨hk1, h⟩ := h
  refine gf_RX11_81 (r := (some h0)) hX dX11_late_2 rfl hk1 ?_
  refine z_aload_n (r := (some h0)) hX dX11_late_5 rfl 0 rfl ?_
  refine gf_RX11_286 (r := (some h0)) hX dX11_late_6 rfl hk1 ?_
  refine z_sipush (v := (200 : Int32)) hX dX11_late_9 (by decide) ?_
  refine z_iload_n hX dX11_late_12 rfl 1 rfl ?_
  refine z_lload_n hX dX11_late_13 rfl 2 rfl ?_
  refine z_iload hX dX11_late_14 3 rfl ?_
  refine z_iload hX dX11_late_16 4 rfl ?_
  refine z_callVV (As := [va_rf (mR M 742 h0), .int (mI M 741 h0), .int (200 : Int32), .int p1, .long p2, .int p3, .int p4]) (rest := []) (ci := 11) hX (ct_X11_note h) mw_RX11_304 rfl (by decide) rfl (by rfl) (by unfold RoomC; decide) (by decide) dX11_late_18 hk1 (fun M3 h => ?_)
  refine z_aload_n (r := (some h0)) hX dX11_late_21 rfl 0 rfl ?_
  refine z_dup hX dX11_late_22 (cat_rf _) ?_
  obtain ⟨hk5, h⟩ := h
  refine gf_RX11_286 (r := (some h0)) hX dX11_late_23 rfl hk5 ?_
  refine z_iconst (v := (1 : Int32)) hX dX11_late_26 (by decide) ?_
  refine z_iadd hX dX11_late_27 ?_
  refine pf_RX11_286 (r := (some h0)) (v := ((mI M3 741 h0) + (1 : Int32))) hX dX11_late_28 rfl hk5 ?_
  exact z_vret hX hQ dX11_late_31 h
def rm_X11_isFar : Room := { frames := 1, cells := 0, slots := 0, locals := 25 }
def bk_X11_isFar_74 (h0 : Nat) (K : Int32 → Mm → Prop) (s0 : Int32) (M : Mm) : Prop := (bz s0 ∧ K s0 M)
set_option maxRecDepth 100000 in
set_option maxHeartbeats 4000000 in
theorem zb_X11_isFar_74 {X : Cx} {h0 : Nat} {K : Int32 → Mm → Prop} (hX : Ok X cX11_isFar RX11 rm_X11_isFar) (hQ : Rq X rm_X11_isFar (some .boolean) (QI K)) (hnL : X.2.2.2.2.2.2.2.2.2.2.2.2.2.2 = 5) {s0 : Int32} {M : Mm} (h : bk_X11_isFar_74 h0 K s0 M) : Z X M 0 0 74 [] [.int s0] := by
  unfold bk_X11_isFar_74 at h
  exact y_zret hX hQ dX11_isFar_74 h.1 h.2
def wp_X11_isFar (M : Mm) (h0 : Nat) (p1 : Int32) (p2 : Int32) (p3 : Int64) (K : Int32 → Mm → Prop) : Prop := ((¬ p2 = 0 → mK M h0 = 12 ∧ ∃ a2, (mR M 720 h0) = some a2 ∧ isA M a2 2 ∧ vp_in ((12 : Int32) + p1) (aN M a2) ∧ (wp_X11_plus M p3 (-(aJ M a2 (((12 : Int32) + p1)).toNatClampNeg)) (fun r6 M7 => mK M7 h0 = 12 ∧ (wp_X11_inputOf M7 h0 p1 (0 : Int32) (fun r10 M11 => ∃ a13, (mR M7 733 h0) = some a13 ∧ isA M11 a13 2 ∧ vp_in r10 (aN M11 a13) ∧ (((aJ M11 a13 (r10).toNatClampNeg) < r6 → (bk_X11_isFar_74 h0 K (0 : Int32) M11)) ∧ (¬ (aJ M11 a13 (r10).toNatClampNeg) < r6 → (bk_X11_isFar_74 h0 K (1 : Int32) M11)))))))) ∧ (p2 = 0 → mK M h0 = 12 ∧ ∃ a18, (mR M 721 h0) = some a18 ∧ isA M a18 2 ∧ vp_in ((12 : Int32) + p1) (aN M a18) ∧ (wp_X11_plus M p3 (aJ M a18 (((12 : Int32) + p1)).toNatClampNeg) (fun r22 M23 => mK M23 h0 = 12 ∧ (wp_X11_inputOf M23 h0 p1 (1 : Int32) (fun r26 M27 => ∃ a29, (mR M23 733 h0) = some a29 ∧ isA M27 a29 2 ∧ vp_in r26 (aN M27 a29) ∧ (((aJ M27 a29 (r26).toNatClampNeg) < r22 → (bk_X11_isFar_74 h0 K (0 : Int32) M27)) ∧ (¬ (aJ M27 a29 (r26).toNatClampNeg) < r22 → (bk_X11_isFar_74 h0 K (1 : Int32) M27)))))))))
set_option maxRecDepth 100000 in
set_option maxHeartbeats 4000000 in
theorem ct_X11_isFar {M : Mm} {h0 : Nat} {p1 : Int32} {p2 : Int32} {p3 : Int64} {K : Int32 → Mm → Prop} (h : wp_X11_isFar M h0 p1 p2 p3 K) : CtI yX11_isFar cX11_isFar 5 (some .boolean) rm_X11_isFar [.ref h0, .int p1, .int p2, .long p3] M K := by
  refine ct_any (QI K) (by decide) (by exact Nat.le_of_ble_eq_true rfl) (fun X hX hQ hnL hnm => ?_)
  rw [show lv_args 0 [.ref h0, .int p1, .int p2, .long p3] = [(0, va_rf (some h0)), (1, .int p1), (2, .int p2), (3, .long p3)] by rfl]
  have hX : Ok X cX11_isFar RX11 rm_X11_isFar := hX
  unfold wp_X11_isFar at h
  refine z_iload_n hX dX11_isFar_0 rfl 2 rfl ?_
  obtain ⟨h1, h2⟩ := h
  refine z_if_ne (tgt := 40) hX dX11_isFar_1 (by decide) (fun hc => ?_) (fun hc => ?_)
  · have h := h1 hc
    refine z_lload_n hX dX11_isFar_40 rfl 3 rfl ?_
    refine z_aload_n (r := (some h0)) hX dX11_isFar_41 rfl 0 rfl ?_
    obtain ⟨hk1, h⟩ := h
    refine gf_RX11_33 (r := (some h0)) hX dX11_isFar_42 rfl hk1 ?_
    refine z_bipush (v := (12 : Int32)) hX dX11_isFar_45 (by decide) ?_
    refine z_iload_n hX dX11_isFar_47 rfl 1 rfl ?_
    refine z_iadd hX dX11_isFar_48 ?_
    obtain ⟨a2, ha3, h⟩ := h
    obtain ⟨hk4, h⟩ := h
    obtain ⟨hc5, h⟩ := h
    refine y_lald (r := (mR M 720 h0)) hX dX11_isFar_49 ha3 hk4 hc5 ?_
    refine z_lneg hX dX11_isFar_50 ?_
    refine z_callSJ (As := [.long p3, .long (-(aJ M a2 (((12 : Int32) + p1)).toNatClampNeg))]) (rest := []) hX (ct_X11_plus h) mw_RX11_311 rfl (by rfl) (by unfold RoomC; decide) (by decide) dX11_isFar_51 (fun r6 M7 h => ?_)
    refine z_aload_n (r := (some h0)) hX dX11_isFar_54 rfl 0 rfl ?_
    obtain ⟨hk9, h⟩ := h
    refine gf_RX11_63 (r := (some h0)) hX dX11_isFar_55 rfl hk9 ?_
    refine z_aload_n (r := (some h0)) hX dX11_isFar_58 rfl 0 rfl ?_
    refine z_iload_n hX dX11_isFar_59 rfl 1 rfl ?_
    refine z_iconst (v := (0 : Int32)) hX dX11_isFar_60 (by decide) ?_
    refine z_callVI (As := [.int p1, .int (0 : Int32)]) (rest := [va_rf (mR M7 733 h0), .long r6]) (ci := 11) hX (ct_X11_inputOf h) mw_RX11_318 rfl (by decide) rfl (by rfl) (by unfold RoomC; decide) (by simp only [List.map_cons, List.map_nil, List.sum_cons, List.sum_nil, cat_rf, cat_i, cat_j]; decide) dX11_isFar_61 hk9 (fun r10 M11 h => ?_)
    obtain ⟨a13, ha14, h⟩ := h
    obtain ⟨hk15, h⟩ := h
    obtain ⟨hc16, h⟩ := h
    refine y_lald (r := (mR M7 733 h0)) hX dX11_isFar_64 ha14 hk15 hc16 ?_
    refine z_lcmp hX dX11_isFar_65 ?_
    obtain ⟨h1, h2⟩ := h
    refine z_if_gt (tgt := 73) hX dX11_isFar_66 (by decide) (fun hc => ?_) (fun hc => ?_)
    · have h := h1 ((lg_cmp_gt _ _).mp hc)
      refine z_iconst (v := (0 : Int32)) hX dX11_isFar_73 (by decide) ?_
      refine z_loc [] rfl ?_
      exact zb_X11_isFar_74 hX hQ hnL h
    · have h := h2 (fun q => hc ((lg_cmp_gt _ _).mpr q))
      refine z_iconst (v := (1 : Int32)) hX dX11_isFar_69 (by decide) ?_
      refine z_goto (tgt := 74) hX dX11_isFar_70 (by decide) ?_
      refine z_loc [] rfl ?_
      exact zb_X11_isFar_74 hX hQ hnL h
  · have h := h2 hc
    refine z_lload_n hX dX11_isFar_4 rfl 3 rfl ?_
    refine z_aload_n (r := (some h0)) hX dX11_isFar_5 rfl 0 rfl ?_
    obtain ⟨hk17, h⟩ := h
    refine gf_RX11_36 (r := (some h0)) hX dX11_isFar_6 rfl hk17 ?_
    refine z_bipush (v := (12 : Int32)) hX dX11_isFar_9 (by decide) ?_
    refine z_iload_n hX dX11_isFar_11 rfl 1 rfl ?_
    refine z_iadd hX dX11_isFar_12 ?_
    obtain ⟨a18, ha19, h⟩ := h
    obtain ⟨hk20, h⟩ := h
    obtain ⟨hc21, h⟩ := h
    refine y_lald (r := (mR M 721 h0)) hX dX11_isFar_13 ha19 hk20 hc21 ?_
    refine z_callSJ (As := [.long p3, .long (aJ M a18 (((12 : Int32) + p1)).toNatClampNeg)]) (rest := []) hX (ct_X11_plus h) mw_RX11_311 rfl (by rfl) (by unfold RoomC; decide) (by decide) dX11_isFar_14 (fun r22 M23 h => ?_)
    refine z_aload_n (r := (some h0)) hX dX11_isFar_17 rfl 0 rfl ?_
    obtain ⟨hk25, h⟩ := h
    refine gf_RX11_63 (r := (some h0)) hX dX11_isFar_18 rfl hk25 ?_
    refine z_aload_n (r := (some h0)) hX dX11_isFar_21 rfl 0 rfl ?_
    refine z_iload_n hX dX11_isFar_22 rfl 1 rfl ?_
    refine z_iconst (v := (1 : Int32)) hX dX11_isFar_23 (by decide) ?_
    refine z_callVI (As := [.int p1, .int (1 : Int32)]) (rest := [va_rf (mR M23 733 h0), .long r22]) (ci := 11) hX (ct_X11_inputOf h) mw_RX11_318 rfl (by decide) rfl (by rfl) (by unfold RoomC; decide) (by simp only [List.map_cons, List.map_nil, List.sum_cons, List.sum_nil, cat_rf, cat_i, cat_j]; decide) dX11_isFar_24 hk25 (fun r26 M27 h => ?_)
    obtain ⟨a29, ha30, h⟩ := h
    obtain ⟨hk31, h⟩ := h
    obtain ⟨hc32, h⟩ := h
    refine y_lald (r := (mR M23 733 h0)) hX dX11_isFar_27 ha30 hk31 hc32 ?_
    refine z_lcmp hX dX11_isFar_28 ?_
    obtain ⟨h1, h2⟩ := h
    refine z_if_gt (tgt := 36) hX dX11_isFar_29 (by decide) (fun hc => ?_) (fun hc => ?_)
    · have h := h1 ((lg_cmp_gt _ _).mp hc)
      refine z_iconst (v := (0 : Int32)) hX dX11_isFar_36 (by decide) ?_
      refine z_goto (tgt := 74) hX dX11_isFar_37 (by decide) ?_
      refine z_loc [] rfl ?_
      exact zb_X11_isFar_74 hX hQ hnL h
    · have h := h2 (fun q => hc ((lg_cmp_gt _ _).mpr q))
      refine z_iconst (v := (1 : Int32)) hX dX11_isFar_32 (by decide) ?_
      refine z_goto (tgt := 74) hX dX11_isFar_33 (by decide) ?_
      refine z_loc [] rfl ?_
      exact zb_X11_isFar_74 hX hQ hnL h
def rm_X11_drop : Room := { frames := 0, cells := 0, slots := 0, locals := 0 }
def lp_X11_drop_17 (h0 : Nat) (K : Mm → Prop) : Nat → Int32 → Int32 → Mm → Prop
  | 0, _, _, _ => False
  | n + 1, l1, l3, M => mK M h0 = 12 ∧ ∃ a2, (mR M 748 h0) = some a2 ∧ isA M a2 1 ∧ vp_in l1 (aN M a2) ∧ (((((6 : Int32) * l1) + (aI M a2 (l1).toNatClampNeg)) ≤ l3 → (K M)) ∧ (¬ (((6 : Int32) * l1) + (aI M a2 (l1).toNatClampNeg)) ≤ l3 → ∃ a6, (mR M 749 h0) = some a6 ∧ isA M a6 2 ∧ vp_in (l3 + (1 : Int32)) (aN M a6) ∧ vp_in l3 (aN M a6) ∧ ∃ a11, (mR (tJ M a6 (l3).toNatClampNeg (aJ M a6 ((l3 + (1 : Int32))).toNatClampNeg)) 750 h0) = some a11 ∧ isA (tJ M a6 (l3).toNatClampNeg (aJ M a6 ((l3 + (1 : Int32))).toNatClampNeg)) a11 1 ∧ vp_in (l3 + (1 : Int32)) (aN (tJ M a6 (l3).toNatClampNeg (aJ M a6 ((l3 + (1 : Int32))).toNatClampNeg)) a11) ∧ vp_in l3 (aN (tJ M a6 (l3).toNatClampNeg (aJ M a6 ((l3 + (1 : Int32))).toNatClampNeg)) a11) ∧ ∃ a16, (mR (tI (tJ M a6 (l3).toNatClampNeg (aJ M a6 ((l3 + (1 : Int32))).toNatClampNeg)) a11 (l3).toNatClampNeg (aI (tJ M a6 (l3).toNatClampNeg (aJ M a6 ((l3 + (1 : Int32))).toNatClampNeg)) a11 ((l3 + (1 : Int32))).toNatClampNeg)) 751 h0) = some a16 ∧ isA (tI (tJ M a6 (l3).toNatClampNeg (aJ M a6 ((l3 + (1 : Int32))).toNatClampNeg)) a11 (l3).toNatClampNeg (aI (tJ M a6 (l3).toNatClampNeg (aJ M a6 ((l3 + (1 : Int32))).toNatClampNeg)) a11 ((l3 + (1 : Int32))).toNatClampNeg)) a16 1 ∧ vp_in (l3 + (1 : Int32)) (aN (tI (tJ M a6 (l3).toNatClampNeg (aJ M a6 ((l3 + (1 : Int32))).toNatClampNeg)) a11 (l3).toNatClampNeg (aI (tJ M a6 (l3).toNatClampNeg (aJ M a6 ((l3 + (1 : Int32))).toNatClampNeg)) a11 ((l3 + (1 : Int32))).toNatClampNeg)) a16) ∧ vp_in l3 (aN (tI (tJ M a6 (l3).toNatClampNeg (aJ M a6 ((l3 + (1 : Int32))).toNatClampNeg)) a11 (l3).toNatClampNeg (aI (tJ M a6 (l3).toNatClampNeg (aJ M a6 ((l3 + (1 : Int32))).toNatClampNeg)) a11 ((l3 + (1 : Int32))).toNatClampNeg)) a16) ∧ ((lp_X11_drop_17 h0 K n) l1 (l3 + 1) (tI (tI (tJ M a6 (l3).toNatClampNeg (aJ M a6 ((l3 + (1 : Int32))).toNatClampNeg)) a11 (l3).toNatClampNeg (aI (tJ M a6 (l3).toNatClampNeg (aJ M a6 ((l3 + (1 : Int32))).toNatClampNeg)) a11 ((l3 + (1 : Int32))).toNatClampNeg)) a16 (l3).toNatClampNeg (aI (tI (tJ M a6 (l3).toNatClampNeg (aJ M a6 ((l3 + (1 : Int32))).toNatClampNeg)) a11 (l3).toNatClampNeg (aI (tJ M a6 (l3).toNatClampNeg (aJ M a6 ((l3 + (1 : Int32))).toNatClampNeg)) a11 ((l3 + (1 : Int32))).toNatClampNeg)) a16 ((l3 + (1 : Int32))).toNatClampNeg)))))
set_option maxRecDepth 100000 in
set_option maxHeartbeats 4000000 in
theorem zl_X11_drop_17 {X : Cx} {h0 : Nat} {K : Mm → Prop} (hX : Ok X cX11_drop RX11 rm_X11_drop) (hQ : Rq X rm_X11_drop none (QV K)) (hnL : X.2.2.2.2.2.2.2.2.2.2.2.2.2.2 = 4) : ∀ (n : Nat) (l1 : Int32) (l3 : Int32) (M : Mm), lp_X11_drop_17 h0 K n l1 l3 M → Z X M 0 0 17 [(0, va_rf (some h0)), (1, .int l1), (3, .int l3)] [] := by
  intro n
  induction n with
  | zero =>
    intro l1 l3 M h
    exact False.elim h
  | succ n hR17 =>
    intro l1 l3 M h
    refine z_iload_n hX dX11_drop_17 rfl 2 rfl ?_
    refine z_bipush (v := (6 : Int32)) hX dX11_drop_18 (by decide) ?_
    refine z_iload_n hX dX11_drop_20 rfl 1 rfl ?_
    refine z_imul hX dX11_drop_21 ?_
    refine z_aload_n (r := (some h0)) hX dX11_drop_22 rfl 0 rfl ?_
    obtain ⟨hk1, h⟩ := h
    refine gf_RX11_96 (r := (some h0)) hX dX11_drop_23 rfl hk1 ?_
    refine z_iload_n hX dX11_drop_26 rfl 1 rfl ?_
    obtain ⟨a2, ha3, h⟩ := h
    obtain ⟨hk4, h⟩ := h
    obtain ⟨hc5, h⟩ := h
    refine y_iald (r := (mR M 748 h0)) hX dX11_drop_27 ha3 hk4 hc5 ?_
    refine z_iadd hX dX11_drop_28 ?_
    obtain ⟨h1, h2⟩ := h
    refine z_icmp_ge (tgt := 80) hX dX11_drop_29 (by decide) (fun hc => ?_) (fun hc => ?_)
    · have h := h1 hc
      exact z_vret hX hQ dX11_drop_80 h
    · have h := h2 hc
      refine z_aload_n (r := (some h0)) hX dX11_drop_32 rfl 0 rfl ?_
      refine gf_RX11_99 (r := (some h0)) hX dX11_drop_33 rfl hk1 ?_
      refine z_iload_n hX dX11_drop_36 rfl 2 rfl ?_
      refine z_aload_n (r := (some h0)) hX dX11_drop_37 rfl 0 rfl ?_
      refine gf_RX11_99 (r := (some h0)) hX dX11_drop_38 rfl hk1 ?_
      refine z_iload_n hX dX11_drop_41 rfl 2 rfl ?_
      refine z_iconst (v := (1 : Int32)) hX dX11_drop_42 (by decide) ?_
      refine z_iadd hX dX11_drop_43 ?_
      obtain ⟨a6, ha7, h⟩ := h
      obtain ⟨hk8, h⟩ := h
      obtain ⟨hc9, h⟩ := h
      refine y_lald (r := (mR M 749 h0)) hX dX11_drop_44 ha7 hk8 hc9 ?_
      obtain ⟨hc10, h⟩ := h
      refine y_last (r := (mR M 749 h0)) hX dX11_drop_45 ha7 hk8 hc10 ?_
      refine z_aload_n (r := (some h0)) hX dX11_drop_46 rfl 0 rfl ?_
      refine gf_RX11_102 (r := (some h0)) hX dX11_drop_47 rfl hk1 ?_
      refine z_iload_n hX dX11_drop_50 rfl 2 rfl ?_
      refine z_aload_n (r := (some h0)) hX dX11_drop_51 rfl 0 rfl ?_
      refine gf_RX11_102 (r := (some h0)) hX dX11_drop_52 rfl hk1 ?_
      refine z_iload_n hX dX11_drop_55 rfl 2 rfl ?_
      refine z_iconst (v := (1 : Int32)) hX dX11_drop_56 (by decide) ?_
      refine z_iadd hX dX11_drop_57 ?_
      obtain ⟨a11, ha12, h⟩ := h
      obtain ⟨hk13, h⟩ := h
      obtain ⟨hc14, h⟩ := h
      refine y_iald (r := (mR (tJ M a6 (l3).toNatClampNeg (aJ M a6 ((l3 + (1 : Int32))).toNatClampNeg)) 750 h0)) hX dX11_drop_58 ha12 hk13 hc14 ?_
      obtain ⟨hc15, h⟩ := h
      refine y_iast (r := (mR (tJ M a6 (l3).toNatClampNeg (aJ M a6 ((l3 + (1 : Int32))).toNatClampNeg)) 750 h0)) hX dX11_drop_59 ha12 hk13 hc15 ?_
      refine z_aload_n (r := (some h0)) hX dX11_drop_60 rfl 0 rfl ?_
      refine gf_RX11_105 (r := (some h0)) hX dX11_drop_61 rfl hk1 ?_
      refine z_iload_n hX dX11_drop_64 rfl 2 rfl ?_
      refine z_aload_n (r := (some h0)) hX dX11_drop_65 rfl 0 rfl ?_
      refine gf_RX11_105 (r := (some h0)) hX dX11_drop_66 rfl hk1 ?_
      refine z_iload_n hX dX11_drop_69 rfl 2 rfl ?_
      refine z_iconst (v := (1 : Int32)) hX dX11_drop_70 (by decide) ?_
      refine z_iadd hX dX11_drop_71 ?_
      obtain ⟨a16, ha17, h⟩ := h
      obtain ⟨hk18, h⟩ := h
      obtain ⟨hc19, h⟩ := h
      refine y_iald (r := (mR (tI (tJ M a6 (l3).toNatClampNeg (aJ M a6 ((l3 + (1 : Int32))).toNatClampNeg)) a11 (l3).toNatClampNeg (aI (tJ M a6 (l3).toNatClampNeg (aJ M a6 ((l3 + (1 : Int32))).toNatClampNeg)) a11 ((l3 + (1 : Int32))).toNatClampNeg)) 751 h0)) hX dX11_drop_72 ha17 hk18 hc19 ?_
      obtain ⟨hc20, h⟩ := h
      refine y_iast (r := (mR (tI (tJ M a6 (l3).toNatClampNeg (aJ M a6 ((l3 + (1 : Int32))).toNatClampNeg)) a11 (l3).toNatClampNeg (aI (tJ M a6 (l3).toNatClampNeg (aJ M a6 ((l3 + (1 : Int32))).toNatClampNeg)) a11 ((l3 + (1 : Int32))).toNatClampNeg)) 751 h0)) hX dX11_drop_73 ha17 hk18 hc20 ?_
      refine z_iinc (v := (l3 + 1)) hX [(3, .int (l3 + 1)), (0, va_rf (some h0)), (1, .int l1)] dX11_drop_74 2 rfl rfl (by rw [hnL]; decide) rfl ?_
      refine z_goto (tgt := 17) hX dX11_drop_77 (by decide) ?_
      refine z_loc [1, 2, 0] rfl ?_
      exact hR17 _ _ _ h
def wp_X11_drop (M : Mm) (h0 : Nat) (p1 : Int32) (p2 : Int32) (K : Mm → Prop) : Prop := mK M h0 = 12 ∧ ∃ a22, (mR M 748 h0) = some a22 ∧ isA M a22 1 ∧ vp_in p1 (aN M a22) ∧ vp_in p1 (aN M a22) ∧ (∃ kk, lp_X11_drop_17 h0 K kk p1 (((6 : Int32) * p1) + p2) (tI M a22 (p1).toNatClampNeg ((aI M a22 (p1).toNatClampNeg) - (1 : Int32))))
set_option maxRecDepth 100000 in
set_option maxHeartbeats 4000000 in
theorem ct_X11_drop {M : Mm} {h0 : Nat} {p1 : Int32} {p2 : Int32} {K : Mm → Prop} (h : wp_X11_drop M h0 p1 p2 K) : CtV yX11_drop cX11_drop 4 none rm_X11_drop [.ref h0, .int p1, .int p2] M K := by
  refine ct_any (QV K) (by decide) (by exact Nat.le_of_ble_eq_true rfl) (fun X hX hQ hnL hnm => ?_)
  rw [show lv_args 0 [.ref h0, .int p1, .int p2] = [(0, va_rf (some h0)), (1, .int p1), (2, .int p2)] by rfl]
  have hX : Ok X cX11_drop RX11 rm_X11_drop := hX
  unfold wp_X11_drop at h
  refine z_aload_n (r := (some h0)) hX dX11_drop_0 rfl 0 rfl ?_
  obtain ⟨hk21, h⟩ := h
  refine gf_RX11_96 (r := (some h0)) hX dX11_drop_1 rfl hk21 ?_
  refine z_iload_n hX dX11_drop_4 rfl 1 rfl ?_
  refine z_dup2_11 hX dX11_drop_5 rfl (cat_rf _) ?_
  obtain ⟨a22, ha23, h⟩ := h
  obtain ⟨hk24, h⟩ := h
  obtain ⟨hc25, h⟩ := h
  refine y_iald (r := (mR M 748 h0)) hX dX11_drop_6 ha23 hk24 hc25 ?_
  refine z_iconst (v := (1 : Int32)) hX dX11_drop_7 (by decide) ?_
  refine z_isub hX dX11_drop_8 ?_
  obtain ⟨hc26, h⟩ := h
  refine y_iast (r := (mR M 748 h0)) hX dX11_drop_9 ha23 hk24 hc26 ?_
  refine z_bipush (v := (6 : Int32)) hX dX11_drop_10 (by decide) ?_
  refine z_iload_n hX dX11_drop_12 rfl 1 rfl ?_
  refine z_imul hX dX11_drop_13 ?_
  refine z_iload_n hX dX11_drop_14 rfl 2 rfl ?_
  refine z_iadd hX dX11_drop_15 ?_
  refine z_istore_n hX [(3, .int (((6 : Int32) * p1) + p2)), (0, va_rf (some h0)), (1, .int p1), (2, .int p2)] dX11_drop_16 rfl (by rw [hnL]; decide) rfl ?_
  refine z_loc [1, 2, 0] rfl ?_
  obtain ⟨n, h⟩ := h
  exact zl_X11_drop_17 hX hQ hnL n _ _ _ h
def rm_X11_least : Room := { frames := 0, cells := 0, slots := 0, locals := 0 }
def bk_X11_least_25 (h0 : Nat) (K : Mm → Prop) (s0 : Int64) (s1 : Option Nat) (M : Mm) : Prop := ∃ a1, s1 = some a1 ∧ mK M a1 = 12 ∧ mK (sJ M 757 a1 s0) h0 = 12 ∧ (K (sI (sJ M 757 a1 s0) 756 h0 (1 : Int32)))
set_option maxRecDepth 100000 in
set_option maxHeartbeats 4000000 in
theorem zb_X11_least_25 {X : Cx} {h0 : Nat} {K : Mm → Prop} (hX : Ok X cX11_least RX11 rm_X11_least) (hQ : Rq X rm_X11_least none (QV K)) (hnL : X.2.2.2.2.2.2.2.2.2.2.2.2.2.2 = 3) {s0 : Int64} {s1 : Option Nat} {M : Mm} (h : bk_X11_least_25 h0 K s0 s1 M) : Z X M 0 0 25 [(0, va_rf (some h0))] [.long s0, va_rf s1] := by
  unfold bk_X11_least_25 at h
  obtain ⟨a1, ha2, h⟩ := h
  obtain ⟨hk3, h⟩ := h
  refine pf_RX11_350 (r := s1) (v := s0) hX dX11_least_25 ha2 hk3 ?_
  refine z_aload_n (r := (some h0)) hX dX11_least_28 rfl 0 rfl ?_
  refine z_iconst (v := (1 : Int32)) hX dX11_least_29 (by decide) ?_
  obtain ⟨hk5, h⟩ := h
  refine pf_RX11_347 (r := (some h0)) (v := (1 : Int32)) hX dX11_least_30 rfl (Or.inr rfl) hk5 ?_
  exact z_vret hX hQ dX11_least_33 h
def bk_X11_least_17 (h0 : Nat) (K : Mm → Prop) (l1 : Int64) (s0 : Option Nat) (M : Mm) : Prop := (bk_X11_least_25 h0 K l1 s0 M)
set_option maxRecDepth 100000 in
set_option maxHeartbeats 4000000 in
theorem zb_X11_least_17 {X : Cx} {h0 : Nat} {K : Mm → Prop} (hX : Ok X cX11_least RX11 rm_X11_least) (hQ : Rq X rm_X11_least none (QV K)) (hnL : X.2.2.2.2.2.2.2.2.2.2.2.2.2.2 = 3) {l1 : Int64} {s0 : Option Nat} {M : Mm} (h : bk_X11_least_17 h0 K l1 s0 M) : Z X M 0 0 17 [(0, va_rf (some h0)), (1, .long l1)] [va_rf s0] := by
  unfold bk_X11_least_17 at h
  refine z_lload_n hX dX11_least_17 rfl 1 rfl ?_
  refine z_goto (tgt := 25) hX dX11_least_18 (by decide) ?_
  refine z_loc [0] rfl ?_
  exact zb_X11_least_25 hX hQ hnL h
def wp_X11_least (M : Mm) (h0 : Nat) (p1 : Int64) (K : Mm → Prop) : Prop := mK M h0 = 12 ∧ (((mI M 756 h0) = 0 → (bk_X11_least_17 h0 K p1 (some h0) M)) ∧ (¬ (mI M 756 h0) = 0 → (((mJ M 757 h0) ≤ p1 → (bk_X11_least_25 h0 K (mJ M 757 h0) (some h0) M)) ∧ (¬ (mJ M 757 h0) ≤ p1 → (bk_X11_least_17 h0 K p1 (some h0) M)))))
set_option maxRecDepth 100000 in
set_option maxHeartbeats 4000000 in
theorem ct_X11_least {M : Mm} {h0 : Nat} {p1 : Int64} {K : Mm → Prop} (h : wp_X11_least M h0 p1 K) : CtV yX11_least cX11_least 3 none rm_X11_least [.ref h0, .long p1] M K := by
  refine ct_any (QV K) (by decide) (by exact Nat.le_of_ble_eq_true rfl) (fun X hX hQ hnL hnm => ?_)
  rw [show lv_args 0 [.ref h0, .long p1] = [(0, va_rf (some h0)), (1, .long p1)] by rfl]
  have hX : Ok X cX11_least RX11 rm_X11_least := hX
  unfold wp_X11_least at h
  refine z_aload_n (r := (some h0)) hX dX11_least_0 rfl 0 rfl ?_
  refine z_aload_n (r := (some h0)) hX dX11_least_1 rfl 0 rfl ?_
  obtain ⟨hk7, h⟩ := h
  refine gf_RX11_347 (r := (some h0)) hX dX11_least_2 rfl hk7 ?_
  obtain ⟨h1, h2⟩ := h
  refine z_if_eq (tgt := 17) hX dX11_least_5 (by decide) (fun hc => ?_) (fun hc => ?_)
  · have h := h1 hc
    exact zb_X11_least_17 hX hQ hnL h
  · have h := h2 hc
    refine z_lload_n hX dX11_least_8 rfl 1 rfl ?_
    refine z_aload_n (r := (some h0)) hX dX11_least_9 rfl 0 rfl ?_
    refine gf_RX11_350 (r := (some h0)) hX dX11_least_10 rfl hk7 ?_
    refine z_lcmp hX dX11_least_13 ?_
    obtain ⟨h1, h2⟩ := h
    refine z_if_ge (tgt := 21) hX dX11_least_14 (by decide) (fun hc => ?_) (fun hc => ?_)
    · have h := h1 ((lg_cmp_ge _ _).mp hc)
      refine z_aload_n (r := (some h0)) hX dX11_least_21 rfl 0 rfl ?_
      refine gf_RX11_350 (r := (some h0)) hX dX11_least_22 rfl hk7 ?_
      refine z_loc [0] rfl ?_
      exact zb_X11_least_25 hX hQ hnL h
    · have h := h2 (fun q => hc ((lg_cmp_ge _ _).mpr q))
      exact zb_X11_least_17 hX hQ hnL h
def rm_X11_sourceGoal : Room := { frames := 1, cells := 0, slots := 0, locals := 22 }
def bk_X11_sourceGoal_83 (h0 : Nat) (K : Mm → Prop) (M : Mm) : Prop := (K M)
set_option maxRecDepth 100000 in
set_option maxHeartbeats 4000000 in
theorem zb_X11_sourceGoal_83 {X : Cx} {h0 : Nat} {K : Mm → Prop} (hX : Ok X cX11_sourceGoal RX11 rm_X11_sourceGoal) (hQ : Rq X rm_X11_sourceGoal none (QV K)) (hnL : X.2.2.2.2.2.2.2.2.2.2.2.2.2.2 = 4) {M : Mm} (h : bk_X11_sourceGoal_83 h0 K M) : Z X M 0 0 83 [] [] := by
  unfold bk_X11_sourceGoal_83 at h
  exact z_vret hX hQ dX11_sourceGoal_83 h
def bk_X11_sourceGoal_66 (h0 : Nat) (R4 : Int32 → Int32 → Int32 → Mm → Prop) (K : Mm → Prop) (l1 : Int32) (l2 : Int32) (l3 : Int32) (M : Mm) : Prop := (R4 l1 l2 (l3 + 1) M)
set_option maxRecDepth 100000 in
set_option maxHeartbeats 4000000 in
theorem zb_X11_sourceGoal_66 {X : Cx} {h0 : Nat} {R4 : Int32 → Int32 → Int32 → Mm → Prop} {K : Mm → Prop} (hX : Ok X cX11_sourceGoal RX11 rm_X11_sourceGoal) (hQ : Rq X rm_X11_sourceGoal none (QV K)) (hnL : X.2.2.2.2.2.2.2.2.2.2.2.2.2.2 = 4) (hR4 : ∀ l1 l2 l3 M, R4 l1 l2 l3 M → Z X M 0 0 4 [(0, va_rf (some h0)), (1, .int l1), (2, .int l2), (3, .int l3)] []) {l1 : Int32} {l2 : Int32} {l3 : Int32} {M : Mm} (h : bk_X11_sourceGoal_66 h0 R4 K l1 l2 l3 M) : Z X M 0 0 66 [(0, va_rf (some h0)), (1, .int l1), (2, .int l2), (3, .int l3)] [] := by
  unfold bk_X11_sourceGoal_66 at h
  refine z_iinc (v := (l3 + 1)) hX [(3, .int (l3 + 1)), (0, va_rf (some h0)), (1, .int l1), (2, .int l2)] dX11_sourceGoal_66 3 rfl rfl (by rw [hnL]; decide) rfl ?_
  refine z_goto (tgt := 4) hX dX11_sourceGoal_69 (by decide) ?_
  refine z_loc [1, 2, 3, 0] rfl ?_
  exact hR4 _ _ _ _ h
def bk_X11_sourceGoal_37 (h0 : Nat) (R4 : Int32 → Int32 → Int32 → Mm → Prop) (K : Mm → Prop) (l1 : Int32) (l3 : Int32) (s0 : Int32) (s1 : Int32) (M : Mm) : Prop := mK M h0 = 12 ∧ ∃ a2, (mR M 735 h0) = some a2 ∧ isA M a2 1 ∧ vp_in (((4 : Int32) * l1) + l3) (aN M a2) ∧ ((¬ (aI M a2 ((((4 : Int32) * l1) + l3)).toNatClampNeg) = 0 → (bk_X11_sourceGoal_66 h0 R4 K l1 (s1 &&& s0) l3 M)) ∧ ((aI M a2 ((((4 : Int32) * l1) + l3)).toNatClampNeg) = 0 → ∃ a6, (mR M 736 h0) = some a6 ∧ isA M a6 2 ∧ vp_in (((4 : Int32) * l1) + l3) (aN M a6) ∧ (wp_X11_least M h0 (aJ M a6 ((((4 : Int32) * l1) + l3)).toNatClampNeg) (fun M11 => (bk_X11_sourceGoal_66 h0 R4 K l1 (s1 &&& s0) l3 M11)))))
set_option maxRecDepth 100000 in
set_option maxHeartbeats 4000000 in
theorem zb_X11_sourceGoal_37 {X : Cx} {h0 : Nat} {R4 : Int32 → Int32 → Int32 → Mm → Prop} {K : Mm → Prop} (hX : Ok X cX11_sourceGoal RX11 rm_X11_sourceGoal) (hQ : Rq X rm_X11_sourceGoal none (QV K)) (hnL : X.2.2.2.2.2.2.2.2.2.2.2.2.2.2 = 4) (hR4 : ∀ l1 l2 l3 M, R4 l1 l2 l3 M → Z X M 0 0 4 [(0, va_rf (some h0)), (1, .int l1), (2, .int l2), (3, .int l3)] []) {l1 : Int32} {l3 : Int32} {s0 : Int32} {s1 : Int32} {M : Mm} (h : bk_X11_sourceGoal_37 h0 R4 K l1 l3 s0 s1 M) : Z X M 0 0 37 [(0, va_rf (some h0)), (1, .int l1), (3, .int l3)] [.int s0, .int s1] := by
  unfold bk_X11_sourceGoal_37 at h
  refine z_iand hX dX11_sourceGoal_37 ?_
  refine z_istore_n hX [(2, .int (s1 &&& s0)), (0, va_rf (some h0)), (1, .int l1), (3, .int l3)] dX11_sourceGoal_38 rfl (by rw [hnL]; decide) rfl ?_
  refine z_aload_n (r := (some h0)) hX dX11_sourceGoal_39 rfl 1 rfl ?_
  obtain ⟨hk1, h⟩ := h
  refine gf_RX11_69 (r := (some h0)) hX dX11_sourceGoal_40 rfl hk1 ?_
  refine z_iconst (v := (4 : Int32)) hX dX11_sourceGoal_43 (by decide) ?_
  refine z_iload_n hX dX11_sourceGoal_44 rfl 2 rfl ?_
  refine z_imul hX dX11_sourceGoal_45 ?_
  refine z_iload_n hX dX11_sourceGoal_46 rfl 3 rfl ?_
  refine z_iadd hX dX11_sourceGoal_47 ?_
  obtain ⟨a2, ha3, h⟩ := h
  obtain ⟨hk4, h⟩ := h
  obtain ⟨hc5, h⟩ := h
  refine y_iald (r := (mR M 735 h0)) hX dX11_sourceGoal_48 ha3 hk4 hc5 ?_
  obtain ⟨h1, h2⟩ := h
  refine z_if_ne (tgt := 66) hX dX11_sourceGoal_49 (by decide) (fun hc => ?_) (fun hc => ?_)
  · have h := h1 hc
    refine z_loc [1, 2, 0, 3] rfl ?_
    exact zb_X11_sourceGoal_66 hX hQ hnL hR4 h
  · have h := h2 hc
    refine z_aload_n (r := (some h0)) hX dX11_sourceGoal_52 rfl 1 rfl ?_
    refine z_aload_n (r := (some h0)) hX dX11_sourceGoal_53 rfl 1 rfl ?_
    refine gf_RX11_72 (r := (some h0)) hX dX11_sourceGoal_54 rfl hk1 ?_
    refine z_iconst (v := (4 : Int32)) hX dX11_sourceGoal_57 (by decide) ?_
    refine z_iload_n hX dX11_sourceGoal_58 rfl 2 rfl ?_
    refine z_imul hX dX11_sourceGoal_59 ?_
    refine z_iload_n hX dX11_sourceGoal_60 rfl 3 rfl ?_
    refine z_iadd hX dX11_sourceGoal_61 ?_
    obtain ⟨a6, ha7, h⟩ := h
    obtain ⟨hk8, h⟩ := h
    obtain ⟨hc9, h⟩ := h
    refine y_lald (r := (mR M 736 h0)) hX dX11_sourceGoal_62 ha7 hk8 hc9 ?_
    refine z_callVV (As := [.long (aJ M a6 ((((4 : Int32) * l1) + l3)).toNatClampNeg)]) (rest := []) (ci := 11) hX (ct_X11_least h) mw_RX11_356 rfl (by decide) rfl (by rfl) (by unfold RoomC; decide) (by decide) dX11_sourceGoal_63 hk1 (fun M11 h => ?_)
    refine z_loc [1, 2, 0, 3] rfl ?_
    exact zb_X11_sourceGoal_66 hX hQ hnL hR4 h
def lp_X11_sourceGoal_4 (h0 : Nat) (K : Mm → Prop) : Nat → Int32 → Int32 → Int32 → Mm → Prop
  | 0, _, _, _, _ => False
  | n + 1, l1, l2, l3, M => mK M h0 = 12 ∧ ∃ a14, (mR M 718 h0) = some a14 ∧ isA M a14 1 ∧ vp_in ((12 : Int32) + l1) (aN M a14) ∧ (((aI M a14 (((12 : Int32) + l1)).toNatClampNeg) ≤ l3 → ((l2 = 0 → (bk_X11_sourceGoal_83 h0 K M)) ∧ (¬ l2 = 0 → (wp_X11_least M h0 (9000000000000000000 : Int64) (fun M19 => (bk_X11_sourceGoal_83 h0 K M19)))))) ∧ (¬ (aI M a14 (((12 : Int32) + l1)).toNatClampNeg) ≤ l3 → ∃ a21, (mR M 735 h0) = some a21 ∧ isA M a21 1 ∧ vp_in (((4 : Int32) * l1) + l3) (aN M a21) ∧ ((¬ (aI M a21 ((((4 : Int32) * l1) + l3)).toNatClampNeg) = (2 : Int32) → (bk_X11_sourceGoal_37 h0 (lp_X11_sourceGoal_4 h0 K n) K l1 l3 (0 : Int32) l2 M)) ∧ ((aI M a21 ((((4 : Int32) * l1) + l3)).toNatClampNeg) = (2 : Int32) → (bk_X11_sourceGoal_37 h0 (lp_X11_sourceGoal_4 h0 K n) K l1 l3 (1 : Int32) l2 M)))))
set_option maxRecDepth 100000 in
set_option maxHeartbeats 4000000 in
theorem zl_X11_sourceGoal_4 {X : Cx} {h0 : Nat} {K : Mm → Prop} (hX : Ok X cX11_sourceGoal RX11 rm_X11_sourceGoal) (hQ : Rq X rm_X11_sourceGoal none (QV K)) (hnL : X.2.2.2.2.2.2.2.2.2.2.2.2.2.2 = 4) : ∀ (n : Nat) (l1 : Int32) (l2 : Int32) (l3 : Int32) (M : Mm), lp_X11_sourceGoal_4 h0 K n l1 l2 l3 M → Z X M 0 0 4 [(0, va_rf (some h0)), (1, .int l1), (2, .int l2), (3, .int l3)] [] := by
  intro n
  induction n with
  | zero =>
    intro l1 l2 l3 M h
    exact False.elim h
  | succ n hR4 =>
    intro l1 l2 l3 M h
    refine z_iload_n hX dX11_sourceGoal_4 rfl 3 rfl ?_
    refine z_aload_n (r := (some h0)) hX dX11_sourceGoal_5 rfl 0 rfl ?_
    obtain ⟨hk13, h⟩ := h
    refine gf_RX11_26 (r := (some h0)) hX dX11_sourceGoal_6 rfl hk13 ?_
    refine z_bipush (v := (12 : Int32)) hX dX11_sourceGoal_9 (by decide) ?_
    refine z_iload_n hX dX11_sourceGoal_11 rfl 1 rfl ?_
    refine z_iadd hX dX11_sourceGoal_12 ?_
    obtain ⟨a14, ha15, h⟩ := h
    obtain ⟨hk16, h⟩ := h
    obtain ⟨hc17, h⟩ := h
    refine y_iald (r := (mR M 718 h0)) hX dX11_sourceGoal_13 ha15 hk16 hc17 ?_
    obtain ⟨h1, h2⟩ := h
    refine z_icmp_ge (tgt := 72) hX dX11_sourceGoal_14 (by decide) (fun hc => ?_) (fun hc => ?_)
    · have h := h1 hc
      refine z_iload_n hX dX11_sourceGoal_72 rfl 2 rfl ?_
      obtain ⟨h1, h2⟩ := h
      refine z_if_eq (tgt := 83) hX dX11_sourceGoal_73 (by decide) (fun hc => ?_) (fun hc => ?_)
      · have h := h1 hc
        refine z_loc [] rfl ?_
        exact zb_X11_sourceGoal_83 hX hQ hnL h
      · have h := h2 hc
        refine z_aload_n (r := (some h0)) hX dX11_sourceGoal_76 rfl 0 rfl ?_
        refine z_ldc2 (v := (9000000000000000000 : Int64)) hX dX11_sourceGoal_77 kj_RX11_298 ?_
        refine z_callVV (As := [.long (9000000000000000000 : Int64)]) (rest := []) (ci := 11) hX (ct_X11_least h) mw_RX11_356 rfl (by decide) rfl (by rfl) (by unfold RoomC; decide) (by decide) dX11_sourceGoal_80 hk13 (fun M19 h => ?_)
        refine z_loc [] rfl ?_
        exact zb_X11_sourceGoal_83 hX hQ hnL h
    · have h := h2 hc
      refine z_iload_n hX dX11_sourceGoal_17 rfl 2 rfl ?_
      refine z_aload_n (r := (some h0)) hX dX11_sourceGoal_18 rfl 0 rfl ?_
      refine gf_RX11_69 (r := (some h0)) hX dX11_sourceGoal_19 rfl hk13 ?_
      refine z_iconst (v := (4 : Int32)) hX dX11_sourceGoal_22 (by decide) ?_
      refine z_iload_n hX dX11_sourceGoal_23 rfl 1 rfl ?_
      refine z_imul hX dX11_sourceGoal_24 ?_
      refine z_iload_n hX dX11_sourceGoal_25 rfl 3 rfl ?_
      refine z_iadd hX dX11_sourceGoal_26 ?_
      obtain ⟨a21, ha22, h⟩ := h
      obtain ⟨hk23, h⟩ := h
      obtain ⟨hc24, h⟩ := h
      refine y_iald (r := (mR M 735 h0)) hX dX11_sourceGoal_27 ha22 hk23 hc24 ?_
      refine z_iconst (v := (2 : Int32)) hX dX11_sourceGoal_28 (by decide) ?_
      obtain ⟨h1, h2⟩ := h
      refine z_icmp_ne (tgt := 36) hX dX11_sourceGoal_29 (by decide) (fun hc => ?_) (fun hc => ?_)
      · have h := h1 hc
        refine z_iconst (v := (0 : Int32)) hX dX11_sourceGoal_36 (by decide) ?_
        refine z_loc [0, 1, 3] rfl ?_
        exact zb_X11_sourceGoal_37 hX hQ hnL hR4 h
      · have h := h2 hc
        refine z_iconst (v := (1 : Int32)) hX dX11_sourceGoal_32 (by decide) ?_
        refine z_goto (tgt := 37) hX dX11_sourceGoal_33 (by decide) ?_
        refine z_loc [0, 1, 3] rfl ?_
        exact zb_X11_sourceGoal_37 hX hQ hnL hR4 h
def wp_X11_sourceGoal (M : Mm) (h0 : Nat) (p1 : Int32) (K : Mm → Prop) : Prop := (∃ kk, lp_X11_sourceGoal_4 h0 K kk p1 (1 : Int32) (0 : Int32) M)
set_option maxRecDepth 100000 in
set_option maxHeartbeats 4000000 in
theorem ct_X11_sourceGoal {M : Mm} {h0 : Nat} {p1 : Int32} {K : Mm → Prop} (h : wp_X11_sourceGoal M h0 p1 K) : CtV yX11_sourceGoal cX11_sourceGoal 4 none rm_X11_sourceGoal [.ref h0, .int p1] M K := by
  refine ct_any (QV K) (by decide) (by exact Nat.le_of_ble_eq_true rfl) (fun X hX hQ hnL hnm => ?_)
  rw [show lv_args 0 [.ref h0, .int p1] = [(0, va_rf (some h0)), (1, .int p1)] by rfl]
  have hX : Ok X cX11_sourceGoal RX11 rm_X11_sourceGoal := hX
  unfold wp_X11_sourceGoal at h
  refine z_iconst (v := (1 : Int32)) hX dX11_sourceGoal_0 (by decide) ?_
  refine z_istore_n hX [(2, .int (1 : Int32)), (0, va_rf (some h0)), (1, .int p1)] dX11_sourceGoal_1 rfl (by rw [hnL]; decide) rfl ?_
  refine z_iconst (v := (0 : Int32)) hX dX11_sourceGoal_2 (by decide) ?_
  refine z_istore_n hX [(3, .int (0 : Int32)), (2, .int (1 : Int32)), (0, va_rf (some h0)), (1, .int p1)] dX11_sourceGoal_3 rfl (by rw [hnL]; decide) rfl ?_
  refine z_loc [2, 3, 1, 0] rfl ?_
  obtain ⟨n, h⟩ := h
  exact zl_X11_sourceGoal_4 hX hQ hnL n _ _ _ _ h
def rm_X11_holdGoal : Room := { frames := 1, cells := 0, slots := 0, locals := 25 }
def bk_X11_holdGoal_115 (h0 : Nat) (K : Mm → Prop) (M : Mm) : Prop := (K M)
set_option maxRecDepth 100000 in
set_option maxHeartbeats 4000000 in
theorem zb_X11_holdGoal_115 {X : Cx} {h0 : Nat} {K : Mm → Prop} (hX : Ok X cX11_holdGoal RX11 rm_X11_holdGoal) (hQ : Rq X rm_X11_holdGoal none (QV K)) (hnL : X.2.2.2.2.2.2.2.2.2.2.2.2.2.2 = 4) {M : Mm} (h : bk_X11_holdGoal_115 h0 K M) : Z X M 0 0 115 [] [] := by
  unfold bk_X11_holdGoal_115 at h
  exact z_vret hX hQ dX11_holdGoal_115 h
def bk_X11_holdGoal_90 (h0 : Nat) (K : Mm → Prop) (s0 : Int64) (s1 : Option Nat) (M : Mm) : Prop := ∃ a3, s1 = some a3 ∧ mK M a3 = 12 ∧ (wp_X11_least M a3 s0 (fun M2 => (bk_X11_holdGoal_115 h0 K M2)))
set_option maxRecDepth 100000 in
set_option maxHeartbeats 4000000 in
theorem zb_X11_holdGoal_90 {X : Cx} {h0 : Nat} {K : Mm → Prop} (hX : Ok X cX11_holdGoal RX11 rm_X11_holdGoal) (hQ : Rq X rm_X11_holdGoal none (QV K)) (hnL : X.2.2.2.2.2.2.2.2.2.2.2.2.2.2 = 4) {s0 : Int64} {s1 : Option Nat} {M : Mm} (h : bk_X11_holdGoal_90 h0 K s0 s1 M) : Z X M 0 0 90 [] [.long s0, va_rf s1] := by
  unfold bk_X11_holdGoal_90 at h
  obtain ⟨a3, ha4, h⟩ := h
  obtain ⟨hk5, h⟩ := h
  refine z_callVV (As := [.long s0]) (rest := []) (ci := 11) hX (ct_X11_least h) mw_RX11_356 rfl (by decide) rfl (by rw [ha4]; rfl) (by unfold RoomC; decide) (by decide) dX11_holdGoal_90 hk5 (fun M2 h => ?_)
  refine z_goto (tgt := 115) hX dX11_holdGoal_93 (by decide) ?_
  exact zb_X11_holdGoal_115 hX hQ hnL h
def bk_X11_holdGoal_52 (h0 : Nat) (R9 : Int32 → Int32 → Int32 → Mm → Prop) (K : Mm → Prop) (l1 : Int32) (l2 : Int32) (l3 : Int32) (M : Mm) : Prop := (R9 l1 l2 (l3 + 1) M)
set_option maxRecDepth 100000 in
set_option maxHeartbeats 4000000 in
theorem zb_X11_holdGoal_52 {X : Cx} {h0 : Nat} {R9 : Int32 → Int32 → Int32 → Mm → Prop} {K : Mm → Prop} (hX : Ok X cX11_holdGoal RX11 rm_X11_holdGoal) (hQ : Rq X rm_X11_holdGoal none (QV K)) (hnL : X.2.2.2.2.2.2.2.2.2.2.2.2.2.2 = 4) (hR9 : ∀ l1 l2 l3 M, R9 l1 l2 l3 M → Z X M 0 0 9 [(0, va_rf (some h0)), (1, .int l1), (2, .int l2), (3, .int l3)] []) {l1 : Int32} {l2 : Int32} {l3 : Int32} {M : Mm} (h : bk_X11_holdGoal_52 h0 R9 K l1 l2 l3 M) : Z X M 0 0 52 [(0, va_rf (some h0)), (1, .int l1), (2, .int l2), (3, .int l3)] [] := by
  unfold bk_X11_holdGoal_52 at h
  refine z_iinc (v := (l3 + 1)) hX [(3, .int (l3 + 1)), (0, va_rf (some h0)), (1, .int l1), (2, .int l2)] dX11_holdGoal_52 3 rfl rfl (by rw [hnL]; decide) rfl ?_
  refine z_goto (tgt := 9) hX dX11_holdGoal_55 (by decide) ?_
  refine z_loc [1, 2, 3, 0] rfl ?_
  exact hR9 _ _ _ _ h
def lp_X11_holdGoal_9 (h0 : Nat) (K : Mm → Prop) : Nat → Int32 → Int32 → Int32 → Mm → Prop
  | 0, _, _, _, _ => False
  | n + 1, l1, l2, l3, M => mK M h0 = 12 ∧ (((mI M 752 h0) ≤ l3 → (((mI M 756 h0) = 0 → ∃ a8, (mR M 734 h0) = some a8 ∧ isA M a8 3 ∧ vp_in l2 (aN M a8) ∧ ((¬ (aI M a8 (l2).toNatClampNeg) = 0 → (bk_X11_holdGoal_115 h0 K M)) ∧ ((aI M a8 (l2).toNatClampNeg) = 0 → ∃ a12, (mR M 733 h0) = some a12 ∧ isA M a12 2 ∧ vp_in l2 (aN M a12) ∧ (wp_X11_least M h0 (aJ M a12 (l2).toNatClampNeg) (fun M17 => (bk_X11_holdGoal_115 h0 K M17)))))) ∧ (¬ (mI M 756 h0) = 0 → ∃ a19, (mR M 734 h0) = some a19 ∧ isA M a19 3 ∧ vp_in l2 (aN M a19) ∧ (((aI M a19 (l2).toNatClampNeg) = 0 → ∃ a23, (mR M 733 h0) = some a23 ∧ isA M a23 2 ∧ vp_in l2 (aN M a23) ∧ (bk_X11_holdGoal_90 h0 K (aJ M a23 (l2).toNatClampNeg) (some h0) M)) ∧ (¬ (aI M a19 (l2).toNatClampNeg) = 0 → ∃ a27, (mR M 733 h0) = some a27 ∧ isA M a27 2 ∧ vp_in l1 (aN M a27) ∧ (bk_X11_holdGoal_90 h0 K (aJ M a27 (l1).toNatClampNeg) (some h0) M)))))) ∧ (¬ (mI M 752 h0) ≤ l3 → ∃ a31, (mR M 755 h0) = some a31 ∧ isA M a31 3 ∧ vp_in l3 (aN M a31) ∧ (((aI M a31 (l3).toNatClampNeg) = 0 → (bk_X11_holdGoal_52 h0 (lp_X11_holdGoal_9 h0 K n) K l1 l2 l3 M)) ∧ (¬ (aI M a31 (l3).toNatClampNeg) = 0 → ∃ a35, (mR M 753 h0) = some a35 ∧ isA M a35 1 ∧ vp_in l3 (aN M a35) ∧ ((¬ (aI M a35 (l3).toNatClampNeg) = l1 → (bk_X11_holdGoal_52 h0 (lp_X11_holdGoal_9 h0 K n) K l1 l2 l3 M)) ∧ ((aI M a35 (l3).toNatClampNeg) = l1 → ∃ a39, (mR M 754 h0) = some a39 ∧ isA M a39 2 ∧ vp_in l3 (aN M a39) ∧ (wp_X11_plus M (aJ M a39 (l3).toNatClampNeg) (-1 : Int64) (fun r43 M44 => mK M44 h0 = 12 ∧ (wp_X11_least M44 h0 r43 (fun M47 => (bk_X11_holdGoal_52 h0 (lp_X11_holdGoal_9 h0 K n) K l1 l2 l3 M47)))))))))))
set_option maxRecDepth 100000 in
set_option maxHeartbeats 4000000 in
theorem zl_X11_holdGoal_9 {X : Cx} {h0 : Nat} {K : Mm → Prop} (hX : Ok X cX11_holdGoal RX11 rm_X11_holdGoal) (hQ : Rq X rm_X11_holdGoal none (QV K)) (hnL : X.2.2.2.2.2.2.2.2.2.2.2.2.2.2 = 4) : ∀ (n : Nat) (l1 : Int32) (l2 : Int32) (l3 : Int32) (M : Mm), lp_X11_holdGoal_9 h0 K n l1 l2 l3 M → Z X M 0 0 9 [(0, va_rf (some h0)), (1, .int l1), (2, .int l2), (3, .int l3)] [] := by
  intro n
  induction n with
  | zero =>
    intro l1 l2 l3 M h
    exact False.elim h
  | succ n hR9 =>
    intro l1 l2 l3 M h
    refine z_iload_n hX dX11_holdGoal_9 rfl 3 rfl ?_
    refine z_aload_n (r := (some h0)) hX dX11_holdGoal_10 rfl 0 rfl ?_
    obtain ⟨hk7, h⟩ := h
    refine gf_RX11_295 (r := (some h0)) hX dX11_holdGoal_11 rfl hk7 ?_
    obtain ⟨h1, h2⟩ := h
    refine z_icmp_ge (tgt := 58) hX dX11_holdGoal_14 (by decide) (fun hc => ?_) (fun hc => ?_)
    · have h := h1 hc
      refine z_aload_n (r := (some h0)) hX dX11_holdGoal_58 rfl 0 rfl ?_
      refine gf_RX11_347 (r := (some h0)) hX dX11_holdGoal_59 rfl hk7 ?_
      obtain ⟨h1, h2⟩ := h
      refine z_if_eq (tgt := 96) hX dX11_holdGoal_62 (by decide) (fun hc => ?_) (fun hc => ?_)
      · have h := h1 hc
        refine z_aload_n (r := (some h0)) hX dX11_holdGoal_96 rfl 0 rfl ?_
        refine gf_RX11_66 (r := (some h0)) hX dX11_holdGoal_97 rfl hk7 ?_
        refine z_iload_n hX dX11_holdGoal_100 rfl 2 rfl ?_
        obtain ⟨a8, ha9, h⟩ := h
        obtain ⟨hk10, h⟩ := h
        obtain ⟨hc11, h⟩ := h
        refine y_zald (r := (mR M 734 h0)) hX dX11_holdGoal_101 ha9 hk10 hc11 ?_
        obtain ⟨h1, h2⟩ := h
        refine z_if_ne (tgt := 115) hX dX11_holdGoal_102 (by decide) (fun hc => ?_) (fun hc => ?_)
        · have h := h1 hc
          refine z_loc [] rfl ?_
          exact zb_X11_holdGoal_115 hX hQ hnL h
        · have h := h2 hc
          refine z_aload_n (r := (some h0)) hX dX11_holdGoal_105 rfl 0 rfl ?_
          refine z_aload_n (r := (some h0)) hX dX11_holdGoal_106 rfl 0 rfl ?_
          refine gf_RX11_63 (r := (some h0)) hX dX11_holdGoal_107 rfl hk7 ?_
          refine z_iload_n hX dX11_holdGoal_110 rfl 2 rfl ?_
          obtain ⟨a12, ha13, h⟩ := h
          obtain ⟨hk14, h⟩ := h
          obtain ⟨hc15, h⟩ := h
          refine y_lald (r := (mR M 733 h0)) hX dX11_holdGoal_111 ha13 hk14 hc15 ?_
          refine z_callVV (As := [.long (aJ M a12 (l2).toNatClampNeg)]) (rest := []) (ci := 11) hX (ct_X11_least h) mw_RX11_356 rfl (by decide) rfl (by rfl) (by unfold RoomC; decide) (by decide) dX11_holdGoal_112 hk7 (fun M17 h => ?_)
          refine z_loc [] rfl ?_
          exact zb_X11_holdGoal_115 hX hQ hnL h
      · have h := h2 hc
        refine z_aload_n (r := (some h0)) hX dX11_holdGoal_65 rfl 0 rfl ?_
        refine z_aload_n (r := (some h0)) hX dX11_holdGoal_66 rfl 0 rfl ?_
        refine gf_RX11_66 (r := (some h0)) hX dX11_holdGoal_67 rfl hk7 ?_
        refine z_iload_n hX dX11_holdGoal_70 rfl 2 rfl ?_
        obtain ⟨a19, ha20, h⟩ := h
        obtain ⟨hk21, h⟩ := h
        obtain ⟨hc22, h⟩ := h
        refine y_zald (r := (mR M 734 h0)) hX dX11_holdGoal_71 ha20 hk21 hc22 ?_
        obtain ⟨h1, h2⟩ := h
        refine z_if_eq (tgt := 84) hX dX11_holdGoal_72 (by decide) (fun hc => ?_) (fun hc => ?_)
        · have h := h1 hc
          refine z_aload_n (r := (some h0)) hX dX11_holdGoal_84 rfl 0 rfl ?_
          refine gf_RX11_63 (r := (some h0)) hX dX11_holdGoal_85 rfl hk7 ?_
          refine z_iload_n hX dX11_holdGoal_88 rfl 2 rfl ?_
          obtain ⟨a23, ha24, h⟩ := h
          obtain ⟨hk25, h⟩ := h
          obtain ⟨hc26, h⟩ := h
          refine y_lald (r := (mR M 733 h0)) hX dX11_holdGoal_89 ha24 hk25 hc26 ?_
          refine z_loc [] rfl ?_
          exact zb_X11_holdGoal_90 hX hQ hnL h
        · have h := h2 hc
          refine z_aload_n (r := (some h0)) hX dX11_holdGoal_75 rfl 0 rfl ?_
          refine gf_RX11_63 (r := (some h0)) hX dX11_holdGoal_76 rfl hk7 ?_
          refine z_iload_n hX dX11_holdGoal_79 rfl 1 rfl ?_
          obtain ⟨a27, ha28, h⟩ := h
          obtain ⟨hk29, h⟩ := h
          obtain ⟨hc30, h⟩ := h
          refine y_lald (r := (mR M 733 h0)) hX dX11_holdGoal_80 ha28 hk29 hc30 ?_
          refine z_goto (tgt := 90) hX dX11_holdGoal_81 (by decide) ?_
          refine z_loc [] rfl ?_
          exact zb_X11_holdGoal_90 hX hQ hnL h
    · have h := h2 hc
      refine z_aload_n (r := (some h0)) hX dX11_holdGoal_17 rfl 0 rfl ?_
      refine gf_RX11_114 (r := (some h0)) hX dX11_holdGoal_18 rfl hk7 ?_
      refine z_iload_n hX dX11_holdGoal_21 rfl 3 rfl ?_
      obtain ⟨a31, ha32, h⟩ := h
      obtain ⟨hk33, h⟩ := h
      obtain ⟨hc34, h⟩ := h
      refine y_zald (r := (mR M 755 h0)) hX dX11_holdGoal_22 ha32 hk33 hc34 ?_
      obtain ⟨h1, h2⟩ := h
      refine z_if_eq (tgt := 52) hX dX11_holdGoal_23 (by decide) (fun hc => ?_) (fun hc => ?_)
      · have h := h1 hc
        exact zb_X11_holdGoal_52 hX hQ hnL hR9 h
      · have h := h2 hc
        refine z_aload_n (r := (some h0)) hX dX11_holdGoal_26 rfl 0 rfl ?_
        refine gf_RX11_108 (r := (some h0)) hX dX11_holdGoal_27 rfl hk7 ?_
        refine z_iload_n hX dX11_holdGoal_30 rfl 3 rfl ?_
        obtain ⟨a35, ha36, h⟩ := h
        obtain ⟨hk37, h⟩ := h
        obtain ⟨hc38, h⟩ := h
        refine y_iald (r := (mR M 753 h0)) hX dX11_holdGoal_31 ha36 hk37 hc38 ?_
        refine z_iload_n hX dX11_holdGoal_32 rfl 1 rfl ?_
        obtain ⟨h1, h2⟩ := h
        refine z_icmp_ne (tgt := 52) hX dX11_holdGoal_33 (by decide) (fun hc => ?_) (fun hc => ?_)
        · have h := h1 hc
          exact zb_X11_holdGoal_52 hX hQ hnL hR9 h
        · have h := h2 hc
          refine z_aload_n (r := (some h0)) hX dX11_holdGoal_36 rfl 0 rfl ?_
          refine z_aload_n (r := (some h0)) hX dX11_holdGoal_37 rfl 0 rfl ?_
          refine gf_RX11_111 (r := (some h0)) hX dX11_holdGoal_38 rfl hk7 ?_
          refine z_iload_n hX dX11_holdGoal_41 rfl 3 rfl ?_
          obtain ⟨a39, ha40, h⟩ := h
          obtain ⟨hk41, h⟩ := h
          obtain ⟨hc42, h⟩ := h
          refine y_lald (r := (mR M 754 h0)) hX dX11_holdGoal_42 ha40 hk41 hc42 ?_
          refine z_ldc2 (v := (-1 : Int64)) hX dX11_holdGoal_43 kj_RX11_363 ?_
          refine z_callSJ (As := [.long (aJ M a39 (l3).toNatClampNeg), .long (-1 : Int64)]) (rest := [va_rf (some h0)]) hX (ct_X11_plus h) mw_RX11_311 rfl (by rfl) (by unfold RoomC; decide) (by simp only [List.map_cons, List.map_nil, List.sum_cons, List.sum_nil, cat_rf, cat_i, cat_j]; decide) dX11_holdGoal_46 (fun r43 M44 h => ?_)
          obtain ⟨hk48, h⟩ := h
          refine z_callVV (As := [.long r43]) (rest := []) (ci := 11) hX (ct_X11_least h) mw_RX11_356 rfl (by decide) rfl (by rfl) (by unfold RoomC; decide) (by decide) dX11_holdGoal_49 hk48 (fun M47 h => ?_)
          exact zb_X11_holdGoal_52 hX hQ hnL hR9 h
def wp_X11_holdGoal (M : Mm) (h0 : Nat) (p1 : Int32) (K : Mm → Prop) : Prop := mK M h0 = 12 ∧ (wp_X11_inputOf M h0 p1 (0 : Int32) (fun r50 M51 => (∃ kk, lp_X11_holdGoal_9 h0 K kk p1 r50 (0 : Int32) M51)))
set_option maxRecDepth 100000 in
set_option maxHeartbeats 4000000 in
theorem ct_X11_holdGoal {M : Mm} {h0 : Nat} {p1 : Int32} {K : Mm → Prop} (h : wp_X11_holdGoal M h0 p1 K) : CtV yX11_holdGoal cX11_holdGoal 4 none rm_X11_holdGoal [.ref h0, .int p1] M K := by
  refine ct_any (QV K) (by decide) (by exact Nat.le_of_ble_eq_true rfl) (fun X hX hQ hnL hnm => ?_)
  rw [show lv_args 0 [.ref h0, .int p1] = [(0, va_rf (some h0)), (1, .int p1)] by rfl]
  have hX : Ok X cX11_holdGoal RX11 rm_X11_holdGoal := hX
  unfold wp_X11_holdGoal at h
  refine z_aload_n (r := (some h0)) hX dX11_holdGoal_0 rfl 0 rfl ?_
  refine z_iload_n hX dX11_holdGoal_1 rfl 1 rfl ?_
  refine z_iconst (v := (0 : Int32)) hX dX11_holdGoal_2 (by decide) ?_
  obtain ⟨hk52, h⟩ := h
  refine z_callVI (As := [.int p1, .int (0 : Int32)]) (rest := []) (ci := 11) hX (ct_X11_inputOf h) mw_RX11_318 rfl (by decide) rfl (by rfl) (by unfold RoomC; decide) (by decide) dX11_holdGoal_3 hk52 (fun r50 M51 h => ?_)
  refine z_istore_n hX [(2, .int r50), (0, va_rf (some h0)), (1, .int p1)] dX11_holdGoal_6 rfl (by rw [hnL]; decide) rfl ?_
  refine z_iconst (v := (0 : Int32)) hX dX11_holdGoal_7 (by decide) ?_
  refine z_istore_n hX [(3, .int (0 : Int32)), (2, .int r50), (0, va_rf (some h0)), (1, .int p1)] dX11_holdGoal_8 rfl (by rw [hnL]; decide) rfl ?_
  refine z_loc [2, 3, 1, 0] rfl ?_
  obtain ⟨n, h⟩ := h
  exact zl_X11_holdGoal_9 hX hQ hnL n _ _ _ _ h
def rm_X11_isStream : Room := { frames := 0, cells := 0, slots := 0, locals := 0 }
def bk_X11_isStream_26 (h0 : Nat) (K : Int32 → Mm → Prop) (s0 : Int32) (M : Mm) : Prop := (bz s0 ∧ K s0 M)
set_option maxRecDepth 100000 in
set_option maxHeartbeats 4000000 in
theorem zb_X11_isStream_26 {X : Cx} {h0 : Nat} {K : Int32 → Mm → Prop} (hX : Ok X cX11_isStream RX11 rm_X11_isStream) (hQ : Rq X rm_X11_isStream (some .boolean) (QI K)) (hnL : X.2.2.2.2.2.2.2.2.2.2.2.2.2.2 = 2) {s0 : Int32} {M : Mm} (h : bk_X11_isStream_26 h0 K s0 M) : Z X M 0 0 26 [] [.int s0] := by
  unfold bk_X11_isStream_26 at h
  exact y_zret hX hQ dX11_isStream_26 h.1 h.2
def bk_X11_isStream_25 (h0 : Nat) (K : Int32 → Mm → Prop) (M : Mm) : Prop := (bk_X11_isStream_26 h0 K (0 : Int32) M)
set_option maxRecDepth 100000 in
set_option maxHeartbeats 4000000 in
theorem zb_X11_isStream_25 {X : Cx} {h0 : Nat} {K : Int32 → Mm → Prop} (hX : Ok X cX11_isStream RX11 rm_X11_isStream) (hQ : Rq X rm_X11_isStream (some .boolean) (QI K)) (hnL : X.2.2.2.2.2.2.2.2.2.2.2.2.2.2 = 2) {M : Mm} (h : bk_X11_isStream_25 h0 K M) : Z X M 0 0 25 [] [] := by
  unfold bk_X11_isStream_25 at h
  refine z_iconst (v := (0 : Int32)) hX dX11_isStream_25 (by decide) ?_
  exact zb_X11_isStream_26 hX hQ hnL h
def wp_X11_isStream (M : Mm) (h0 : Nat) (p1 : Int32) (K : Int32 → Mm → Prop) : Prop := mK M h0 = 12 ∧ (((mI M 732 h0) = 0 → (bk_X11_isStream_25 h0 K M)) ∧ (¬ (mI M 732 h0) = 0 → ((p1 < 0 → (bk_X11_isStream_25 h0 K M)) ∧ (¬ p1 < 0 → ∃ a2, (mR M 729 h0) = some a2 ∧ isA M a2 1 ∧ vp_in (1 : Int32) (aN M a2) ∧ (((aI M a2 ((1 : Int32)).toNatClampNeg) ≤ p1 → (bk_X11_isStream_25 h0 K M)) ∧ (¬ (aI M a2 ((1 : Int32)).toNatClampNeg) ≤ p1 → (bk_X11_isStream_26 h0 K (1 : Int32) M)))))))
set_option maxRecDepth 100000 in
set_option maxHeartbeats 4000000 in
theorem ct_X11_isStream {M : Mm} {h0 : Nat} {p1 : Int32} {K : Int32 → Mm → Prop} (h : wp_X11_isStream M h0 p1 K) : CtI yX11_isStream cX11_isStream 2 (some .boolean) rm_X11_isStream [.ref h0, .int p1] M K := by
  refine ct_any (QI K) (by decide) (by exact Nat.le_of_ble_eq_true rfl) (fun X hX hQ hnL hnm => ?_)
  rw [show lv_args 0 [.ref h0, .int p1] = [(0, va_rf (some h0)), (1, .int p1)] by rfl]
  have hX : Ok X cX11_isStream RX11 rm_X11_isStream := hX
  unfold wp_X11_isStream at h
  refine z_aload_n (r := (some h0)) hX dX11_isStream_0 rfl 0 rfl ?_
  obtain ⟨hk1, h⟩ := h
  refine gf_RX11_277 (r := (some h0)) hX dX11_isStream_1 rfl hk1 ?_
  obtain ⟨h1, h2⟩ := h
  refine z_if_eq (tgt := 25) hX dX11_isStream_4 (by decide) (fun hc => ?_) (fun hc => ?_)
  · have h := h1 hc
    refine z_loc [] rfl ?_
    exact zb_X11_isStream_25 hX hQ hnL h
  · have h := h2 hc
    refine z_iload_n hX dX11_isStream_7 rfl 1 rfl ?_
    obtain ⟨h1, h2⟩ := h
    refine z_if_lt (tgt := 25) hX dX11_isStream_8 (by decide) (fun hc => ?_) (fun hc => ?_)
    · have h := h1 hc
      refine z_loc [] rfl ?_
      exact zb_X11_isStream_25 hX hQ hnL h
    · have h := h2 hc
      refine z_iload_n hX dX11_isStream_11 rfl 1 rfl ?_
      refine z_aload_n (r := (some h0)) hX dX11_isStream_12 rfl 0 rfl ?_
      refine gf_RX11_60 (r := (some h0)) hX dX11_isStream_13 rfl hk1 ?_
      refine z_iconst (v := (1 : Int32)) hX dX11_isStream_16 (by decide) ?_
      obtain ⟨a2, ha3, h⟩ := h
      obtain ⟨hk4, h⟩ := h
      obtain ⟨hc5, h⟩ := h
      refine y_iald (r := (mR M 729 h0)) hX dX11_isStream_17 ha3 hk4 hc5 ?_
      obtain ⟨h1, h2⟩ := h
      refine z_icmp_ge (tgt := 25) hX dX11_isStream_18 (by decide) (fun hc => ?_) (fun hc => ?_)
      · have h := h1 hc
        refine z_loc [] rfl ?_
        exact zb_X11_isStream_25 hX hQ hnL h
      · have h := h2 hc
        refine z_iconst (v := (1 : Int32)) hX dX11_isStream_21 (by decide) ?_
        refine z_goto (tgt := 26) hX dX11_isStream_22 (by decide) ?_
        refine z_loc [] rfl ?_
        exact zb_X11_isStream_26 hX hQ hnL h
def rm_X11_isPart : Room := { frames := 1, cells := 0, slots := 0, locals := 21 }
def bk_X11_isPart_38 (h0 : Nat) (K : Int32 → Mm → Prop) (s0 : Int32) (M : Mm) : Prop := (bz s0 ∧ K s0 M)
set_option maxRecDepth 100000 in
set_option maxHeartbeats 4000000 in
theorem zb_X11_isPart_38 {X : Cx} {h0 : Nat} {K : Int32 → Mm → Prop} (hX : Ok X cX11_isPart RX11 rm_X11_isPart) (hQ : Rq X rm_X11_isPart (some .boolean) (QI K)) (hnL : X.2.2.2.2.2.2.2.2.2.2.2.2.2.2 = 3) {s0 : Int32} {M : Mm} (h : bk_X11_isPart_38 h0 K s0 M) : Z X M 0 0 38 [] [.int s0] := by
  unfold bk_X11_isPart_38 at h
  exact y_zret hX hQ dX11_isPart_38 h.1 h.2
def bk_X11_isPart_37 (h0 : Nat) (K : Int32 → Mm → Prop) (M : Mm) : Prop := (bk_X11_isPart_38 h0 K (0 : Int32) M)
set_option maxRecDepth 100000 in
set_option maxHeartbeats 4000000 in
theorem zb_X11_isPart_37 {X : Cx} {h0 : Nat} {K : Int32 → Mm → Prop} (hX : Ok X cX11_isPart RX11 rm_X11_isPart) (hQ : Rq X rm_X11_isPart (some .boolean) (QI K)) (hnL : X.2.2.2.2.2.2.2.2.2.2.2.2.2.2 = 3) {M : Mm} (h : bk_X11_isPart_37 h0 K M) : Z X M 0 0 37 [] [] := by
  unfold bk_X11_isPart_37 at h
  refine z_iconst (v := (0 : Int32)) hX dX11_isPart_37 (by decide) ?_
  exact zb_X11_isPart_38 hX hQ hnL h
def wp_X11_isPart (M : Mm) (h0 : Nat) (p1 : Int32) (p2 : Int32) (K : Int32 → Mm → Prop) : Prop := mK M h0 = 12 ∧ (wp_X11_isStream M h0 p1 (fun r1 M2 => ((r1 = 0 → (bk_X11_isPart_37 h0 K M2)) ∧ (¬ r1 = 0 → mK M2 h0 = 12 ∧ (wp_X11_kindOf M2 h0 p1 (fun r5 M6 => ((¬ r5 = 0 → (bk_X11_isPart_37 h0 K M6)) ∧ (r5 = 0 → ((p2 < 0 → (bk_X11_isPart_37 h0 K M6)) ∧ (¬ p2 < 0 → mK M6 h0 = 12 ∧ ∃ a10, (mR M6 718 h0) = some a10 ∧ isA M6 a10 1 ∧ vp_in ((12 : Int32) + p1) (aN M6 a10) ∧ (((aI M6 a10 (((12 : Int32) + p1)).toNatClampNeg) ≤ p2 → (bk_X11_isPart_37 h0 K M6)) ∧ (¬ (aI M6 a10 (((12 : Int32) + p1)).toNatClampNeg) ≤ p2 → (bk_X11_isPart_38 h0 K (1 : Int32) M6)))))))))))))
set_option maxRecDepth 100000 in
set_option maxHeartbeats 4000000 in
theorem ct_X11_isPart {M : Mm} {h0 : Nat} {p1 : Int32} {p2 : Int32} {K : Int32 → Mm → Prop} (h : wp_X11_isPart M h0 p1 p2 K) : CtI yX11_isPart cX11_isPart 3 (some .boolean) rm_X11_isPart [.ref h0, .int p1, .int p2] M K := by
  refine ct_any (QI K) (by decide) (by exact Nat.le_of_ble_eq_true rfl) (fun X hX hQ hnL hnm => ?_)
  rw [show lv_args 0 [.ref h0, .int p1, .int p2] = [(0, va_rf (some h0)), (1, .int p1), (2, .int p2)] by rfl]
  have hX : Ok X cX11_isPart RX11 rm_X11_isPart := hX
  unfold wp_X11_isPart at h
  refine z_aload_n (r := (some h0)) hX dX11_isPart_0 rfl 0 rfl ?_
  refine z_iload_n hX dX11_isPart_1 rfl 1 rfl ?_
  obtain ⟨hk3, h⟩ := h
  refine z_callVI (As := [.int p1]) (rest := []) (ci := 11) hX (ct_X11_isStream h) mw_RX11_371 rfl (by decide) rfl (by rfl) (by unfold RoomC; decide) (by decide) dX11_isPart_2 hk3 (fun r1 M2 h => ?_)
  obtain ⟨h1, h2⟩ := h
  refine z_if_eq (tgt := 37) hX dX11_isPart_5 (by decide) (fun hc => ?_) (fun hc => ?_)
  · have h := h1 hc
    refine z_loc [] rfl ?_
    exact zb_X11_isPart_37 hX hQ hnL h
  · have h := h2 hc
    refine z_aload_n (r := (some h0)) hX dX11_isPart_8 rfl 0 rfl ?_
    refine z_iload_n hX dX11_isPart_9 rfl 1 rfl ?_
    obtain ⟨hk7, h⟩ := h
    refine z_callVI (As := [.int p1]) (rest := []) (ci := 11) hX (ct_X11_kindOf h) mw_RX11_308 rfl (by decide) rfl (by rfl) (by unfold RoomC; decide) (by decide) dX11_isPart_10 hk7 (fun r5 M6 h => ?_)
    obtain ⟨h1, h2⟩ := h
    refine z_if_ne (tgt := 37) hX dX11_isPart_13 (by decide) (fun hc => ?_) (fun hc => ?_)
    · have h := h1 hc
      refine z_loc [] rfl ?_
      exact zb_X11_isPart_37 hX hQ hnL h
    · have h := h2 hc
      refine z_iload_n hX dX11_isPart_16 rfl 2 rfl ?_
      obtain ⟨h1, h2⟩ := h
      refine z_if_lt (tgt := 37) hX dX11_isPart_17 (by decide) (fun hc => ?_) (fun hc => ?_)
      · have h := h1 hc
        refine z_loc [] rfl ?_
        exact zb_X11_isPart_37 hX hQ hnL h
      · have h := h2 hc
        refine z_iload_n hX dX11_isPart_20 rfl 2 rfl ?_
        refine z_aload_n (r := (some h0)) hX dX11_isPart_21 rfl 0 rfl ?_
        obtain ⟨hk9, h⟩ := h
        refine gf_RX11_26 (r := (some h0)) hX dX11_isPart_22 rfl hk9 ?_
        refine z_bipush (v := (12 : Int32)) hX dX11_isPart_25 (by decide) ?_
        refine z_iload_n hX dX11_isPart_27 rfl 1 rfl ?_
        refine z_iadd hX dX11_isPart_28 ?_
        obtain ⟨a10, ha11, h⟩ := h
        obtain ⟨hk12, h⟩ := h
        obtain ⟨hc13, h⟩ := h
        refine y_iald (r := (mR M6 718 h0)) hX dX11_isPart_29 ha11 hk12 hc13 ?_
        obtain ⟨h1, h2⟩ := h
        refine z_icmp_ge (tgt := 37) hX dX11_isPart_30 (by decide) (fun hc => ?_) (fun hc => ?_)
        · have h := h1 hc
          refine z_loc [] rfl ?_
          exact zb_X11_isPart_37 hX hQ hnL h
        · have h := h2 hc
          refine z_iconst (v := (1 : Int32)) hX dX11_isPart_33 (by decide) ?_
          refine z_goto (tgt := 38) hX dX11_isPart_34 (by decide) ?_
          refine z_loc [] rfl ?_
          exact zb_X11_isPart_38 hX hQ hnL h
def rm_X11_isTime : Room := { frames := 0, cells := 0, slots := 0, locals := 0 }
def bk_X11_isTime_21 (K : Int32 → Mm → Prop) (s0 : Int32) (M : Mm) : Prop := (bz s0 ∧ K s0 M)
set_option maxRecDepth 100000 in
set_option maxHeartbeats 4000000 in
theorem zb_X11_isTime_21 {X : Cx} {K : Int32 → Mm → Prop} (hX : Ok X cX11_isTime RX11 rm_X11_isTime) (hQ : Rq X rm_X11_isTime (some .boolean) (QI K)) (hnL : X.2.2.2.2.2.2.2.2.2.2.2.2.2.2 = 2) {s0 : Int32} {M : Mm} (h : bk_X11_isTime_21 K s0 M) : Z X M 0 0 21 [] [.int s0] := by
  unfold bk_X11_isTime_21 at h
  exact y_zret hX hQ dX11_isTime_21 h.1 h.2
def bk_X11_isTime_20 (K : Int32 → Mm → Prop) (M : Mm) : Prop := (bk_X11_isTime_21 K (0 : Int32) M)
set_option maxRecDepth 100000 in
set_option maxHeartbeats 4000000 in
theorem zb_X11_isTime_20 {X : Cx} {K : Int32 → Mm → Prop} (hX : Ok X cX11_isTime RX11 rm_X11_isTime) (hQ : Rq X rm_X11_isTime (some .boolean) (QI K)) (hnL : X.2.2.2.2.2.2.2.2.2.2.2.2.2.2 = 2) {M : Mm} (h : bk_X11_isTime_20 K M) : Z X M 0 0 20 [] [] := by
  unfold bk_X11_isTime_20 at h
  refine z_iconst (v := (0 : Int32)) hX dX11_isTime_20 (by decide) ?_
  exact zb_X11_isTime_21 hX hQ hnL h
def wp_X11_isTime (M : Mm) (p1 : Int64) (K : Int32 → Mm → Prop) : Prop := ((p1 < (-100000000000000000 : Int64) → (bk_X11_isTime_20 K M)) ∧ (¬ p1 < (-100000000000000000 : Int64) → (((100000000000000000 : Int64) < p1 → (bk_X11_isTime_20 K M)) ∧ (¬ (100000000000000000 : Int64) < p1 → (bk_X11_isTime_21 K (1 : Int32) M)))))
set_option maxRecDepth 100000 in
set_option maxHeartbeats 4000000 in
theorem ct_X11_isTime {M : Mm} {p1 : Int64} {K : Int32 → Mm → Prop} (h : wp_X11_isTime M p1 K) : CtI yX11_isTime cX11_isTime 2 (some .boolean) rm_X11_isTime [.long p1] M K := by
  refine ct_any (QI K) (by decide) (by exact Nat.le_of_ble_eq_true rfl) (fun X hX hQ hnL hnm => ?_)
  rw [show lv_args 0 [.long p1] = [(0, .long p1)] by rfl]
  have hX : Ok X cX11_isTime RX11 rm_X11_isTime := hX
  unfold wp_X11_isTime at h
  refine z_lload_n hX dX11_isTime_0 rfl 0 rfl ?_
  refine z_ldc2 (v := (-100000000000000000 : Int64)) hX dX11_isTime_1 kj_RX11_374 ?_
  refine z_lcmp hX dX11_isTime_4 ?_
  obtain ⟨h1, h2⟩ := h
  refine z_if_lt (tgt := 20) hX dX11_isTime_5 (by decide) (fun hc => ?_) (fun hc => ?_)
  · have h := h1 ((lg_cmp_lt _ _).mp hc)
    refine z_loc [] rfl ?_
    exact zb_X11_isTime_20 hX hQ hnL h
  · have h := h2 (fun q => hc ((lg_cmp_lt _ _).mpr q))
    refine z_lload_n hX dX11_isTime_8 rfl 0 rfl ?_
    refine z_ldc2 (v := (100000000000000000 : Int64)) hX dX11_isTime_9 kj_RX11_376 ?_
    refine z_lcmp hX dX11_isTime_12 ?_
    obtain ⟨h1, h2⟩ := h
    refine z_if_gt (tgt := 20) hX dX11_isTime_13 (by decide) (fun hc => ?_) (fun hc => ?_)
    · have h := h1 ((lg_cmp_gt _ _).mp hc)
      refine z_loc [] rfl ?_
      exact zb_X11_isTime_20 hX hQ hnL h
    · have h := h2 (fun q => hc ((lg_cmp_gt _ _).mpr q))
      refine z_iconst (v := (1 : Int32)) hX dX11_isTime_16 (by decide) ?_
      refine z_goto (tgt := 21) hX dX11_isTime_17 (by decide) ?_
      refine z_loc [] rfl ?_
      exact zb_X11_isTime_21 hX hQ hnL h
def rm_X11_isStopped : Room := { frames := 1, cells := 0, slots := 0, locals := 25 }
def bk_X11_isStopped_38 (h0 : Nat) (K : Int32 → Mm → Prop) (M : Mm) : Prop := (K (0 : Int32) M)
set_option maxRecDepth 100000 in
set_option maxHeartbeats 4000000 in
theorem zb_X11_isStopped_38 {X : Cx} {h0 : Nat} {K : Int32 → Mm → Prop} (hX : Ok X cX11_isStopped RX11 rm_X11_isStopped) (hQ : Rq X rm_X11_isStopped (some .boolean) (QI K)) (hnL : X.2.2.2.2.2.2.2.2.2.2.2.2.2.2 = 8) {M : Mm} (h : bk_X11_isStopped_38 h0 K M) : Z X M 0 0 38 [] [] := by
  unfold bk_X11_isStopped_38 at h
  refine z_iconst (v := (0 : Int32)) hX dX11_isStopped_38 (by decide) ?_
  exact y_zret hX hQ dX11_isStopped_39 (Or.inl rfl) h
def bk_X11_isStopped_183 (h0 : Nat) (K : Int32 → Mm → Prop) (s0 : Int32) (M : Mm) : Prop := (bz s0 ∧ K s0 M)
set_option maxRecDepth 100000 in
set_option maxHeartbeats 4000000 in
theorem zb_X11_isStopped_183 {X : Cx} {h0 : Nat} {K : Int32 → Mm → Prop} (hX : Ok X cX11_isStopped RX11 rm_X11_isStopped) (hQ : Rq X rm_X11_isStopped (some .boolean) (QI K)) (hnL : X.2.2.2.2.2.2.2.2.2.2.2.2.2.2 = 8) {s0 : Int32} {M : Mm} (h : bk_X11_isStopped_183 h0 K s0 M) : Z X M 0 0 183 [] [.int s0] := by
  unfold bk_X11_isStopped_183 at h
  exact y_zret hX hQ dX11_isStopped_183 h.1 h.2
def bk_X11_isStopped_145 (h0 : Nat) (R48 : Int32 → Int32 → Int32 → Int64 → Int32 → Mm → Prop) (K : Int32 → Mm → Prop) (l1 : Int32) (l2 : Int32) (l3 : Int32) (l4 : Int64) (l6 : Int32) (M : Mm) : Prop := (R48 l1 l2 l3 l4 (l6 + 1) M)
set_option maxRecDepth 100000 in
set_option maxHeartbeats 4000000 in
theorem zb_X11_isStopped_145 {X : Cx} {h0 : Nat} {R48 : Int32 → Int32 → Int32 → Int64 → Int32 → Mm → Prop} {K : Int32 → Mm → Prop} (hX : Ok X cX11_isStopped RX11 rm_X11_isStopped) (hQ : Rq X rm_X11_isStopped (some .boolean) (QI K)) (hnL : X.2.2.2.2.2.2.2.2.2.2.2.2.2.2 = 8) (hR48 : ∀ l1 l2 l3 l4 l6 M, R48 l1 l2 l3 l4 l6 M → Z X M 0 0 48 [(0, va_rf (some h0)), (1, .int l1), (2, .int l2), (3, .int l3), (4, .long l4), (6, .int l6)] []) {l1 : Int32} {l2 : Int32} {l3 : Int32} {l4 : Int64} {l6 : Int32} {M : Mm} (h : bk_X11_isStopped_145 h0 R48 K l1 l2 l3 l4 l6 M) : Z X M 0 0 145 [(0, va_rf (some h0)), (1, .int l1), (2, .int l2), (3, .int l3), (4, .long l4), (6, .int l6)] [] := by
  unfold bk_X11_isStopped_145 at h
  refine z_iinc (v := (l6 + 1)) hX [(6, .int (l6 + 1)), (0, va_rf (some h0)), (1, .int l1), (2, .int l2), (3, .int l3), (4, .long l4)] dX11_isStopped_145 5 rfl rfl (by rw [hnL]; decide) rfl ?_
  refine z_goto (tgt := 48) hX dX11_isStopped_148 (by decide) ?_
  refine z_loc [1, 2, 3, 4, 5, 0] rfl ?_
  exact hR48 _ _ _ _ _ _ h
def bk_X11_isStopped_137 (h0 : Nat) (R48 : Int32 → Int32 → Int32 → Int64 → Int32 → Mm → Prop) (R62 : Int32 → Int32 → Int32 → Int64 → Int32 → Int32 → Mm → Prop) (K : Int32 → Mm → Prop) (l1 : Int32) (l2 : Int32) (l3 : Int32) (l6 : Int32) (l7 : Int32) (s0 : Int64) (M : Mm) : Prop := (R62 l1 l2 l3 s0 l6 (l7 + 1) M)
set_option maxRecDepth 100000 in
set_option maxHeartbeats 4000000 in
theorem zb_X11_isStopped_137 {X : Cx} {h0 : Nat} {R48 : Int32 → Int32 → Int32 → Int64 → Int32 → Mm → Prop} {R62 : Int32 → Int32 → Int32 → Int64 → Int32 → Int32 → Mm → Prop} {K : Int32 → Mm → Prop} (hX : Ok X cX11_isStopped RX11 rm_X11_isStopped) (hQ : Rq X rm_X11_isStopped (some .boolean) (QI K)) (hnL : X.2.2.2.2.2.2.2.2.2.2.2.2.2.2 = 8) (hR48 : ∀ l1 l2 l3 l4 l6 M, R48 l1 l2 l3 l4 l6 M → Z X M 0 0 48 [(0, va_rf (some h0)), (1, .int l1), (2, .int l2), (3, .int l3), (4, .long l4), (6, .int l6)] []) (hR62 : ∀ l1 l2 l3 l4 l6 l7 M, R62 l1 l2 l3 l4 l6 l7 M → Z X M 0 0 62 [(0, va_rf (some h0)), (1, .int l1), (2, .int l2), (3, .int l3), (4, .long l4), (6, .int l6), (7, .int l7)] []) {l1 : Int32} {l2 : Int32} {l3 : Int32} {l6 : Int32} {l7 : Int32} {s0 : Int64} {M : Mm} (h : bk_X11_isStopped_137 h0 R48 R62 K l1 l2 l3 l6 l7 s0 M) : Z X M 0 0 137 [(0, va_rf (some h0)), (1, .int l1), (2, .int l2), (3, .int l3), (6, .int l6), (7, .int l7)] [.long s0] := by
  unfold bk_X11_isStopped_137 at h
  refine z_lstore hX [(4, .long s0), (0, va_rf (some h0)), (1, .int l1), (2, .int l2), (3, .int l3), (6, .int l6), (7, .int l7)] dX11_isStopped_137 (by rw [hnL]; decide) rfl ?_
  refine z_iinc (v := (l7 + 1)) hX [(7, .int (l7 + 1)), (4, .long s0), (0, va_rf (some h0)), (1, .int l1), (2, .int l2), (3, .int l3), (6, .int l6)] dX11_isStopped_139 6 rfl rfl (by rw [hnL]; decide) rfl ?_
  refine z_goto (tgt := 62) hX dX11_isStopped_142 (by decide) ?_
  refine z_loc [2, 3, 4, 5, 1, 6, 0] rfl ?_
  exact hR62 _ _ _ _ _ _ _ h
def lp_X11_isStopped_62 (h0 : Nat) (R48 : Int32 → Int32 → Int32 → Int64 → Int32 → Mm → Prop) (K : Int32 → Mm → Prop) : Nat → Int32 → Int32 → Int32 → Int64 → Int32 → Int32 → Mm → Prop
  | 0, _, _, _, _, _, _, _ => False
  | n + 1, l1, l2, l3, l4, l6, l7, M => mK M h0 = 12 ∧ ∃ a2, (mR M 718 h0) = some a2 ∧ isA M a2 1 ∧ vp_in ((12 : Int32) + l6) (aN M a2) ∧ (((aI M a2 (((12 : Int32) + l6)).toNatClampNeg) ≤ l7 → (bk_X11_isStopped_145 h0 R48 K l1 l2 l3 l4 l6 M)) ∧ (¬ (aI M a2 (((12 : Int32) + l6)).toNatClampNeg) ≤ l7 → (wp_X11_kindOf M h0 l6 (fun r6 M7 => ((¬ r6 = 0 → (bk_X11_isStopped_145 h0 R48 K l1 l2 l3 l4 l6 M7)) ∧ (r6 = 0 → mK M7 h0 = 12 ∧ ∃ a10, (mR M7 723 h0) = some a10 ∧ isA M7 a10 1 ∧ vp_in ((12 : Int32) + l6) (aN M7 a10) ∧ ((¬ (aI M7 a10 (((12 : Int32) + l6)).toNatClampNeg) = l3 → (bk_X11_isStopped_145 h0 R48 K l1 l2 l3 l4 l6 M7)) ∧ ((aI M7 a10 (((12 : Int32) + l6)).toNatClampNeg) = l3 → ∃ a14, (mR M7 735 h0) = some a14 ∧ isA M7 a14 1 ∧ vp_in (((4 : Int32) * l6) + l7) (aN M7 a14) ∧ ((¬ (aI M7 a14 ((((4 : Int32) * l6) + l7)).toNatClampNeg) = 0 → (bk_X11_isStopped_137 h0 R48 (lp_X11_isStopped_62 h0 R48 K n) K l1 l2 l3 l6 l7 l4 M7)) ∧ ((aI M7 a14 ((((4 : Int32) * l6) + l7)).toNatClampNeg) = 0 → ∃ a18, (mR M7 736 h0) = some a18 ∧ isA M7 a18 2 ∧ vp_in (((4 : Int32) * l6) + l7) (aN M7 a18) ∧ (bk_X11_isStopped_137 h0 R48 (lp_X11_isStopped_62 h0 R48 K n) K l1 l2 l3 l6 l7 (if (aJ M7 a18 ((((4 : Int32) * l6) + l7)).toNatClampNeg) < l4 then (aJ M7 a18 ((((4 : Int32) * l6) + l7)).toNatClampNeg) else l4) M7)))))))))))
set_option maxRecDepth 100000 in
set_option maxHeartbeats 4000000 in
theorem zl_X11_isStopped_62 {X : Cx} {h0 : Nat} {R48 : Int32 → Int32 → Int32 → Int64 → Int32 → Mm → Prop} {K : Int32 → Mm → Prop} (hX : Ok X cX11_isStopped RX11 rm_X11_isStopped) (hQ : Rq X rm_X11_isStopped (some .boolean) (QI K)) (hnL : X.2.2.2.2.2.2.2.2.2.2.2.2.2.2 = 8) (hR48 : ∀ l1 l2 l3 l4 l6 M, R48 l1 l2 l3 l4 l6 M → Z X M 0 0 48 [(0, va_rf (some h0)), (1, .int l1), (2, .int l2), (3, .int l3), (4, .long l4), (6, .int l6)] []) : ∀ (n : Nat) (l1 : Int32) (l2 : Int32) (l3 : Int32) (l4 : Int64) (l6 : Int32) (l7 : Int32) (M : Mm), lp_X11_isStopped_62 h0 R48 K n l1 l2 l3 l4 l6 l7 M → Z X M 0 0 62 [(0, va_rf (some h0)), (1, .int l1), (2, .int l2), (3, .int l3), (4, .long l4), (6, .int l6), (7, .int l7)] [] := by
  intro n
  induction n with
  | zero =>
    intro l1 l2 l3 l4 l6 l7 M h
    exact False.elim h
  | succ n hR62 =>
    intro l1 l2 l3 l4 l6 l7 M h
    refine z_iload hX dX11_isStopped_62 6 rfl ?_
    refine z_aload_n (r := (some h0)) hX dX11_isStopped_64 rfl 0 rfl ?_
    obtain ⟨hk1, h⟩ := h
    refine gf_RX11_26 (r := (some h0)) hX dX11_isStopped_65 rfl hk1 ?_
    refine z_bipush (v := (12 : Int32)) hX dX11_isStopped_68 (by decide) ?_
    refine z_iload hX dX11_isStopped_70 5 rfl ?_
    refine z_iadd hX dX11_isStopped_72 ?_
    obtain ⟨a2, ha3, h⟩ := h
    obtain ⟨hk4, h⟩ := h
    obtain ⟨hc5, h⟩ := h
    refine y_iald (r := (mR M 718 h0)) hX dX11_isStopped_73 ha3 hk4 hc5 ?_
    obtain ⟨h1, h2⟩ := h
    refine z_icmp_ge (tgt := 145) hX dX11_isStopped_74 (by decide) (fun hc => ?_) (fun hc => ?_)
    · have h := h1 hc
      refine z_loc [0, 1, 2, 3, 4, 5] rfl ?_
      exact zb_X11_isStopped_145 hX hQ hnL hR48 h
    · have h := h2 hc
      refine z_aload_n (r := (some h0)) hX dX11_isStopped_77 rfl 0 rfl ?_
      refine z_iload hX dX11_isStopped_78 5 rfl ?_
      refine z_callVI (As := [.int l6]) (rest := []) (ci := 11) hX (ct_X11_kindOf h) mw_RX11_308 rfl (by decide) rfl (by rfl) (by unfold RoomC; decide) (by decide) dX11_isStopped_80 hk1 (fun r6 M7 h => ?_)
      obtain ⟨h1, h2⟩ := h
      refine z_if_ne (tgt := 145) hX dX11_isStopped_83 (by decide) (fun hc => ?_) (fun hc => ?_)
      · have h := h1 hc
        refine z_loc [0, 1, 2, 3, 4, 5] rfl ?_
        exact zb_X11_isStopped_145 hX hQ hnL hR48 h
      · have h := h2 hc
        refine z_aload_n (r := (some h0)) hX dX11_isStopped_86 rfl 0 rfl ?_
        obtain ⟨hk9, h⟩ := h
        refine gf_RX11_42 (r := (some h0)) hX dX11_isStopped_87 rfl hk9 ?_
        refine z_bipush (v := (12 : Int32)) hX dX11_isStopped_90 (by decide) ?_
        refine z_iload hX dX11_isStopped_92 5 rfl ?_
        refine z_iadd hX dX11_isStopped_94 ?_
        obtain ⟨a10, ha11, h⟩ := h
        obtain ⟨hk12, h⟩ := h
        obtain ⟨hc13, h⟩ := h
        refine y_iald (r := (mR M7 723 h0)) hX dX11_isStopped_95 ha11 hk12 hc13 ?_
        refine z_iload_n hX dX11_isStopped_96 rfl 3 rfl ?_
        obtain ⟨h1, h2⟩ := h
        refine z_icmp_ne (tgt := 145) hX dX11_isStopped_97 (by decide) (fun hc => ?_) (fun hc => ?_)
        · have h := h1 hc
          refine z_loc [0, 1, 2, 3, 4, 5] rfl ?_
          exact zb_X11_isStopped_145 hX hQ hnL hR48 h
        · have h := h2 hc
          refine z_aload_n (r := (some h0)) hX dX11_isStopped_100 rfl 0 rfl ?_
          refine gf_RX11_69 (r := (some h0)) hX dX11_isStopped_101 rfl hk9 ?_
          refine z_iconst (v := (4 : Int32)) hX dX11_isStopped_104 (by decide) ?_
          refine z_iload hX dX11_isStopped_105 5 rfl ?_
          refine z_imul hX dX11_isStopped_107 ?_
          refine z_iload hX dX11_isStopped_108 6 rfl ?_
          refine z_iadd hX dX11_isStopped_110 ?_
          obtain ⟨a14, ha15, h⟩ := h
          obtain ⟨hk16, h⟩ := h
          obtain ⟨hc17, h⟩ := h
          refine y_iald (r := (mR M7 735 h0)) hX dX11_isStopped_111 ha15 hk16 hc17 ?_
          obtain ⟨h1, h2⟩ := h
          refine z_if_ne (tgt := 135) hX dX11_isStopped_112 (by decide) (fun hc => ?_) (fun hc => ?_)
          · have h := h1 hc
            refine z_lload hX dX11_isStopped_135 4 rfl ?_
            refine z_loc [0, 1, 2, 3, 5, 6] rfl ?_
            exact zb_X11_isStopped_137 hX hQ hnL hR48 hR62 h
          · have h := h2 hc
            refine z_lload hX dX11_isStopped_115 4 rfl ?_
            refine z_aload_n (r := (some h0)) hX dX11_isStopped_117 rfl 0 rfl ?_
            refine gf_RX11_72 (r := (some h0)) hX dX11_isStopped_118 rfl hk9 ?_
            refine z_iconst (v := (4 : Int32)) hX dX11_isStopped_121 (by decide) ?_
            refine z_iload hX dX11_isStopped_122 5 rfl ?_
            refine z_imul hX dX11_isStopped_124 ?_
            refine z_iload hX dX11_isStopped_125 6 rfl ?_
            refine z_iadd hX dX11_isStopped_127 ?_
            obtain ⟨a18, ha19, h⟩ := h
            obtain ⟨hk20, h⟩ := h
            obtain ⟨hc21, h⟩ := h
            refine y_lald (r := (mR M7 736 h0)) hX dX11_isStopped_128 ha19 hk20 hc21 ?_
            refine mw_RX11_378 hX dX11_isStopped_129 (by decide) (by decide) (by decide) (by decide) ?_
            refine z_goto (tgt := 137) hX dX11_isStopped_132 (by decide) ?_
            refine z_loc [0, 1, 2, 3, 5, 6] rfl ?_
            exact zb_X11_isStopped_137 hX hQ hnL hR48 hR62 h
def lp_X11_isStopped_48 (h0 : Nat) (K : Int32 → Mm → Prop) : Nat → Int32 → Int32 → Int32 → Int64 → Int32 → Mm → Prop
  | 0, _, _, _, _, _, _ => False
  | n + 1, l1, l2, l3, l4, l6, M => mK M h0 = 12 ∧ ∃ a23, (mR M 729 h0) = some a23 ∧ isA M a23 1 ∧ vp_in (1 : Int32) (aN M a23) ∧ (((aI M a23 ((1 : Int32)).toNatClampNeg) ≤ l6 → ∃ a27, (mR M 736 h0) = some a27 ∧ isA M a27 2 ∧ vp_in (((4 : Int32) * l1) + l2) (aN M a27) ∧ ∃ a31, (mR M 728 h0) = some a31 ∧ isA M a31 2 ∧ vp_in ((4 : Int32) + l3) (aN M a31) ∧ (wp_X11_plus M l4 (aJ M a31 (((4 : Int32) + l3)).toNatClampNeg) (fun r35 M36 => (((aJ M a27 ((((4 : Int32) * l1) + l2)).toNatClampNeg) ≤ r35 → (bk_X11_isStopped_183 h0 K (0 : Int32) M36)) ∧ (¬ (aJ M a27 ((((4 : Int32) * l1) + l2)).toNatClampNeg) ≤ r35 → (bk_X11_isStopped_183 h0 K (1 : Int32) M36)))))) ∧ (¬ (aI M a23 ((1 : Int32)).toNatClampNeg) ≤ l6 → (∃ kk, lp_X11_isStopped_62 h0 (lp_X11_isStopped_48 h0 K n) K kk l1 l2 l3 l4 l6 (0 : Int32) M)))
set_option maxRecDepth 100000 in
set_option maxHeartbeats 4000000 in
theorem zl_X11_isStopped_48 {X : Cx} {h0 : Nat} {K : Int32 → Mm → Prop} (hX : Ok X cX11_isStopped RX11 rm_X11_isStopped) (hQ : Rq X rm_X11_isStopped (some .boolean) (QI K)) (hnL : X.2.2.2.2.2.2.2.2.2.2.2.2.2.2 = 8) : ∀ (n : Nat) (l1 : Int32) (l2 : Int32) (l3 : Int32) (l4 : Int64) (l6 : Int32) (M : Mm), lp_X11_isStopped_48 h0 K n l1 l2 l3 l4 l6 M → Z X M 0 0 48 [(0, va_rf (some h0)), (1, .int l1), (2, .int l2), (3, .int l3), (4, .long l4), (6, .int l6)] [] := by
  intro n
  induction n with
  | zero =>
    intro l1 l2 l3 l4 l6 M h
    exact False.elim h
  | succ n hR48 =>
    intro l1 l2 l3 l4 l6 M h
    refine z_iload hX dX11_isStopped_48 5 rfl ?_
    refine z_aload_n (r := (some h0)) hX dX11_isStopped_50 rfl 0 rfl ?_
    obtain ⟨hk22, h⟩ := h
    refine gf_RX11_60 (r := (some h0)) hX dX11_isStopped_51 rfl hk22 ?_
    refine z_iconst (v := (1 : Int32)) hX dX11_isStopped_54 (by decide) ?_
    obtain ⟨a23, ha24, h⟩ := h
    obtain ⟨hk25, h⟩ := h
    obtain ⟨hc26, h⟩ := h
    refine y_iald (r := (mR M 729 h0)) hX dX11_isStopped_55 ha24 hk25 hc26 ?_
    obtain ⟨h1, h2⟩ := h
    refine z_icmp_ge (tgt := 151) hX dX11_isStopped_56 (by decide) (fun hc => ?_) (fun hc => ?_)
    · have h := h1 hc
      refine z_aload_n (r := (some h0)) hX dX11_isStopped_151 rfl 0 rfl ?_
      refine gf_RX11_72 (r := (some h0)) hX dX11_isStopped_152 rfl hk22 ?_
      refine z_iconst (v := (4 : Int32)) hX dX11_isStopped_155 (by decide) ?_
      refine z_iload_n hX dX11_isStopped_156 rfl 1 rfl ?_
      refine z_imul hX dX11_isStopped_157 ?_
      refine z_iload_n hX dX11_isStopped_158 rfl 2 rfl ?_
      refine z_iadd hX dX11_isStopped_159 ?_
      obtain ⟨a27, ha28, h⟩ := h
      obtain ⟨hk29, h⟩ := h
      obtain ⟨hc30, h⟩ := h
      refine y_lald (r := (mR M 736 h0)) hX dX11_isStopped_160 ha28 hk29 hc30 ?_
      refine z_lload hX dX11_isStopped_161 4 rfl ?_
      refine z_aload_n (r := (some h0)) hX dX11_isStopped_163 rfl 0 rfl ?_
      refine gf_RX11_57 (r := (some h0)) hX dX11_isStopped_164 rfl hk22 ?_
      refine z_iconst (v := (4 : Int32)) hX dX11_isStopped_167 (by decide) ?_
      refine z_iload_n hX dX11_isStopped_168 rfl 3 rfl ?_
      refine z_iadd hX dX11_isStopped_169 ?_
      obtain ⟨a31, ha32, h⟩ := h
      obtain ⟨hk33, h⟩ := h
      obtain ⟨hc34, h⟩ := h
      refine y_lald (r := (mR M 728 h0)) hX dX11_isStopped_170 ha32 hk33 hc34 ?_
      refine z_callSJ (As := [.long l4, .long (aJ M a31 (((4 : Int32) + l3)).toNatClampNeg)]) (rest := [.long (aJ M a27 ((((4 : Int32) * l1) + l2)).toNatClampNeg)]) hX (ct_X11_plus h) mw_RX11_311 rfl (by rfl) (by unfold RoomC; decide) (by simp only [List.map_cons, List.map_nil, List.sum_cons, List.sum_nil, cat_rf, cat_i, cat_j]; decide) dX11_isStopped_171 (fun r35 M36 h => ?_)
      refine z_lcmp hX dX11_isStopped_174 ?_
      obtain ⟨h1, h2⟩ := h
      refine z_if_le (tgt := 182) hX dX11_isStopped_175 (by decide) (fun hc => ?_) (fun hc => ?_)
      · have h := h1 ((lg_cmp_le _ _).mp hc)
        refine z_iconst (v := (0 : Int32)) hX dX11_isStopped_182 (by decide) ?_
        refine z_loc [] rfl ?_
        exact zb_X11_isStopped_183 hX hQ hnL h
      · have h := h2 (fun q => hc ((lg_cmp_le _ _).mpr q))
        refine z_iconst (v := (1 : Int32)) hX dX11_isStopped_178 (by decide) ?_
        refine z_goto (tgt := 183) hX dX11_isStopped_179 (by decide) ?_
        refine z_loc [] rfl ?_
        exact zb_X11_isStopped_183 hX hQ hnL h
    · have h := h2 hc
      refine z_iconst (v := (0 : Int32)) hX dX11_isStopped_59 (by decide) ?_
      refine z_istore hX [(7, .int (0 : Int32)), (0, va_rf (some h0)), (1, .int l1), (2, .int l2), (3, .int l3), (4, .long l4), (6, .int l6)] dX11_isStopped_60 (by rw [hnL]; decide) rfl ?_
      refine z_loc [1, 2, 3, 4, 5, 6, 0] rfl ?_
      obtain ⟨n, h⟩ := h
      exact zl_X11_isStopped_62 hX hQ hnL hR48 n _ _ _ _ _ _ _ h
def wp_X11_isStopped (M : Mm) (h0 : Nat) (p1 : Int32) (p2 : Int32) (K : Int32 → Mm → Prop) : Prop := mK M h0 = 12 ∧ ∃ a39, (mR M 723 h0) = some a39 ∧ isA M a39 1 ∧ vp_in ((12 : Int32) + p1) (aN M a39) ∧ ∃ a43, (mR M 735 h0) = some a43 ∧ isA M a43 1 ∧ vp_in (((4 : Int32) * p1) + p2) (aN M a43) ∧ ((¬ (aI M a43 ((((4 : Int32) * p1) + p2)).toNatClampNeg) = 0 → (bk_X11_isStopped_38 h0 K M)) ∧ ((aI M a43 ((((4 : Int32) * p1) + p2)).toNatClampNeg) = 0 → (((aI M a39 (((12 : Int32) + p1)).toNatClampNeg) < 0 → (bk_X11_isStopped_38 h0 K M)) ∧ (¬ (aI M a39 (((12 : Int32) + p1)).toNatClampNeg) < 0 → ∃ a47, (mR M 727 h0) = some a47 ∧ isA M a47 3 ∧ vp_in ((4 : Int32) + (aI M a39 (((12 : Int32) + p1)).toNatClampNeg)) (aN M a47) ∧ ((¬ (aI M a47 (((4 : Int32) + (aI M a39 (((12 : Int32) + p1)).toNatClampNeg))).toNatClampNeg) = 0 → (∃ kk, lp_X11_isStopped_48 h0 K kk p1 p2 (aI M a39 (((12 : Int32) + p1)).toNatClampNeg) (9000000000000000000 : Int64) (0 : Int32) M)) ∧ ((aI M a47 (((4 : Int32) + (aI M a39 (((12 : Int32) + p1)).toNatClampNeg))).toNatClampNeg) = 0 → (bk_X11_isStopped_38 h0 K M)))))))
set_option maxRecDepth 100000 in
set_option maxHeartbeats 4000000 in
theorem ct_X11_isStopped {M : Mm} {h0 : Nat} {p1 : Int32} {p2 : Int32} {K : Int32 → Mm → Prop} (h : wp_X11_isStopped M h0 p1 p2 K) : CtI yX11_isStopped cX11_isStopped 8 (some .boolean) rm_X11_isStopped [.ref h0, .int p1, .int p2] M K := by
  refine ct_any (QI K) (by decide) (by exact Nat.le_of_ble_eq_true rfl) (fun X hX hQ hnL hnm => ?_)
  rw [show lv_args 0 [.ref h0, .int p1, .int p2] = [(0, va_rf (some h0)), (1, .int p1), (2, .int p2)] by rfl]
  have hX : Ok X cX11_isStopped RX11 rm_X11_isStopped := hX
  unfold wp_X11_isStopped at h
  refine z_aload_n (r := (some h0)) hX dX11_isStopped_0 rfl 0 rfl ?_
  obtain ⟨hk38, h⟩ := h
  refine gf_RX11_42 (r := (some h0)) hX dX11_isStopped_1 rfl hk38 ?_
  refine z_bipush (v := (12 : Int32)) hX dX11_isStopped_4 (by decide) ?_
  refine z_iload_n hX dX11_isStopped_6 rfl 1 rfl ?_
  refine z_iadd hX dX11_isStopped_7 ?_
  obtain ⟨a39, ha40, h⟩ := h
  obtain ⟨hk41, h⟩ := h
  obtain ⟨hc42, h⟩ := h
  refine y_iald (r := (mR M 723 h0)) hX dX11_isStopped_8 ha40 hk41 hc42 ?_
  refine z_istore_n hX [(3, .int (aI M a39 (((12 : Int32) + p1)).toNatClampNeg)), (0, va_rf (some h0)), (1, .int p1), (2, .int p2)] dX11_isStopped_9 rfl (by rw [hnL]; decide) rfl ?_
  refine z_aload_n (r := (some h0)) hX dX11_isStopped_10 rfl 1 rfl ?_
  refine gf_RX11_69 (r := (some h0)) hX dX11_isStopped_11 rfl hk38 ?_
  refine z_iconst (v := (4 : Int32)) hX dX11_isStopped_14 (by decide) ?_
  refine z_iload_n hX dX11_isStopped_15 rfl 2 rfl ?_
  refine z_imul hX dX11_isStopped_16 ?_
  refine z_iload_n hX dX11_isStopped_17 rfl 3 rfl ?_
  refine z_iadd hX dX11_isStopped_18 ?_
  obtain ⟨a43, ha44, h⟩ := h
  obtain ⟨hk45, h⟩ := h
  obtain ⟨hc46, h⟩ := h
  refine y_iald (r := (mR M 735 h0)) hX dX11_isStopped_19 ha44 hk45 hc46 ?_
  obtain ⟨h1, h2⟩ := h
  refine z_if_ne (tgt := 38) hX dX11_isStopped_20 (by decide) (fun hc => ?_) (fun hc => ?_)
  · have h := h1 hc
    refine z_loc [] rfl ?_
    exact zb_X11_isStopped_38 hX hQ hnL h
  · have h := h2 hc
    refine z_iload_n hX dX11_isStopped_23 rfl 0 rfl ?_
    obtain ⟨h1, h2⟩ := h
    refine z_if_lt (tgt := 38) hX dX11_isStopped_24 (by decide) (fun hc => ?_) (fun hc => ?_)
    · have h := h1 hc
      refine z_loc [] rfl ?_
      exact zb_X11_isStopped_38 hX hQ hnL h
    · have h := h2 hc
      refine z_aload_n (r := (some h0)) hX dX11_isStopped_27 rfl 1 rfl ?_
      refine gf_RX11_54 (r := (some h0)) hX dX11_isStopped_28 rfl hk38 ?_
      refine z_iconst (v := (4 : Int32)) hX dX11_isStopped_31 (by decide) ?_
      refine z_iload_n hX dX11_isStopped_32 rfl 0 rfl ?_
      refine z_iadd hX dX11_isStopped_33 ?_
      obtain ⟨a47, ha48, h⟩ := h
      obtain ⟨hk49, h⟩ := h
      obtain ⟨hc50, h⟩ := h
      refine y_zald (r := (mR M 727 h0)) hX dX11_isStopped_34 ha48 hk49 hc50 ?_
      obtain ⟨h1, h2⟩ := h
      refine z_if_ne (tgt := 40) hX dX11_isStopped_35 (by decide) (fun hc => ?_) (fun hc => ?_)
      · have h := h1 hc
        refine z_ldc2 (v := (9000000000000000000 : Int64)) hX dX11_isStopped_40 kj_RX11_298 ?_
        refine z_lstore hX [(4, .long (9000000000000000000 : Int64)), (3, .int (aI M a39 (((12 : Int32) + p1)).toNatClampNeg)), (0, va_rf (some h0)), (1, .int p1), (2, .int p2)] dX11_isStopped_43 (by rw [hnL]; decide) rfl ?_
        refine z_iconst (v := (0 : Int32)) hX dX11_isStopped_45 (by decide) ?_
        refine z_istore hX [(6, .int (0 : Int32)), (4, .long (9000000000000000000 : Int64)), (3, .int (aI M a39 (((12 : Int32) + p1)).toNatClampNeg)), (0, va_rf (some h0)), (1, .int p1), (2, .int p2)] dX11_isStopped_46 (by rw [hnL]; decide) rfl ?_
        refine z_loc [3, 4, 5, 2, 1, 0] rfl ?_
        obtain ⟨n, h⟩ := h
        exact zl_X11_isStopped_48 hX hQ hnL n _ _ _ _ _ _ h
      · have h := h2 hc
        refine z_loc [] rfl ?_
        exact zb_X11_isStopped_38 hX hQ hnL h
def rm_X11_hear : Room := { frames := 0, cells := 0, slots := 0, locals := 0 }
def wp_X11_hear (M : Mm) (h0 : Nat) (p1 : Int32) (p2 : Int32) (K : Mm → Prop) : Prop := mK M h0 = 12 ∧ ∃ a2, (mR M 735 h0) = some a2 ∧ isA M a2 1 ∧ vp_in (((4 : Int32) * p1) + p2) (aN M a2) ∧ ∃ a6, (mR (tI M a2 ((((4 : Int32) * p1) + p2)).toNatClampNeg (0 : Int32)) 737 h0) = some a6 ∧ isA (tI M a2 ((((4 : Int32) * p1) + p2)).toNatClampNeg (0 : Int32)) a6 1 ∧ vp_in (((4 : Int32) * p1) + p2) (aN (tI M a2 ((((4 : Int32) * p1) + p2)).toNatClampNeg (0 : Int32)) a6) ∧ (K (tI (tI M a2 ((((4 : Int32) * p1) + p2)).toNatClampNeg (0 : Int32)) a6 ((((4 : Int32) * p1) + p2)).toNatClampNeg (mI (tI M a2 ((((4 : Int32) * p1) + p2)).toNatClampNeg (0 : Int32)) 738 h0)))
set_option maxRecDepth 100000 in
set_option maxHeartbeats 4000000 in
theorem ct_X11_hear {M : Mm} {h0 : Nat} {p1 : Int32} {p2 : Int32} {K : Mm → Prop} (h : wp_X11_hear M h0 p1 p2 K) : CtV yX11_hear cX11_hear 3 none rm_X11_hear [.ref h0, .int p1, .int p2] M K := by
  refine ct_any (QV K) (by decide) (by exact Nat.le_of_ble_eq_true rfl) (fun X hX hQ hnL hnm => ?_)
  rw [show lv_args 0 [.ref h0, .int p1, .int p2] = [(0, va_rf (some h0)), (1, .int p1), (2, .int p2)] by rfl]
  have hX : Ok X cX11_hear RX11 rm_X11_hear := hX
  unfold wp_X11_hear at h
  refine z_aload_n (r := (some h0)) hX dX11_hear_0 rfl 0 rfl ?_
  obtain ⟨hk1, h⟩ := h
  refine gf_RX11_69 (r := (some h0)) hX dX11_hear_1 rfl hk1 ?_
  refine z_iconst (v := (4 : Int32)) hX dX11_hear_4 (by decide) ?_
  refine z_iload_n hX dX11_hear_5 rfl 1 rfl ?_
  refine z_imul hX dX11_hear_6 ?_
  refine z_iload_n hX dX11_hear_7 rfl 2 rfl ?_
  refine z_iadd hX dX11_hear_8 ?_
  refine z_iconst (v := (0 : Int32)) hX dX11_hear_9 (by decide) ?_
  obtain ⟨a2, ha3, h⟩ := h
  obtain ⟨hk4, h⟩ := h
  obtain ⟨hc5, h⟩ := h
  refine y_iast (r := (mR M 735 h0)) hX dX11_hear_10 ha3 hk4 hc5 ?_
  refine z_aload_n (r := (some h0)) hX dX11_hear_11 rfl 0 rfl ?_
  refine gf_RX11_75 (r := (some h0)) hX dX11_hear_12 rfl hk1 ?_
  refine z_iconst (v := (4 : Int32)) hX dX11_hear_15 (by decide) ?_
  refine z_iload_n hX dX11_hear_16 rfl 1 rfl ?_
  refine z_imul hX dX11_hear_17 ?_
  refine z_iload_n hX dX11_hear_18 rfl 2 rfl ?_
  refine z_iadd hX dX11_hear_19 ?_
  refine z_aload_n (r := (some h0)) hX dX11_hear_20 rfl 0 rfl ?_
  refine gf_RX11_292 (r := (some h0)) hX dX11_hear_21 rfl hk1 ?_
  obtain ⟨a6, ha7, h⟩ := h
  obtain ⟨hk8, h⟩ := h
  obtain ⟨hc9, h⟩ := h
  refine y_iast (r := (mR (tI M a2 ((((4 : Int32) * p1) + p2)).toNatClampNeg (0 : Int32)) 737 h0)) hX dX11_hear_24 ha7 hk8 hc9 ?_
  exact z_vret hX hQ dX11_hear_25 h
def rm_X11_mustBe : Room := { frames := 1, cells := 0, slots := 0, locals := 21 }
def bk_X11_mustBe_40 (h0 : Nat) (K : Int32 → Mm → Prop) (s0 : Int32) (M : Mm) : Prop := (bz s0 ∧ K s0 M)
set_option maxRecDepth 100000 in
set_option maxHeartbeats 4000000 in
theorem zb_X11_mustBe_40 {X : Cx} {h0 : Nat} {K : Int32 → Mm → Prop} (hX : Ok X cX11_mustBe RX11 rm_X11_mustBe) (hQ : Rq X rm_X11_mustBe (some .boolean) (QI K)) (hnL : X.2.2.2.2.2.2.2.2.2.2.2.2.2.2 = 2) {s0 : Int32} {M : Mm} (h : bk_X11_mustBe_40 h0 K s0 M) : Z X M 0 0 40 [] [.int s0] := by
  unfold bk_X11_mustBe_40 at h
  exact y_zret hX hQ dX11_mustBe_40 h.1 h.2
def bk_X11_mustBe_25 (h0 : Nat) (K : Int32 → Mm → Prop) (s0 : Int32) (s1 : Option Nat) (M : Mm) : Prop := ∃ a1, s1 = some a1 ∧ mK M a1 = 12 ∧ mK (sI M 704 a1 s0) h0 = 12 ∧ ((¬ (mI (sI M 704 a1 s0) 704 h0) = 0 → (bk_X11_mustBe_40 h0 K (0 : Int32) (sI M 704 a1 s0))) ∧ ((mI (sI M 704 a1 s0) 704 h0) = 0 → (bk_X11_mustBe_40 h0 K (1 : Int32) (sI M 704 a1 s0))))
set_option maxRecDepth 100000 in
set_option maxHeartbeats 4000000 in
theorem zb_X11_mustBe_25 {X : Cx} {h0 : Nat} {K : Int32 → Mm → Prop} (hX : Ok X cX11_mustBe RX11 rm_X11_mustBe) (hQ : Rq X rm_X11_mustBe (some .boolean) (QI K)) (hnL : X.2.2.2.2.2.2.2.2.2.2.2.2.2.2 = 2) {s0 : Int32} {s1 : Option Nat} {M : Mm} (h : bk_X11_mustBe_25 h0 K s0 s1 M) : Z X M 0 0 25 [(0, va_rf (some h0))] [.int s0, va_rf s1] := by
  unfold bk_X11_mustBe_25 at h
  obtain ⟨a1, ha2, h⟩ := h
  obtain ⟨hk3, h⟩ := h
  refine pf_RX11_123 (r := s1) (v := s0) hX dX11_mustBe_25 ha2 hk3 ?_
  refine z_aload_n (r := (some h0)) hX dX11_mustBe_28 rfl 0 rfl ?_
  obtain ⟨hk5, h⟩ := h
  refine gf_RX11_123 (r := (some h0)) hX dX11_mustBe_29 rfl hk5 ?_
  obtain ⟨h1, h2⟩ := h
  refine z_if_ne (tgt := 39) hX dX11_mustBe_32 (by decide) (fun hc => ?_) (fun hc => ?_)
  · have h := h1 hc
    refine z_iconst (v := (0 : Int32)) hX dX11_mustBe_39 (by decide) ?_
    refine z_loc [] rfl ?_
    exact zb_X11_mustBe_40 hX hQ hnL h
  · have h := h2 hc
    refine z_iconst (v := (1 : Int32)) hX dX11_mustBe_35 (by decide) ?_
    refine z_goto (tgt := 40) hX dX11_mustBe_36 (by decide) ?_
    refine z_loc [] rfl ?_
    exact zb_X11_mustBe_40 hX hQ hnL h
def wp_X11_mustBe (M : Mm) (h0 : Nat) (p1 : Int32) (K : Int32 → Mm → Prop) : Prop := mK M h0 = 12 ∧ ((¬ (mI M 732 h0) = 0 → (wp_X11_isStream M h0 p1 (fun r7 M8 => ((r7 = 0 → (bk_X11_mustBe_25 h0 K (2 : Int32) (some h0) M8)) ∧ (¬ r7 = 0 → (bk_X11_mustBe_25 h0 K (0 : Int32) (some h0) M8)))))) ∧ ((mI M 732 h0) = 0 → (bk_X11_mustBe_25 h0 K (1 : Int32) (some h0) M)))
set_option maxRecDepth 100000 in
set_option maxHeartbeats 4000000 in
theorem ct_X11_mustBe {M : Mm} {h0 : Nat} {p1 : Int32} {K : Int32 → Mm → Prop} (h : wp_X11_mustBe M h0 p1 K) : CtI yX11_mustBe cX11_mustBe 2 (some .boolean) rm_X11_mustBe [.ref h0, .int p1] M K := by
  refine ct_any (QI K) (by decide) (by exact Nat.le_of_ble_eq_true rfl) (fun X hX hQ hnL hnm => ?_)
  rw [show lv_args 0 [.ref h0, .int p1] = [(0, va_rf (some h0)), (1, .int p1)] by rfl]
  have hX : Ok X cX11_mustBe RX11 rm_X11_mustBe := hX
  unfold wp_X11_mustBe at h
  refine z_aload_n (r := (some h0)) hX dX11_mustBe_0 rfl 0 rfl ?_
  refine z_aload_n (r := (some h0)) hX dX11_mustBe_1 rfl 0 rfl ?_
  obtain ⟨hk6, h⟩ := h
  refine gf_RX11_277 (r := (some h0)) hX dX11_mustBe_2 rfl hk6 ?_
  obtain ⟨h1, h2⟩ := h
  refine z_if_ne (tgt := 12) hX dX11_mustBe_5 (by decide) (fun hc => ?_) (fun hc => ?_)
  · have h := h1 hc
    refine z_aload_n (r := (some h0)) hX dX11_mustBe_12 rfl 0 rfl ?_
    refine z_iload_n hX dX11_mustBe_13 rfl 1 rfl ?_
    refine z_callVI (As := [.int p1]) (rest := [va_rf (some h0)]) (ci := 11) hX (ct_X11_isStream h) mw_RX11_371 rfl (by decide) rfl (by rfl) (by unfold RoomC; decide) (by simp only [List.map_cons, List.map_nil, List.sum_cons, List.sum_nil, cat_rf, cat_i, cat_j]; decide) dX11_mustBe_14 hk6 (fun r7 M8 h => ?_)
    obtain ⟨h1, h2⟩ := h
    refine z_if_eq (tgt := 24) hX dX11_mustBe_17 (by decide) (fun hc => ?_) (fun hc => ?_)
    · have h := h1 hc
      refine z_iconst (v := (2 : Int32)) hX dX11_mustBe_24 (by decide) ?_
      refine z_loc [0] rfl ?_
      exact zb_X11_mustBe_25 hX hQ hnL h
    · have h := h2 hc
      refine z_iconst (v := (0 : Int32)) hX dX11_mustBe_20 (by decide) ?_
      refine z_goto (tgt := 25) hX dX11_mustBe_21 (by decide) ?_
      refine z_loc [0] rfl ?_
      exact zb_X11_mustBe_25 hX hQ hnL h
  · have h := h2 hc
    refine z_iconst (v := (1 : Int32)) hX dX11_mustBe_8 (by decide) ?_
    refine z_goto (tgt := 25) hX dX11_mustBe_9 (by decide) ?_
    refine z_loc [0] rfl ?_
    exact zb_X11_mustBe_25 hX hQ hnL h
def rm_X11_watermark : Room := { frames := 2, cells := 0, slots := 0, locals := 42 }
def bk_X11_watermark_18 (h0 : Nat) (K : Int64 → Mm → Prop) (s0 : Int64) (M : Mm) : Prop := (K s0 M)
set_option maxRecDepth 100000 in
set_option maxHeartbeats 4000000 in
theorem zb_X11_watermark_18 {X : Cx} {h0 : Nat} {K : Int64 → Mm → Prop} (hX : Ok X cX11_watermark RX11 rm_X11_watermark) (hQ : Rq X rm_X11_watermark (some .long) (QJ K)) (hnL : X.2.2.2.2.2.2.2.2.2.2.2.2.2.2 = 2) {s0 : Int64} {M : Mm} (h : bk_X11_watermark_18 h0 K s0 M) : Z X M 0 0 18 [] [.long s0] := by
  unfold bk_X11_watermark_18 at h
  exact z_lret hX hQ dX11_watermark_18 h
def wp_X11_watermark (M : Mm) (h0 : Nat) (p1 : Int32) (K : Int64 → Mm → Prop) : Prop := mK M h0 = 12 ∧ (wp_X11_mustBe M h0 p1 (fun r1 M2 => ((r1 = 0 → (bk_X11_watermark_18 h0 K (0 : Int64) M2)) ∧ (¬ r1 = 0 → mK M2 h0 = 12 ∧ ∃ a6, (mR M2 733 h0) = some a6 ∧ isA M2 a6 2 ∧ vp_in p1 (aN M2 a6) ∧ (bk_X11_watermark_18 h0 K (aJ M2 a6 (p1).toNatClampNeg) M2)))))
set_option maxRecDepth 100000 in
set_option maxHeartbeats 4000000 in
theorem ct_X11_watermark {M : Mm} {h0 : Nat} {p1 : Int32} {K : Int64 → Mm → Prop} (h : wp_X11_watermark M h0 p1 K) : CtJ yX11_watermark cX11_watermark 2 (some .long) rm_X11_watermark [.ref h0, .int p1] M K := by
  refine ct_any (QJ K) (by decide) (by exact Nat.le_of_ble_eq_true rfl) (fun X hX hQ hnL hnm => ?_)
  rw [show lv_args 0 [.ref h0, .int p1] = [(0, va_rf (some h0)), (1, .int p1)] by rfl]
  have hX : Ok X cX11_watermark RX11 rm_X11_watermark := hX
  unfold wp_X11_watermark at h
  refine z_aload_n (r := (some h0)) hX dX11_watermark_0 rfl 0 rfl ?_
  refine z_iload_n hX dX11_watermark_1 rfl 1 rfl ?_
  obtain ⟨hk3, h⟩ := h
  refine z_callVI (As := [.int p1]) (rest := []) (ci := 11) hX (ct_X11_mustBe h) mw_RX11_398 rfl (by decide) rfl (by rfl) (by unfold RoomC; decide) (by decide) dX11_watermark_2 hk3 (fun r1 M2 h => ?_)
  obtain ⟨h1, h2⟩ := h
  refine z_if_eq (tgt := 17) hX dX11_watermark_5 (by decide) (fun hc => ?_) (fun hc => ?_)
  · have h := h1 hc
    refine z_lconst (v := (0 : Int64)) hX dX11_watermark_17 (by decide) ?_
    refine z_loc [] rfl ?_
    exact zb_X11_watermark_18 hX hQ hnL h
  · have h := h2 hc
    refine z_aload_n (r := (some h0)) hX dX11_watermark_8 rfl 0 rfl ?_
    obtain ⟨hk5, h⟩ := h
    refine gf_RX11_63 (r := (some h0)) hX dX11_watermark_9 rfl hk5 ?_
    refine z_iload_n hX dX11_watermark_12 rfl 1 rfl ?_
    obtain ⟨a6, ha7, h⟩ := h
    obtain ⟨hk8, h⟩ := h
    obtain ⟨hc9, h⟩ := h
    refine y_lald (r := (mR M2 733 h0)) hX dX11_watermark_13 ha7 hk8 hc9 ?_
    refine z_goto (tgt := 18) hX dX11_watermark_14 (by decide) ?_
    refine z_loc [] rfl ?_
    exact zb_X11_watermark_18 hX hQ hnL h
def rm_X11_isIdle : Room := { frames := 2, cells := 0, slots := 0, locals := 42 }
def bk_X11_isIdle_22 (h0 : Nat) (K : Int32 → Mm → Prop) (s0 : Int32) (M : Mm) : Prop := (bz s0 ∧ K s0 M)
set_option maxRecDepth 100000 in
set_option maxHeartbeats 4000000 in
theorem zb_X11_isIdle_22 {X : Cx} {h0 : Nat} {K : Int32 → Mm → Prop} (hX : Ok X cX11_isIdle RX11 rm_X11_isIdle) (hQ : Rq X rm_X11_isIdle (some .boolean) (QI K)) (hnL : X.2.2.2.2.2.2.2.2.2.2.2.2.2.2 = 2) {s0 : Int32} {M : Mm} (h : bk_X11_isIdle_22 h0 K s0 M) : Z X M 0 0 22 [] [.int s0] := by
  unfold bk_X11_isIdle_22 at h
  exact y_zret hX hQ dX11_isIdle_22 h.1 h.2
def bk_X11_isIdle_21 (h0 : Nat) (K : Int32 → Mm → Prop) (M : Mm) : Prop := (bk_X11_isIdle_22 h0 K (0 : Int32) M)
set_option maxRecDepth 100000 in
set_option maxHeartbeats 4000000 in
theorem zb_X11_isIdle_21 {X : Cx} {h0 : Nat} {K : Int32 → Mm → Prop} (hX : Ok X cX11_isIdle RX11 rm_X11_isIdle) (hQ : Rq X rm_X11_isIdle (some .boolean) (QI K)) (hnL : X.2.2.2.2.2.2.2.2.2.2.2.2.2.2 = 2) {M : Mm} (h : bk_X11_isIdle_21 h0 K M) : Z X M 0 0 21 [] [] := by
  unfold bk_X11_isIdle_21 at h
  refine z_iconst (v := (0 : Int32)) hX dX11_isIdle_21 (by decide) ?_
  exact zb_X11_isIdle_22 hX hQ hnL h
def wp_X11_isIdle (M : Mm) (h0 : Nat) (p1 : Int32) (K : Int32 → Mm → Prop) : Prop := mK M h0 = 12 ∧ (wp_X11_mustBe M h0 p1 (fun r1 M2 => ((r1 = 0 → (bk_X11_isIdle_21 h0 K M2)) ∧ (¬ r1 = 0 → mK M2 h0 = 12 ∧ ∃ a6, (mR M2 734 h0) = some a6 ∧ isA M2 a6 3 ∧ vp_in p1 (aN M2 a6) ∧ (((aI M2 a6 (p1).toNatClampNeg) = 0 → (bk_X11_isIdle_21 h0 K M2)) ∧ (¬ (aI M2 a6 (p1).toNatClampNeg) = 0 → (bk_X11_isIdle_22 h0 K (1 : Int32) M2)))))))
set_option maxRecDepth 100000 in
set_option maxHeartbeats 4000000 in
theorem ct_X11_isIdle {M : Mm} {h0 : Nat} {p1 : Int32} {K : Int32 → Mm → Prop} (h : wp_X11_isIdle M h0 p1 K) : CtI yX11_isIdle cX11_isIdle 2 (some .boolean) rm_X11_isIdle [.ref h0, .int p1] M K := by
  refine ct_any (QI K) (by decide) (by exact Nat.le_of_ble_eq_true rfl) (fun X hX hQ hnL hnm => ?_)
  rw [show lv_args 0 [.ref h0, .int p1] = [(0, va_rf (some h0)), (1, .int p1)] by rfl]
  have hX : Ok X cX11_isIdle RX11 rm_X11_isIdle := hX
  unfold wp_X11_isIdle at h
  refine z_aload_n (r := (some h0)) hX dX11_isIdle_0 rfl 0 rfl ?_
  refine z_iload_n hX dX11_isIdle_1 rfl 1 rfl ?_
  obtain ⟨hk3, h⟩ := h
  refine z_callVI (As := [.int p1]) (rest := []) (ci := 11) hX (ct_X11_mustBe h) mw_RX11_398 rfl (by decide) rfl (by rfl) (by unfold RoomC; decide) (by decide) dX11_isIdle_2 hk3 (fun r1 M2 h => ?_)
  obtain ⟨h1, h2⟩ := h
  refine z_if_eq (tgt := 21) hX dX11_isIdle_5 (by decide) (fun hc => ?_) (fun hc => ?_)
  · have h := h1 hc
    refine z_loc [] rfl ?_
    exact zb_X11_isIdle_21 hX hQ hnL h
  · have h := h2 hc
    refine z_aload_n (r := (some h0)) hX dX11_isIdle_8 rfl 0 rfl ?_
    obtain ⟨hk5, h⟩ := h
    refine gf_RX11_66 (r := (some h0)) hX dX11_isIdle_9 rfl hk5 ?_
    refine z_iload_n hX dX11_isIdle_12 rfl 1 rfl ?_
    obtain ⟨a6, ha7, h⟩ := h
    obtain ⟨hk8, h⟩ := h
    obtain ⟨hc9, h⟩ := h
    refine y_zald (r := (mR M2 734 h0)) hX dX11_isIdle_13 ha7 hk8 hc9 ?_
    obtain ⟨h1, h2⟩ := h
    refine z_if_eq (tgt := 21) hX dX11_isIdle_14 (by decide) (fun hc => ?_) (fun hc => ?_)
    · have h := h1 hc
      refine z_loc [] rfl ?_
      exact zb_X11_isIdle_21 hX hQ hnL h
    · have h := h2 hc
      refine z_iconst (v := (1 : Int32)) hX dX11_isIdle_17 (by decide) ?_
      refine z_goto (tgt := 22) hX dX11_isIdle_18 (by decide) ?_
      refine z_loc [] rfl ?_
      exact zb_X11_isIdle_22 hX hQ hnL h
def rm_X11_promise : Room := { frames := 2, cells := 0, slots := 0, locals := 43 }
def bk_X11_promise_50 (h0 : Nat) (K : Int64 → Mm → Prop) (s0 : Int64) (M : Mm) : Prop := (K s0 M)
set_option maxRecDepth 100000 in
set_option maxHeartbeats 4000000 in
theorem zb_X11_promise_50 {X : Cx} {h0 : Nat} {K : Int64 → Mm → Prop} (hX : Ok X cX11_promise RX11 rm_X11_promise) (hQ : Rq X rm_X11_promise (some .long) (QJ K)) (hnL : X.2.2.2.2.2.2.2.2.2.2.2.2.2.2 = 3) {s0 : Int64} {M : Mm} (h : bk_X11_promise_50 h0 K s0 M) : Z X M 0 0 50 [] [.long s0] := by
  unfold bk_X11_promise_50 at h
  exact z_lret hX hQ dX11_promise_50 h
def bk_X11_promise_26 (h0 : Nat) (K : Int64 → Mm → Prop) (l1 : Int32) (l2 : Int32) (s0 : Int32) (s1 : Option Nat) (M : Mm) : Prop := ∃ a1, s1 = some a1 ∧ mK M a1 = 12 ∧ mK (sI M 704 a1 s0) h0 = 12 ∧ ((¬ (mI (sI M 704 a1 s0) 704 h0) = 0 → (bk_X11_promise_50 h0 K (0 : Int64) (sI M 704 a1 s0))) ∧ ((mI (sI M 704 a1 s0) 704 h0) = 0 → ∃ a6, (mR (sI M 704 a1 s0) 736 h0) = some a6 ∧ isA (sI M 704 a1 s0) a6 2 ∧ vp_in (((4 : Int32) * l1) + l2) (aN (sI M 704 a1 s0) a6) ∧ (bk_X11_promise_50 h0 K (aJ (sI M 704 a1 s0) a6 ((((4 : Int32) * l1) + l2)).toNatClampNeg) (sI M 704 a1 s0))))
set_option maxRecDepth 100000 in
set_option maxHeartbeats 4000000 in
theorem zb_X11_promise_26 {X : Cx} {h0 : Nat} {K : Int64 → Mm → Prop} (hX : Ok X cX11_promise RX11 rm_X11_promise) (hQ : Rq X rm_X11_promise (some .long) (QJ K)) (hnL : X.2.2.2.2.2.2.2.2.2.2.2.2.2.2 = 3) {l1 : Int32} {l2 : Int32} {s0 : Int32} {s1 : Option Nat} {M : Mm} (h : bk_X11_promise_26 h0 K l1 l2 s0 s1 M) : Z X M 0 0 26 [(0, va_rf (some h0)), (1, .int l1), (2, .int l2)] [.int s0, va_rf s1] := by
  unfold bk_X11_promise_26 at h
  obtain ⟨a1, ha2, h⟩ := h
  obtain ⟨hk3, h⟩ := h
  refine pf_RX11_123 (r := s1) (v := s0) hX dX11_promise_26 ha2 hk3 ?_
  refine z_aload_n (r := (some h0)) hX dX11_promise_29 rfl 0 rfl ?_
  obtain ⟨hk5, h⟩ := h
  refine gf_RX11_123 (r := (some h0)) hX dX11_promise_30 rfl hk5 ?_
  obtain ⟨h1, h2⟩ := h
  refine z_if_ne (tgt := 49) hX dX11_promise_33 (by decide) (fun hc => ?_) (fun hc => ?_)
  · have h := h1 hc
    refine z_lconst (v := (0 : Int64)) hX dX11_promise_49 (by decide) ?_
    refine z_loc [] rfl ?_
    exact zb_X11_promise_50 hX hQ hnL h
  · have h := h2 hc
    refine z_aload_n (r := (some h0)) hX dX11_promise_36 rfl 0 rfl ?_
    refine gf_RX11_72 (r := (some h0)) hX dX11_promise_37 rfl hk5 ?_
    refine z_iconst (v := (4 : Int32)) hX dX11_promise_40 (by decide) ?_
    refine z_iload_n hX dX11_promise_41 rfl 1 rfl ?_
    refine z_imul hX dX11_promise_42 ?_
    refine z_iload_n hX dX11_promise_43 rfl 2 rfl ?_
    refine z_iadd hX dX11_promise_44 ?_
    obtain ⟨a6, ha7, h⟩ := h
    obtain ⟨hk8, h⟩ := h
    obtain ⟨hc9, h⟩ := h
    refine y_lald (r := (mR (sI M 704 a1 s0) 736 h0)) hX dX11_promise_45 ha7 hk8 hc9 ?_
    refine z_goto (tgt := 50) hX dX11_promise_46 (by decide) ?_
    refine z_loc [] rfl ?_
    exact zb_X11_promise_50 hX hQ hnL h
def wp_X11_promise (M : Mm) (h0 : Nat) (p1 : Int32) (p2 : Int32) (K : Int64 → Mm → Prop) : Prop := mK M h0 = 12 ∧ ((¬ (mI M 732 h0) = 0 → (wp_X11_isPart M h0 p1 p2 (fun r11 M12 => ((r11 = 0 → (bk_X11_promise_26 h0 K p1 p2 (2 : Int32) (some h0) M12)) ∧ (¬ r11 = 0 → (bk_X11_promise_26 h0 K p1 p2 (0 : Int32) (some h0) M12)))))) ∧ ((mI M 732 h0) = 0 → (bk_X11_promise_26 h0 K p1 p2 (1 : Int32) (some h0) M)))
set_option maxRecDepth 100000 in
set_option maxHeartbeats 4000000 in
theorem ct_X11_promise {M : Mm} {h0 : Nat} {p1 : Int32} {p2 : Int32} {K : Int64 → Mm → Prop} (h : wp_X11_promise M h0 p1 p2 K) : CtJ yX11_promise cX11_promise 3 (some .long) rm_X11_promise [.ref h0, .int p1, .int p2] M K := by
  refine ct_any (QJ K) (by decide) (by exact Nat.le_of_ble_eq_true rfl) (fun X hX hQ hnL hnm => ?_)
  rw [show lv_args 0 [.ref h0, .int p1, .int p2] = [(0, va_rf (some h0)), (1, .int p1), (2, .int p2)] by rfl]
  have hX : Ok X cX11_promise RX11 rm_X11_promise := hX
  unfold wp_X11_promise at h
  refine z_aload_n (r := (some h0)) hX dX11_promise_0 rfl 0 rfl ?_
  refine z_aload_n (r := (some h0)) hX dX11_promise_1 rfl 0 rfl ?_
  obtain ⟨hk10, h⟩ := h
  refine gf_RX11_277 (r := (some h0)) hX dX11_promise_2 rfl hk10 ?_
  obtain ⟨h1, h2⟩ := h
  refine z_if_ne (tgt := 12) hX dX11_promise_5 (by decide) (fun hc => ?_) (fun hc => ?_)
  · have h := h1 hc
    refine z_aload_n (r := (some h0)) hX dX11_promise_12 rfl 0 rfl ?_
    refine z_iload_n hX dX11_promise_13 rfl 1 rfl ?_
    refine z_iload_n hX dX11_promise_14 rfl 2 rfl ?_
    refine z_callVI (As := [.int p1, .int p2]) (rest := [va_rf (some h0)]) (ci := 11) hX (ct_X11_isPart h) mw_RX11_381 rfl (by decide) rfl (by rfl) (by unfold RoomC; decide) (by simp only [List.map_cons, List.map_nil, List.sum_cons, List.sum_nil, cat_rf, cat_i, cat_j]; decide) dX11_promise_15 hk10 (fun r11 M12 h => ?_)
    obtain ⟨h1, h2⟩ := h
    refine z_if_eq (tgt := 25) hX dX11_promise_18 (by decide) (fun hc => ?_) (fun hc => ?_)
    · have h := h1 hc
      refine z_iconst (v := (2 : Int32)) hX dX11_promise_25 (by decide) ?_
      exact zb_X11_promise_26 hX hQ hnL h
    · have h := h2 hc
      refine z_iconst (v := (0 : Int32)) hX dX11_promise_21 (by decide) ?_
      refine z_goto (tgt := 26) hX dX11_promise_22 (by decide) ?_
      exact zb_X11_promise_26 hX hQ hnL h
  · have h := h2 hc
    refine z_iconst (v := (1 : Int32)) hX dX11_promise_8 (by decide) ?_
    refine z_goto (tgt := 26) hX dX11_promise_9 (by decide) ?_
    exact zb_X11_promise_26 hX hQ hnL h
def rm_X11_part : Room := { frames := 2, cells := 0, slots := 0, locals := 52 }
def bk_X11_part_39 (h0 : Nat) (K : Int32 → Mm → Prop) (s0 : Int32) (M : Mm) : Prop := (K s0 M)
set_option maxRecDepth 100000 in
set_option maxHeartbeats 4000000 in
theorem zb_X11_part_39 {X : Cx} {h0 : Nat} {K : Int32 → Mm → Prop} (hX : Ok X cX11_part RX11 rm_X11_part) (hQ : Rq X rm_X11_part (some .int) (QI K)) (hnL : X.2.2.2.2.2.2.2.2.2.2.2.2.2.2 = 3) {s0 : Int32} {M : Mm} (h : bk_X11_part_39 h0 K s0 M) : Z X M 0 0 39 [] [.int s0] := by
  unfold bk_X11_part_39 at h
  exact z_iret hX hQ dX11_part_39 h
def wp_X11_part (M : Mm) (h0 : Nat) (p1 : Int32) (p2 : Int32) (K : Int32 → Mm → Prop) : Prop := mK M h0 = 12 ∧ (wp_X11_isPart (sI M 704 h0 (0 : Int32)) h0 p1 p2 (fun r3 M4 => ((¬ r3 = 0 → mK M4 h0 = 12 ∧ (wp_X11_isStopped M4 h0 p1 p2 (fun r6 M7 => ((r6 = 0 → mK M7 h0 = 12 ∧ ∃ a11, (mR M7 735 h0) = some a11 ∧ isA M7 a11 1 ∧ vp_in (((4 : Int32) * p1) + p2) (aN M7 a11) ∧ (bk_X11_part_39 h0 K (aI M7 a11 ((((4 : Int32) * p1) + p2)).toNatClampNeg) M7)) ∧ (¬ r6 = 0 → (bk_X11_part_39 h0 K (3 : Int32) M7)))))) ∧ (r3 = 0 → (K (-1 : Int32) M4)))))
set_option maxRecDepth 100000 in
set_option maxHeartbeats 4000000 in
theorem ct_X11_part {M : Mm} {h0 : Nat} {p1 : Int32} {p2 : Int32} {K : Int32 → Mm → Prop} (h : wp_X11_part M h0 p1 p2 K) : CtI yX11_part cX11_part 3 (some .int) rm_X11_part [.ref h0, .int p1, .int p2] M K := by
  refine ct_any (QI K) (by decide) (by exact Nat.le_of_ble_eq_true rfl) (fun X hX hQ hnL hnm => ?_)
  rw [show lv_args 0 [.ref h0, .int p1, .int p2] = [(0, va_rf (some h0)), (1, .int p1), (2, .int p2)] by rfl]
  have hX : Ok X cX11_part RX11 rm_X11_part := hX
  unfold wp_X11_part at h
  refine z_aload_n (r := (some h0)) hX dX11_part_0 rfl 0 rfl ?_
  refine z_iconst (v := (0 : Int32)) hX dX11_part_1 (by decide) ?_
  obtain ⟨hk1, h⟩ := h
  refine pf_RX11_123 (r := (some h0)) (v := (0 : Int32)) hX dX11_part_2 rfl hk1 ?_
  refine z_aload_n (r := (some h0)) hX dX11_part_5 rfl 0 rfl ?_
  refine z_iload_n hX dX11_part_6 rfl 1 rfl ?_
  refine z_iload_n hX dX11_part_7 rfl 2 rfl ?_
  refine z_callVI (As := [.int p1, .int p2]) (rest := []) (ci := 11) hX (ct_X11_isPart h) mw_RX11_381 rfl (by decide) rfl (by rfl) (by unfold RoomC; decide) (by decide) dX11_part_8 hk1 (fun r3 M4 h => ?_)
  obtain ⟨h1, h2⟩ := h
  refine z_if_ne (tgt := 16) hX dX11_part_11 (by decide) (fun hc => ?_) (fun hc => ?_)
  · have h := h1 hc
    refine z_aload_n (r := (some h0)) hX dX11_part_16 rfl 0 rfl ?_
    refine z_iload_n hX dX11_part_17 rfl 1 rfl ?_
    refine z_iload_n hX dX11_part_18 rfl 2 rfl ?_
    obtain ⟨hk8, h⟩ := h
    refine z_callVI (As := [.int p1, .int p2]) (rest := []) (ci := 11) hX (ct_X11_isStopped h) mw_RX11_389 rfl (by decide) rfl (by rfl) (by unfold RoomC; decide) (by decide) dX11_part_19 hk8 (fun r6 M7 h => ?_)
    obtain ⟨h1, h2⟩ := h
    refine z_if_eq (tgt := 29) hX dX11_part_22 (by decide) (fun hc => ?_) (fun hc => ?_)
    · have h := h1 hc
      refine z_aload_n (r := (some h0)) hX dX11_part_29 rfl 0 rfl ?_
      obtain ⟨hk10, h⟩ := h
      refine gf_RX11_69 (r := (some h0)) hX dX11_part_30 rfl hk10 ?_
      refine z_iconst (v := (4 : Int32)) hX dX11_part_33 (by decide) ?_
      refine z_iload_n hX dX11_part_34 rfl 1 rfl ?_
      refine z_imul hX dX11_part_35 ?_
      refine z_iload_n hX dX11_part_36 rfl 2 rfl ?_
      refine z_iadd hX dX11_part_37 ?_
      obtain ⟨a11, ha12, h⟩ := h
      obtain ⟨hk13, h⟩ := h
      obtain ⟨hc14, h⟩ := h
      refine y_iald (r := (mR M7 735 h0)) hX dX11_part_38 ha12 hk13 hc14 ?_
      refine z_loc [] rfl ?_
      exact zb_X11_part_39 hX hQ hnL h
    · have h := h2 hc
      refine z_iconst (v := (3 : Int32)) hX dX11_part_25 (by decide) ?_
      refine z_goto (tgt := 39) hX dX11_part_26 (by decide) ?_
      refine z_loc [] rfl ?_
      exact zb_X11_part_39 hX hQ hnL h
  · have h := h2 hc
    refine z_iconst (v := (-1 : Int32)) hX dX11_part_14 (by decide) ?_
    exact z_iret hX hQ dX11_part_15 h
def rm_X11_heldIn : Room := { frames := 0, cells := 0, slots := 0, locals := 0 }
def bk_X11_heldIn_41 (h0 : Nat) (R4 : Int32 → Int32 → Int32 → Mm → Prop) (K : Int32 → Mm → Prop) (l1 : Int32) (l3 : Int32) (s0 : Int32) (s1 : Int32) (M : Mm) : Prop := (R4 l1 (s1 + s0) (l3 + 1) M)
set_option maxRecDepth 100000 in
set_option maxHeartbeats 4000000 in
theorem zb_X11_heldIn_41 {X : Cx} {h0 : Nat} {R4 : Int32 → Int32 → Int32 → Mm → Prop} {K : Int32 → Mm → Prop} (hX : Ok X cX11_heldIn RX11 rm_X11_heldIn) (hQ : Rq X rm_X11_heldIn (some .int) (QI K)) (hnL : X.2.2.2.2.2.2.2.2.2.2.2.2.2.2 = 4) (hR4 : ∀ l1 l2 l3 M, R4 l1 l2 l3 M → Z X M 0 0 4 [(0, va_rf (some h0)), (1, .int l1), (2, .int l2), (3, .int l3)] []) {l1 : Int32} {l3 : Int32} {s0 : Int32} {s1 : Int32} {M : Mm} (h : bk_X11_heldIn_41 h0 R4 K l1 l3 s0 s1 M) : Z X M 0 0 41 [(0, va_rf (some h0)), (1, .int l1), (3, .int l3)] [.int s0, .int s1] := by
  unfold bk_X11_heldIn_41 at h
  refine z_iadd hX dX11_heldIn_41 ?_
  refine z_istore_n hX [(2, .int (s1 + s0)), (0, va_rf (some h0)), (1, .int l1), (3, .int l3)] dX11_heldIn_42 rfl (by rw [hnL]; decide) rfl ?_
  refine z_iinc (v := (l3 + 1)) hX [(3, .int (l3 + 1)), (2, .int (s1 + s0)), (0, va_rf (some h0)), (1, .int l1)] dX11_heldIn_43 3 rfl rfl (by rw [hnL]; decide) rfl ?_
  refine z_goto (tgt := 4) hX dX11_heldIn_46 (by decide) ?_
  refine z_loc [2, 3, 1, 0] rfl ?_
  exact hR4 _ _ _ _ h
def bk_X11_heldIn_40 (h0 : Nat) (R4 : Int32 → Int32 → Int32 → Mm → Prop) (K : Int32 → Mm → Prop) (l1 : Int32) (l3 : Int32) (s0 : Int32) (M : Mm) : Prop := (bk_X11_heldIn_41 h0 R4 K l1 l3 (0 : Int32) s0 M)
set_option maxRecDepth 100000 in
set_option maxHeartbeats 4000000 in
theorem zb_X11_heldIn_40 {X : Cx} {h0 : Nat} {R4 : Int32 → Int32 → Int32 → Mm → Prop} {K : Int32 → Mm → Prop} (hX : Ok X cX11_heldIn RX11 rm_X11_heldIn) (hQ : Rq X rm_X11_heldIn (some .int) (QI K)) (hnL : X.2.2.2.2.2.2.2.2.2.2.2.2.2.2 = 4) (hR4 : ∀ l1 l2 l3 M, R4 l1 l2 l3 M → Z X M 0 0 4 [(0, va_rf (some h0)), (1, .int l1), (2, .int l2), (3, .int l3)] []) {l1 : Int32} {l3 : Int32} {s0 : Int32} {M : Mm} (h : bk_X11_heldIn_40 h0 R4 K l1 l3 s0 M) : Z X M 0 0 40 [(0, va_rf (some h0)), (1, .int l1), (3, .int l3)] [.int s0] := by
  unfold bk_X11_heldIn_40 at h
  refine z_iconst (v := (0 : Int32)) hX dX11_heldIn_40 (by decide) ?_
  exact zb_X11_heldIn_41 hX hQ hnL hR4 h
def bk_X11_heldIn_36 (h0 : Nat) (R4 : Int32 → Int32 → Int32 → Mm → Prop) (K : Int32 → Mm → Prop) (l1 : Int32) (l3 : Int32) (s0 : Int32) (M : Mm) : Prop := (bk_X11_heldIn_41 h0 R4 K l1 l3 (1 : Int32) s0 M)
set_option maxRecDepth 100000 in
set_option maxHeartbeats 4000000 in
theorem zb_X11_heldIn_36 {X : Cx} {h0 : Nat} {R4 : Int32 → Int32 → Int32 → Mm → Prop} {K : Int32 → Mm → Prop} (hX : Ok X cX11_heldIn RX11 rm_X11_heldIn) (hQ : Rq X rm_X11_heldIn (some .int) (QI K)) (hnL : X.2.2.2.2.2.2.2.2.2.2.2.2.2.2 = 4) (hR4 : ∀ l1 l2 l3 M, R4 l1 l2 l3 M → Z X M 0 0 4 [(0, va_rf (some h0)), (1, .int l1), (2, .int l2), (3, .int l3)] []) {l1 : Int32} {l3 : Int32} {s0 : Int32} {M : Mm} (h : bk_X11_heldIn_36 h0 R4 K l1 l3 s0 M) : Z X M 0 0 36 [(0, va_rf (some h0)), (1, .int l1), (3, .int l3)] [.int s0] := by
  unfold bk_X11_heldIn_36 at h
  refine z_iconst (v := (1 : Int32)) hX dX11_heldIn_36 (by decide) ?_
  refine z_goto (tgt := 41) hX dX11_heldIn_37 (by decide) ?_
  exact zb_X11_heldIn_41 hX hQ hnL hR4 h
def lp_X11_heldIn_4 (h0 : Nat) (K : Int32 → Mm → Prop) : Nat → Int32 → Int32 → Int32 → Mm → Prop
  | 0, _, _, _, _ => False
  | n + 1, l1, l2, l3, M => mK M h0 = 12 ∧ (((mI M 752 h0) ≤ l3 → (K l2 M)) ∧ (¬ (mI M 752 h0) ≤ l3 → ∃ a2, (mR M 755 h0) = some a2 ∧ isA M a2 3 ∧ vp_in l3 (aN M a2) ∧ (((aI M a2 (l3).toNatClampNeg) = 0 → (bk_X11_heldIn_40 h0 (lp_X11_heldIn_4 h0 K n) K l1 l3 l2 M)) ∧ (¬ (aI M a2 (l3).toNatClampNeg) = 0 → ((l1 < 0 → (bk_X11_heldIn_36 h0 (lp_X11_heldIn_4 h0 K n) K l1 l3 l2 M)) ∧ (¬ l1 < 0 → ∃ a6, (mR M 753 h0) = some a6 ∧ isA M a6 1 ∧ vp_in l3 (aN M a6) ∧ ((¬ (aI M a6 (l3).toNatClampNeg) = l1 → (bk_X11_heldIn_40 h0 (lp_X11_heldIn_4 h0 K n) K l1 l3 l2 M)) ∧ ((aI M a6 (l3).toNatClampNeg) = l1 → (bk_X11_heldIn_36 h0 (lp_X11_heldIn_4 h0 K n) K l1 l3 l2 M)))))))))
set_option maxRecDepth 100000 in
set_option maxHeartbeats 4000000 in
theorem zl_X11_heldIn_4 {X : Cx} {h0 : Nat} {K : Int32 → Mm → Prop} (hX : Ok X cX11_heldIn RX11 rm_X11_heldIn) (hQ : Rq X rm_X11_heldIn (some .int) (QI K)) (hnL : X.2.2.2.2.2.2.2.2.2.2.2.2.2.2 = 4) : ∀ (n : Nat) (l1 : Int32) (l2 : Int32) (l3 : Int32) (M : Mm), lp_X11_heldIn_4 h0 K n l1 l2 l3 M → Z X M 0 0 4 [(0, va_rf (some h0)), (1, .int l1), (2, .int l2), (3, .int l3)] [] := by
  intro n
  induction n with
  | zero =>
    intro l1 l2 l3 M h
    exact False.elim h
  | succ n hR4 =>
    intro l1 l2 l3 M h
    refine z_iload_n hX dX11_heldIn_4 rfl 3 rfl ?_
    refine z_aload_n (r := (some h0)) hX dX11_heldIn_5 rfl 0 rfl ?_
    obtain ⟨hk1, h⟩ := h
    refine gf_RX11_295 (r := (some h0)) hX dX11_heldIn_6 rfl hk1 ?_
    obtain ⟨h1, h2⟩ := h
    refine z_icmp_ge (tgt := 49) hX dX11_heldIn_9 (by decide) (fun hc => ?_) (fun hc => ?_)
    · have h := h1 hc
      refine z_iload_n hX dX11_heldIn_49 rfl 2 rfl ?_
      exact z_iret hX hQ dX11_heldIn_50 h
    · have h := h2 hc
      refine z_iload_n hX dX11_heldIn_12 rfl 2 rfl ?_
      refine z_aload_n (r := (some h0)) hX dX11_heldIn_13 rfl 0 rfl ?_
      refine gf_RX11_114 (r := (some h0)) hX dX11_heldIn_14 rfl hk1 ?_
      refine z_iload_n hX dX11_heldIn_17 rfl 3 rfl ?_
      obtain ⟨a2, ha3, h⟩ := h
      obtain ⟨hk4, h⟩ := h
      obtain ⟨hc5, h⟩ := h
      refine y_zald (r := (mR M 755 h0)) hX dX11_heldIn_18 ha3 hk4 hc5 ?_
      obtain ⟨h1, h2⟩ := h
      refine z_if_eq (tgt := 40) hX dX11_heldIn_19 (by decide) (fun hc => ?_) (fun hc => ?_)
      · have h := h1 hc
        refine z_loc [0, 1, 3] rfl ?_
        exact zb_X11_heldIn_40 hX hQ hnL hR4 h
      · have h := h2 hc
        refine z_iload_n hX dX11_heldIn_22 rfl 1 rfl ?_
        obtain ⟨h1, h2⟩ := h
        refine z_if_lt (tgt := 36) hX dX11_heldIn_23 (by decide) (fun hc => ?_) (fun hc => ?_)
        · have h := h1 hc
          refine z_loc [0, 1, 3] rfl ?_
          exact zb_X11_heldIn_36 hX hQ hnL hR4 h
        · have h := h2 hc
          refine z_aload_n (r := (some h0)) hX dX11_heldIn_26 rfl 0 rfl ?_
          refine gf_RX11_108 (r := (some h0)) hX dX11_heldIn_27 rfl hk1 ?_
          refine z_iload_n hX dX11_heldIn_30 rfl 3 rfl ?_
          obtain ⟨a6, ha7, h⟩ := h
          obtain ⟨hk8, h⟩ := h
          obtain ⟨hc9, h⟩ := h
          refine y_iald (r := (mR M 753 h0)) hX dX11_heldIn_31 ha7 hk8 hc9 ?_
          refine z_iload_n hX dX11_heldIn_32 rfl 1 rfl ?_
          obtain ⟨h1, h2⟩ := h
          refine z_icmp_ne (tgt := 40) hX dX11_heldIn_33 (by decide) (fun hc => ?_) (fun hc => ?_)
          · have h := h1 hc
            refine z_loc [0, 1, 3] rfl ?_
            exact zb_X11_heldIn_40 hX hQ hnL hR4 h
          · have h := h2 hc
            refine z_loc [0, 1, 3] rfl ?_
            exact zb_X11_heldIn_36 hX hQ hnL hR4 h
def wp_X11_heldIn (M : Mm) (h0 : Nat) (p1 : Int32) (K : Int32 → Mm → Prop) : Prop := (∃ kk, lp_X11_heldIn_4 h0 K kk p1 (0 : Int32) (0 : Int32) M)
set_option maxRecDepth 100000 in
set_option maxHeartbeats 4000000 in
theorem ct_X11_heldIn {M : Mm} {h0 : Nat} {p1 : Int32} {K : Int32 → Mm → Prop} (h : wp_X11_heldIn M h0 p1 K) : CtI yX11_heldIn cX11_heldIn 4 (some .int) rm_X11_heldIn [.ref h0, .int p1] M K := by
  refine ct_any (QI K) (by decide) (by exact Nat.le_of_ble_eq_true rfl) (fun X hX hQ hnL hnm => ?_)
  rw [show lv_args 0 [.ref h0, .int p1] = [(0, va_rf (some h0)), (1, .int p1)] by rfl]
  have hX : Ok X cX11_heldIn RX11 rm_X11_heldIn := hX
  unfold wp_X11_heldIn at h
  refine z_iconst (v := (0 : Int32)) hX dX11_heldIn_0 (by decide) ?_
  refine z_istore_n hX [(2, .int (0 : Int32)), (0, va_rf (some h0)), (1, .int p1)] dX11_heldIn_1 rfl (by rw [hnL]; decide) rfl ?_
  refine z_iconst (v := (0 : Int32)) hX dX11_heldIn_2 (by decide) ?_
  refine z_istore_n hX [(3, .int (0 : Int32)), (2, .int (0 : Int32)), (0, va_rf (some h0)), (1, .int p1)] dX11_heldIn_3 rfl (by rw [hnL]; decide) rfl ?_
  refine z_loc [2, 3, 1, 0] rfl ?_
  obtain ⟨n, h⟩ := h
  exact zl_X11_heldIn_4 hX hQ hnL n _ _ _ _ h
def rm_X11_noted : Room := { frames := 0, cells := 0, slots := 0, locals := 0 }
def bk_X11_noted_67 (h0 : Nat) (K : Int64 → Mm → Prop) (s0 : Int64) (M : Mm) : Prop := (K s0 M)
set_option maxRecDepth 100000 in
set_option maxHeartbeats 4000000 in
theorem zb_X11_noted_67 {X : Cx} {h0 : Nat} {K : Int64 → Mm → Prop} (hX : Ok X cX11_noted RX11 rm_X11_noted) (hQ : Rq X rm_X11_noted (some .long) (QJ K)) (hnL : X.2.2.2.2.2.2.2.2.2.2.2.2.2.2 = 7) {s0 : Int64} {M : Mm} (h : bk_X11_noted_67 h0 K s0 M) : Z X M 0 0 67 [] [.long s0] := by
  unfold bk_X11_noted_67 at h
  exact z_lret hX hQ dX11_noted_67 h
def bk_X11_noted_46 (h0 : Nat) (K : Int64 → Mm → Prop) (l1 : Option Nat) (l4 : Int32) (l5 : Int32) (l6 : Int32) (s0 : Int32) (s1 : Option Nat) (M : Mm) : Prop := ∃ a1, s1 = some a1 ∧ mK M a1 = 12 ∧ ((l6 = 0 → (bk_X11_noted_67 h0 K (0 : Int64) (sI M 704 a1 s0))) ∧ (¬ l6 = 0 → ∃ a5, l1 = some a5 ∧ isA (sI M 704 a1 s0) a5 2 ∧ vp_in (((4 : Int32) * l4) + l5) (aN (sI M 704 a1 s0) a5) ∧ (bk_X11_noted_67 h0 K (aJ (sI M 704 a1 s0) a5 ((((4 : Int32) * l4) + l5)).toNatClampNeg) (sI M 704 a1 s0))))
set_option maxRecDepth 100000 in
set_option maxHeartbeats 4000000 in
theorem zb_X11_noted_46 {X : Cx} {h0 : Nat} {K : Int64 → Mm → Prop} (hX : Ok X cX11_noted RX11 rm_X11_noted) (hQ : Rq X rm_X11_noted (some .long) (QJ K)) (hnL : X.2.2.2.2.2.2.2.2.2.2.2.2.2.2 = 7) {l1 : Option Nat} {l4 : Int32} {l5 : Int32} {l6 : Int32} {s0 : Int32} {s1 : Option Nat} {M : Mm} (h : bk_X11_noted_46 h0 K l1 l4 l5 l6 s0 s1 M) : Z X M 0 0 46 [(1, va_rf l1), (4, .int l4), (5, .int l5), (6, .int l6)] [.int s0, va_rf s1] := by
  unfold bk_X11_noted_46 at h
  obtain ⟨a1, ha2, h⟩ := h
  obtain ⟨hk3, h⟩ := h
  refine pf_RX11_123 (r := s1) (v := s0) hX dX11_noted_46 ha2 hk3 ?_
  refine z_iload hX dX11_noted_49 3 rfl ?_
  obtain ⟨h1, h2⟩ := h
  refine z_if_eq (tgt := 66) hX dX11_noted_51 (by decide) (fun hc => ?_) (fun hc => ?_)
  · have h := h1 hc
    refine z_lconst (v := (0 : Int64)) hX dX11_noted_66 (by decide) ?_
    refine z_loc [] rfl ?_
    exact zb_X11_noted_67 hX hQ hnL h
  · have h := h2 hc
    refine z_aload_n (r := l1) hX dX11_noted_54 rfl 0 rfl ?_
    refine z_iconst (v := (4 : Int32)) hX dX11_noted_55 (by decide) ?_
    refine z_iload hX dX11_noted_56 1 rfl ?_
    refine z_imul hX dX11_noted_58 ?_
    refine z_iload hX dX11_noted_59 2 rfl ?_
    refine z_iadd hX dX11_noted_61 ?_
    obtain ⟨a5, ha6, h⟩ := h
    obtain ⟨hk7, h⟩ := h
    obtain ⟨hc8, h⟩ := h
    refine y_lald (r := l1) hX dX11_noted_62 ha6 hk7 hc8 ?_
    refine z_goto (tgt := 67) hX dX11_noted_63 (by decide) ?_
    refine z_loc [] rfl ?_
    exact zb_X11_noted_67 hX hQ hnL h
def bk_X11_noted_33 (h0 : Nat) (K : Int64 → Mm → Prop) (l1 : Option Nat) (l4 : Int32) (l5 : Int32) (s0 : Int32) (M : Mm) : Prop := ((s0 = 0 → (bk_X11_noted_46 h0 K l1 l4 l5 s0 (1 : Int32) (some h0) M)) ∧ (¬ s0 = 0 → (bk_X11_noted_46 h0 K l1 l4 l5 s0 (0 : Int32) (some h0) M)))
set_option maxRecDepth 100000 in
set_option maxHeartbeats 4000000 in
theorem zb_X11_noted_33 {X : Cx} {h0 : Nat} {K : Int64 → Mm → Prop} (hX : Ok X cX11_noted RX11 rm_X11_noted) (hQ : Rq X rm_X11_noted (some .long) (QJ K)) (hnL : X.2.2.2.2.2.2.2.2.2.2.2.2.2.2 = 7) {l1 : Option Nat} {l4 : Int32} {l5 : Int32} {s0 : Int32} {M : Mm} (h : bk_X11_noted_33 h0 K l1 l4 l5 s0 M) : Z X M 0 0 33 [(0, va_rf (some h0)), (1, va_rf l1), (4, .int l4), (5, .int l5)] [.int s0] := by
  unfold bk_X11_noted_33 at h
  refine z_istore hX [(6, .int s0), (0, va_rf (some h0)), (1, va_rf l1), (4, .int l4), (5, .int l5)] dX11_noted_33 (by rw [hnL]; decide) rfl ?_
  refine z_aload_n (r := (some h0)) hX dX11_noted_35 rfl 1 rfl ?_
  refine z_iload hX dX11_noted_36 0 rfl ?_
  obtain ⟨h1, h2⟩ := h
  refine z_if_eq (tgt := 45) hX dX11_noted_38 (by decide) (fun hc => ?_) (fun hc => ?_)
  · have h := h1 hc
    refine z_iconst (v := (1 : Int32)) hX dX11_noted_45 (by decide) ?_
    refine z_loc [2, 3, 4, 0] rfl ?_
    exact zb_X11_noted_46 hX hQ hnL h
  · have h := h2 hc
    refine z_iconst (v := (0 : Int32)) hX dX11_noted_41 (by decide) ?_
    refine z_goto (tgt := 46) hX dX11_noted_42 (by decide) ?_
    refine z_loc [2, 3, 4, 0] rfl ?_
    exact zb_X11_noted_46 hX hQ hnL h
def bk_X11_noted_32 (h0 : Nat) (K : Int64 → Mm → Prop) (l1 : Option Nat) (l4 : Int32) (l5 : Int32) (M : Mm) : Prop := (bk_X11_noted_33 h0 K l1 l4 l5 (0 : Int32) M)
set_option maxRecDepth 100000 in
set_option maxHeartbeats 4000000 in
theorem zb_X11_noted_32 {X : Cx} {h0 : Nat} {K : Int64 → Mm → Prop} (hX : Ok X cX11_noted RX11 rm_X11_noted) (hQ : Rq X rm_X11_noted (some .long) (QJ K)) (hnL : X.2.2.2.2.2.2.2.2.2.2.2.2.2.2 = 7) {l1 : Option Nat} {l4 : Int32} {l5 : Int32} {M : Mm} (h : bk_X11_noted_32 h0 K l1 l4 l5 M) : Z X M 0 0 32 [(0, va_rf (some h0)), (1, va_rf l1), (4, .int l4), (5, .int l5)] [] := by
  unfold bk_X11_noted_32 at h
  refine z_iconst (v := (0 : Int32)) hX dX11_noted_32 (by decide) ?_
  exact zb_X11_noted_33 hX hQ hnL h
def wp_X11_noted (M : Mm) (h0 : Nat) (p1 : Option Nat) (p2 : Int32) (p3 : Int32) (p4 : Int32) (p5 : Int32) (K : Int64 → Mm → Prop) : Prop := ((p4 < 0 → (bk_X11_noted_32 h0 K p1 p4 p5 M)) ∧ (¬ p4 < 0 → ((p2 ≤ p4 → (bk_X11_noted_32 h0 K p1 p4 p5 M)) ∧ (¬ p2 ≤ p4 → ((p3 ≤ p4 → (bk_X11_noted_32 h0 K p1 p4 p5 M)) ∧ (¬ p3 ≤ p4 → ((p5 < 0 → (bk_X11_noted_32 h0 K p1 p4 p5 M)) ∧ (¬ p5 < 0 → (((3 : Int32) < p5 → (bk_X11_noted_32 h0 K p1 p4 p5 M)) ∧ (¬ (3 : Int32) < p5 → (bk_X11_noted_33 h0 K p1 p4 p5 (1 : Int32) M)))))))))))
set_option maxRecDepth 100000 in
set_option maxHeartbeats 4000000 in
theorem ct_X11_noted {M : Mm} {h0 : Nat} {p1 : Option Nat} {p2 : Int32} {p3 : Int32} {p4 : Int32} {p5 : Int32} {K : Int64 → Mm → Prop} (h : wp_X11_noted M h0 p1 p2 p3 p4 p5 K) : CtJ yX11_noted cX11_noted 7 (some .long) rm_X11_noted [.ref h0, va_rf p1, .int p2, .int p3, .int p4, .int p5] M K := by
  refine ct_any (QJ K) (by decide) (by cases p1 <;> exact Nat.le_of_ble_eq_true rfl) (fun X hX hQ hnL hnm => ?_)
  rw [show lv_args 0 [.ref h0, va_rf p1, .int p2, .int p3, .int p4, .int p5] = [(0, va_rf (some h0)), (1, va_rf p1), (2, .int p2), (3, .int p3), (4, .int p4), (5, .int p5)] by cases p1 <;> rfl]
  have hX : Ok X cX11_noted RX11 rm_X11_noted := hX
  unfold wp_X11_noted at h
  refine z_iload hX dX11_noted_0 4 rfl ?_
  obtain ⟨h1, h2⟩ := h
  refine z_if_lt (tgt := 32) hX dX11_noted_2 (by decide) (fun hc => ?_) (fun hc => ?_)
  · have h := h1 hc
    refine z_loc [0, 1, 4, 5] rfl ?_
    exact zb_X11_noted_32 hX hQ hnL h
  · have h := h2 hc
    refine z_iload hX dX11_noted_5 4 rfl ?_
    refine z_iload_n hX dX11_noted_7 rfl 2 rfl ?_
    obtain ⟨h1, h2⟩ := h
    refine z_icmp_ge (tgt := 32) hX dX11_noted_8 (by decide) (fun hc => ?_) (fun hc => ?_)
    · have h := h1 hc
      refine z_loc [0, 1, 4, 5] rfl ?_
      exact zb_X11_noted_32 hX hQ hnL h
    · have h := h2 hc
      refine z_iload hX dX11_noted_11 4 rfl ?_
      refine z_iload_n hX dX11_noted_13 rfl 3 rfl ?_
      obtain ⟨h1, h2⟩ := h
      refine z_icmp_ge (tgt := 32) hX dX11_noted_14 (by decide) (fun hc => ?_) (fun hc => ?_)
      · have h := h1 hc
        refine z_loc [0, 1, 4, 5] rfl ?_
        exact zb_X11_noted_32 hX hQ hnL h
      · have h := h2 hc
        refine z_iload hX dX11_noted_17 5 rfl ?_
        obtain ⟨h1, h2⟩ := h
        refine z_if_lt (tgt := 32) hX dX11_noted_19 (by decide) (fun hc => ?_) (fun hc => ?_)
        · have h := h1 hc
          refine z_loc [0, 1, 4, 5] rfl ?_
          exact zb_X11_noted_32 hX hQ hnL h
        · have h := h2 hc
          refine z_iload hX dX11_noted_22 5 rfl ?_
          refine z_iconst (v := (3 : Int32)) hX dX11_noted_24 (by decide) ?_
          obtain ⟨h1, h2⟩ := h
          refine z_icmp_gt (tgt := 32) hX dX11_noted_25 (by decide) (fun hc => ?_) (fun hc => ?_)
          · have h := h1 hc
            refine z_loc [0, 1, 4, 5] rfl ?_
            exact zb_X11_noted_32 hX hQ hnL h
          · have h := h2 hc
            refine z_iconst (v := (1 : Int32)) hX dX11_noted_28 (by decide) ?_
            refine z_goto (tgt := 33) hX dX11_noted_29 (by decide) ?_
            refine z_loc [0, 1, 4, 5] rfl ?_
            exact zb_X11_noted_33 hX hQ hnL h
def rm_X11_out : Room := { frames := 1, cells := 0, slots := 0, locals := 26 }
def wp_X11_out (M : Mm) (h0 : Nat) (p1 : Int32) (p2 : Int32) (K : Int64 → Mm → Prop) : Prop := mK M h0 = 12 ∧ (wp_X11_noted M h0 (mR M 740 h0) (mI M 739 h0) (300 : Int32) p1 p2 (fun r2 M3 => (K r2 M3)))
set_option maxRecDepth 100000 in
set_option maxHeartbeats 4000000 in
theorem ct_X11_out {M : Mm} {h0 : Nat} {p1 : Int32} {p2 : Int32} {K : Int64 → Mm → Prop} (h : wp_X11_out M h0 p1 p2 K) : CtJ yX11_out cX11_out 3 (some .long) rm_X11_out [.ref h0, .int p1, .int p2] M K := by
  refine ct_any (QJ K) (by decide) (by exact Nat.le_of_ble_eq_true rfl) (fun X hX hQ hnL hnm => ?_)
  rw [show lv_args 0 [.ref h0, .int p1, .int p2] = [(0, va_rf (some h0)), (1, .int p1), (2, .int p2)] by rfl]
  have hX : Ok X cX11_out RX11 rm_X11_out := hX
  unfold wp_X11_out at h
  refine z_aload_n (r := (some h0)) hX dX11_out_0 rfl 0 rfl ?_
  refine z_aload_n (r := (some h0)) hX dX11_out_1 rfl 0 rfl ?_
  obtain ⟨hk1, h⟩ := h
  refine gf_RX11_78 (r := (some h0)) hX dX11_out_2 rfl hk1 ?_
  refine z_aload_n (r := (some h0)) hX dX11_out_5 rfl 0 rfl ?_
  refine gf_RX11_283 (r := (some h0)) hX dX11_out_6 rfl hk1 ?_
  refine z_sipush (v := (300 : Int32)) hX dX11_out_9 (by decide) ?_
  refine z_iload_n hX dX11_out_12 rfl 1 rfl ?_
  refine z_iload_n hX dX11_out_13 rfl 2 rfl ?_
  refine z_callVJ (As := [va_rf (mR M 740 h0), .int (mI M 739 h0), .int (300 : Int32), .int p1, .int p2]) (rest := []) (ci := 11) hX (ct_X11_noted h) mw_RX11_404 rfl (by decide) rfl (by rfl) (by unfold RoomC; decide) (by decide) dX11_out_14 hk1 (fun r2 M3 h => ?_)
  exact z_lret hX hQ dX11_out_17 h
def rm_X11_late_ : Room := { frames := 1, cells := 0, slots := 0, locals := 26 }
def wp_X11_late_ (M : Mm) (h0 : Nat) (p1 : Int32) (p2 : Int32) (K : Int64 → Mm → Prop) : Prop := mK M h0 = 12 ∧ (wp_X11_noted M h0 (mR M 742 h0) (mI M 741 h0) (200 : Int32) p1 p2 (fun r2 M3 => (K r2 M3)))
set_option maxRecDepth 100000 in
set_option maxHeartbeats 4000000 in
theorem ct_X11_late_ {M : Mm} {h0 : Nat} {p1 : Int32} {p2 : Int32} {K : Int64 → Mm → Prop} (h : wp_X11_late_ M h0 p1 p2 K) : CtJ yX11_late_ cX11_late_ 3 (some .long) rm_X11_late_ [.ref h0, .int p1, .int p2] M K := by
  refine ct_any (QJ K) (by decide) (by exact Nat.le_of_ble_eq_true rfl) (fun X hX hQ hnL hnm => ?_)
  rw [show lv_args 0 [.ref h0, .int p1, .int p2] = [(0, va_rf (some h0)), (1, .int p1), (2, .int p2)] by rfl]
  have hX : Ok X cX11_late_ RX11 rm_X11_late_ := hX
  unfold wp_X11_late_ at h
  refine z_aload_n (r := (some h0)) hX dX11_late__0 rfl 0 rfl ?_
  refine z_aload_n (r := (some h0)) hX dX11_late__1 rfl 0 rfl ?_
  obtain ⟨hk1, h⟩ := h
  refine gf_RX11_81 (r := (some h0)) hX dX11_late__2 rfl hk1 ?_
  refine z_aload_n (r := (some h0)) hX dX11_late__5 rfl 0 rfl ?_
  refine gf_RX11_286 (r := (some h0)) hX dX11_late__6 rfl hk1 ?_
  refine z_sipush (v := (200 : Int32)) hX dX11_late__9 (by decide) ?_
  refine z_iload_n hX dX11_late__12 rfl 1 rfl ?_
  refine z_iload_n hX dX11_late__13 rfl 2 rfl ?_
  refine z_callVJ (As := [va_rf (mR M 742 h0), .int (mI M 741 h0), .int (200 : Int32), .int p1, .int p2]) (rest := []) (ci := 11) hX (ct_X11_noted h) mw_RX11_404 rfl (by decide) rfl (by rfl) (by unfold RoomC; decide) (by decide) dX11_late__14 hk1 (fun r2 M3 h => ?_)
  exact z_lret hX hQ dX11_late__17 h
def rm_X11_partsThat : Room := { frames := 2, cells := 0, slots := 0, locals := 52 }
def bk_X11_partsThat_90 (h0 : Nat) (R4 : Int32 → Int32 → Int32 → Mm → Prop) (K : Int32 → Mm → Prop) (l1 : Int32) (l2 : Int32) (l3 : Int32) (M : Mm) : Prop := (R4 l1 l2 (l3 + 1) M)
set_option maxRecDepth 100000 in
set_option maxHeartbeats 4000000 in
theorem zb_X11_partsThat_90 {X : Cx} {h0 : Nat} {R4 : Int32 → Int32 → Int32 → Mm → Prop} {K : Int32 → Mm → Prop} (hX : Ok X cX11_partsThat RX11 rm_X11_partsThat) (hQ : Rq X rm_X11_partsThat (some .int) (QI K)) (hnL : X.2.2.2.2.2.2.2.2.2.2.2.2.2.2 = 5) (hR4 : ∀ l1 l2 l3 M, R4 l1 l2 l3 M → Z X M 0 0 4 [(0, va_rf (some h0)), (1, .int l1), (2, .int l2), (3, .int l3)] []) {l1 : Int32} {l2 : Int32} {l3 : Int32} {M : Mm} (h : bk_X11_partsThat_90 h0 R4 K l1 l2 l3 M) : Z X M 0 0 90 [(0, va_rf (some h0)), (1, .int l1), (2, .int l2), (3, .int l3)] [] := by
  unfold bk_X11_partsThat_90 at h
  refine z_iinc (v := (l3 + 1)) hX [(3, .int (l3 + 1)), (0, va_rf (some h0)), (1, .int l1), (2, .int l2)] dX11_partsThat_90 3 rfl rfl (by rw [hnL]; decide) rfl ?_
  refine z_goto (tgt := 4) hX dX11_partsThat_93 (by decide) ?_
  refine z_loc [1, 2, 3, 0] rfl ?_
  exact hR4 _ _ _ _ h
def bk_X11_partsThat_82 (h0 : Nat) (R4 : Int32 → Int32 → Int32 → Mm → Prop) (R17 : Int32 → Int32 → Int32 → Int32 → Mm → Prop) (K : Int32 → Mm → Prop) (l1 : Int32) (l3 : Int32) (l4 : Int32) (s0 : Int32) (s1 : Int32) (M : Mm) : Prop := (R17 l1 (s1 + s0) l3 (l4 + 1) M)
set_option maxRecDepth 100000 in
set_option maxHeartbeats 4000000 in
theorem zb_X11_partsThat_82 {X : Cx} {h0 : Nat} {R4 : Int32 → Int32 → Int32 → Mm → Prop} {R17 : Int32 → Int32 → Int32 → Int32 → Mm → Prop} {K : Int32 → Mm → Prop} (hX : Ok X cX11_partsThat RX11 rm_X11_partsThat) (hQ : Rq X rm_X11_partsThat (some .int) (QI K)) (hnL : X.2.2.2.2.2.2.2.2.2.2.2.2.2.2 = 5) (hR4 : ∀ l1 l2 l3 M, R4 l1 l2 l3 M → Z X M 0 0 4 [(0, va_rf (some h0)), (1, .int l1), (2, .int l2), (3, .int l3)] []) (hR17 : ∀ l1 l2 l3 l4 M, R17 l1 l2 l3 l4 M → Z X M 0 0 17 [(0, va_rf (some h0)), (1, .int l1), (2, .int l2), (3, .int l3), (4, .int l4)] []) {l1 : Int32} {l3 : Int32} {l4 : Int32} {s0 : Int32} {s1 : Int32} {M : Mm} (h : bk_X11_partsThat_82 h0 R4 R17 K l1 l3 l4 s0 s1 M) : Z X M 0 0 82 [(0, va_rf (some h0)), (1, .int l1), (3, .int l3), (4, .int l4)] [.int s0, .int s1] := by
  unfold bk_X11_partsThat_82 at h
  refine z_iadd hX dX11_partsThat_82 ?_
  refine z_istore_n hX [(2, .int (s1 + s0)), (0, va_rf (some h0)), (1, .int l1), (3, .int l3), (4, .int l4)] dX11_partsThat_83 rfl (by rw [hnL]; decide) rfl ?_
  refine z_iinc (v := (l4 + 1)) hX [(4, .int (l4 + 1)), (2, .int (s1 + s0)), (0, va_rf (some h0)), (1, .int l1), (3, .int l3)] dX11_partsThat_84 4 rfl rfl (by rw [hnL]; decide) rfl ?_
  refine z_goto (tgt := 17) hX dX11_partsThat_87 (by decide) ?_
  refine z_loc [2, 3, 1, 4, 0] rfl ?_
  exact hR17 _ _ _ _ _ h
def lp_X11_partsThat_17 (h0 : Nat) (R4 : Int32 → Int32 → Int32 → Mm → Prop) (K : Int32 → Mm → Prop) : Nat → Int32 → Int32 → Int32 → Int32 → Mm → Prop
  | 0, _, _, _, _, _ => False
  | n + 1, l1, l2, l3, l4, M => mK M h0 = 12 ∧ ∃ a2, (mR M 718 h0) = some a2 ∧ isA M a2 1 ∧ vp_in ((12 : Int32) + l3) (aN M a2) ∧ (((aI M a2 (((12 : Int32) + l3)).toNatClampNeg) ≤ l4 → (bk_X11_partsThat_90 h0 R4 K l1 l2 l3 M)) ∧ (¬ (aI M a2 (((12 : Int32) + l3)).toNatClampNeg) ≤ l4 → (wp_X11_kindOf M h0 l3 (fun r6 M7 => ((¬ r6 = 0 → (bk_X11_partsThat_90 h0 R4 K l1 l2 l3 M7)) ∧ (r6 = 0 → ((l1 = 0 → mK M7 h0 = 12 ∧ ∃ a10, (mR M7 735 h0) = some a10 ∧ isA M7 a10 1 ∧ vp_in (((4 : Int32) * l3) + l4) (aN M7 a10) ∧ ((¬ (aI M7 a10 ((((4 : Int32) * l3) + l4)).toNatClampNeg) = (1 : Int32) → (bk_X11_partsThat_82 h0 R4 (lp_X11_partsThat_17 h0 R4 K n) K l1 l3 l4 (0 : Int32) l2 M7)) ∧ ((aI M7 a10 ((((4 : Int32) * l3) + l4)).toNatClampNeg) = (1 : Int32) → (bk_X11_partsThat_82 h0 R4 (lp_X11_partsThat_17 h0 R4 K n) K l1 l3 l4 (1 : Int32) l2 M7)))) ∧ (¬ l1 = 0 → mK M7 h0 = 12 ∧ (wp_X11_isStopped M7 h0 l3 l4 (fun r14 M15 => ((r14 = 0 → (bk_X11_partsThat_82 h0 R4 (lp_X11_partsThat_17 h0 R4 K n) K l1 l3 l4 (0 : Int32) l2 M15)) ∧ (¬ r14 = 0 → (bk_X11_partsThat_82 h0 R4 (lp_X11_partsThat_17 h0 R4 K n) K l1 l3 l4 (1 : Int32) l2 M15)))))))))))))
set_option maxRecDepth 100000 in
set_option maxHeartbeats 4000000 in
theorem zl_X11_partsThat_17 {X : Cx} {h0 : Nat} {R4 : Int32 → Int32 → Int32 → Mm → Prop} {K : Int32 → Mm → Prop} (hX : Ok X cX11_partsThat RX11 rm_X11_partsThat) (hQ : Rq X rm_X11_partsThat (some .int) (QI K)) (hnL : X.2.2.2.2.2.2.2.2.2.2.2.2.2.2 = 5) (hR4 : ∀ l1 l2 l3 M, R4 l1 l2 l3 M → Z X M 0 0 4 [(0, va_rf (some h0)), (1, .int l1), (2, .int l2), (3, .int l3)] []) : ∀ (n : Nat) (l1 : Int32) (l2 : Int32) (l3 : Int32) (l4 : Int32) (M : Mm), lp_X11_partsThat_17 h0 R4 K n l1 l2 l3 l4 M → Z X M 0 0 17 [(0, va_rf (some h0)), (1, .int l1), (2, .int l2), (3, .int l3), (4, .int l4)] [] := by
  intro n
  induction n with
  | zero =>
    intro l1 l2 l3 l4 M h
    exact False.elim h
  | succ n hR17 =>
    intro l1 l2 l3 l4 M h
    refine z_iload hX dX11_partsThat_17 4 rfl ?_
    refine z_aload_n (r := (some h0)) hX dX11_partsThat_19 rfl 0 rfl ?_
    obtain ⟨hk1, h⟩ := h
    refine gf_RX11_26 (r := (some h0)) hX dX11_partsThat_20 rfl hk1 ?_
    refine z_bipush (v := (12 : Int32)) hX dX11_partsThat_23 (by decide) ?_
    refine z_iload_n hX dX11_partsThat_25 rfl 3 rfl ?_
    refine z_iadd hX dX11_partsThat_26 ?_
    obtain ⟨a2, ha3, h⟩ := h
    obtain ⟨hk4, h⟩ := h
    obtain ⟨hc5, h⟩ := h
    refine y_iald (r := (mR M 718 h0)) hX dX11_partsThat_27 ha3 hk4 hc5 ?_
    obtain ⟨h1, h2⟩ := h
    refine z_icmp_ge (tgt := 90) hX dX11_partsThat_28 (by decide) (fun hc => ?_) (fun hc => ?_)
    · have h := h1 hc
      refine z_loc [0, 1, 2, 3] rfl ?_
      exact zb_X11_partsThat_90 hX hQ hnL hR4 h
    · have h := h2 hc
      refine z_aload_n (r := (some h0)) hX dX11_partsThat_31 rfl 0 rfl ?_
      refine z_iload_n hX dX11_partsThat_32 rfl 3 rfl ?_
      refine z_callVI (As := [.int l3]) (rest := []) (ci := 11) hX (ct_X11_kindOf h) mw_RX11_308 rfl (by decide) rfl (by rfl) (by unfold RoomC; decide) (by decide) dX11_partsThat_33 hk1 (fun r6 M7 h => ?_)
      obtain ⟨h1, h2⟩ := h
      refine z_if_ne (tgt := 90) hX dX11_partsThat_36 (by decide) (fun hc => ?_) (fun hc => ?_)
      · have h := h1 hc
        refine z_loc [0, 1, 2, 3] rfl ?_
        exact zb_X11_partsThat_90 hX hQ hnL hR4 h
      · have h := h2 hc
        refine z_iload_n hX dX11_partsThat_39 rfl 2 rfl ?_
        refine z_iload_n hX dX11_partsThat_40 rfl 1 rfl ?_
        obtain ⟨h1, h2⟩ := h
        refine z_if_eq (tgt := 62) hX dX11_partsThat_41 (by decide) (fun hc => ?_) (fun hc => ?_)
        · have h := h1 hc
          refine z_aload_n (r := (some h0)) hX dX11_partsThat_62 rfl 0 rfl ?_
          obtain ⟨hk9, h⟩ := h
          refine gf_RX11_69 (r := (some h0)) hX dX11_partsThat_63 rfl hk9 ?_
          refine z_iconst (v := (4 : Int32)) hX dX11_partsThat_66 (by decide) ?_
          refine z_iload_n hX dX11_partsThat_67 rfl 3 rfl ?_
          refine z_imul hX dX11_partsThat_68 ?_
          refine z_iload hX dX11_partsThat_69 4 rfl ?_
          refine z_iadd hX dX11_partsThat_71 ?_
          obtain ⟨a10, ha11, h⟩ := h
          obtain ⟨hk12, h⟩ := h
          obtain ⟨hc13, h⟩ := h
          refine y_iald (r := (mR M7 735 h0)) hX dX11_partsThat_72 ha11 hk12 hc13 ?_
          refine z_iconst (v := (1 : Int32)) hX dX11_partsThat_73 (by decide) ?_
          obtain ⟨h1, h2⟩ := h
          refine z_icmp_ne (tgt := 81) hX dX11_partsThat_74 (by decide) (fun hc => ?_) (fun hc => ?_)
          · have h := h1 hc
            refine z_iconst (v := (0 : Int32)) hX dX11_partsThat_81 (by decide) ?_
            refine z_loc [0, 1, 3, 4] rfl ?_
            exact zb_X11_partsThat_82 hX hQ hnL hR4 hR17 h
          · have h := h2 hc
            refine z_iconst (v := (1 : Int32)) hX dX11_partsThat_77 (by decide) ?_
            refine z_goto (tgt := 82) hX dX11_partsThat_78 (by decide) ?_
            refine z_loc [0, 1, 3, 4] rfl ?_
            exact zb_X11_partsThat_82 hX hQ hnL hR4 hR17 h
        · have h := h2 hc
          refine z_aload_n (r := (some h0)) hX dX11_partsThat_44 rfl 0 rfl ?_
          refine z_iload_n hX dX11_partsThat_45 rfl 3 rfl ?_
          refine z_iload hX dX11_partsThat_46 4 rfl ?_
          obtain ⟨hk16, h⟩ := h
          refine z_callVI (As := [.int l3, .int l4]) (rest := [.int l2]) (ci := 11) hX (ct_X11_isStopped h) mw_RX11_389 rfl (by decide) rfl (by rfl) (by unfold RoomC; decide) (by simp only [List.map_cons, List.map_nil, List.sum_cons, List.sum_nil, cat_rf, cat_i, cat_j]; decide) dX11_partsThat_48 hk16 (fun r14 M15 h => ?_)
          obtain ⟨h1, h2⟩ := h
          refine z_if_eq (tgt := 58) hX dX11_partsThat_51 (by decide) (fun hc => ?_) (fun hc => ?_)
          · have h := h1 hc
            refine z_iconst (v := (0 : Int32)) hX dX11_partsThat_58 (by decide) ?_
            refine z_goto (tgt := 82) hX dX11_partsThat_59 (by decide) ?_
            refine z_loc [0, 1, 3, 4] rfl ?_
            exact zb_X11_partsThat_82 hX hQ hnL hR4 hR17 h
          · have h := h2 hc
            refine z_iconst (v := (1 : Int32)) hX dX11_partsThat_54 (by decide) ?_
            refine z_goto (tgt := 82) hX dX11_partsThat_55 (by decide) ?_
            refine z_loc [0, 1, 3, 4] rfl ?_
            exact zb_X11_partsThat_82 hX hQ hnL hR4 hR17 h
def lp_X11_partsThat_4 (h0 : Nat) (K : Int32 → Mm → Prop) : Nat → Int32 → Int32 → Int32 → Mm → Prop
  | 0, _, _, _, _ => False
  | n + 1, l1, l2, l3, M => mK M h0 = 12 ∧ ∃ a19, (mR M 729 h0) = some a19 ∧ isA M a19 1 ∧ vp_in (1 : Int32) (aN M a19) ∧ (((aI M a19 ((1 : Int32)).toNatClampNeg) ≤ l3 → (K l2 M)) ∧ (¬ (aI M a19 ((1 : Int32)).toNatClampNeg) ≤ l3 → (∃ kk, lp_X11_partsThat_17 h0 (lp_X11_partsThat_4 h0 K n) K kk l1 l2 l3 (0 : Int32) M)))
set_option maxRecDepth 100000 in
set_option maxHeartbeats 4000000 in
theorem zl_X11_partsThat_4 {X : Cx} {h0 : Nat} {K : Int32 → Mm → Prop} (hX : Ok X cX11_partsThat RX11 rm_X11_partsThat) (hQ : Rq X rm_X11_partsThat (some .int) (QI K)) (hnL : X.2.2.2.2.2.2.2.2.2.2.2.2.2.2 = 5) : ∀ (n : Nat) (l1 : Int32) (l2 : Int32) (l3 : Int32) (M : Mm), lp_X11_partsThat_4 h0 K n l1 l2 l3 M → Z X M 0 0 4 [(0, va_rf (some h0)), (1, .int l1), (2, .int l2), (3, .int l3)] [] := by
  intro n
  induction n with
  | zero =>
    intro l1 l2 l3 M h
    exact False.elim h
  | succ n hR4 =>
    intro l1 l2 l3 M h
    refine z_iload_n hX dX11_partsThat_4 rfl 3 rfl ?_
    refine z_aload_n (r := (some h0)) hX dX11_partsThat_5 rfl 0 rfl ?_
    obtain ⟨hk18, h⟩ := h
    refine gf_RX11_60 (r := (some h0)) hX dX11_partsThat_6 rfl hk18 ?_
    refine z_iconst (v := (1 : Int32)) hX dX11_partsThat_9 (by decide) ?_
    obtain ⟨a19, ha20, h⟩ := h
    obtain ⟨hk21, h⟩ := h
    obtain ⟨hc22, h⟩ := h
    refine y_iald (r := (mR M 729 h0)) hX dX11_partsThat_10 ha20 hk21 hc22 ?_
    obtain ⟨h1, h2⟩ := h
    refine z_icmp_ge (tgt := 96) hX dX11_partsThat_11 (by decide) (fun hc => ?_) (fun hc => ?_)
    · have h := h1 hc
      refine z_iload_n hX dX11_partsThat_96 rfl 2 rfl ?_
      exact z_iret hX hQ dX11_partsThat_97 h
    · have h := h2 hc
      refine z_iconst (v := (0 : Int32)) hX dX11_partsThat_14 (by decide) ?_
      refine z_istore hX [(4, .int (0 : Int32)), (0, va_rf (some h0)), (1, .int l1), (2, .int l2), (3, .int l3)] dX11_partsThat_15 (by rw [hnL]; decide) rfl ?_
      refine z_loc [1, 2, 3, 4, 0] rfl ?_
      obtain ⟨n, h⟩ := h
      exact zl_X11_partsThat_17 hX hQ hnL hR4 n _ _ _ _ _ h
def wp_X11_partsThat (M : Mm) (h0 : Nat) (p1 : Int32) (K : Int32 → Mm → Prop) : Prop := (∃ kk, lp_X11_partsThat_4 h0 K kk p1 (0 : Int32) (0 : Int32) M)
set_option maxRecDepth 100000 in
set_option maxHeartbeats 4000000 in
theorem ct_X11_partsThat {M : Mm} {h0 : Nat} {p1 : Int32} {K : Int32 → Mm → Prop} (h : wp_X11_partsThat M h0 p1 K) : CtI yX11_partsThat cX11_partsThat 5 (some .int) rm_X11_partsThat [.ref h0, .int p1] M K := by
  refine ct_any (QI K) (by decide) (by exact Nat.le_of_ble_eq_true rfl) (fun X hX hQ hnL hnm => ?_)
  rw [show lv_args 0 [.ref h0, .int p1] = [(0, va_rf (some h0)), (1, .int p1)] by rfl]
  have hX : Ok X cX11_partsThat RX11 rm_X11_partsThat := hX
  unfold wp_X11_partsThat at h
  refine z_iconst (v := (0 : Int32)) hX dX11_partsThat_0 (by decide) ?_
  refine z_istore_n hX [(2, .int (0 : Int32)), (0, va_rf (some h0)), (1, .int p1)] dX11_partsThat_1 rfl (by rw [hnL]; decide) rfl ?_
  refine z_iconst (v := (0 : Int32)) hX dX11_partsThat_2 (by decide) ?_
  refine z_istore_n hX [(3, .int (0 : Int32)), (2, .int (0 : Int32)), (0, va_rf (some h0)), (1, .int p1)] dX11_partsThat_3 rfl (by rw [hnL]; decide) rfl ?_
  refine z_loc [2, 3, 1, 0] rfl ?_
  obtain ⟨n, h⟩ := h
  exact zl_X11_partsThat_4 hX hQ hnL n _ _ _ _ h
def rm_X11_say : Room := { frames := 0, cells := 0, slots := 0, locals := 0 }
def wp_X11_say (M : Mm) (h0 : Nat) (p1 : Int32) (K : Mm → Prop) : Prop := mK M h0 = 12 ∧ ∃ a2, (mR M 759 h0) = some a2 ∧ isA M a2 0 ∧ vp_in (mI M 760 h0) (aN M a2) ∧ (K (sI (tI M a2 ((mI M 760 h0)).toNatClampNeg ((((p1).toInt8.toInt32)).toInt8.toInt32)) 760 h0 ((mI (tI M a2 ((mI M 760 h0)).toNatClampNeg ((((p1).toInt8.toInt32)).toInt8.toInt32)) 760 h0) + (1 : Int32))))
set_option maxRecDepth 100000 in
set_option maxHeartbeats 4000000 in
theorem ct_X11_say {M : Mm} {h0 : Nat} {p1 : Int32} {K : Mm → Prop} (h : wp_X11_say M h0 p1 K) : CtV yX11_say cX11_say 2 none rm_X11_say [.ref h0, .int p1] M K := by
  refine ct_any (QV K) (by decide) (by exact Nat.le_of_ble_eq_true rfl) (fun X hX hQ hnL hnm => ?_)
  rw [show lv_args 0 [.ref h0, .int p1] = [(0, va_rf (some h0)), (1, .int p1)] by rfl]
  have hX : Ok X cX11_say RX11 rm_X11_say := hX
  unfold wp_X11_say at h
  refine z_aload_n (r := (some h0)) hX dX11_say_0 rfl 0 rfl ?_
  obtain ⟨hk1, h⟩ := h
  refine gf_RX11_120 (r := (some h0)) hX dX11_say_1 rfl hk1 ?_
  refine z_aload_n (r := (some h0)) hX dX11_say_4 rfl 0 rfl ?_
  refine gf_RX11_412 (r := (some h0)) hX dX11_say_5 rfl hk1 ?_
  refine z_iload_n hX dX11_say_8 rfl 1 rfl ?_
  refine z_i2b hX dX11_say_9 ?_
  obtain ⟨a2, ha3, h⟩ := h
  obtain ⟨hk4, h⟩ := h
  obtain ⟨hc5, h⟩ := h
  refine y_bast (r := (mR M 759 h0)) hX dX11_say_10 ha3 hk4 hc5 ?_
  refine z_aload_n (r := (some h0)) hX dX11_say_11 rfl 0 rfl ?_
  refine z_dup hX dX11_say_12 (cat_rf _) ?_
  refine gf_RX11_412 (r := (some h0)) hX dX11_say_13 rfl hk1 ?_
  refine z_iconst (v := (1 : Int32)) hX dX11_say_16 (by decide) ?_
  refine z_iadd hX dX11_say_17 ?_
  refine pf_RX11_412 (r := (some h0)) (v := ((mI (tI M a2 ((mI M 760 h0)).toNatClampNeg ((((p1).toInt8.toInt32)).toInt8.toInt32)) 760 h0) + (1 : Int32))) hX dX11_say_18 rfl hk1 ?_
  exact z_vret hX hQ dX11_say_21 h
def rm_X11_sayNumber : Room := { frames := 1, cells := 0, slots := 0, locals := 21 }
def lp_X11_sayNumber_50 (h0 : Nat) (K : Mm → Prop) : Nat → Int64 → Int64 → Mm → Prop
  | 0, _, _, _ => False
  | n + 1, l3, l5, M => ((l5 ≤ (0 : Int64) → (K M)) ∧ (¬ l5 ≤ (0 : Int64) → ¬ l5 = 0 ∧ mK M h0 = 12 ∧ (wp_X11_say M h0 ((((48 : Int64) + ((l3 / l5) - (l3 / l5) / (10 : Int64) * (10 : Int64)))).toInt32) (fun M3 => ((lp_X11_sayNumber_50 h0 K n) l3 (l5 / (10 : Int64)) M3)))))
set_option maxRecDepth 100000 in
set_option maxHeartbeats 4000000 in
theorem zl_X11_sayNumber_50 {X : Cx} {h0 : Nat} {K : Mm → Prop} (hX : Ok X cX11_sayNumber RX11 rm_X11_sayNumber) (hQ : Rq X rm_X11_sayNumber none (QV K)) (hnL : X.2.2.2.2.2.2.2.2.2.2.2.2.2.2 = 7) : ∀ (n : Nat) (l3 : Int64) (l5 : Int64) (M : Mm), lp_X11_sayNumber_50 h0 K n l3 l5 M → Z X M 0 0 50 [(0, va_rf (some h0)), (3, .long l3), (5, .long l5)] [] := by
  intro n
  induction n with
  | zero =>
    intro l3 l5 M h
    exact False.elim h
  | succ n hR50 =>
    intro l3 l5 M h
    refine z_lload hX dX11_sayNumber_50 2 rfl ?_
    refine z_lconst (v := (0 : Int64)) hX dX11_sayNumber_52 (by decide) ?_
    refine z_lcmp hX dX11_sayNumber_53 ?_
    obtain ⟨h1, h2⟩ := h
    refine z_if_le (tgt := 85) hX dX11_sayNumber_54 (by decide) (fun hc => ?_) (fun hc => ?_)
    · have h := h1 ((lg_cmp_le _ _).mp hc)
      exact z_vret hX hQ dX11_sayNumber_85 h
    · have h := h2 (fun q => hc ((lg_cmp_le _ _).mpr q))
      refine z_aload_n (r := (some h0)) hX dX11_sayNumber_57 rfl 0 rfl ?_
      refine z_ldc2 (v := (48 : Int64)) hX dX11_sayNumber_58 kj_RX11_163 ?_
      refine z_lload_n hX dX11_sayNumber_61 rfl 1 rfl ?_
      refine z_lload hX dX11_sayNumber_62 2 rfl ?_
      obtain ⟨hc1, h⟩ := h
      refine z_ldiv hX dX11_sayNumber_64 hc1 ?_
      refine z_ldc2 (v := (10 : Int64)) hX dX11_sayNumber_65 kj_RX11_161 ?_
      refine z_lrem hX dX11_sayNumber_68 (by decide) ?_
      refine z_ladd hX dX11_sayNumber_69 ?_
      refine z_l2i hX dX11_sayNumber_70 ?_
      obtain ⟨hk4, h⟩ := h
      refine z_callVV (As := [.int ((((48 : Int64) + ((l3 / l5) - (l3 / l5) / (10 : Int64) * (10 : Int64)))).toInt32)]) (rest := []) (ci := 11) hX (ct_X11_say h) mw_RX11_415 rfl (by decide) rfl (by rfl) (by unfold RoomC; decide) (by decide) dX11_sayNumber_71 hk4 (fun M3 h => ?_)
      refine z_lload hX dX11_sayNumber_74 2 rfl ?_
      refine z_ldc2 (v := (10 : Int64)) hX dX11_sayNumber_76 kj_RX11_161 ?_
      refine z_ldiv hX dX11_sayNumber_79 (by decide) ?_
      refine z_lstore hX [(5, .long (l5 / (10 : Int64))), (0, va_rf (some h0)), (3, .long l3)] dX11_sayNumber_80 (by rw [hnL]; decide) rfl ?_
      refine z_goto (tgt := 50) hX dX11_sayNumber_82 (by decide) ?_
      refine z_loc [1, 2, 0] rfl ?_
      exact hR50 _ _ _ h
def lp_X11_sayNumber_28 (h0 : Nat) (K : Mm → Prop) : Nat → Int64 → Int64 → Mm → Prop
  | 0, _, _, _ => False
  | n + 1, l3, l5, M => ¬ l5 = 0 ∧ (((l3 / l5) ≤ (9 : Int64) → (∃ kk, lp_X11_sayNumber_50 h0 K kk l3 l5 M)) ∧ (¬ (l3 / l5) ≤ (9 : Int64) → ((lp_X11_sayNumber_28 h0 K n) l3 (l5 * (10 : Int64)) M)))
set_option maxRecDepth 100000 in
set_option maxHeartbeats 4000000 in
theorem zl_X11_sayNumber_28 {X : Cx} {h0 : Nat} {K : Mm → Prop} (hX : Ok X cX11_sayNumber RX11 rm_X11_sayNumber) (hQ : Rq X rm_X11_sayNumber none (QV K)) (hnL : X.2.2.2.2.2.2.2.2.2.2.2.2.2.2 = 7) : ∀ (n : Nat) (l3 : Int64) (l5 : Int64) (M : Mm), lp_X11_sayNumber_28 h0 K n l3 l5 M → Z X M 0 0 28 [(0, va_rf (some h0)), (3, .long l3), (5, .long l5)] [] := by
  intro n
  induction n with
  | zero =>
    intro l3 l5 M h
    exact False.elim h
  | succ n hR28 =>
    intro l3 l5 M h
    refine z_lload_n hX dX11_sayNumber_28 rfl 1 rfl ?_
    refine z_lload hX dX11_sayNumber_29 2 rfl ?_
    obtain ⟨hc6, h⟩ := h
    refine z_ldiv hX dX11_sayNumber_31 hc6 ?_
    refine z_ldc2 (v := (9 : Int64)) hX dX11_sayNumber_32 kj_RX11_418 ?_
    refine z_lcmp hX dX11_sayNumber_35 ?_
    obtain ⟨h1, h2⟩ := h
    refine z_if_le (tgt := 50) hX dX11_sayNumber_36 (by decide) (fun hc => ?_) (fun hc => ?_)
    · have h := h1 ((lg_cmp_le _ _).mp hc)
      obtain ⟨n, h⟩ := h
      exact zl_X11_sayNumber_50 hX hQ hnL n _ _ _ h
    · have h := h2 (fun q => hc ((lg_cmp_le _ _).mpr q))
      refine z_lload hX dX11_sayNumber_39 2 rfl ?_
      refine z_ldc2 (v := (10 : Int64)) hX dX11_sayNumber_41 kj_RX11_161 ?_
      refine z_lmul hX dX11_sayNumber_44 ?_
      refine z_lstore hX [(5, .long (l5 * (10 : Int64))), (0, va_rf (some h0)), (3, .long l3)] dX11_sayNumber_45 (by rw [hnL]; decide) rfl ?_
      refine z_goto (tgt := 28) hX dX11_sayNumber_47 (by decide) ?_
      refine z_loc [1, 2, 0] rfl ?_
      exact hR28 _ _ _ h
def bk_X11_sayNumber_24 (h0 : Nat) (K : Mm → Prop) (s0 : Int64) (M : Mm) : Prop := (∃ kk, lp_X11_sayNumber_28 h0 K kk s0 (1 : Int64) M)
set_option maxRecDepth 100000 in
set_option maxHeartbeats 4000000 in
theorem zb_X11_sayNumber_24 {X : Cx} {h0 : Nat} {K : Mm → Prop} (hX : Ok X cX11_sayNumber RX11 rm_X11_sayNumber) (hQ : Rq X rm_X11_sayNumber none (QV K)) (hnL : X.2.2.2.2.2.2.2.2.2.2.2.2.2.2 = 7) {s0 : Int64} {M : Mm} (h : bk_X11_sayNumber_24 h0 K s0 M) : Z X M 0 0 24 [(0, va_rf (some h0))] [.long s0] := by
  unfold bk_X11_sayNumber_24 at h
  refine z_lstore_n hX [(3, .long s0), (0, va_rf (some h0))] dX11_sayNumber_24 rfl (by rw [hnL]; decide) rfl ?_
  refine z_lconst (v := (1 : Int64)) hX dX11_sayNumber_25 (by decide) ?_
  refine z_lstore hX [(5, .long (1 : Int64)), (3, .long s0), (0, va_rf (some h0))] dX11_sayNumber_26 (by rw [hnL]; decide) rfl ?_
  refine z_loc [2, 1, 0] rfl ?_
  obtain ⟨n, h⟩ := h
  exact zl_X11_sayNumber_28 hX hQ hnL n _ _ _ h
def bk_X11_sayNumber_12 (h0 : Nat) (K : Mm → Prop) (l1 : Int64) (M : Mm) : Prop := (((0 : Int64) ≤ l1 → (bk_X11_sayNumber_24 h0 K l1 M)) ∧ (¬ (0 : Int64) ≤ l1 → (bk_X11_sayNumber_24 h0 K (-l1) M)))
set_option maxRecDepth 100000 in
set_option maxHeartbeats 4000000 in
theorem zb_X11_sayNumber_12 {X : Cx} {h0 : Nat} {K : Mm → Prop} (hX : Ok X cX11_sayNumber RX11 rm_X11_sayNumber) (hQ : Rq X rm_X11_sayNumber none (QV K)) (hnL : X.2.2.2.2.2.2.2.2.2.2.2.2.2.2 = 7) {l1 : Int64} {M : Mm} (h : bk_X11_sayNumber_12 h0 K l1 M) : Z X M 0 0 12 [(0, va_rf (some h0)), (1, .long l1)] [] := by
  unfold bk_X11_sayNumber_12 at h
  refine z_lload_n hX dX11_sayNumber_12 rfl 1 rfl ?_
  refine z_lconst (v := (0 : Int64)) hX dX11_sayNumber_13 (by decide) ?_
  refine z_lcmp hX dX11_sayNumber_14 ?_
  obtain ⟨h1, h2⟩ := h
  refine z_if_ge (tgt := 23) hX dX11_sayNumber_15 (by decide) (fun hc => ?_) (fun hc => ?_)
  · have h := h1 ((lg_cmp_ge _ _).mp hc)
    refine z_lload_n hX dX11_sayNumber_23 rfl 1 rfl ?_
    refine z_loc [0] rfl ?_
    exact zb_X11_sayNumber_24 hX hQ hnL h
  · have h := h2 (fun q => hc ((lg_cmp_ge _ _).mpr q))
    refine z_lload_n hX dX11_sayNumber_18 rfl 1 rfl ?_
    refine z_lneg hX dX11_sayNumber_19 ?_
    refine z_goto (tgt := 24) hX dX11_sayNumber_20 (by decide) ?_
    refine z_loc [0] rfl ?_
    exact zb_X11_sayNumber_24 hX hQ hnL h
def wp_X11_sayNumber (M : Mm) (h0 : Nat) (p1 : Int64) (K : Mm → Prop) : Prop := (((0 : Int64) ≤ p1 → (bk_X11_sayNumber_12 h0 K p1 M)) ∧ (¬ (0 : Int64) ≤ p1 → mK M h0 = 12 ∧ (wp_X11_say M h0 (45 : Int32) (fun M8 => (bk_X11_sayNumber_12 h0 K p1 M8)))))
set_option maxRecDepth 100000 in
set_option maxHeartbeats 4000000 in
theorem ct_X11_sayNumber {M : Mm} {h0 : Nat} {p1 : Int64} {K : Mm → Prop} (h : wp_X11_sayNumber M h0 p1 K) : CtV yX11_sayNumber cX11_sayNumber 7 none rm_X11_sayNumber [.ref h0, .long p1] M K := by
  refine ct_any (QV K) (by decide) (by exact Nat.le_of_ble_eq_true rfl) (fun X hX hQ hnL hnm => ?_)
  rw [show lv_args 0 [.ref h0, .long p1] = [(0, va_rf (some h0)), (1, .long p1)] by rfl]
  have hX : Ok X cX11_sayNumber RX11 rm_X11_sayNumber := hX
  unfold wp_X11_sayNumber at h
  refine z_lload_n hX dX11_sayNumber_0 rfl 1 rfl ?_
  refine z_lconst (v := (0 : Int64)) hX dX11_sayNumber_1 (by decide) ?_
  refine z_lcmp hX dX11_sayNumber_2 ?_
  obtain ⟨h1, h2⟩ := h
  refine z_if_ge (tgt := 12) hX dX11_sayNumber_3 (by decide) (fun hc => ?_) (fun hc => ?_)
  · have h := h1 ((lg_cmp_ge _ _).mp hc)
    exact zb_X11_sayNumber_12 hX hQ hnL h
  · have h := h2 (fun q => hc ((lg_cmp_ge _ _).mpr q))
    refine z_aload_n (r := (some h0)) hX dX11_sayNumber_6 rfl 0 rfl ?_
    refine z_bipush (v := (45 : Int32)) hX dX11_sayNumber_7 (by decide) ?_
    obtain ⟨hk9, h⟩ := h
    refine z_callVV (As := [.int (45 : Int32)]) (rest := []) (ci := 11) hX (ct_X11_say h) mw_RX11_415 rfl (by decide) rfl (by rfl) (by unfold RoomC; decide) (by decide) dX11_sayNumber_9 hk9 (fun M8 h => ?_)
    exact zb_X11_sayNumber_12 hX hQ hnL h
def rm_X11_letter : Room := { frames := 0, cells := 0, slots := 0, locals := 0 }
def bk_X11_letter_27 (h0 : Nat) (K : Int32 → Mm → Prop) (s0 : Int32) (M : Mm) : Prop := (K s0 M)
set_option maxRecDepth 100000 in
set_option maxHeartbeats 4000000 in
theorem zb_X11_letter_27 {X : Cx} {h0 : Nat} {K : Int32 → Mm → Prop} (hX : Ok X cX11_letter RX11 rm_X11_letter) (hQ : Rq X rm_X11_letter (some .int) (QI K)) (hnL : X.2.2.2.2.2.2.2.2.2.2.2.2.2.2 = 2) {s0 : Int32} {M : Mm} (h : bk_X11_letter_27 h0 K s0 M) : Z X M 0 0 27 [] [.int s0] := by
  unfold bk_X11_letter_27 at h
  exact z_iret hX hQ dX11_letter_27 h
def bk_X11_letter_17 (h0 : Nat) (K : Int32 → Mm → Prop) (M : Mm) : Prop := (bk_X11_letter_27 h0 K (-1 : Int32) M)
set_option maxRecDepth 100000 in
set_option maxHeartbeats 4000000 in
theorem zb_X11_letter_17 {X : Cx} {h0 : Nat} {K : Int32 → Mm → Prop} (hX : Ok X cX11_letter RX11 rm_X11_letter) (hQ : Rq X rm_X11_letter (some .int) (QI K)) (hnL : X.2.2.2.2.2.2.2.2.2.2.2.2.2.2 = 2) {M : Mm} (h : bk_X11_letter_17 h0 K M) : Z X M 0 0 17 [] [] := by
  unfold bk_X11_letter_17 at h
  refine z_iconst (v := (-1 : Int32)) hX dX11_letter_17 (by decide) ?_
  refine z_goto (tgt := 27) hX dX11_letter_18 (by decide) ?_
  exact zb_X11_letter_27 hX hQ hnL h
def wp_X11_letter (M : Mm) (h0 : Nat) (p1 : Int32) (K : Int32 → Mm → Prop) : Prop := mK M h0 = 12 ∧ ((p1 < 0 → (bk_X11_letter_17 h0 K (sI M 704 h0 (0 : Int32)))) ∧ (¬ p1 < 0 → ((p1 < (mI (sI M 704 h0 (0 : Int32)) 760 h0) → ∃ a3, (mR (sI M 704 h0 (0 : Int32)) 759 h0) = some a3 ∧ isA (sI M 704 h0 (0 : Int32)) a3 0 ∧ vp_in p1 (aN (sI M 704 h0 (0 : Int32)) a3) ∧ (bk_X11_letter_27 h0 K (aI (sI M 704 h0 (0 : Int32)) a3 (p1).toNatClampNeg) (sI M 704 h0 (0 : Int32)))) ∧ (¬ p1 < (mI (sI M 704 h0 (0 : Int32)) 760 h0) → (bk_X11_letter_17 h0 K (sI M 704 h0 (0 : Int32)))))))
set_option maxRecDepth 100000 in
set_option maxHeartbeats 4000000 in
theorem ct_X11_letter {M : Mm} {h0 : Nat} {p1 : Int32} {K : Int32 → Mm → Prop} (h : wp_X11_letter M h0 p1 K) : CtI yX11_letter cX11_letter 2 (some .int) rm_X11_letter [.ref h0, .int p1] M K := by
  refine ct_any (QI K) (by decide) (by exact Nat.le_of_ble_eq_true rfl) (fun X hX hQ hnL hnm => ?_)
  rw [show lv_args 0 [.ref h0, .int p1] = [(0, va_rf (some h0)), (1, .int p1)] by rfl]
  have hX : Ok X cX11_letter RX11 rm_X11_letter := hX
  unfold wp_X11_letter at h
  refine z_aload_n (r := (some h0)) hX dX11_letter_0 rfl 0 rfl ?_
  refine z_iconst (v := (0 : Int32)) hX dX11_letter_1 (by decide) ?_
  obtain ⟨hk1, h⟩ := h
  refine pf_RX11_123 (r := (some h0)) (v := (0 : Int32)) hX dX11_letter_2 rfl hk1 ?_
  refine z_iload_n hX dX11_letter_5 rfl 1 rfl ?_
  obtain ⟨h1, h2⟩ := h
  refine z_if_lt (tgt := 17) hX dX11_letter_6 (by decide) (fun hc => ?_) (fun hc => ?_)
  · have h := h1 hc
    refine z_loc [] rfl ?_
    exact zb_X11_letter_17 hX hQ hnL h
  · have h := h2 hc
    refine z_iload_n hX dX11_letter_9 rfl 1 rfl ?_
    refine z_aload_n (r := (some h0)) hX dX11_letter_10 rfl 0 rfl ?_
    refine gf_RX11_412 (r := (some h0)) hX dX11_letter_11 rfl hk1 ?_
    obtain ⟨h1, h2⟩ := h
    refine z_icmp_lt (tgt := 21) hX dX11_letter_14 (by decide) (fun hc => ?_) (fun hc => ?_)
    · have h := h1 hc
      refine z_aload_n (r := (some h0)) hX dX11_letter_21 rfl 0 rfl ?_
      refine gf_RX11_120 (r := (some h0)) hX dX11_letter_22 rfl hk1 ?_
      refine z_iload_n hX dX11_letter_25 rfl 1 rfl ?_
      obtain ⟨a3, ha4, h⟩ := h
      obtain ⟨hk5, h⟩ := h
      obtain ⟨hc6, h⟩ := h
      refine y_bald (r := (mR (sI M 704 h0 (0 : Int32)) 759 h0)) hX dX11_letter_26 ha4 hk5 hc6 ?_
      refine z_loc [] rfl ?_
      exact zb_X11_letter_27 hX hQ hnL h
    · have h := h2 hc
      refine z_loc [] rfl ?_
      exact zb_X11_letter_17 hX hQ hnL h
def rm_J9_floorDiv_f86c9 : Room := { frames := 0, cells := 0, slots := 0, locals := 0 }
def bk_J9_floorDiv_f86c9_27 (K : Int64 → Mm → Prop) (l4 : Int64) (M : Mm) : Prop := (K l4 M)
set_option maxRecDepth 100000 in
set_option maxHeartbeats 4000000 in
theorem zb_J9_floorDiv_f86c9_27 {X : Cx} {K : Int64 → Mm → Prop} (hX : Ok X cJ9_floorDiv_f86c9 RJ9 rm_J9_floorDiv_f86c9) (hQ : Rq X rm_J9_floorDiv_f86c9 (some .long) (QJ K)) (hnL : X.2.2.2.2.2.2.2.2.2.2.2.2.2.2 = 6) {l4 : Int64} {M : Mm} (h : bk_J9_floorDiv_f86c9_27 K l4 M) : Z X M 0 0 27 [(4, .long l4)] [] := by
  unfold bk_J9_floorDiv_f86c9_27 at h
  refine z_lload hX dJ9_floorDiv_f86c9_27 0 rfl ?_
  exact z_lret hX hQ dJ9_floorDiv_f86c9_29 h
def wp_J9_floorDiv_f86c9 (M : Mm) (p1 : Int64) (p2 : Int64) (K : Int64 → Mm → Prop) : Prop := ¬ p2 = 0 ∧ (((0 : Int64) ≤ (p1 ^^^ p2) → (bk_J9_floorDiv_f86c9_27 K (p1 / p2) M)) ∧ (¬ (0 : Int64) ≤ (p1 ^^^ p2) → ((((p1 / p2) * p2) = p1 → (bk_J9_floorDiv_f86c9_27 K (p1 / p2) M)) ∧ (¬ ((p1 / p2) * p2) = p1 → (K ((p1 / p2) - (1 : Int64)) M)))))
set_option maxRecDepth 100000 in
set_option maxHeartbeats 4000000 in
theorem ct_J9_floorDiv_f86c9 {M : Mm} {p1 : Int64} {p2 : Int64} {K : Int64 → Mm → Prop} (h : wp_J9_floorDiv_f86c9 M p1 p2 K) : CtJ yJ9_floorDiv_f86c9 cJ9_floorDiv_f86c9 6 (some .long) rm_J9_floorDiv_f86c9 [.long p1, .long p2] M K := by
  refine ct_any (QJ K) (by decide) (by exact Nat.le_of_ble_eq_true rfl) (fun X hX hQ hnL hnm => ?_)
  rw [show lv_args 0 [.long p1, .long p2] = [(0, .long p1), (2, .long p2)] by rfl]
  have hX : Ok X cJ9_floorDiv_f86c9 RJ9 rm_J9_floorDiv_f86c9 := hX
  unfold wp_J9_floorDiv_f86c9 at h
  refine z_lload_n hX dJ9_floorDiv_f86c9_0 rfl 0 rfl ?_
  refine z_lload_n hX dJ9_floorDiv_f86c9_1 rfl 1 rfl ?_
  obtain ⟨hc1, h⟩ := h
  refine z_ldiv hX dJ9_floorDiv_f86c9_2 hc1 ?_
  refine z_lstore hX [(4, .long (p1 / p2)), (0, .long p1), (2, .long p2)] dJ9_floorDiv_f86c9_3 (by rw [hnL]; decide) rfl ?_
  refine z_lload_n hX dJ9_floorDiv_f86c9_5 rfl 1 rfl ?_
  refine z_lload_n hX dJ9_floorDiv_f86c9_6 rfl 2 rfl ?_
  refine z_lxor hX dJ9_floorDiv_f86c9_7 ?_
  refine z_lconst (v := (0 : Int64)) hX dJ9_floorDiv_f86c9_8 (by decide) ?_
  refine z_lcmp hX dJ9_floorDiv_f86c9_9 ?_
  obtain ⟨h1, h2⟩ := h
  refine z_if_ge (tgt := 27) hX dJ9_floorDiv_f86c9_10 (by decide) (fun hc => ?_) (fun hc => ?_)
  · have h := h1 ((lg_cmp_ge _ _).mp hc)
    refine z_loc [0] rfl ?_
    exact zb_J9_floorDiv_f86c9_27 hX hQ hnL h
  · have h := h2 (fun q => hc ((lg_cmp_ge _ _).mpr q))
    refine z_lload hX dJ9_floorDiv_f86c9_13 0 rfl ?_
    refine z_lload_n hX dJ9_floorDiv_f86c9_15 rfl 2 rfl ?_
    refine z_lmul hX dJ9_floorDiv_f86c9_16 ?_
    refine z_lload_n hX dJ9_floorDiv_f86c9_17 rfl 1 rfl ?_
    refine z_lcmp hX dJ9_floorDiv_f86c9_18 ?_
    obtain ⟨h1, h2⟩ := h
    refine z_if_eq (tgt := 27) hX dJ9_floorDiv_f86c9_19 (by decide) (fun hc => ?_) (fun hc => ?_)
    · have h := h1 ((lg_cmp_eq _ _).mp hc)
      refine z_loc [0] rfl ?_
      exact zb_J9_floorDiv_f86c9_27 hX hQ hnL h
    · have h := h2 (fun q => hc ((lg_cmp_eq _ _).mpr q))
      refine z_lload hX dJ9_floorDiv_f86c9_22 0 rfl ?_
      refine z_lconst (v := (1 : Int64)) hX dJ9_floorDiv_f86c9_24 (by decide) ?_
      refine z_lsub hX dJ9_floorDiv_f86c9_25 ?_
      exact z_lret hX hQ dJ9_floorDiv_f86c9_26 h
def rm_X1_init : Room := { frames := 2, cells := 6, slots := 200, locals := 40 }
def lp_X1_init_32 (h0 : Nat) (K : Mm → Prop) : Nat → Int32 → Mm → Prop
  | 0, _, _ => False
  | n + 1, l3, M => (((4 : Int32) ≤ l3 → (∀ q1, mK M q1 = 0 → (wp_X8_init (nw M q1 9) q1 (fun M5 => mK M5 h0 = 2 ∧ (K (sR M5 68 h0 (some q1))))))) ∧ (¬ (4 : Int32) ≤ l3 → mK M h0 = 2 ∧ ∃ a10, (mR M 67 h0) = some a10 ∧ isA M a10 2 ∧ vp_in l3 (aN M a10) ∧ ((lp_X1_init_32 h0 K n) (l3 + 1) (tJ M a10 (l3).toNatClampNeg (-1 : Int64)))))
set_option maxRecDepth 100000 in
set_option maxHeartbeats 4000000 in
theorem zl_X1_init_32 {X : Cx} {h0 : Nat} {K : Mm → Prop} (hX : Ok X cX1_init RX1 rm_X1_init) (hQ : Rq X rm_X1_init none (QV K)) (hnL : X.2.2.2.2.2.2.2.2.2.2.2.2.2.2 = 4) (hnm : X.2.2.2.2.2.2.2.2.1.name = "<init>") : ∀ (n : Nat) (l3 : Int32) (M : Mm), lp_X1_init_32 h0 K n l3 M → Z X M 2 16 32 [(0, va_rf (some h0)), (3, .int l3)] [] := by
  intro n
  induction n with
  | zero =>
    intro l3 M h
    exact False.elim h
  | succ n hR32 =>
    intro l3 M h
    refine z_iload_n hX dX1_init_32 rfl 1 rfl ?_
    refine z_iconst (v := (4 : Int32)) hX dX1_init_33 (by decide) ?_
    obtain ⟨h1, h2⟩ := h
    refine z_icmp_ge (tgt := 52) hX dX1_init_34 (by decide) (fun hc => ?_) (fun hc => ?_)
    · have h := h1 hc
      refine z_aload_n (r := (some h0)) hX dX1_init_52 rfl 0 rfl ?_
      refine nq_RX1_30 hX dX1_init_53 (by decide) (by decide) (fun q1 hq2 => ?_)
      have h := h q1 hq2
      refine z_dup hX dX1_init_56 (cat_rf _) ?_
      refine z_callIV (As := []) (rest := [va_rf (some q1), va_rf (some h0)]) hX (ct_X8_init h) mw_RX1_32 rfl (by rfl) (by unfold RoomC; decide) (by simp only [List.map_cons, List.map_nil, List.sum_cons, List.sum_nil, cat_rf, cat_i, cat_j]; decide) dX1_init_57 (fun M5 h => ?_)
      obtain ⟨hk7, h⟩ := h
      refine pf_RX1_33 (r := (some h0)) (v := (some q1)) hX hnm dX1_init_60 rfl hk7 ?_
      refine z_widen 6 200 (by decide) (by decide) ?_
      exact z_vret hX hQ dX1_init_63 h
    · have h := h2 hc
      refine z_aload_n (r := (some h0)) hX dX1_init_37 rfl 0 rfl ?_
      obtain ⟨hk9, h⟩ := h
      refine gf_RX1_24 (r := (some h0)) hX dX1_init_38 rfl hk9 ?_
      refine z_iload_n hX dX1_init_41 rfl 1 rfl ?_
      refine z_ldc2 (v := (-1 : Int64)) hX dX1_init_42 kj_RX1_28 ?_
      obtain ⟨a10, ha11, h⟩ := h
      obtain ⟨hk12, h⟩ := h
      obtain ⟨hc13, h⟩ := h
      refine y_last (r := (mR M 67 h0)) hX dX1_init_45 ha11 hk12 hc13 ?_
      refine z_iinc (v := (l3 + 1)) hX [(3, .int (l3 + 1)), (0, va_rf (some h0))] dX1_init_46 1 rfl rfl (by rw [hnL]; decide) rfl ?_
      refine z_goto (tgt := 32) hX dX1_init_49 (by decide) ?_
      refine z_loc [1, 0] rfl ?_
      refine z_widen 2 16 (by decide) (by decide) ?_
      exact hR32 _ _ h
def wp_X1_init (M : Mm) (h0 : Nat) (p1 : Option Nat) (p2 : Option Nat) (K : Mm → Prop) : Prop := mK M h0 = 2 ∧ (∀ q17, mK (sR (sR M 64 h0 p1) 65 h0 p2) q17 = 0 → mK (na (sR (sR M 64 h0 p1) 65 h0 p2) q17 412 12) h0 = 2 ∧ (∀ q22, mK (sR (na (sR (sR M 64 h0 p1) 65 h0 p2) q17 412 12) 66 h0 (some q17)) q22 = 0 → mK (na (sR (na (sR (sR M 64 h0 p1) 65 h0 p2) q17 412 12) 66 h0 (some q17)) q22 418 4) h0 = 2 ∧ (∃ kk, lp_X1_init_32 h0 K kk (0 : Int32) (sR (na (sR (na (sR (sR M 64 h0 p1) 65 h0 p2) q17 412 12) 66 h0 (some q17)) q22 418 4) 67 h0 (some q22)))))
set_option maxRecDepth 100000 in
set_option maxHeartbeats 4000000 in
theorem ct_X1_init {M : Mm} {h0 : Nat} {p1 : Option Nat} {p2 : Option Nat} {K : Mm → Prop} (h : wp_X1_init M h0 p1 p2 K) : CtV yX1_init cX1_init 4 none rm_X1_init [.ref h0, va_rf p1, va_rf p2] M K := by
  refine ct_any (QV K) (by decide) (by cases p1 <;> cases p2 <;> exact Nat.le_of_ble_eq_true rfl) (fun X hX hQ hnL hnm => ?_)
  rw [show lv_args 0 [.ref h0, va_rf p1, va_rf p2] = [(0, va_rf (some h0)), (1, va_rf p1), (2, va_rf p2)] by cases p1 <;> cases p2 <;> rfl]
  have hX : Ok X cX1_init RX1 rm_X1_init := hX
  unfold wp_X1_init at h
  refine z_aload_n (r := (some h0)) hX dX1_init_0 rfl 0 rfl ?_
  refine mw_RX1_3 (a := h0) hX dX1_init_1 (by decide) (by decide) ?_
  refine z_aload_n (r := (some h0)) hX dX1_init_4 rfl 0 rfl ?_
  refine z_aload_n (r := p1) hX dX1_init_5 rfl 1 rfl ?_
  obtain ⟨hk14, h⟩ := h
  refine pf_RX1_9 (r := (some h0)) (v := p1) hX hnm dX1_init_6 rfl hk14 ?_
  refine z_aload_n (r := (some h0)) hX dX1_init_9 rfl 0 rfl ?_
  refine z_aload_n (r := p2) hX dX1_init_10 rfl 2 rfl ?_
  refine pf_RX1_15 (r := (some h0)) (v := p2) hX hnm dX1_init_11 rfl hk14 ?_
  refine z_aload_n (r := (some h0)) hX dX1_init_14 rfl 0 rfl ?_
  refine z_bipush (v := (12 : Int32)) hX dX1_init_15 (by decide) ?_
  refine z_newq (n := 12) (kd := 412) hX (wjU_mem (by decide +kernel) rfl) (by decide) (by decide) (by decide) (by decide) (by decide) dX1_init_17 (by decide) (by decide) (fun q17 hq18 => ?_)
  have h := h q17 hq18
  obtain ⟨hk20, h⟩ := h
  refine pf_RX1_20 (r := (some h0)) (v := (some q17)) hX hnm dX1_init_20 rfl hk20 ?_
  refine z_aload_n (r := (some h0)) hX dX1_init_23 rfl 0 rfl ?_
  refine z_iconst (v := (4 : Int32)) hX dX1_init_24 (by decide) ?_
  refine y_newa_long (n := 4) hX 418 (by decide) (by decide) (by decide) (by decide) (by decide) dX1_init_25 (by decide) (by decide) (fun q22 hq23 => ?_)
  have h := h q22 hq23
  obtain ⟨hk25, h⟩ := h
  refine pf_RX1_24 (r := (some h0)) (v := (some q22)) hX hnm dX1_init_27 rfl hk25 ?_
  refine z_iconst (v := (0 : Int32)) hX dX1_init_30 (by decide) ?_
  refine z_istore_n (i := 3) hX [(3, .int (0 : Int32)), (0, va_rf (some h0)), (1, va_rf p1), (2, va_rf p2)] dX1_init_31 rfl (by rw [hnL]; decide) (by simp [cat_rf]) ?_
  refine z_loc [1, 0] rfl ?_
  refine z_widen 2 16 (by decide) (by decide) ?_
  obtain ⟨n, h⟩ := h
  exact zl_X1_init_32 hX hQ hnL hnm n _ _ h
def rm_X1_isStopped : Room := { frames := 2, cells := 0, slots := 0, locals := 46 }
def bk_X1_isStopped_20 (h0 : Nat) (K : Int32 → Mm → Prop) (M : Mm) : Prop := (K (0 : Int32) M)
set_option maxRecDepth 100000 in
set_option maxHeartbeats 4000000 in
theorem zb_X1_isStopped_20 {X : Cx} {h0 : Nat} {K : Int32 → Mm → Prop} (hX : Ok X cX1_isStopped RX1 rm_X1_isStopped) (hQ : Rq X rm_X1_isStopped (some .boolean) (QI K)) (hnL : X.2.2.2.2.2.2.2.2.2.2.2.2.2.2 = 7) {M : Mm} (h : bk_X1_isStopped_20 h0 K M) : Z X M 0 0 20 [] [] := by
  unfold bk_X1_isStopped_20 at h
  refine z_iconst (v := (0 : Int32)) hX dX1_isStopped_20 (by decide) ?_
  exact y_zret hX hQ dX1_isStopped_21 (Or.inl rfl) h
def bk_X1_isStopped_111 (h0 : Nat) (K : Int32 → Mm → Prop) (s0 : Int32) (M : Mm) : Prop := (bz s0 ∧ K s0 M)
set_option maxRecDepth 100000 in
set_option maxHeartbeats 4000000 in
theorem zb_X1_isStopped_111 {X : Cx} {h0 : Nat} {K : Int32 → Mm → Prop} (hX : Ok X cX1_isStopped RX1 rm_X1_isStopped) (hQ : Rq X rm_X1_isStopped (some .boolean) (QI K)) (hnL : X.2.2.2.2.2.2.2.2.2.2.2.2.2.2 = 7) {s0 : Int32} {M : Mm} (h : bk_X1_isStopped_111 h0 K s0 M) : Z X M 0 0 111 [] [.int s0] := by
  unfold bk_X1_isStopped_111 at h
  exact y_zret hX hQ dX1_isStopped_111 h.1 h.2
def bk_X1_isStopped_77 (h0 : Nat) (R29 : Option Nat → Int32 → Int64 → Int32 → Mm → Prop) (K : Int32 → Mm → Prop) (l1 : Option Nat) (l2 : Int32) (l3 : Int64) (l5 : Int32) (M : Mm) : Prop := (R29 l1 l2 l3 (l5 + 1) M)
set_option maxRecDepth 100000 in
set_option maxHeartbeats 4000000 in
theorem zb_X1_isStopped_77 {X : Cx} {h0 : Nat} {R29 : Option Nat → Int32 → Int64 → Int32 → Mm → Prop} {K : Int32 → Mm → Prop} (hX : Ok X cX1_isStopped RX1 rm_X1_isStopped) (hQ : Rq X rm_X1_isStopped (some .boolean) (QI K)) (hnL : X.2.2.2.2.2.2.2.2.2.2.2.2.2.2 = 7) (hR29 : ∀ l1 l2 l3 l5 M, R29 l1 l2 l3 l5 M → Z X M 0 0 29 [(0, va_rf (some h0)), (1, va_rf l1), (2, .int l2), (3, .long l3), (5, .int l5)] []) {l1 : Option Nat} {l2 : Int32} {l3 : Int64} {l5 : Int32} {M : Mm} (h : bk_X1_isStopped_77 h0 R29 K l1 l2 l3 l5 M) : Z X M 0 0 77 [(0, va_rf (some h0)), (1, va_rf l1), (2, .int l2), (3, .long l3), (5, .int l5)] [] := by
  unfold bk_X1_isStopped_77 at h
  refine z_iinc (v := (l5 + 1)) hX [(5, .int (l5 + 1)), (0, va_rf (some h0)), (1, va_rf l1), (2, .int l2), (3, .long l3)] dX1_isStopped_77 4 rfl rfl (by rw [hnL]; decide) rfl ?_
  refine z_goto (tgt := 29) hX dX1_isStopped_80 (by decide) ?_
  refine z_loc [1, 2, 3, 4, 0] rfl ?_
  exact hR29 _ _ _ _ _ h
def lp_X1_isStopped_29 (h0 : Nat) (K : Int32 → Mm → Prop) : Nat → Option Nat → Int32 → Int64 → Int32 → Mm → Prop
  | 0, _, _, _, _, _ => False
  | n + 1, l1, l2, l3, l5, M => mK M h0 = 2 ∧ (((mI M 69 h0) ≤ l5 → ∃ a2, l1 = some a2 ∧ mK M a2 = 6 ∧ ∃ a5, (mR M 325 a2) = some a5 ∧ isA M a5 2 ∧ vp_in l2 (aN M a5) ∧ ∃ a9, (mR M 67 h0) = some a9 ∧ isA M a9 2 ∧ vp_in (mI M 323 a2) (aN M a9) ∧ (wp_X10_together M l3 (aJ M a9 ((mI M 323 a2)).toNatClampNeg) (fun r13 M14 => (((aJ M a5 (l2).toNatClampNeg) ≤ r13 → (bk_X1_isStopped_111 h0 K (0 : Int32) M14)) ∧ (¬ (aJ M a5 (l2).toNatClampNeg) ≤ r13 → (bk_X1_isStopped_111 h0 K (1 : Int32) M14)))))) ∧ (¬ (mI M 69 h0) ≤ l5 → ∃ a16, (mR M 66 h0) = some a16 ∧ isA M a16 4 ∧ vp_in l5 (aN M a16) ∧ ∃ a20, (aR M a16 (l5).toNatClampNeg) = some a20 ∧ mK M a20 = 7 ∧ (((mR M 393 a20) = none → (bk_X1_isStopped_77 h0 (lp_X1_isStopped_29 h0 K n) K l1 l2 l3 l5 M)) ∧ (∀ a23, (mR M 393 a20) = some a23 → mK M a23 = 6 ∧ ∃ a26, l1 = some a26 ∧ mK M a26 = 6 ∧ ((¬ (mI M 323 a23) = (mI M 323 a26) → (bk_X1_isStopped_77 h0 (lp_X1_isStopped_29 h0 K n) K l1 l2 l3 l5 M)) ∧ ((mI M 323 a23) = (mI M 323 a26) → (wp_X5_leastActive M a23 (fun r29 M30 => (bk_X1_isStopped_77 h0 (lp_X1_isStopped_29 h0 K n) K l1 l2 (if r29 < l3 then r29 else l3) l5 M30)))))))))
set_option maxRecDepth 100000 in
set_option maxHeartbeats 4000000 in
theorem zl_X1_isStopped_29 {X : Cx} {h0 : Nat} {K : Int32 → Mm → Prop} (hX : Ok X cX1_isStopped RX1 rm_X1_isStopped) (hQ : Rq X rm_X1_isStopped (some .boolean) (QI K)) (hnL : X.2.2.2.2.2.2.2.2.2.2.2.2.2.2 = 7) : ∀ (n : Nat) (l1 : Option Nat) (l2 : Int32) (l3 : Int64) (l5 : Int32) (M : Mm), lp_X1_isStopped_29 h0 K n l1 l2 l3 l5 M → Z X M 0 0 29 [(0, va_rf (some h0)), (1, va_rf l1), (2, .int l2), (3, .long l3), (5, .int l5)] [] := by
  intro n
  induction n with
  | zero =>
    intro l1 l2 l3 l5 M h
    exact False.elim h
  | succ n hR29 =>
    intro l1 l2 l3 l5 M h
    refine z_iload hX dX1_isStopped_29 4 rfl ?_
    refine z_aload_n (r := (some h0)) hX dX1_isStopped_31 rfl 0 rfl ?_
    obtain ⟨hk1, h⟩ := h
    refine gf_RX1_37 (r := (some h0)) hX dX1_isStopped_32 rfl hk1 ?_
    obtain ⟨h1, h2⟩ := h
    refine z_icmp_ge (tgt := 83) hX dX1_isStopped_35 (by decide) (fun hc => ?_) (fun hc => ?_)
    · have h := h1 hc
      refine z_aload_n (r := l1) hX dX1_isStopped_83 rfl 1 rfl ?_
      obtain ⟨a2, ha3, h⟩ := h
      obtain ⟨hk4, h⟩ := h
      refine gf_RX1_74 (r := l1) hX dX1_isStopped_84 ha3 hk4 ?_
      refine z_iload_n hX dX1_isStopped_87 rfl 2 rfl ?_
      obtain ⟨a5, ha6, h⟩ := h
      obtain ⟨hk7, h⟩ := h
      obtain ⟨hc8, h⟩ := h
      refine y_lald (r := (mR M 325 a2)) hX dX1_isStopped_88 ha6 hk7 hc8 ?_
      refine z_lload_n hX dX1_isStopped_89 rfl 3 rfl ?_
      refine z_aload_n (r := (some h0)) hX dX1_isStopped_90 rfl 0 rfl ?_
      refine gf_RX1_24 (r := (some h0)) hX dX1_isStopped_91 rfl hk1 ?_
      refine z_aload_n (r := l1) hX dX1_isStopped_94 rfl 1 rfl ?_
      refine gf_RX1_51 (r := l1) hX dX1_isStopped_95 ha3 hk4 ?_
      obtain ⟨a9, ha10, h⟩ := h
      obtain ⟨hk11, h⟩ := h
      obtain ⟨hc12, h⟩ := h
      refine y_lald (r := (mR M 67 h0)) hX dX1_isStopped_98 ha10 hk11 hc12 ?_
      refine z_callNJ (As := [.long l3, .long (aJ M a9 ((mI M 323 a2)).toNatClampNeg)]) (rest := [.long (aJ M a5 (l2).toNatClampNeg)]) hX (ct_X10_together h) mw_RX1_77 rfl (by rfl) (by unfold RoomC; decide) (by simp only [List.map_cons, List.map_nil, List.sum_cons, List.sum_nil, cat_rf, cat_i, cat_j]; decide) dX1_isStopped_99 (fun r13 M14 h => ?_)
      refine z_lcmp hX dX1_isStopped_102 ?_
      obtain ⟨h1, h2⟩ := h
      refine z_if_le (tgt := 110) hX dX1_isStopped_103 (by decide) (fun hc => ?_) (fun hc => ?_)
      · have h := h1 ((lg_cmp_le _ _).mp hc)
        refine z_iconst (v := (0 : Int32)) hX dX1_isStopped_110 (by decide) ?_
        refine z_loc [] rfl ?_
        exact zb_X1_isStopped_111 hX hQ hnL h
      · have h := h2 (fun q => hc ((lg_cmp_le _ _).mpr q))
        refine z_iconst (v := (1 : Int32)) hX dX1_isStopped_106 (by decide) ?_
        refine z_goto (tgt := 111) hX dX1_isStopped_107 (by decide) ?_
        refine z_loc [] rfl ?_
        exact zb_X1_isStopped_111 hX hQ hnL h
    · have h := h2 hc
      refine z_aload_n (r := (some h0)) hX dX1_isStopped_38 rfl 0 rfl ?_
      refine gf_RX1_20 (r := (some h0)) hX dX1_isStopped_39 rfl hk1 ?_
      refine z_iload hX dX1_isStopped_42 4 rfl ?_
      obtain ⟨a16, ha17, h⟩ := h
      obtain ⟨hk18, h⟩ := h
      obtain ⟨hc19, h⟩ := h
      refine y_aldq (r := (mR M 66 h0)) hX dX1_isStopped_44 ha17 hk18 hc19 ?_
      obtain ⟨a20, ha21, h⟩ := h
      obtain ⟨hk22, h⟩ := h
      refine gf_RX1_60 (r := (aR M a16 (l5).toNatClampNeg)) hX dX1_isStopped_45 ha21 hk22 ?_
      refine z_astore (r := (mR M 393 a20)) hX [(6, va_rf (mR M 393 a20)), (0, va_rf (some h0)), (1, va_rf l1), (2, .int l2), (3, .long l3), (5, .int l5)] dX1_isStopped_48 (by rw [hnL]; decide) rfl ?_
      refine z_aload (r := (mR M 393 a20)) hX dX1_isStopped_50 0 rfl ?_
      obtain ⟨h1, h2⟩ := h
      refine z_ifnull (r := (mR M 393 a20)) (tgt := 77) hX dX1_isStopped_52 (by decide) (fun hc => ?_) (fun a23 ha24 => ?_)
      · have h := h1 hc
        refine z_loc [1, 2, 3, 4, 5] rfl ?_
        exact zb_X1_isStopped_77 hX hQ hnL hR29 h
      · have h := h2 a23 ha24
        refine z_aload (r := (mR M 393 a20)) hX dX1_isStopped_55 0 rfl ?_
        obtain ⟨hk25, h⟩ := h
        refine gf_RX1_51 (r := (mR M 393 a20)) hX dX1_isStopped_57 ha24 hk25 ?_
        refine z_aload_n (r := l1) hX dX1_isStopped_60 rfl 2 rfl ?_
        obtain ⟨a26, ha27, h⟩ := h
        obtain ⟨hk28, h⟩ := h
        refine gf_RX1_51 (r := l1) hX dX1_isStopped_61 ha27 hk28 ?_
        obtain ⟨h1, h2⟩ := h
        refine z_icmp_ne (tgt := 77) hX dX1_isStopped_64 (by decide) (fun hc => ?_) (fun hc => ?_)
        · have h := h1 hc
          refine z_loc [1, 2, 3, 4, 5] rfl ?_
          exact zb_X1_isStopped_77 hX hQ hnL hR29 h
        · have h := h2 hc
          refine z_lload_n hX dX1_isStopped_67 rfl 4 rfl ?_
          refine z_aload (r := (mR M 393 a20)) hX dX1_isStopped_68 0 rfl ?_
          refine z_callVJ (As := []) (rest := [.long l3]) (ci := 5) hX (ct_X5_leastActive h) mw_RX1_64 rfl (by decide) rfl (by rw [ha24]; rfl) (by unfold RoomC; decide) (by simp only [List.map_cons, List.map_nil, List.sum_cons, List.sum_nil, cat_rf, cat_i, cat_j]; decide) dX1_isStopped_70 hk25 (fun r29 M30 h => ?_)
          refine mw_RX1_68 hX dX1_isStopped_73 (by decide) (by decide) (by decide) (by decide) ?_
          refine z_lstore_n hX [(3, .long (if r29 < l3 then r29 else l3)), (6, va_rf (mR M 393 a20)), (0, va_rf (some h0)), (1, va_rf l1), (2, .int l2), (5, .int l5)] dX1_isStopped_76 rfl (by rw [hnL]; decide) rfl ?_
          refine z_loc [2, 3, 4, 0, 5] rfl ?_
          exact zb_X1_isStopped_77 hX hQ hnL hR29 h
def wp_X1_isStopped (M : Mm) (h0 : Nat) (p1 : Option Nat) (p2 : Int32) (K : Int32 → Mm → Prop) : Prop := ∃ a32, p1 = some a32 ∧ mK M a32 = 6 ∧ ∃ a35, (mR M 324 a32) = some a35 ∧ isA M a35 1 ∧ vp_in p2 (aN M a35) ∧ ((¬ (aI M a35 (p2).toNatClampNeg) = 0 → (bk_X1_isStopped_20 h0 K M)) ∧ ((aI M a35 (p2).toNatClampNeg) = 0 → mK M h0 = 2 ∧ (wp_X1_isAligned M h0 (mI M 323 a32) (fun r39 M40 => ((¬ r39 = 0 → (∃ kk, lp_X1_isStopped_29 h0 K kk p1 p2 (9000000000000000000 : Int64) (0 : Int32) M40)) ∧ (r39 = 0 → (bk_X1_isStopped_20 h0 K M40)))))))
set_option maxRecDepth 100000 in
set_option maxHeartbeats 4000000 in
theorem ct_X1_isStopped {M : Mm} {h0 : Nat} {p1 : Option Nat} {p2 : Int32} {K : Int32 → Mm → Prop} (h : wp_X1_isStopped M h0 p1 p2 K) : CtI yX1_isStopped cX1_isStopped 7 (some .boolean) rm_X1_isStopped [.ref h0, va_rf p1, .int p2] M K := by
  refine ct_any (QI K) (by decide) (by cases p1 <;> exact Nat.le_of_ble_eq_true rfl) (fun X hX hQ hnL hnm => ?_)
  rw [show lv_args 0 [.ref h0, va_rf p1, .int p2] = [(0, va_rf (some h0)), (1, va_rf p1), (2, .int p2)] by cases p1 <;> rfl]
  have hX : Ok X cX1_isStopped RX1 rm_X1_isStopped := hX
  unfold wp_X1_isStopped at h
  refine z_aload_n (r := p1) hX dX1_isStopped_0 rfl 1 rfl ?_
  obtain ⟨a32, ha33, h⟩ := h
  obtain ⟨hk34, h⟩ := h
  refine gf_RX1_45 (r := p1) hX dX1_isStopped_1 ha33 hk34 ?_
  refine z_iload_n hX dX1_isStopped_4 rfl 2 rfl ?_
  obtain ⟨a35, ha36, h⟩ := h
  obtain ⟨hk37, h⟩ := h
  obtain ⟨hc38, h⟩ := h
  refine y_iald (r := (mR M 324 a32)) hX dX1_isStopped_5 ha36 hk37 hc38 ?_
  obtain ⟨h1, h2⟩ := h
  refine z_if_ne (tgt := 20) hX dX1_isStopped_6 (by decide) (fun hc => ?_) (fun hc => ?_)
  · have h := h1 hc
    refine z_loc [] rfl ?_
    exact zb_X1_isStopped_20 hX hQ hnL h
  · have h := h2 hc
    refine z_aload_n (r := (some h0)) hX dX1_isStopped_9 rfl 0 rfl ?_
    refine z_aload_n (r := p1) hX dX1_isStopped_10 rfl 1 rfl ?_
    refine gf_RX1_51 (r := p1) hX dX1_isStopped_11 ha33 hk34 ?_
    obtain ⟨hk41, h⟩ := h
    refine z_callVI (As := [.int (mI M 323 a32)]) (rest := []) (ci := 1) hX (ct_X1_isAligned h) mw_RX1_54 rfl (by decide) rfl (by rfl) (by unfold RoomC; decide) (by decide) dX1_isStopped_14 hk41 (fun r39 M40 h => ?_)
    obtain ⟨h1, h2⟩ := h
    refine z_if_ne (tgt := 22) hX dX1_isStopped_17 (by decide) (fun hc => ?_) (fun hc => ?_)
    · have h := h1 hc
      refine z_ldc2 (v := (9000000000000000000 : Int64)) hX dX1_isStopped_22 kj_RX1_58 ?_
      refine z_lstore_n hX [(3, .long (9000000000000000000 : Int64)), (0, va_rf (some h0)), (1, va_rf p1), (2, .int p2)] dX1_isStopped_25 rfl (by rw [hnL]; decide) rfl ?_
      refine z_iconst (v := (0 : Int32)) hX dX1_isStopped_26 (by decide) ?_
      refine z_istore hX [(5, .int (0 : Int32)), (3, .long (9000000000000000000 : Int64)), (0, va_rf (some h0)), (1, va_rf p1), (2, .int p2)] dX1_isStopped_27 (by rw [hnL]; decide) rfl ?_
      refine z_loc [2, 3, 4, 1, 0] rfl ?_
      obtain ⟨n, h⟩ := h
      exact zl_X1_isStopped_29 hX hQ hnL n _ _ _ _ _ h
    · have h := h2 hc
      refine z_loc [] rfl ?_
      exact zb_X1_isStopped_20 hX hQ hnL h
def rm_X1_refusalOf : Room := { frames := 3, cells := 0, slots := 0, locals := 72 }
def bk_X1_refusalOf_28 (h0 : Nat) (K : Int32 → Mm → Prop) (s0 : Int32) (M : Mm) : Prop := (K s0 M)
set_option maxRecDepth 100000 in
set_option maxHeartbeats 4000000 in
theorem zb_X1_refusalOf_28 {X : Cx} {h0 : Nat} {K : Int32 → Mm → Prop} (hX : Ok X cX1_refusalOf RX1 rm_X1_refusalOf) (hQ : Rq X rm_X1_refusalOf (some .int) (QI K)) (hnL : X.2.2.2.2.2.2.2.2.2.2.2.2.2.2 = 3) {s0 : Int32} {M : Mm} (h : bk_X1_refusalOf_28 h0 K s0 M) : Z X M 0 0 28 [] [.int s0] := by
  unfold bk_X1_refusalOf_28 at h
  exact z_iret hX hQ dX1_refusalOf_28 h
def wp_X1_refusalOf (M : Mm) (h0 : Nat) (p1 : Option Nat) (p2 : Int32) (K : Int32 → Mm → Prop) : Prop := ∃ a1, p1 = some a1 ∧ mK M a1 = 6 ∧ ∃ a4, (mR M 324 a1) = some a4 ∧ isA M a4 1 ∧ vp_in p2 (aN M a4) ∧ ((¬ (aI M a4 (p2).toNatClampNeg) = (2 : Int32) → mK M h0 = 2 ∧ (wp_X1_isStopped M h0 p1 p2 (fun r8 M9 => ((r8 = 0 → (bk_X1_refusalOf_28 h0 K (0 : Int32) M9)) ∧ (¬ r8 = 0 → (bk_X1_refusalOf_28 h0 K (-3 : Int32) M9)))))) ∧ ((aI M a4 (p2).toNatClampNeg) = (2 : Int32) → (K (-2 : Int32) M)))
set_option maxRecDepth 100000 in
set_option maxHeartbeats 4000000 in
theorem ct_X1_refusalOf {M : Mm} {h0 : Nat} {p1 : Option Nat} {p2 : Int32} {K : Int32 → Mm → Prop} (h : wp_X1_refusalOf M h0 p1 p2 K) : CtI yX1_refusalOf cX1_refusalOf 3 (some .int) rm_X1_refusalOf [.ref h0, va_rf p1, .int p2] M K := by
  refine ct_any (QI K) (by decide) (by cases p1 <;> exact Nat.le_of_ble_eq_true rfl) (fun X hX hQ hnL hnm => ?_)
  rw [show lv_args 0 [.ref h0, va_rf p1, .int p2] = [(0, va_rf (some h0)), (1, va_rf p1), (2, .int p2)] by cases p1 <;> rfl]
  have hX : Ok X cX1_refusalOf RX1 rm_X1_refusalOf := hX
  unfold wp_X1_refusalOf at h
  refine z_aload_n (r := p1) hX dX1_refusalOf_0 rfl 1 rfl ?_
  obtain ⟨a1, ha2, h⟩ := h
  obtain ⟨hk3, h⟩ := h
  refine gf_RX1_45 (r := p1) hX dX1_refusalOf_1 ha2 hk3 ?_
  refine z_iload_n hX dX1_refusalOf_4 rfl 2 rfl ?_
  obtain ⟨a4, ha5, h⟩ := h
  obtain ⟨hk6, h⟩ := h
  obtain ⟨hc7, h⟩ := h
  refine y_iald (r := (mR M 324 a1)) hX dX1_refusalOf_5 ha5 hk6 hc7 ?_
  refine z_iconst (v := (2 : Int32)) hX dX1_refusalOf_6 (by decide) ?_
  obtain ⟨h1, h2⟩ := h
  refine z_icmp_ne (tgt := 13) hX dX1_refusalOf_7 (by decide) (fun hc => ?_) (fun hc => ?_)
  · have h := h1 hc
    refine z_aload_n (r := (some h0)) hX dX1_refusalOf_13 rfl 0 rfl ?_
    refine z_aload_n (r := p1) hX dX1_refusalOf_14 rfl 1 rfl ?_
    refine z_iload_n hX dX1_refusalOf_15 rfl 2 rfl ?_
    obtain ⟨hk10, h⟩ := h
    refine z_callVI (As := [va_rf p1, .int p2]) (rest := []) (ci := 1) hX (ct_X1_isStopped h) mw_RX1_80 rfl (by decide) rfl (by rfl) (by unfold RoomC; decide) (by decide) dX1_refusalOf_16 hk10 (fun r8 M9 h => ?_)
    obtain ⟨h1, h2⟩ := h
    refine z_if_eq (tgt := 27) hX dX1_refusalOf_19 (by decide) (fun hc => ?_) (fun hc => ?_)
    · have h := h1 hc
      refine z_iconst (v := (0 : Int32)) hX dX1_refusalOf_27 (by decide) ?_
      refine z_loc [] rfl ?_
      exact zb_X1_refusalOf_28 hX hQ hnL h
    · have h := h2 hc
      refine z_bipush (v := (-3 : Int32)) hX dX1_refusalOf_22 (by decide) ?_
      refine z_goto (tgt := 28) hX dX1_refusalOf_24 (by decide) ?_
      refine z_loc [] rfl ?_
      exact zb_X1_refusalOf_28 hX hQ hnL h
  · have h := h2 hc
    refine z_bipush (v := (-2 : Int32)) hX dX1_refusalOf_10 (by decide) ?_
    exact z_iret hX hQ dX1_refusalOf_12 h
def rm_X1_countIdleParts : Room := { frames := 1, cells := 0, slots := 0, locals := 23 }
def bk_X1_countIdleParts_40 (h0 : Nat) (R4 : Int32 → Int32 → Mm → Prop) (K : Int32 → Mm → Prop) (l1 : Int32) (l2 : Int32) (M : Mm) : Prop := (R4 l1 (l2 + 1) M)
set_option maxRecDepth 100000 in
set_option maxHeartbeats 4000000 in
theorem zb_X1_countIdleParts_40 {X : Cx} {h0 : Nat} {R4 : Int32 → Int32 → Mm → Prop} {K : Int32 → Mm → Prop} (hX : Ok X cX1_countIdleParts RX1 rm_X1_countIdleParts) (hQ : Rq X rm_X1_countIdleParts (some .int) (QI K)) (hnL : X.2.2.2.2.2.2.2.2.2.2.2.2.2.2 = 3) (hR4 : ∀ l1 l2 M, R4 l1 l2 M → Z X M 0 0 4 [(0, va_rf (some h0)), (1, .int l1), (2, .int l2)] []) {l1 : Int32} {l2 : Int32} {M : Mm} (h : bk_X1_countIdleParts_40 h0 R4 K l1 l2 M) : Z X M 0 0 40 [(0, va_rf (some h0)), (1, .int l1), (2, .int l2)] [] := by
  unfold bk_X1_countIdleParts_40 at h
  refine z_iinc (v := (l2 + 1)) hX [(2, .int (l2 + 1)), (0, va_rf (some h0)), (1, .int l1)] dX1_countIdleParts_40 2 rfl rfl (by rw [hnL]; decide) rfl ?_
  refine z_goto (tgt := 4) hX dX1_countIdleParts_43 (by decide) ?_
  refine z_loc [1, 2, 0] rfl ?_
  exact hR4 _ _ _ h
def lp_X1_countIdleParts_4 (h0 : Nat) (K : Int32 → Mm → Prop) : Nat → Int32 → Int32 → Mm → Prop
  | 0, _, _, _ => False
  | n + 1, l1, l2, M => mK M h0 = 2 ∧ (((mI M 69 h0) ≤ l2 → (K l1 M)) ∧ (¬ (mI M 69 h0) ≤ l2 → ∃ a2, (mR M 66 h0) = some a2 ∧ isA M a2 4 ∧ vp_in l2 (aN M a2) ∧ ∃ a6, (aR M a2 (l2).toNatClampNeg) = some a6 ∧ mK M a6 = 7 ∧ (((mR M 393 a6) = none → (bk_X1_countIdleParts_40 h0 (lp_X1_countIdleParts_4 h0 K n) K l1 l2 M)) ∧ (∀ a9, (mR M 393 a6) = some a9 → vp_in l2 (aN M a2) ∧ mK M a9 = 6 ∧ (wp_X5_countIn M a9 (1 : Int32) (fun r12 M13 => (bk_X1_countIdleParts_40 h0 (lp_X1_countIdleParts_4 h0 K n) K (l1 + r12) l2 M13)))))))
set_option maxRecDepth 100000 in
set_option maxHeartbeats 4000000 in
theorem zl_X1_countIdleParts_4 {X : Cx} {h0 : Nat} {K : Int32 → Mm → Prop} (hX : Ok X cX1_countIdleParts RX1 rm_X1_countIdleParts) (hQ : Rq X rm_X1_countIdleParts (some .int) (QI K)) (hnL : X.2.2.2.2.2.2.2.2.2.2.2.2.2.2 = 3) : ∀ (n : Nat) (l1 : Int32) (l2 : Int32) (M : Mm), lp_X1_countIdleParts_4 h0 K n l1 l2 M → Z X M 0 0 4 [(0, va_rf (some h0)), (1, .int l1), (2, .int l2)] [] := by
  intro n
  induction n with
  | zero =>
    intro l1 l2 M h
    exact False.elim h
  | succ n hR4 =>
    intro l1 l2 M h
    refine z_iload_n hX dX1_countIdleParts_4 rfl 2 rfl ?_
    refine z_aload_n (r := (some h0)) hX dX1_countIdleParts_5 rfl 0 rfl ?_
    obtain ⟨hk1, h⟩ := h
    refine gf_RX1_37 (r := (some h0)) hX dX1_countIdleParts_6 rfl hk1 ?_
    obtain ⟨h1, h2⟩ := h
    refine z_icmp_ge (tgt := 46) hX dX1_countIdleParts_9 (by decide) (fun hc => ?_) (fun hc => ?_)
    · have h := h1 hc
      refine z_iload_n hX dX1_countIdleParts_46 rfl 1 rfl ?_
      exact z_iret hX hQ dX1_countIdleParts_47 h
    · have h := h2 hc
      refine z_aload_n (r := (some h0)) hX dX1_countIdleParts_12 rfl 0 rfl ?_
      refine gf_RX1_20 (r := (some h0)) hX dX1_countIdleParts_13 rfl hk1 ?_
      refine z_iload_n hX dX1_countIdleParts_16 rfl 2 rfl ?_
      obtain ⟨a2, ha3, h⟩ := h
      obtain ⟨hk4, h⟩ := h
      obtain ⟨hc5, h⟩ := h
      refine y_aldq (r := (mR M 66 h0)) hX dX1_countIdleParts_17 ha3 hk4 hc5 ?_
      obtain ⟨a6, ha7, h⟩ := h
      obtain ⟨hk8, h⟩ := h
      refine gf_RX1_60 (r := (aR M a2 (l2).toNatClampNeg)) hX dX1_countIdleParts_18 ha7 hk8 ?_
      obtain ⟨h1, h2⟩ := h
      refine z_ifnull (r := (mR M 393 a6)) (tgt := 40) hX dX1_countIdleParts_21 (by decide) (fun hc => ?_) (fun a9 ha10 => ?_)
      · have h := h1 hc
        exact zb_X1_countIdleParts_40 hX hQ hnL hR4 h
      · have h := h2 a9 ha10
        refine z_iload_n hX dX1_countIdleParts_24 rfl 1 rfl ?_
        refine z_aload_n (r := (some h0)) hX dX1_countIdleParts_25 rfl 0 rfl ?_
        refine gf_RX1_20 (r := (some h0)) hX dX1_countIdleParts_26 rfl hk1 ?_
        refine z_iload_n hX dX1_countIdleParts_29 rfl 2 rfl ?_
        obtain ⟨hc11, h⟩ := h
        refine y_aldq (r := (mR M 66 h0)) hX dX1_countIdleParts_30 ha3 hk4 hc11 ?_
        refine gf_RX1_60 (r := (aR M a2 (l2).toNatClampNeg)) hX dX1_countIdleParts_31 ha7 hk8 ?_
        refine z_iconst (v := (1 : Int32)) hX dX1_countIdleParts_34 (by decide) ?_
        obtain ⟨hk14, h⟩ := h
        refine z_callVI (As := [.int (1 : Int32)]) (rest := [.int l1]) (ci := 5) hX (ct_X5_countIn h) mw_RX1_84 rfl (by decide) rfl (by rw [ha10]; rfl) (by unfold RoomC; decide) (by simp only [List.map_cons, List.map_nil, List.sum_cons, List.sum_nil, cat_rf, cat_i, cat_j]; decide) dX1_countIdleParts_35 hk14 (fun r12 M13 h => ?_)
        refine z_iadd hX dX1_countIdleParts_38 ?_
        refine z_istore_n hX [(1, .int (l1 + r12)), (0, va_rf (some h0)), (2, .int l2)] dX1_countIdleParts_39 rfl (by rw [hnL]; decide) rfl ?_
        refine z_loc [1, 0, 2] rfl ?_
        exact zb_X1_countIdleParts_40 hX hQ hnL hR4 h
def wp_X1_countIdleParts (M : Mm) (h0 : Nat) (K : Int32 → Mm → Prop) : Prop := (∃ kk, lp_X1_countIdleParts_4 h0 K kk (0 : Int32) (0 : Int32) M)
set_option maxRecDepth 100000 in
set_option maxHeartbeats 4000000 in
theorem ct_X1_countIdleParts {M : Mm} {h0 : Nat} {K : Int32 → Mm → Prop} (h : wp_X1_countIdleParts M h0 K) : CtI yX1_countIdleParts cX1_countIdleParts 3 (some .int) rm_X1_countIdleParts [.ref h0] M K := by
  refine ct_any (QI K) (by decide) (by exact Nat.le_of_ble_eq_true rfl) (fun X hX hQ hnL hnm => ?_)
  rw [show lv_args 0 [.ref h0] = [(0, va_rf (some h0))] by rfl]
  have hX : Ok X cX1_countIdleParts RX1 rm_X1_countIdleParts := hX
  unfold wp_X1_countIdleParts at h
  refine z_iconst (v := (0 : Int32)) hX dX1_countIdleParts_0 (by decide) ?_
  refine z_istore_n hX [(1, .int (0 : Int32)), (0, va_rf (some h0))] dX1_countIdleParts_1 rfl (by rw [hnL]; decide) rfl ?_
  refine z_iconst (v := (0 : Int32)) hX dX1_countIdleParts_2 (by decide) ?_
  refine z_istore_n hX [(2, .int (0 : Int32)), (1, .int (0 : Int32)), (0, va_rf (some h0))] dX1_countIdleParts_3 rfl (by rw [hnL]; decide) rfl ?_
  refine z_loc [2, 1, 0] rfl ?_
  obtain ⟨n, h⟩ := h
  exact zl_X1_countIdleParts_4 hX hQ hnL n _ _ _ h
def rm_X1_countStoppedParts : Room := { frames := 3, cells := 0, slots := 0, locals := 72 }
def bk_X1_countStoppedParts_57 (h0 : Nat) (R4 : Int32 → Int32 → Mm → Prop) (K : Int32 → Mm → Prop) (l1 : Int32) (l2 : Int32) (M : Mm) : Prop := (R4 l1 (l2 + 1) M)
set_option maxRecDepth 100000 in
set_option maxHeartbeats 4000000 in
theorem zb_X1_countStoppedParts_57 {X : Cx} {h0 : Nat} {R4 : Int32 → Int32 → Mm → Prop} {K : Int32 → Mm → Prop} (hX : Ok X cX1_countStoppedParts RX1 rm_X1_countStoppedParts) (hQ : Rq X rm_X1_countStoppedParts (some .int) (QI K)) (hnL : X.2.2.2.2.2.2.2.2.2.2.2.2.2.2 = 5) (hR4 : ∀ l1 l2 M, R4 l1 l2 M → Z X M 0 0 4 [(0, va_rf (some h0)), (1, .int l1), (2, .int l2)] []) {l1 : Int32} {l2 : Int32} {M : Mm} (h : bk_X1_countStoppedParts_57 h0 R4 K l1 l2 M) : Z X M 0 0 57 [(0, va_rf (some h0)), (1, .int l1), (2, .int l2)] [] := by
  unfold bk_X1_countStoppedParts_57 at h
  refine z_iinc (v := (l2 + 1)) hX [(2, .int (l2 + 1)), (0, va_rf (some h0)), (1, .int l1)] dX1_countStoppedParts_57 2 rfl rfl (by rw [hnL]; decide) rfl ?_
  refine z_goto (tgt := 4) hX dX1_countStoppedParts_60 (by decide) ?_
  refine z_loc [1, 2, 0] rfl ?_
  exact hR4 _ _ _ h
def bk_X1_countStoppedParts_51 (h0 : Nat) (R4 : Int32 → Int32 → Mm → Prop) (R25 : Int32 → Int32 → Option Nat → Int32 → Mm → Prop) (K : Int32 → Mm → Prop) (l1 : Int32) (l2 : Int32) (l3 : Option Nat) (l4 : Int32) (M : Mm) : Prop := (R25 l1 l2 l3 (l4 + 1) M)
set_option maxRecDepth 100000 in
set_option maxHeartbeats 4000000 in
theorem zb_X1_countStoppedParts_51 {X : Cx} {h0 : Nat} {R4 : Int32 → Int32 → Mm → Prop} {R25 : Int32 → Int32 → Option Nat → Int32 → Mm → Prop} {K : Int32 → Mm → Prop} (hX : Ok X cX1_countStoppedParts RX1 rm_X1_countStoppedParts) (hQ : Rq X rm_X1_countStoppedParts (some .int) (QI K)) (hnL : X.2.2.2.2.2.2.2.2.2.2.2.2.2.2 = 5) (hR4 : ∀ l1 l2 M, R4 l1 l2 M → Z X M 0 0 4 [(0, va_rf (some h0)), (1, .int l1), (2, .int l2)] []) (hR25 : ∀ l1 l2 l3 l4 M, R25 l1 l2 l3 l4 M → Z X M 0 0 25 [(0, va_rf (some h0)), (1, .int l1), (2, .int l2), (3, va_rf l3), (4, .int l4)] []) {l1 : Int32} {l2 : Int32} {l3 : Option Nat} {l4 : Int32} {M : Mm} (h : bk_X1_countStoppedParts_51 h0 R4 R25 K l1 l2 l3 l4 M) : Z X M 0 0 51 [(0, va_rf (some h0)), (1, .int l1), (2, .int l2), (3, va_rf l3), (4, .int l4)] [] := by
  unfold bk_X1_countStoppedParts_51 at h
  refine z_iinc (v := (l4 + 1)) hX [(4, .int (l4 + 1)), (0, va_rf (some h0)), (1, .int l1), (2, .int l2), (3, va_rf l3)] dX1_countStoppedParts_51 4 rfl rfl (by rw [hnL]; decide) (by simp [cat_rf]) ?_
  refine z_goto (tgt := 25) hX dX1_countStoppedParts_54 (by decide) ?_
  refine z_loc [1, 2, 3, 4, 0] rfl ?_
  exact hR25 _ _ _ _ _ h
def lp_X1_countStoppedParts_25 (h0 : Nat) (R4 : Int32 → Int32 → Mm → Prop) (K : Int32 → Mm → Prop) : Nat → Int32 → Int32 → Option Nat → Int32 → Mm → Prop
  | 0, _, _, _, _, _ => False
  | n + 1, l1, l2, l3, l4, M => ((l3 = none → (bk_X1_countStoppedParts_57 h0 R4 K l1 l2 M)) ∧ (∀ a1, l3 = some a1 → mK M a1 = 6 ∧ (((mI M 320 a1) ≤ l4 → (bk_X1_countStoppedParts_57 h0 R4 K l1 l2 M)) ∧ (¬ (mI M 320 a1) ≤ l4 → mK M h0 = 2 ∧ (wp_X1_isStopped M h0 l3 l4 (fun r4 M5 => ((r4 = 0 → (bk_X1_countStoppedParts_51 h0 R4 (lp_X1_countStoppedParts_25 h0 R4 K n) K l1 l2 l3 l4 M5)) ∧ (¬ r4 = 0 → (bk_X1_countStoppedParts_51 h0 R4 (lp_X1_countStoppedParts_25 h0 R4 K n) K (l1 + 1) l2 l3 l4 M5)))))))))
set_option maxRecDepth 100000 in
set_option maxHeartbeats 4000000 in
theorem zl_X1_countStoppedParts_25 {X : Cx} {h0 : Nat} {R4 : Int32 → Int32 → Mm → Prop} {K : Int32 → Mm → Prop} (hX : Ok X cX1_countStoppedParts RX1 rm_X1_countStoppedParts) (hQ : Rq X rm_X1_countStoppedParts (some .int) (QI K)) (hnL : X.2.2.2.2.2.2.2.2.2.2.2.2.2.2 = 5) (hR4 : ∀ l1 l2 M, R4 l1 l2 M → Z X M 0 0 4 [(0, va_rf (some h0)), (1, .int l1), (2, .int l2)] []) : ∀ (n : Nat) (l1 : Int32) (l2 : Int32) (l3 : Option Nat) (l4 : Int32) (M : Mm), lp_X1_countStoppedParts_25 h0 R4 K n l1 l2 l3 l4 M → Z X M 0 0 25 [(0, va_rf (some h0)), (1, .int l1), (2, .int l2), (3, va_rf l3), (4, .int l4)] [] := by
  intro n
  induction n with
  | zero =>
    intro l1 l2 l3 l4 M h
    exact False.elim h
  | succ n hR25 =>
    intro l1 l2 l3 l4 M h
    refine z_aload_n (r := l3) hX dX1_countStoppedParts_25 rfl 3 rfl ?_
    obtain ⟨h1, h2⟩ := h
    refine z_ifnull (r := l3) (tgt := 57) hX dX1_countStoppedParts_26 (by decide) (fun hc => ?_) (fun a1 ha2 => ?_)
    · have h := h1 hc
      refine z_loc [0, 1, 2] rfl ?_
      exact zb_X1_countStoppedParts_57 hX hQ hnL hR4 h
    · have h := h2 a1 ha2
      refine z_iload hX dX1_countStoppedParts_29 4 rfl ?_
      refine z_aload_n (r := l3) hX dX1_countStoppedParts_31 rfl 3 rfl ?_
      obtain ⟨hk3, h⟩ := h
      refine gf_RX1_88 (r := l3) hX dX1_countStoppedParts_32 ha2 hk3 ?_
      obtain ⟨h1, h2⟩ := h
      refine z_icmp_ge (tgt := 57) hX dX1_countStoppedParts_35 (by decide) (fun hc => ?_) (fun hc => ?_)
      · have h := h1 hc
        refine z_loc [0, 1, 2] rfl ?_
        exact zb_X1_countStoppedParts_57 hX hQ hnL hR4 h
      · have h := h2 hc
        refine z_aload_n (r := (some h0)) hX dX1_countStoppedParts_38 rfl 0 rfl ?_
        refine z_aload_n (r := l3) hX dX1_countStoppedParts_39 rfl 3 rfl ?_
        refine z_iload hX dX1_countStoppedParts_40 4 rfl ?_
        obtain ⟨hk6, h⟩ := h
        refine z_callVI (As := [va_rf l3, .int l4]) (rest := []) (ci := 1) hX (ct_X1_isStopped h) mw_RX1_80 rfl (by decide) rfl (by rfl) (by unfold RoomC; decide) (by decide) dX1_countStoppedParts_42 hk6 (fun r4 M5 h => ?_)
        obtain ⟨h1, h2⟩ := h
        refine z_if_eq (tgt := 51) hX dX1_countStoppedParts_45 (by decide) (fun hc => ?_) (fun hc => ?_)
        · have h := h1 hc
          exact zb_X1_countStoppedParts_51 hX hQ hnL hR4 hR25 h
        · have h := h2 hc
          refine z_iinc (v := (l1 + 1)) hX [(1, .int (l1 + 1)), (0, va_rf (some h0)), (2, .int l2), (3, va_rf l3), (4, .int l4)] dX1_countStoppedParts_48 1 rfl rfl (by rw [hnL]; decide) rfl ?_
          refine z_loc [1, 0, 2, 3, 4] rfl ?_
          exact zb_X1_countStoppedParts_51 hX hQ hnL hR4 hR25 h
def lp_X1_countStoppedParts_4 (h0 : Nat) (K : Int32 → Mm → Prop) : Nat → Int32 → Int32 → Mm → Prop
  | 0, _, _, _ => False
  | n + 1, l1, l2, M => mK M h0 = 2 ∧ (((mI M 69 h0) ≤ l2 → (K l1 M)) ∧ (¬ (mI M 69 h0) ≤ l2 → ∃ a9, (mR M 66 h0) = some a9 ∧ isA M a9 4 ∧ vp_in l2 (aN M a9) ∧ ∃ a13, (aR M a9 (l2).toNatClampNeg) = some a13 ∧ mK M a13 = 7 ∧ (∃ kk, lp_X1_countStoppedParts_25 h0 (lp_X1_countStoppedParts_4 h0 K n) K kk l1 l2 (mR M 393 a13) (0 : Int32) M)))
set_option maxRecDepth 100000 in
set_option maxHeartbeats 4000000 in
theorem zl_X1_countStoppedParts_4 {X : Cx} {h0 : Nat} {K : Int32 → Mm → Prop} (hX : Ok X cX1_countStoppedParts RX1 rm_X1_countStoppedParts) (hQ : Rq X rm_X1_countStoppedParts (some .int) (QI K)) (hnL : X.2.2.2.2.2.2.2.2.2.2.2.2.2.2 = 5) : ∀ (n : Nat) (l1 : Int32) (l2 : Int32) (M : Mm), lp_X1_countStoppedParts_4 h0 K n l1 l2 M → Z X M 0 0 4 [(0, va_rf (some h0)), (1, .int l1), (2, .int l2)] [] := by
  intro n
  induction n with
  | zero =>
    intro l1 l2 M h
    exact False.elim h
  | succ n hR4 =>
    intro l1 l2 M h
    refine z_iload_n hX dX1_countStoppedParts_4 rfl 2 rfl ?_
    refine z_aload_n (r := (some h0)) hX dX1_countStoppedParts_5 rfl 0 rfl ?_
    obtain ⟨hk8, h⟩ := h
    refine gf_RX1_37 (r := (some h0)) hX dX1_countStoppedParts_6 rfl hk8 ?_
    obtain ⟨h1, h2⟩ := h
    refine z_icmp_ge (tgt := 63) hX dX1_countStoppedParts_9 (by decide) (fun hc => ?_) (fun hc => ?_)
    · have h := h1 hc
      refine z_iload_n hX dX1_countStoppedParts_63 rfl 1 rfl ?_
      exact z_iret hX hQ dX1_countStoppedParts_64 h
    · have h := h2 hc
      refine z_aload_n (r := (some h0)) hX dX1_countStoppedParts_12 rfl 0 rfl ?_
      refine gf_RX1_20 (r := (some h0)) hX dX1_countStoppedParts_13 rfl hk8 ?_
      refine z_iload_n hX dX1_countStoppedParts_16 rfl 2 rfl ?_
      obtain ⟨a9, ha10, h⟩ := h
      obtain ⟨hk11, h⟩ := h
      obtain ⟨hc12, h⟩ := h
      refine y_aldq (r := (mR M 66 h0)) hX dX1_countStoppedParts_17 ha10 hk11 hc12 ?_
      obtain ⟨a13, ha14, h⟩ := h
      obtain ⟨hk15, h⟩ := h
      refine gf_RX1_60 (r := (aR M a9 (l2).toNatClampNeg)) hX dX1_countStoppedParts_18 ha14 hk15 ?_
      refine z_astore_n (r := (mR M 393 a13)) hX [(3, va_rf (mR M 393 a13)), (0, va_rf (some h0)), (1, .int l1), (2, .int l2)] dX1_countStoppedParts_21 rfl (by rw [hnL]; decide) rfl ?_
      refine z_iconst (v := (0 : Int32)) hX dX1_countStoppedParts_22 (by decide) ?_
      refine z_istore (i := 4) hX [(4, .int (0 : Int32)), (3, va_rf (mR M 393 a13)), (0, va_rf (some h0)), (1, .int l1), (2, .int l2)] dX1_countStoppedParts_23 (by rw [hnL]; decide) (by simp [cat_rf]) ?_
      refine z_loc [2, 3, 4, 1, 0] rfl ?_
      obtain ⟨n, h⟩ := h
      exact zl_X1_countStoppedParts_25 hX hQ hnL hR4 n _ _ _ _ _ h
def wp_X1_countStoppedParts (M : Mm) (h0 : Nat) (K : Int32 → Mm → Prop) : Prop := (∃ kk, lp_X1_countStoppedParts_4 h0 K kk (0 : Int32) (0 : Int32) M)
set_option maxRecDepth 100000 in
set_option maxHeartbeats 4000000 in
theorem ct_X1_countStoppedParts {M : Mm} {h0 : Nat} {K : Int32 → Mm → Prop} (h : wp_X1_countStoppedParts M h0 K) : CtI yX1_countStoppedParts cX1_countStoppedParts 5 (some .int) rm_X1_countStoppedParts [.ref h0] M K := by
  refine ct_any (QI K) (by decide) (by exact Nat.le_of_ble_eq_true rfl) (fun X hX hQ hnL hnm => ?_)
  rw [show lv_args 0 [.ref h0] = [(0, va_rf (some h0))] by rfl]
  have hX : Ok X cX1_countStoppedParts RX1 rm_X1_countStoppedParts := hX
  unfold wp_X1_countStoppedParts at h
  refine z_iconst (v := (0 : Int32)) hX dX1_countStoppedParts_0 (by decide) ?_
  refine z_istore_n hX [(1, .int (0 : Int32)), (0, va_rf (some h0))] dX1_countStoppedParts_1 rfl (by rw [hnL]; decide) rfl ?_
  refine z_iconst (v := (0 : Int32)) hX dX1_countStoppedParts_2 (by decide) ?_
  refine z_istore_n hX [(2, .int (0 : Int32)), (1, .int (0 : Int32)), (0, va_rf (some h0))] dX1_countStoppedParts_3 rfl (by rw [hnL]; decide) rfl ?_
  refine z_loc [2, 1, 0] rfl ?_
  obtain ⟨n, h⟩ := h
  exact zl_X1_countStoppedParts_4 hX hQ hnL n _ _ _ h
def rm_X1_goalOf : Room := { frames := 3, cells := 0, slots := 0, locals := 66 }
def bk_X1_goalOf_37 (h0 : Nat) (K : Int64 → Mm → Prop) (l1 : Option Nat) (M : Mm) : Prop := ∃ a3, l1 = some a3 ∧ mK M a3 = 7 ∧ (wp_X6_leastOfInputs M a3 (fun r1 M2 => (K r1 M2)))
set_option maxRecDepth 100000 in
set_option maxHeartbeats 4000000 in
theorem zb_X1_goalOf_37 {X : Cx} {h0 : Nat} {K : Int64 → Mm → Prop} (hX : Ok X cX1_goalOf RX1 rm_X1_goalOf) (hQ : Rq X rm_X1_goalOf (some .long) (QJ K)) (hnL : X.2.2.2.2.2.2.2.2.2.2.2.2.2.2 = 5) {l1 : Option Nat} {M : Mm} (h : bk_X1_goalOf_37 h0 K l1 M) : Z X M 0 0 37 [(1, va_rf l1)] [] := by
  unfold bk_X1_goalOf_37 at h
  refine z_aload_n (r := l1) hX dX1_goalOf_37 rfl 0 rfl ?_
  obtain ⟨a3, ha4, h⟩ := h
  obtain ⟨hk5, h⟩ := h
  refine z_callVJ (As := []) (rest := []) (ci := 6) hX (ct_X6_leastOfInputs h) mw_RX1_219 rfl (by decide) rfl (by rw [ha4]; rfl) (by unfold RoomC; decide) (by decide) dX1_goalOf_38 hk5 (fun r1 M2 h => ?_)
  exact z_lret hX hQ dX1_goalOf_41 h
def bk_X1_goalOf_135 (h0 : Nat) (K : Int64 → Mm → Prop) (s0 : Int64) (M : Mm) : Prop := (K s0 M)
set_option maxRecDepth 100000 in
set_option maxHeartbeats 4000000 in
theorem zb_X1_goalOf_135 {X : Cx} {h0 : Nat} {K : Int64 → Mm → Prop} (hX : Ok X cX1_goalOf RX1 rm_X1_goalOf) (hQ : Rq X rm_X1_goalOf (some .long) (QJ K)) (hnL : X.2.2.2.2.2.2.2.2.2.2.2.2.2.2 = 5) {s0 : Int64} {M : Mm} (h : bk_X1_goalOf_135 h0 K s0 M) : Z X M 0 0 135 [] [.long s0] := by
  unfold bk_X1_goalOf_135 at h
  exact z_lret hX hQ dX1_goalOf_135 h
def bk_X1_goalOf_111 (h0 : Nat) (K : Int64 → Mm → Prop) (l1 : Option Nat) (l2 : Option Nat) (M : Mm) : Prop := ∃ a7, l2 = some a7 ∧ mK M a7 = 7 ∧ (((mI M 391 a7) = 0 → ∃ a10, l1 = some a10 ∧ mK M a10 = 7 ∧ (wp_X10_together M (mJ M 390 a7) (mJ M 392 a10) (fun r13 M14 => (bk_X1_goalOf_135 h0 K r13 M14)))) ∧ (¬ (mI M 391 a7) = 0 → (bk_X1_goalOf_135 h0 K (-9000000000000000001 : Int64) M)))
set_option maxRecDepth 100000 in
set_option maxHeartbeats 4000000 in
theorem zb_X1_goalOf_111 {X : Cx} {h0 : Nat} {K : Int64 → Mm → Prop} (hX : Ok X cX1_goalOf RX1 rm_X1_goalOf) (hQ : Rq X rm_X1_goalOf (some .long) (QJ K)) (hnL : X.2.2.2.2.2.2.2.2.2.2.2.2.2.2 = 5) {l1 : Option Nat} {l2 : Option Nat} {M : Mm} (h : bk_X1_goalOf_111 h0 K l1 l2 M) : Z X M 0 0 111 [(1, va_rf l1), (2, va_rf l2)] [] := by
  unfold bk_X1_goalOf_111 at h
  refine z_aload_n (r := l2) hX dX1_goalOf_111 rfl 1 rfl ?_
  obtain ⟨a7, ha8, h⟩ := h
  obtain ⟨hk9, h⟩ := h
  refine gf_RX1_198 (r := l2) hX dX1_goalOf_112 ha8 hk9 ?_
  obtain ⟨h1, h2⟩ := h
  refine z_if_eq (tgt := 124) hX dX1_goalOf_115 (by decide) (fun hc => ?_) (fun hc => ?_)
  · have h := h1 hc
    refine z_aload_n (r := l2) hX dX1_goalOf_124 rfl 1 rfl ?_
    refine gf_RX1_98 (r := l2) hX dX1_goalOf_125 ha8 hk9 ?_
    refine z_aload_n (r := l1) hX dX1_goalOf_128 rfl 0 rfl ?_
    obtain ⟨a10, ha11, h⟩ := h
    obtain ⟨hk12, h⟩ := h
    refine gf_RX1_139 (r := l1) hX dX1_goalOf_129 ha11 hk12 ?_
    refine z_callNJ (As := [.long (mJ M 390 a7), .long (mJ M 392 a10)]) (rest := []) hX (ct_X10_together h) mw_RX1_77 rfl (by rfl) (by unfold RoomC; decide) (by decide) dX1_goalOf_132 (fun r13 M14 h => ?_)
    refine z_loc [] rfl ?_
    exact zb_X1_goalOf_135 hX hQ hnL h
  · have h := h2 hc
    refine z_ldc2 (v := (-9000000000000000001 : Int64)) hX dX1_goalOf_118 kj_RX1_196 ?_
    refine z_goto (tgt := 135) hX dX1_goalOf_121 (by decide) ?_
    refine z_loc [] rfl ?_
    exact zb_X1_goalOf_135 hX hQ hnL h
def bk_X1_goalOf_92 (h0 : Nat) (K : Int64 → Mm → Prop) (l1 : Option Nat) (s0 : Int64) (M : Mm) : Prop := mK M h0 = 2 ∧ ∃ a17, l1 = some a17 ∧ mK M a17 = 7 ∧ ∃ a22, (mR M 68 h0) = some a22 ∧ mK M a22 = 9 ∧ (wp_X8_leastIn M a22 (mI M 384 a17) (fun r20 M21 => (K (if (r20 - (1 : Int64)) < s0 then (r20 - (1 : Int64)) else s0) M21)))
set_option maxRecDepth 100000 in
set_option maxHeartbeats 4000000 in
theorem zb_X1_goalOf_92 {X : Cx} {h0 : Nat} {K : Int64 → Mm → Prop} (hX : Ok X cX1_goalOf RX1 rm_X1_goalOf) (hQ : Rq X rm_X1_goalOf (some .long) (QJ K)) (hnL : X.2.2.2.2.2.2.2.2.2.2.2.2.2.2 = 5) {l1 : Option Nat} {s0 : Int64} {M : Mm} (h : bk_X1_goalOf_92 h0 K l1 s0 M) : Z X M 0 0 92 [(0, va_rf (some h0)), (1, va_rf l1)] [.long s0] := by
  unfold bk_X1_goalOf_92 at h
  refine z_lstore_n hX [(3, .long s0), (0, va_rf (some h0)), (1, va_rf l1)] dX1_goalOf_92 rfl (by rw [hnL]; decide) rfl ?_
  refine z_lload_n hX dX1_goalOf_93 rfl 0 rfl ?_
  refine z_aload_n (r := (some h0)) hX dX1_goalOf_94 rfl 1 rfl ?_
  obtain ⟨hk16, h⟩ := h
  refine gf_RX1_33 (r := (some h0)) hX dX1_goalOf_95 rfl hk16 ?_
  refine z_aload_n (r := l1) hX dX1_goalOf_98 rfl 2 rfl ?_
  obtain ⟨a17, ha18, h⟩ := h
  obtain ⟨hk19, h⟩ := h
  refine gf_RX1_101 (r := l1) hX dX1_goalOf_99 ha18 hk19 ?_
  obtain ⟨a22, ha23, h⟩ := h
  obtain ⟨hk24, h⟩ := h
  refine z_callVJ (As := [.int (mI M 384 a17)]) (rest := [.long s0]) (ci := 8) hX (ct_X8_leastIn h) mw_RX1_225 rfl (by decide) rfl (by rw [ha23]; rfl) (by unfold RoomC; decide) (by simp only [List.map_cons, List.map_nil, List.sum_cons, List.sum_nil, cat_rf, cat_i, cat_j]; decide) dX1_goalOf_102 hk24 (fun r20 M21 h => ?_)
  refine z_lconst (v := (1 : Int64)) hX dX1_goalOf_105 (by decide) ?_
  refine z_lsub hX dX1_goalOf_106 ?_
  refine mw_RX1_68 hX dX1_goalOf_107 (by decide) (by decide) (by decide) (by decide) ?_
  exact z_lret hX hQ dX1_goalOf_110 h
def wp_X1_goalOf (M : Mm) (h0 : Nat) (p1 : Option Nat) (K : Int64 → Mm → Prop) : Prop := ∃ a26, p1 = some a26 ∧ mK M a26 = 7 ∧ (((mR M 393 a26) = none → (((mJ M 386 a26) = (504363577198 : Int64) → (bk_X1_goalOf_37 h0 K p1 M)) ∧ (¬ (mJ M 386 a26) = (504363577198 : Int64) → ((¬ (mJ M 386 a26) = (1785686382 : Int64) → ∃ a31, (mR M 387 a26) = some a31 ∧ isA M a31 4 ∧ vp_in (0 : Int32) (aN M a31) ∧ ((¬ (mJ M 386 a26) = (1752132708 : Int64) → (bk_X1_goalOf_111 h0 K p1 (aR M a31 ((0 : Int32)).toNatClampNeg) M)) ∧ ((mJ M 386 a26) = (1752132708 : Int64) → mK M h0 = 2 ∧ ∃ a38, (mR M 68 h0) = some a38 ∧ mK M a38 = 9 ∧ (wp_X8_countIn M a38 (mI M 384 a26) (fun r36 M37 => ((r36 ≤ 0 → (bk_X1_goalOf_111 h0 K p1 (aR M a31 ((0 : Int32)).toNatClampNeg) M37)) ∧ (¬ r36 ≤ 0 → ∃ a42, (aR M a31 ((0 : Int32)).toNatClampNeg) = some a42 ∧ mK M37 a42 = 7 ∧ (((mI M37 391 a42) = 0 → (bk_X1_goalOf_92 h0 K p1 (mJ M37 390 a42) M37)) ∧ (¬ (mI M37 391 a42) = 0 → mK M37 a26 = 7 ∧ (bk_X1_goalOf_92 h0 K p1 (mJ M37 390 a26) M37)))))))))) ∧ ((mJ M 386 a26) = (1785686382 : Int64) → (bk_X1_goalOf_37 h0 K p1 M)))))) ∧ (∀ a29, (mR M 393 a26) = some a29 → mK M a29 = 6 ∧ (wp_X5_goal M a29 (fun r46 M47 => (K r46 M47)))))
set_option maxRecDepth 100000 in
set_option maxHeartbeats 4000000 in
theorem ct_X1_goalOf {M : Mm} {h0 : Nat} {p1 : Option Nat} {K : Int64 → Mm → Prop} (h : wp_X1_goalOf M h0 p1 K) : CtJ yX1_goalOf cX1_goalOf 5 (some .long) rm_X1_goalOf [.ref h0, va_rf p1] M K := by
  refine ct_any (QJ K) (by decide) (by cases p1 <;> exact Nat.le_of_ble_eq_true rfl) (fun X hX hQ hnL hnm => ?_)
  rw [show lv_args 0 [.ref h0, va_rf p1] = [(0, va_rf (some h0)), (1, va_rf p1)] by cases p1 <;> rfl]
  have hX : Ok X cX1_goalOf RX1 rm_X1_goalOf := hX
  unfold wp_X1_goalOf at h
  refine z_aload_n (r := p1) hX dX1_goalOf_0 rfl 1 rfl ?_
  obtain ⟨a26, ha27, h⟩ := h
  obtain ⟨hk28, h⟩ := h
  refine gf_RX1_60 (r := p1) hX dX1_goalOf_1 ha27 hk28 ?_
  obtain ⟨h1, h2⟩ := h
  refine z_ifnull (r := (mR M 393 a26)) (tgt := 15) hX dX1_goalOf_4 (by decide) (fun hc => ?_) (fun a29 ha30 => ?_)
  · have h := h1 hc
    refine z_aload_n (r := p1) hX dX1_goalOf_15 rfl 1 rfl ?_
    refine gf_RX1_212 (r := p1) hX dX1_goalOf_16 ha27 hk28 ?_
    refine z_ldc2 (v := (504363577198 : Int64)) hX dX1_goalOf_19 kj_RX1_215 ?_
    refine z_lcmp hX dX1_goalOf_22 ?_
    obtain ⟨h1, h2⟩ := h
    refine z_if_eq (tgt := 37) hX dX1_goalOf_23 (by decide) (fun hc => ?_) (fun hc => ?_)
    · have h := h1 ((lg_cmp_eq _ _).mp hc)
      refine z_loc [1] rfl ?_
      exact zb_X1_goalOf_37 hX hQ hnL h
    · have h := h2 (fun q => hc ((lg_cmp_eq _ _).mpr q))
      refine z_aload_n (r := p1) hX dX1_goalOf_26 rfl 1 rfl ?_
      refine gf_RX1_212 (r := p1) hX dX1_goalOf_27 ha27 hk28 ?_
      refine z_ldc2 (v := (1785686382 : Int64)) hX dX1_goalOf_30 kj_RX1_217 ?_
      refine z_lcmp hX dX1_goalOf_33 ?_
      obtain ⟨h1, h2⟩ := h
      refine z_if_ne (tgt := 42) hX dX1_goalOf_34 (by decide) (fun hc => ?_) (fun hc => ?_)
      · have h := h1 (fun q => hc ((lg_cmp_eq _ _).mpr q))
        refine z_aload_n (r := p1) hX dX1_goalOf_42 rfl 1 rfl ?_
        refine gf_RX1_159 (r := p1) hX dX1_goalOf_43 ha27 hk28 ?_
        refine z_iconst (v := (0 : Int32)) hX dX1_goalOf_46 (by decide) ?_
        obtain ⟨a31, ha32, h⟩ := h
        obtain ⟨hk33, h⟩ := h
        obtain ⟨hc34, h⟩ := h
        refine y_aldq (r := (mR M 387 a26)) hX dX1_goalOf_47 ha32 hk33 hc34 ?_
        refine z_astore_n (r := (aR M a31 ((0 : Int32)).toNatClampNeg)) (i := 2) hX [(2, va_rf (aR M a31 ((0 : Int32)).toNatClampNeg)), (0, va_rf (some h0)), (1, va_rf p1)] dX1_goalOf_48 rfl (by rw [hnL]; decide) (by simp [cat_rf]) ?_
        refine z_aload_n (r := p1) hX dX1_goalOf_49 rfl 2 rfl ?_
        refine gf_RX1_212 (r := p1) hX dX1_goalOf_50 ha27 hk28 ?_
        refine z_ldc2 (v := (1752132708 : Int64)) hX dX1_goalOf_53 kj_RX1_222 ?_
        refine z_lcmp hX dX1_goalOf_56 ?_
        obtain ⟨h1, h2⟩ := h
        refine z_if_ne (tgt := 111) hX dX1_goalOf_57 (by decide) (fun hc => ?_) (fun hc => ?_)
        · have h := h1 (fun q => hc ((lg_cmp_eq _ _).mpr q))
          refine z_loc [2, 0] rfl ?_
          exact zb_X1_goalOf_111 hX hQ hnL h
        · have h := h2 ((lg_cmp_eq _ _).mp hc)
          refine z_aload_n (r := (some h0)) hX dX1_goalOf_60 rfl 1 rfl ?_
          obtain ⟨hk35, h⟩ := h
          refine gf_RX1_33 (r := (some h0)) hX dX1_goalOf_61 rfl hk35 ?_
          refine z_aload_n (r := p1) hX dX1_goalOf_64 rfl 2 rfl ?_
          refine gf_RX1_101 (r := p1) hX dX1_goalOf_65 ha27 hk28 ?_
          obtain ⟨a38, ha39, h⟩ := h
          obtain ⟨hk40, h⟩ := h
          refine z_callVI (As := [.int (mI M 384 a26)]) (rest := []) (ci := 8) hX (ct_X8_countIn h) mw_RX1_224 rfl (by decide) rfl (by rw [ha39]; rfl) (by unfold RoomC; decide) (by decide) dX1_goalOf_68 hk40 (fun r36 M37 h => ?_)
          obtain ⟨h1, h2⟩ := h
          refine z_if_le (tgt := 111) hX dX1_goalOf_71 (by decide) (fun hc => ?_) (fun hc => ?_)
          · have h := h1 hc
            refine z_loc [2, 0] rfl ?_
            exact zb_X1_goalOf_111 hX hQ hnL h
          · have h := h2 hc
            refine z_aload_n (r := (aR M a31 ((0 : Int32)).toNatClampNeg)) hX dX1_goalOf_74 rfl 0 rfl ?_
            obtain ⟨a42, ha43, h⟩ := h
            obtain ⟨hk44, h⟩ := h
            refine gf_RX1_198 (r := (aR M a31 ((0 : Int32)).toNatClampNeg)) hX dX1_goalOf_75 ha43 hk44 ?_
            obtain ⟨h1, h2⟩ := h
            refine z_if_eq (tgt := 88) hX dX1_goalOf_78 (by decide) (fun hc => ?_) (fun hc => ?_)
            · have h := h1 hc
              refine z_aload_n (r := (aR M a31 ((0 : Int32)).toNatClampNeg)) hX dX1_goalOf_88 rfl 0 rfl ?_
              refine gf_RX1_98 (r := (aR M a31 ((0 : Int32)).toNatClampNeg)) hX dX1_goalOf_89 ha43 hk44 ?_
              refine z_loc [1, 2] rfl ?_
              exact zb_X1_goalOf_92 hX hQ hnL h
            · have h := h2 hc
              refine z_aload_n (r := p1) hX dX1_goalOf_81 rfl 2 rfl ?_
              obtain ⟨hk45, h⟩ := h
              refine gf_RX1_98 (r := p1) hX dX1_goalOf_82 ha27 hk45 ?_
              refine z_goto (tgt := 92) hX dX1_goalOf_85 (by decide) ?_
              refine z_loc [1, 2] rfl ?_
              exact zb_X1_goalOf_92 hX hQ hnL h
      · have h := h2 ((lg_cmp_eq _ _).mp hc)
        refine z_loc [1] rfl ?_
        exact zb_X1_goalOf_37 hX hQ hnL h
  · have h := h2 a29 ha30
    refine z_aload_n (r := p1) hX dX1_goalOf_7 rfl 1 rfl ?_
    refine gf_RX1_60 (r := p1) hX dX1_goalOf_8 ha27 hk28 ?_
    obtain ⟨hk48, h⟩ := h
    refine z_callVJ (As := []) (rest := []) (ci := 5) hX (ct_X5_goal h) mw_RX1_209 rfl (by decide) rfl (by rw [ha30]; rfl) (by unfold RoomC; decide) (by decide) dX1_goalOf_11 hk48 (fun r46 M47 h => ?_)
    exact z_lret hX hQ dX1_goalOf_14 h
def rm_X1_write : Room := { frames := 4, cells := 0, slots := 0, locals := 92 }
def lp_X1_write_2 (h0 : Nat) (K : Mm → Prop) : Nat → Option Nat → Int32 → Mm → Prop
  | 0, _, _, _ => False
  | n + 1, l1, l2, M => mK M h0 = 2 ∧ (((mI M 69 h0) ≤ l2 → (K M)) ∧ (¬ (mI M 69 h0) ≤ l2 → ∃ a2, (mR M 66 h0) = some a2 ∧ isA M a2 4 ∧ vp_in l2 (aN M a2) ∧ ∃ a8, (aR M a2 (l2).toNatClampNeg) = some a8 ∧ mK M a8 = 7 ∧ (wp_X6_write M a8 l1 (fun M7 => ((lp_X1_write_2 h0 K n) l1 (l2 + 1) M7)))))
set_option maxRecDepth 100000 in
set_option maxHeartbeats 4000000 in
theorem zl_X1_write_2 {X : Cx} {h0 : Nat} {K : Mm → Prop} (hX : Ok X cX1_write RX1 rm_X1_write) (hQ : Rq X rm_X1_write none (QV K)) (hnL : X.2.2.2.2.2.2.2.2.2.2.2.2.2.2 = 3) : ∀ (n : Nat) (l1 : Option Nat) (l2 : Int32) (M : Mm), lp_X1_write_2 h0 K n l1 l2 M → Z X M 0 0 2 [(0, va_rf (some h0)), (1, va_rf l1), (2, .int l2)] [] := by
  intro n
  induction n with
  | zero =>
    intro l1 l2 M h
    exact False.elim h
  | succ n hR2 =>
    intro l1 l2 M h
    refine z_iload_n hX dX1_write_2 rfl 2 rfl ?_
    refine z_aload_n (r := (some h0)) hX dX1_write_3 rfl 0 rfl ?_
    obtain ⟨hk1, h⟩ := h
    refine gf_RX1_37 (r := (some h0)) hX dX1_write_4 rfl hk1 ?_
    obtain ⟨h1, h2⟩ := h
    refine z_icmp_ge (tgt := 26) hX dX1_write_7 (by decide) (fun hc => ?_) (fun hc => ?_)
    · have h := h1 hc
      exact z_vret hX hQ dX1_write_26 h
    · have h := h2 hc
      refine z_aload_n (r := (some h0)) hX dX1_write_10 rfl 0 rfl ?_
      refine gf_RX1_20 (r := (some h0)) hX dX1_write_11 rfl hk1 ?_
      refine z_iload_n hX dX1_write_14 rfl 2 rfl ?_
      obtain ⟨a2, ha3, h⟩ := h
      obtain ⟨hk4, h⟩ := h
      obtain ⟨hc5, h⟩ := h
      refine y_aldq (r := (mR M 66 h0)) hX dX1_write_15 ha3 hk4 hc5 ?_
      refine z_aload_n (r := l1) hX dX1_write_16 rfl 1 rfl ?_
      obtain ⟨a8, ha9, h⟩ := h
      obtain ⟨hk10, h⟩ := h
      refine z_callVV (As := [va_rf l1]) (rest := []) (ci := 6) hX (ct_X6_write h) mw_RX1_242 rfl (by decide) rfl (by rw [ha9]; rfl) (by unfold RoomC; decide) (by decide) dX1_write_17 hk10 (fun M7 h => ?_)
      refine z_iinc (v := (l2 + 1)) hX [(2, .int (l2 + 1)), (0, va_rf (some h0)), (1, va_rf l1)] dX1_write_20 2 rfl rfl (by rw [hnL]; decide) (by simp [cat_rf]) ?_
      refine z_goto (tgt := 2) hX dX1_write_23 (by decide) ?_
      refine z_loc [1, 2, 0] rfl ?_
      exact hR2 _ _ _ h
def wp_X1_write (M : Mm) (h0 : Nat) (p1 : Option Nat) (K : Mm → Prop) : Prop := (∃ kk, lp_X1_write_2 h0 K kk p1 (0 : Int32) M)
set_option maxRecDepth 100000 in
set_option maxHeartbeats 4000000 in
theorem ct_X1_write {M : Mm} {h0 : Nat} {p1 : Option Nat} {K : Mm → Prop} (h : wp_X1_write M h0 p1 K) : CtV yX1_write cX1_write 3 none rm_X1_write [.ref h0, va_rf p1] M K := by
  refine ct_any (QV K) (by decide) (by cases p1 <;> exact Nat.le_of_ble_eq_true rfl) (fun X hX hQ hnL hnm => ?_)
  rw [show lv_args 0 [.ref h0, va_rf p1] = [(0, va_rf (some h0)), (1, va_rf p1)] by cases p1 <;> rfl]
  have hX : Ok X cX1_write RX1 rm_X1_write := hX
  unfold wp_X1_write at h
  refine z_iconst (v := (0 : Int32)) hX dX1_write_0 (by decide) ?_
  refine z_istore_n (i := 2) hX [(2, .int (0 : Int32)), (0, va_rf (some h0)), (1, va_rf p1)] dX1_write_1 rfl (by rw [hnL]; decide) (by simp [cat_rf]) ?_
  refine z_loc [1, 2, 0] rfl ?_
  obtain ⟨n, h⟩ := h
  exact zl_X1_write_2 hX hQ hnL n _ _ _ h
def rm_X2_isFar : Room := { frames := 2, cells := 0, slots := 0, locals := 46 }
def bk_X2_isFar_54 (h0 : Nat) (K : Int32 → Mm → Prop) (s0 : Int32) (M : Mm) : Prop := (bz s0 ∧ K s0 M)
set_option maxRecDepth 100000 in
set_option maxHeartbeats 4000000 in
theorem zb_X2_isFar_54 {X : Cx} {h0 : Nat} {K : Int32 → Mm → Prop} (hX : Ok X cX2_isFar RX2 rm_X2_isFar) (hQ : Rq X rm_X2_isFar (some .boolean) (QI K)) (hnL : X.2.2.2.2.2.2.2.2.2.2.2.2.2.2 = 4) {s0 : Int32} {M : Mm} (h : bk_X2_isFar_54 h0 K s0 M) : Z X M 0 0 54 [] [.int s0] := by
  unfold bk_X2_isFar_54 at h
  exact y_zret hX hQ dX2_isFar_54 h.1 h.2
def bk_X2_isFar_28 (h0 : Nat) (K : Int32 → Mm → Prop) (s0 : Int32) (M : Mm) : Prop := (bz s0 ∧ K s0 M)
set_option maxRecDepth 100000 in
set_option maxHeartbeats 4000000 in
theorem zb_X2_isFar_28 {X : Cx} {h0 : Nat} {K : Int32 → Mm → Prop} (hX : Ok X cX2_isFar RX2 rm_X2_isFar) (hQ : Rq X rm_X2_isFar (some .boolean) (QI K)) (hnL : X.2.2.2.2.2.2.2.2.2.2.2.2.2.2 = 4) {s0 : Int32} {M : Mm} (h : bk_X2_isFar_28 h0 K s0 M) : Z X M 0 0 28 [] [.int s0] := by
  unfold bk_X2_isFar_28 at h
  exact y_zret hX hQ dX2_isFar_28 h.1 h.2
def wp_X2_isFar (M : Mm) (h0 : Nat) (p1 : Int32) (p2 : Int64) (K : Int32 → Mm → Prop) : Prop := ((¬ p1 = 0 → mK M h0 = 3 ∧ (wp_X10_together M p2 (-(mJ M 130 h0)) (fun r2 M3 => mK M3 h0 = 3 ∧ ∃ a6, (mR M3 128 h0) = some a6 ∧ mK M3 a6 = 7 ∧ (((mJ M3 390 a6) < r2 → (bk_X2_isFar_54 h0 K (0 : Int32) M3)) ∧ (¬ (mJ M3 390 a6) < r2 → (bk_X2_isFar_54 h0 K (1 : Int32) M3)))))) ∧ (p1 = 0 → mK M h0 = 3 ∧ (wp_X10_together M p2 (mJ M 131 h0) (fun r10 M11 => mK M11 h0 = 3 ∧ ∃ a14, (mR M11 129 h0) = some a14 ∧ mK M11 a14 = 7 ∧ (((mJ M11 390 a14) < r10 → (bk_X2_isFar_28 h0 K (0 : Int32) M11)) ∧ (¬ (mJ M11 390 a14) < r10 → (bk_X2_isFar_28 h0 K (1 : Int32) M11)))))))
set_option maxRecDepth 100000 in
set_option maxHeartbeats 4000000 in
theorem ct_X2_isFar {M : Mm} {h0 : Nat} {p1 : Int32} {p2 : Int64} {K : Int32 → Mm → Prop} (h : wp_X2_isFar M h0 p1 p2 K) : CtI yX2_isFar cX2_isFar 4 (some .boolean) rm_X2_isFar [.ref h0, .int p1, .long p2] M K := by
  refine ct_any (QI K) (by decide) (by exact Nat.le_of_ble_eq_true rfl) (fun X hX hQ hnL hnm => ?_)
  rw [show lv_args 0 [.ref h0, .int p1, .long p2] = [(0, va_rf (some h0)), (1, .int p1), (2, .long p2)] by rfl]
  have hX : Ok X cX2_isFar RX2 rm_X2_isFar := hX
  unfold wp_X2_isFar at h
  refine z_iload_n hX dX2_isFar_0 rfl 1 rfl ?_
  obtain ⟨h1, h2⟩ := h
  refine z_if_ne (tgt := 29) hX dX2_isFar_1 (by decide) (fun hc => ?_) (fun hc => ?_)
  · have h := h1 hc
    refine z_lload_n hX dX2_isFar_29 rfl 2 rfl ?_
    refine z_aload_n (r := (some h0)) hX dX2_isFar_30 rfl 0 rfl ?_
    obtain ⟨hk1, h⟩ := h
    refine gf_RX2_18 (r := (some h0)) hX dX2_isFar_31 rfl hk1 ?_
    refine z_lneg hX dX2_isFar_34 ?_
    refine z_callNJ (As := [.long p2, .long (-(mJ M 130 h0))]) (rest := []) hX (ct_X10_together h) mw_RX2_42 rfl (by rfl) (by unfold RoomC; decide) (by decide) dX2_isFar_35 (fun r2 M3 h => ?_)
    refine z_aload_n (r := (some h0)) hX dX2_isFar_38 rfl 0 rfl ?_
    obtain ⟨hk5, h⟩ := h
    refine gf_RX2_9 (r := (some h0)) hX dX2_isFar_39 rfl hk5 ?_
    obtain ⟨a6, ha7, h⟩ := h
    obtain ⟨hk8, h⟩ := h
    refine gf_RX2_46 (r := (mR M3 128 h0)) hX dX2_isFar_42 ha7 hk8 ?_
    refine z_lcmp hX dX2_isFar_45 ?_
    obtain ⟨h1, h2⟩ := h
    refine z_if_gt (tgt := 53) hX dX2_isFar_46 (by decide) (fun hc => ?_) (fun hc => ?_)
    · have h := h1 ((lg_cmp_gt _ _).mp hc)
      refine z_iconst (v := (0 : Int32)) hX dX2_isFar_53 (by decide) ?_
      refine z_loc [] rfl ?_
      exact zb_X2_isFar_54 hX hQ hnL h
    · have h := h2 (fun q => hc ((lg_cmp_gt _ _).mpr q))
      refine z_iconst (v := (1 : Int32)) hX dX2_isFar_49 (by decide) ?_
      refine z_goto (tgt := 54) hX dX2_isFar_50 (by decide) ?_
      refine z_loc [] rfl ?_
      exact zb_X2_isFar_54 hX hQ hnL h
  · have h := h2 hc
    refine z_lload_n hX dX2_isFar_4 rfl 2 rfl ?_
    refine z_aload_n (r := (some h0)) hX dX2_isFar_5 rfl 0 rfl ?_
    obtain ⟨hk9, h⟩ := h
    refine gf_RX2_22 (r := (some h0)) hX dX2_isFar_6 rfl hk9 ?_
    refine z_callNJ (As := [.long p2, .long (mJ M 131 h0)]) (rest := []) hX (ct_X10_together h) mw_RX2_42 rfl (by rfl) (by unfold RoomC; decide) (by decide) dX2_isFar_9 (fun r10 M11 h => ?_)
    refine z_aload_n (r := (some h0)) hX dX2_isFar_12 rfl 0 rfl ?_
    obtain ⟨hk13, h⟩ := h
    refine gf_RX2_15 (r := (some h0)) hX dX2_isFar_13 rfl hk13 ?_
    obtain ⟨a14, ha15, h⟩ := h
    obtain ⟨hk16, h⟩ := h
    refine gf_RX2_46 (r := (mR M11 129 h0)) hX dX2_isFar_16 ha15 hk16 ?_
    refine z_lcmp hX dX2_isFar_19 ?_
    obtain ⟨h1, h2⟩ := h
    refine z_if_gt (tgt := 27) hX dX2_isFar_20 (by decide) (fun hc => ?_) (fun hc => ?_)
    · have h := h1 ((lg_cmp_gt _ _).mp hc)
      refine z_iconst (v := (0 : Int32)) hX dX2_isFar_27 (by decide) ?_
      refine z_loc [] rfl ?_
      exact zb_X2_isFar_28 hX hQ hnL h
    · have h := h2 (fun q => hc ((lg_cmp_gt _ _).mpr q))
      refine z_iconst (v := (1 : Int32)) hX dX2_isFar_23 (by decide) ?_
      refine z_goto (tgt := 28) hX dX2_isFar_24 (by decide) ?_
      refine z_loc [] rfl ?_
      exact zb_X2_isFar_28 hX hQ hnL h
def rm_X4_advance : Room := { frames := 2, cells := 0, slots := 0, locals := 44 }
def bk_X4_advance_204 (h0 : Nat) (K : Mm → Prop) (M : Mm) : Prop := (K M)
set_option maxRecDepth 100000 in
set_option maxHeartbeats 4000000 in
theorem zb_X4_advance_204 {X : Cx} {h0 : Nat} {K : Mm → Prop} (hX : Ok X cX4_advance RX4 rm_X4_advance) (hQ : Rq X rm_X4_advance none (QV K)) (hnL : X.2.2.2.2.2.2.2.2.2.2.2.2.2.2 = 2) {M : Mm} (h : bk_X4_advance_204 h0 K M) : Z X M 0 0 204 [] [] := by
  unfold bk_X4_advance_204 at h
  exact z_vret hX hQ dX4_advance_204 h
def bk_X4_advance_185 (h0 : Nat) (K : Mm → Prop) (l1 : Int32) (s0 : Int32) (s1 : Option Nat) (M : Mm) : Prop := ∃ a1, s1 = some a1 ∧ mK M a1 = 5 ∧ mK (sI M 258 a1 s0) h0 = 5 ∧ (bk_X4_advance_204 h0 K (sI (sJ (sI M 258 a1 s0) 260 h0 ((l1).toInt64)) 257 h0 ((mI (sJ (sI M 258 a1 s0) 260 h0 ((l1).toInt64)) 257 h0) + (1 : Int32))))
set_option maxRecDepth 100000 in
set_option maxHeartbeats 4000000 in
theorem zb_X4_advance_185 {X : Cx} {h0 : Nat} {K : Mm → Prop} (hX : Ok X cX4_advance RX4 rm_X4_advance) (hQ : Rq X rm_X4_advance none (QV K)) (hnL : X.2.2.2.2.2.2.2.2.2.2.2.2.2.2 = 2) {l1 : Int32} {s0 : Int32} {s1 : Option Nat} {M : Mm} (h : bk_X4_advance_185 h0 K l1 s0 s1 M) : Z X M 0 0 185 [(0, va_rf (some h0)), (1, .int l1)] [.int s0, va_rf s1] := by
  unfold bk_X4_advance_185 at h
  obtain ⟨a1, ha2, h⟩ := h
  obtain ⟨hk3, h⟩ := h
  refine pf_RX4_35 (r := s1) (v := s0) hX dX4_advance_185 ha2 hk3 ?_
  refine z_aload_n (r := (some h0)) hX dX4_advance_188 rfl 0 rfl ?_
  refine z_iload_n hX dX4_advance_189 rfl 1 rfl ?_
  refine z_i2l hX dX4_advance_190 ?_
  obtain ⟨hk5, h⟩ := h
  refine pf_RX4_46 (r := (some h0)) (v := ((l1).toInt64)) hX dX4_advance_191 rfl hk5 ?_
  refine z_aload_n (r := (some h0)) hX dX4_advance_194 rfl 0 rfl ?_
  refine z_dup hX dX4_advance_195 (cat_rf _) ?_
  refine gf_RX4_15 (r := (some h0)) hX dX4_advance_196 rfl hk5 ?_
  refine z_iconst (v := (1 : Int32)) hX dX4_advance_199 (by decide) ?_
  refine z_iadd hX dX4_advance_200 ?_
  refine pf_RX4_15 (r := (some h0)) (v := ((mI (sJ (sI M 258 a1 s0) 260 h0 ((l1).toInt64)) 257 h0) + (1 : Int32))) hX dX4_advance_201 rfl hk5 ?_
  refine z_loc [] rfl ?_
  exact zb_X4_advance_204 hX hQ hnL h
def bk_X4_advance_180 (h0 : Nat) (K : Mm → Prop) (l1 : Int32) (s0 : Option Nat) (M : Mm) : Prop := (bk_X4_advance_185 h0 K l1 (5 : Int32) s0 M)
set_option maxRecDepth 100000 in
set_option maxHeartbeats 4000000 in
theorem zb_X4_advance_180 {X : Cx} {h0 : Nat} {K : Mm → Prop} (hX : Ok X cX4_advance RX4 rm_X4_advance) (hQ : Rq X rm_X4_advance none (QV K)) (hnL : X.2.2.2.2.2.2.2.2.2.2.2.2.2.2 = 2) {l1 : Int32} {s0 : Option Nat} {M : Mm} (h : bk_X4_advance_180 h0 K l1 s0 M) : Z X M 0 0 180 [(0, va_rf (some h0)), (1, .int l1)] [va_rf s0] := by
  unfold bk_X4_advance_180 at h
  refine z_iconst (v := (5 : Int32)) hX dX4_advance_180 (by decide) ?_
  refine z_goto (tgt := 185) hX dX4_advance_181 (by decide) ?_
  exact zb_X4_advance_185 hX hQ hnL h
def bk_X4_advance_161 (h0 : Nat) (K : Mm → Prop) (l1 : Int32) (M : Mm) : Prop := ((l1 = (61 : Int32) → (bk_X4_advance_180 h0 K l1 (some h0) M)) ∧ (¬ l1 = (61 : Int32) → ((l1 = (59 : Int32) → (bk_X4_advance_180 h0 K l1 (some h0) M)) ∧ (¬ l1 = (59 : Int32) → ((¬ l1 = (45 : Int32) → (bk_X4_advance_185 h0 K l1 (1 : Int32) (some h0) M)) ∧ (l1 = (45 : Int32) → (bk_X4_advance_180 h0 K l1 (some h0) M)))))))
set_option maxRecDepth 100000 in
set_option maxHeartbeats 4000000 in
theorem zb_X4_advance_161 {X : Cx} {h0 : Nat} {K : Mm → Prop} (hX : Ok X cX4_advance RX4 rm_X4_advance) (hQ : Rq X rm_X4_advance none (QV K)) (hnL : X.2.2.2.2.2.2.2.2.2.2.2.2.2.2 = 2) {l1 : Int32} {M : Mm} (h : bk_X4_advance_161 h0 K l1 M) : Z X M 0 0 161 [(0, va_rf (some h0)), (1, .int l1)] [] := by
  unfold bk_X4_advance_161 at h
  refine z_aload_n (r := (some h0)) hX dX4_advance_161 rfl 0 rfl ?_
  refine z_iload_n hX dX4_advance_162 rfl 1 rfl ?_
  refine z_bipush (v := (61 : Int32)) hX dX4_advance_163 (by decide) ?_
  obtain ⟨h1, h2⟩ := h
  refine z_icmp_eq (tgt := 180) hX dX4_advance_165 (by decide) (fun hc => ?_) (fun hc => ?_)
  · have h := h1 hc
    exact zb_X4_advance_180 hX hQ hnL h
  · have h := h2 hc
    refine z_iload_n hX dX4_advance_168 rfl 1 rfl ?_
    refine z_bipush (v := (59 : Int32)) hX dX4_advance_169 (by decide) ?_
    obtain ⟨h1, h2⟩ := h
    refine z_icmp_eq (tgt := 180) hX dX4_advance_171 (by decide) (fun hc => ?_) (fun hc => ?_)
    · have h := h1 hc
      exact zb_X4_advance_180 hX hQ hnL h
    · have h := h2 hc
      refine z_iload_n hX dX4_advance_174 rfl 1 rfl ?_
      refine z_bipush (v := (45 : Int32)) hX dX4_advance_175 (by decide) ?_
      obtain ⟨h1, h2⟩ := h
      refine z_icmp_ne (tgt := 184) hX dX4_advance_177 (by decide) (fun hc => ?_) (fun hc => ?_)
      · have h := h1 hc
        refine z_iconst (v := (1 : Int32)) hX dX4_advance_184 (by decide) ?_
        exact zb_X4_advance_185 hX hQ hnL h
      · have h := h2 hc
        exact zb_X4_advance_180 hX hQ hnL h
def bk_X4_advance_155 (h0 : Nat) (K : Mm → Prop) (s0 : Int32) (s1 : Option Nat) (M : Mm) : Prop := ∃ a8, s1 = some a8 ∧ mK M a8 = 5 ∧ (bk_X4_advance_204 h0 K (sI M 258 a8 s0))
set_option maxRecDepth 100000 in
set_option maxHeartbeats 4000000 in
theorem zb_X4_advance_155 {X : Cx} {h0 : Nat} {K : Mm → Prop} (hX : Ok X cX4_advance RX4 rm_X4_advance) (hQ : Rq X rm_X4_advance none (QV K)) (hnL : X.2.2.2.2.2.2.2.2.2.2.2.2.2.2 = 2) {s0 : Int32} {s1 : Option Nat} {M : Mm} (h : bk_X4_advance_155 h0 K s0 s1 M) : Z X M 0 0 155 [] [.int s0, va_rf s1] := by
  unfold bk_X4_advance_155 at h
  obtain ⟨a8, ha9, h⟩ := h
  obtain ⟨hk10, h⟩ := h
  refine pf_RX4_35 (r := s1) (v := s0) hX dX4_advance_155 ha9 hk10 ?_
  refine z_goto (tgt := 204) hX dX4_advance_158 (by decide) ?_
  exact zb_X4_advance_204 hX hQ hnL h
def bk_X4_advance_124 (h0 : Nat) (K : Mm → Prop) (l1 : Int32) (M : Mm) : Prop := ((l1 < (48 : Int32) → (bk_X4_advance_161 h0 K l1 M)) ∧ (¬ l1 < (48 : Int32) → (((57 : Int32) < l1 → (bk_X4_advance_161 h0 K l1 M)) ∧ (¬ (57 : Int32) < l1 → mK M h0 = 5 ∧ (wp_X4_scanRun M h0 (48 : Int32) (57 : Int32) (fun r12 M13 => ((r12 ≤ (18 : Int32) → (bk_X4_advance_155 h0 K (4 : Int32) (some h0) M13)) ∧ (¬ r12 ≤ (18 : Int32) → (bk_X4_advance_155 h0 K (1 : Int32) (some h0) M13)))))))))
set_option maxRecDepth 100000 in
set_option maxHeartbeats 4000000 in
theorem zb_X4_advance_124 {X : Cx} {h0 : Nat} {K : Mm → Prop} (hX : Ok X cX4_advance RX4 rm_X4_advance) (hQ : Rq X rm_X4_advance none (QV K)) (hnL : X.2.2.2.2.2.2.2.2.2.2.2.2.2.2 = 2) {l1 : Int32} {M : Mm} (h : bk_X4_advance_124 h0 K l1 M) : Z X M 0 0 124 [(0, va_rf (some h0)), (1, .int l1)] [] := by
  unfold bk_X4_advance_124 at h
  refine z_iload_n hX dX4_advance_124 rfl 1 rfl ?_
  refine z_bipush (v := (48 : Int32)) hX dX4_advance_125 (by decide) ?_
  obtain ⟨h1, h2⟩ := h
  refine z_icmp_lt (tgt := 161) hX dX4_advance_127 (by decide) (fun hc => ?_) (fun hc => ?_)
  · have h := h1 hc
    exact zb_X4_advance_161 hX hQ hnL h
  · have h := h2 hc
    refine z_iload_n hX dX4_advance_130 rfl 1 rfl ?_
    refine z_bipush (v := (57 : Int32)) hX dX4_advance_131 (by decide) ?_
    obtain ⟨h1, h2⟩ := h
    refine z_icmp_gt (tgt := 161) hX dX4_advance_133 (by decide) (fun hc => ?_) (fun hc => ?_)
    · have h := h1 hc
      exact zb_X4_advance_161 hX hQ hnL h
    · have h := h2 hc
      refine z_aload_n (r := (some h0)) hX dX4_advance_136 rfl 0 rfl ?_
      refine z_aload_n (r := (some h0)) hX dX4_advance_137 rfl 0 rfl ?_
      refine z_bipush (v := (48 : Int32)) hX dX4_advance_138 (by decide) ?_
      refine z_bipush (v := (57 : Int32)) hX dX4_advance_140 (by decide) ?_
      obtain ⟨hk14, h⟩ := h
      refine z_callVI (As := [.int (48 : Int32), .int (57 : Int32)]) (rest := [va_rf (some h0)]) (ci := 4) hX (ct_X4_scanRun h) mw_RX4_38 rfl (by decide) rfl (by rfl) (by unfold RoomC; decide) (by simp only [List.map_cons, List.map_nil, List.sum_cons, List.sum_nil, cat_rf, cat_i, cat_j]; decide) dX4_advance_142 hk14 (fun r12 M13 h => ?_)
      refine z_bipush (v := (18 : Int32)) hX dX4_advance_145 (by decide) ?_
      obtain ⟨h1, h2⟩ := h
      refine z_icmp_le (tgt := 154) hX dX4_advance_147 (by decide) (fun hc => ?_) (fun hc => ?_)
      · have h := h1 hc
        refine z_iconst (v := (4 : Int32)) hX dX4_advance_154 (by decide) ?_
        refine z_loc [] rfl ?_
        exact zb_X4_advance_155 hX hQ hnL h
      · have h := h2 hc
        refine z_iconst (v := (1 : Int32)) hX dX4_advance_150 (by decide) ?_
        refine z_goto (tgt := 155) hX dX4_advance_151 (by decide) ?_
        refine z_loc [] rfl ?_
        exact zb_X4_advance_155 hX hQ hnL h
def bk_X4_advance_118 (h0 : Nat) (K : Mm → Prop) (s0 : Int32) (s1 : Option Nat) (M : Mm) : Prop := ∃ a16, s1 = some a16 ∧ mK M a16 = 5 ∧ (bk_X4_advance_204 h0 K (sI M 258 a16 s0))
set_option maxRecDepth 100000 in
set_option maxHeartbeats 4000000 in
theorem zb_X4_advance_118 {X : Cx} {h0 : Nat} {K : Mm → Prop} (hX : Ok X cX4_advance RX4 rm_X4_advance) (hQ : Rq X rm_X4_advance none (QV K)) (hnL : X.2.2.2.2.2.2.2.2.2.2.2.2.2.2 = 2) {s0 : Int32} {s1 : Option Nat} {M : Mm} (h : bk_X4_advance_118 h0 K s0 s1 M) : Z X M 0 0 118 [] [.int s0, va_rf s1] := by
  unfold bk_X4_advance_118 at h
  obtain ⟨a16, ha17, h⟩ := h
  obtain ⟨hk18, h⟩ := h
  refine pf_RX4_35 (r := s1) (v := s0) hX dX4_advance_118 ha17 hk18 ?_
  refine z_goto (tgt := 204) hX dX4_advance_121 (by decide) ?_
  exact zb_X4_advance_204 hX hQ hnL h
def bk_X4_advance_44 (h0 : Nat) (K : Mm → Prop) (M : Mm) : Prop := mK M h0 = 5 ∧ ∃ a24, (mR (sI M 259 h0 (mI M 257 h0)) 256 h0) = some a24 ∧ mK (sI M 259 h0 (mI M 257 h0)) a24 = 1 ∧ (wp_X0_at (sI M 259 h0 (mI M 257 h0)) a24 (mI (sI M 259 h0 (mI M 257 h0)) 257 h0) (fun r22 M23 => ((0 ≤ r22 → ((r22 < (97 : Int32) → (bk_X4_advance_124 h0 K r22 M23)) ∧ (¬ r22 < (97 : Int32) → (((122 : Int32) < r22 → (bk_X4_advance_124 h0 K r22 M23)) ∧ (¬ (122 : Int32) < r22 → mK M23 h0 = 5 ∧ (wp_X4_scanRun M23 h0 (97 : Int32) (122 : Int32) (fun r28 M29 => ((r28 ≤ (8 : Int32) → mK M29 h0 = 5 ∧ (wp_X4_isKeyword M29 h0 (fun r32 M33 => ((r32 = 0 → (bk_X4_advance_118 h0 K (3 : Int32) (some h0) M33)) ∧ (¬ r32 = 0 → (bk_X4_advance_118 h0 K (2 : Int32) (some h0) M33)))))) ∧ (¬ r28 ≤ (8 : Int32) → (bk_X4_advance_118 h0 K (1 : Int32) (some h0) M29)))))))))) ∧ (¬ 0 ≤ r22 → mK M23 h0 = 5 ∧ (bk_X4_advance_204 h0 K (sI M23 258 h0 (0 : Int32)))))))
set_option maxRecDepth 100000 in
set_option maxHeartbeats 4000000 in
theorem zb_X4_advance_44 {X : Cx} {h0 : Nat} {K : Mm → Prop} (hX : Ok X cX4_advance RX4 rm_X4_advance) (hQ : Rq X rm_X4_advance none (QV K)) (hnL : X.2.2.2.2.2.2.2.2.2.2.2.2.2.2 = 2) {M : Mm} (h : bk_X4_advance_44 h0 K M) : Z X M 0 0 44 [(0, va_rf (some h0))] [] := by
  unfold bk_X4_advance_44 at h
  refine z_aload_n (r := (some h0)) hX dX4_advance_44 rfl 0 rfl ?_
  refine z_aload_n (r := (some h0)) hX dX4_advance_45 rfl 0 rfl ?_
  obtain ⟨hk20, h⟩ := h
  refine gf_RX4_15 (r := (some h0)) hX dX4_advance_46 rfl hk20 ?_
  refine pf_RX4_32 (r := (some h0)) (v := (mI M 257 h0)) hX dX4_advance_49 rfl hk20 ?_
  refine z_aload_n (r := (some h0)) hX dX4_advance_52 rfl 0 rfl ?_
  refine gf_RX4_9 (r := (some h0)) hX dX4_advance_53 rfl hk20 ?_
  refine z_aload_n (r := (some h0)) hX dX4_advance_56 rfl 0 rfl ?_
  refine gf_RX4_15 (r := (some h0)) hX dX4_advance_57 rfl hk20 ?_
  obtain ⟨a24, ha25, h⟩ := h
  obtain ⟨hk26, h⟩ := h
  refine z_callVI (As := [.int (mI (sI M 259 h0 (mI M 257 h0)) 257 h0)]) (rest := []) (ci := 0) hX (ct_X0_at h) mw_RX4_24 rfl (by decide) rfl (by rw [ha25]; rfl) (by unfold RoomC; decide) (by decide) dX4_advance_60 hk26 (fun r22 M23 h => ?_)
  refine z_istore_n hX [(1, .int r22), (0, va_rf (some h0))] dX4_advance_63 rfl (by rw [hnL]; decide) rfl ?_
  refine z_iload_n hX dX4_advance_64 rfl 0 rfl ?_
  obtain ⟨h1, h2⟩ := h
  refine z_if_ge (tgt := 76) hX dX4_advance_65 (by decide) (fun hc => ?_) (fun hc => ?_)
  · have h := h1 hc
    refine z_iload_n hX dX4_advance_76 rfl 0 rfl ?_
    refine z_bipush (v := (97 : Int32)) hX dX4_advance_77 (by decide) ?_
    obtain ⟨h1, h2⟩ := h
    refine z_icmp_lt (tgt := 124) hX dX4_advance_79 (by decide) (fun hc => ?_) (fun hc => ?_)
    · have h := h1 hc
      refine z_loc [1, 0] rfl ?_
      exact zb_X4_advance_124 hX hQ hnL h
    · have h := h2 hc
      refine z_iload_n hX dX4_advance_82 rfl 0 rfl ?_
      refine z_bipush (v := (122 : Int32)) hX dX4_advance_83 (by decide) ?_
      obtain ⟨h1, h2⟩ := h
      refine z_icmp_gt (tgt := 124) hX dX4_advance_85 (by decide) (fun hc => ?_) (fun hc => ?_)
      · have h := h1 hc
        refine z_loc [1, 0] rfl ?_
        exact zb_X4_advance_124 hX hQ hnL h
      · have h := h2 hc
        refine z_aload_n (r := (some h0)) hX dX4_advance_88 rfl 1 rfl ?_
        refine z_aload_n (r := (some h0)) hX dX4_advance_89 rfl 1 rfl ?_
        refine z_bipush (v := (97 : Int32)) hX dX4_advance_90 (by decide) ?_
        refine z_bipush (v := (122 : Int32)) hX dX4_advance_92 (by decide) ?_
        obtain ⟨hk30, h⟩ := h
        refine z_callVI (As := [.int (97 : Int32), .int (122 : Int32)]) (rest := [va_rf (some h0)]) (ci := 4) hX (ct_X4_scanRun h) mw_RX4_38 rfl (by decide) rfl (by rfl) (by unfold RoomC; decide) (by simp only [List.map_cons, List.map_nil, List.sum_cons, List.sum_nil, cat_rf, cat_i, cat_j]; decide) dX4_advance_94 hk30 (fun r28 M29 h => ?_)
        refine z_bipush (v := (8 : Int32)) hX dX4_advance_97 (by decide) ?_
        obtain ⟨h1, h2⟩ := h
        refine z_icmp_le (tgt := 106) hX dX4_advance_99 (by decide) (fun hc => ?_) (fun hc => ?_)
        · have h := h1 hc
          refine z_aload_n (r := (some h0)) hX dX4_advance_106 rfl 1 rfl ?_
          obtain ⟨hk34, h⟩ := h
          refine z_callVI (As := []) (rest := [va_rf (some h0)]) (ci := 4) hX (ct_X4_isKeyword h) mw_RX4_42 rfl (by decide) rfl (by rfl) (by unfold RoomC; decide) (by simp only [List.map_cons, List.map_nil, List.sum_cons, List.sum_nil, cat_rf, cat_i, cat_j]; decide) dX4_advance_107 hk34 (fun r32 M33 h => ?_)
          obtain ⟨h1, h2⟩ := h
          refine z_if_eq (tgt := 117) hX dX4_advance_110 (by decide) (fun hc => ?_) (fun hc => ?_)
          · have h := h1 hc
            refine z_iconst (v := (3 : Int32)) hX dX4_advance_117 (by decide) ?_
            refine z_loc [] rfl ?_
            exact zb_X4_advance_118 hX hQ hnL h
          · have h := h2 hc
            refine z_iconst (v := (2 : Int32)) hX dX4_advance_113 (by decide) ?_
            refine z_goto (tgt := 118) hX dX4_advance_114 (by decide) ?_
            refine z_loc [] rfl ?_
            exact zb_X4_advance_118 hX hQ hnL h
        · have h := h2 hc
          refine z_iconst (v := (1 : Int32)) hX dX4_advance_102 (by decide) ?_
          refine z_goto (tgt := 118) hX dX4_advance_103 (by decide) ?_
          refine z_loc [] rfl ?_
          exact zb_X4_advance_118 hX hQ hnL h
  · have h := h2 hc
    refine z_aload_n (r := (some h0)) hX dX4_advance_68 rfl 1 rfl ?_
    refine z_iconst (v := (0 : Int32)) hX dX4_advance_69 (by decide) ?_
    obtain ⟨hk36, h⟩ := h
    refine pf_RX4_35 (r := (some h0)) (v := (0 : Int32)) hX dX4_advance_70 rfl hk36 ?_
    refine z_goto (tgt := 204) hX dX4_advance_73 (by decide) ?_
    refine z_loc [] rfl ?_
    exact zb_X4_advance_204 hX hQ hnL h
def lp_X4_advance_0 (h0 : Nat) (K : Mm → Prop) : Nat → Mm → Prop
  | 0, _ => False
  | n + 1, M => mK M h0 = 5 ∧ ∃ a39, (mR M 256 h0) = some a39 ∧ mK M a39 = 1 ∧ (((mI M 1 a39) ≤ (mI M 257 h0) → (bk_X4_advance_44 h0 K M)) ∧ (¬ (mI M 1 a39) ≤ (mI M 257 h0) → (wp_X0_at M a39 (mI M 257 h0) (fun r42 M43 => (wp_X4_isBlank M43 r42 (fun r45 M46 => ((r45 = 0 → (bk_X4_advance_44 h0 K M46)) ∧ (¬ r45 = 0 → mK M46 h0 = 5 ∧ ((lp_X4_advance_0 h0 K n) (sI M46 257 h0 ((mI M46 257 h0) + (1 : Int32))))))))))))
set_option maxRecDepth 100000 in
set_option maxHeartbeats 4000000 in
theorem zl_X4_advance_0 {X : Cx} {h0 : Nat} {K : Mm → Prop} (hX : Ok X cX4_advance RX4 rm_X4_advance) (hQ : Rq X rm_X4_advance none (QV K)) (hnL : X.2.2.2.2.2.2.2.2.2.2.2.2.2.2 = 2) : ∀ (n : Nat) (M : Mm), lp_X4_advance_0 h0 K n  M → Z X M 0 0 0 [(0, va_rf (some h0))] [] := by
  intro n
  induction n with
  | zero =>
    intro  M h
    exact False.elim h
  | succ n hR0 =>
    intro  M h
    refine z_aload_n (r := (some h0)) hX dX4_advance_0 rfl 0 rfl ?_
    obtain ⟨hk38, h⟩ := h
    refine gf_RX4_15 (r := (some h0)) hX dX4_advance_1 rfl hk38 ?_
    refine z_aload_n (r := (some h0)) hX dX4_advance_4 rfl 0 rfl ?_
    refine gf_RX4_9 (r := (some h0)) hX dX4_advance_5 rfl hk38 ?_
    obtain ⟨a39, ha40, h⟩ := h
    obtain ⟨hk41, h⟩ := h
    refine gf_RX4_19 (r := (mR M 256 h0)) hX dX4_advance_8 ha40 hk41 ?_
    obtain ⟨h1, h2⟩ := h
    refine z_icmp_ge (tgt := 44) hX dX4_advance_11 (by decide) (fun hc => ?_) (fun hc => ?_)
    · have h := h1 hc
      exact zb_X4_advance_44 hX hQ hnL h
    · have h := h2 hc
      refine z_aload_n (r := (some h0)) hX dX4_advance_14 rfl 0 rfl ?_
      refine gf_RX4_9 (r := (some h0)) hX dX4_advance_15 rfl hk38 ?_
      refine z_aload_n (r := (some h0)) hX dX4_advance_18 rfl 0 rfl ?_
      refine gf_RX4_15 (r := (some h0)) hX dX4_advance_19 rfl hk38 ?_
      refine z_callVI (As := [.int (mI M 257 h0)]) (rest := []) (ci := 0) hX (ct_X0_at h) mw_RX4_24 rfl (by decide) rfl (by rw [ha40]; rfl) (by unfold RoomC; decide) (by decide) dX4_advance_22 hk41 (fun r42 M43 h => ?_)
      refine z_callSI (As := [.int r42]) (rest := []) hX (ct_X4_isBlank h) mw_RX4_28 rfl (by rfl) (by unfold RoomC; decide) (by decide) dX4_advance_25 (fun r45 M46 h => ?_)
      obtain ⟨h1, h2⟩ := h
      refine z_if_eq (tgt := 44) hX dX4_advance_28 (by decide) (fun hc => ?_) (fun hc => ?_)
      · have h := h1 hc
        exact zb_X4_advance_44 hX hQ hnL h
      · have h := h2 hc
        refine z_aload_n (r := (some h0)) hX dX4_advance_31 rfl 0 rfl ?_
        refine z_dup hX dX4_advance_32 (cat_rf _) ?_
        obtain ⟨hk48, h⟩ := h
        refine gf_RX4_15 (r := (some h0)) hX dX4_advance_33 rfl hk48 ?_
        refine z_iconst (v := (1 : Int32)) hX dX4_advance_36 (by decide) ?_
        refine z_iadd hX dX4_advance_37 ?_
        refine pf_RX4_15 (r := (some h0)) (v := ((mI M46 257 h0) + (1 : Int32))) hX dX4_advance_38 rfl hk48 ?_
        refine z_goto (tgt := 0) hX dX4_advance_41 (by decide) ?_
        exact hR0 _ h
def wp_X4_advance (M : Mm) (h0 : Nat) (K : Mm → Prop) : Prop := (∃ kk, lp_X4_advance_0 h0 K kk M)
set_option maxRecDepth 100000 in
set_option maxHeartbeats 4000000 in
theorem ct_X4_advance {M : Mm} {h0 : Nat} {K : Mm → Prop} (h : wp_X4_advance M h0 K) : CtV yX4_advance cX4_advance 2 none rm_X4_advance [.ref h0] M K := by
  refine ct_any (QV K) (by decide) (by exact Nat.le_of_ble_eq_true rfl) (fun X hX hQ hnL hnm => ?_)
  rw [show lv_args 0 [.ref h0] = [(0, va_rf (some h0))] by rfl]
  have hX : Ok X cX4_advance RX4 rm_X4_advance := hX
  unfold wp_X4_advance at h
  obtain ⟨n, h⟩ := h
  exact zl_X4_advance_0 hX hQ hnL n _ h
def rm_X7_refuseToken : Room := { frames := 1, cells := 0, slots := 0, locals := 21 }
def bk_X7_refuseToken_17 (h0 : Nat) (K : Int32 → Mm → Prop) (s0 : Int32) (s1 : Option Nat) (M : Mm) : Prop := ∃ a3, s1 = some a3 ∧ mK M a3 = 8 ∧ (wp_X7_refuse M a3 s0 (fun r1 M2 => (bz r1 ∧ K r1 M2)))
set_option maxRecDepth 100000 in
set_option maxHeartbeats 4000000 in
theorem zb_X7_refuseToken_17 {X : Cx} {h0 : Nat} {K : Int32 → Mm → Prop} (hX : Ok X cX7_refuseToken RX7 rm_X7_refuseToken) (hQ : Rq X rm_X7_refuseToken (some .boolean) (QI K)) (hnL : X.2.2.2.2.2.2.2.2.2.2.2.2.2.2 = 1) {s0 : Int32} {s1 : Option Nat} {M : Mm} (h : bk_X7_refuseToken_17 h0 K s0 s1 M) : Z X M 0 0 17 [] [.int s0, va_rf s1] := by
  unfold bk_X7_refuseToken_17 at h
  obtain ⟨a3, ha4, h⟩ := h
  obtain ⟨hk5, h⟩ := h
  refine z_callVI (As := [.int s0]) (rest := []) (ci := 7) hX (ct_X7_refuse h) mw_RX7_34 rfl (by decide) rfl (by rw [ha4]; rfl) (by unfold RoomC; decide) (by decide) dX7_refuseToken_17 hk5 (fun r1 M2 h => ?_)
  exact y_zret hX hQ dX7_refuseToken_20 h.1 h.2
def wp_X7_refuseToken (M : Mm) (h0 : Nat) (K : Int32 → Mm → Prop) : Prop := mK M h0 = 8 ∧ ∃ a8, (mR M 448 h0) = some a8 ∧ mK M a8 = 5 ∧ ((¬ (mI M 258 a8) = (1 : Int32) → (bk_X7_refuseToken_17 h0 K (2 : Int32) (some h0) M)) ∧ ((mI M 258 a8) = (1 : Int32) → (bk_X7_refuseToken_17 h0 K (1 : Int32) (some h0) M)))
set_option maxRecDepth 100000 in
set_option maxHeartbeats 4000000 in
theorem ct_X7_refuseToken {M : Mm} {h0 : Nat} {K : Int32 → Mm → Prop} (h : wp_X7_refuseToken M h0 K) : CtI yX7_refuseToken cX7_refuseToken 1 (some .boolean) rm_X7_refuseToken [.ref h0] M K := by
  refine ct_any (QI K) (by decide) (by exact Nat.le_of_ble_eq_true rfl) (fun X hX hQ hnL hnm => ?_)
  rw [show lv_args 0 [.ref h0] = [(0, va_rf (some h0))] by rfl]
  have hX : Ok X cX7_refuseToken RX7 rm_X7_refuseToken := hX
  unfold wp_X7_refuseToken at h
  refine z_aload_n (r := (some h0)) hX dX7_refuseToken_0 rfl 0 rfl ?_
  refine z_aload_n (r := (some h0)) hX dX7_refuseToken_1 rfl 0 rfl ?_
  obtain ⟨hk7, h⟩ := h
  refine gf_RX7_9 (r := (some h0)) hX dX7_refuseToken_2 rfl hk7 ?_
  obtain ⟨a8, ha9, h⟩ := h
  obtain ⟨hk10, h⟩ := h
  refine gf_RX7_24 (r := (mR M 448 h0)) hX dX7_refuseToken_5 ha9 hk10 ?_
  refine z_iconst (v := (1 : Int32)) hX dX7_refuseToken_8 (by decide) ?_
  obtain ⟨h1, h2⟩ := h
  refine z_icmp_ne (tgt := 16) hX dX7_refuseToken_9 (by decide) (fun hc => ?_) (fun hc => ?_)
  · have h := h1 hc
    refine z_iconst (v := (2 : Int32)) hX dX7_refuseToken_16 (by decide) ?_
    refine z_loc [] rfl ?_
    exact zb_X7_refuseToken_17 hX hQ hnL h
  · have h := h2 hc
    refine z_iconst (v := (1 : Int32)) hX dX7_refuseToken_12 (by decide) ?_
    refine z_goto (tgt := 17) hX dX7_refuseToken_13 (by decide) ?_
    refine z_loc [] rfl ?_
    exact zb_X7_refuseToken_17 hX hQ hnL h
def rm_X9_addTo : Room := { frames := 1, cells := 0, slots := 0, locals := 25 }
def lp_X9_addTo_92 (h0 : Nat) (K : Int32 → Mm → Prop) : Nat → Int64 → Int32 → Int32 → Int32 → Int32 → Mm → Prop
  | 0, _, _, _, _, _, _ => False
  | n + 1, l1, l3, l4, l5, l6, M => ((l6 ≤ l5 → mK M h0 = 10 ∧ (wp_X9_put M h0 l5 l1 l3 l4 (fun M2 => mK M2 h0 = 10 ∧ (K (1 : Int32) (sI M2 581 h0 ((mI M2 581 h0) + (1 : Int32))))))) ∧ (¬ l6 ≤ l5 → mK M h0 = 10 ∧ ∃ a8, (mR M 578 h0) = some a8 ∧ isA M a8 2 ∧ vp_in (l6 - (1 : Int32)) (aN M a8) ∧ ∃ a12, (mR M 579 h0) = some a12 ∧ isA M a12 1 ∧ vp_in (l6 - (1 : Int32)) (aN M a12) ∧ ∃ a16, (mR M 580 h0) = some a16 ∧ isA M a16 1 ∧ vp_in (l6 - (1 : Int32)) (aN M a16) ∧ (wp_X9_put M h0 l6 (aJ M a8 ((l6 - (1 : Int32))).toNatClampNeg) (aI M a12 ((l6 - (1 : Int32))).toNatClampNeg) (aI M a16 ((l6 - (1 : Int32))).toNatClampNeg) (fun M21 => ((lp_X9_addTo_92 h0 K n) l1 l3 l4 l5 (l6 + (-1)) M21)))))
set_option maxRecDepth 100000 in
set_option maxHeartbeats 4000000 in
theorem zl_X9_addTo_92 {X : Cx} {h0 : Nat} {K : Int32 → Mm → Prop} (hX : Ok X cX9_addTo RX9 rm_X9_addTo) (hQ : Rq X rm_X9_addTo (some .boolean) (QI K)) (hnL : X.2.2.2.2.2.2.2.2.2.2.2.2.2.2 = 7) : ∀ (n : Nat) (l1 : Int64) (l3 : Int32) (l4 : Int32) (l5 : Int32) (l6 : Int32) (M : Mm), lp_X9_addTo_92 h0 K n l1 l3 l4 l5 l6 M → Z X M 0 0 92 [(0, va_rf (some h0)), (1, .long l1), (3, .int l3), (4, .int l4), (5, .int l5), (6, .int l6)] [] := by
  intro n
  induction n with
  | zero =>
    intro l1 l3 l4 l5 l6 M h
    exact False.elim h
  | succ n hR92 =>
    intro l1 l3 l4 l5 l6 M h
    refine z_iload hX dX9_addTo_92 5 rfl ?_
    refine z_iload hX dX9_addTo_94 4 rfl ?_
    obtain ⟨h1, h2⟩ := h
    refine z_icmp_le (tgt := 138) hX dX9_addTo_96 (by decide) (fun hc => ?_) (fun hc => ?_)
    · have h := h1 hc
      refine z_aload_n (r := (some h0)) hX dX9_addTo_138 rfl 0 rfl ?_
      refine z_iload hX dX9_addTo_139 4 rfl ?_
      refine z_lload_n hX dX9_addTo_141 rfl 1 rfl ?_
      refine z_iload_n hX dX9_addTo_142 rfl 2 rfl ?_
      refine z_iload hX dX9_addTo_143 3 rfl ?_
      obtain ⟨hk3, h⟩ := h
      refine z_callVV (As := [.int l5, .long l1, .int l3, .int l4]) (rest := []) (ci := 9) hX (ct_X9_put h) mw_RX9_47 rfl (by decide) rfl (by rfl) (by unfold RoomC; decide) (by decide) dX9_addTo_145 hk3 (fun M2 h => ?_)
      refine z_aload_n (r := (some h0)) hX dX9_addTo_148 rfl 0 rfl ?_
      refine z_dup hX dX9_addTo_149 (cat_rf _) ?_
      obtain ⟨hk5, h⟩ := h
      refine gf_RX9_39 (r := (some h0)) hX dX9_addTo_150 rfl hk5 ?_
      refine z_iconst (v := (1 : Int32)) hX dX9_addTo_153 (by decide) ?_
      refine z_iadd hX dX9_addTo_154 ?_
      refine pf_RX9_39 (r := (some h0)) (v := ((mI M2 581 h0) + (1 : Int32))) hX dX9_addTo_155 rfl hk5 ?_
      refine z_iconst (v := (1 : Int32)) hX dX9_addTo_158 (by decide) ?_
      exact y_zret hX hQ dX9_addTo_159 (Or.inr rfl) h
    · have h := h2 hc
      refine z_aload_n (r := (some h0)) hX dX9_addTo_99 rfl 0 rfl ?_
      refine z_iload hX dX9_addTo_100 5 rfl ?_
      refine z_aload_n (r := (some h0)) hX dX9_addTo_102 rfl 0 rfl ?_
      obtain ⟨hk7, h⟩ := h
      refine gf_RX9_18 (r := (some h0)) hX dX9_addTo_103 rfl hk7 ?_
      refine z_iload hX dX9_addTo_106 5 rfl ?_
      refine z_iconst (v := (1 : Int32)) hX dX9_addTo_108 (by decide) ?_
      refine z_isub hX dX9_addTo_109 ?_
      obtain ⟨a8, ha9, h⟩ := h
      obtain ⟨hk10, h⟩ := h
      obtain ⟨hc11, h⟩ := h
      refine y_lald (r := (mR M 578 h0)) hX dX9_addTo_110 ha9 hk10 hc11 ?_
      refine z_aload_n (r := (some h0)) hX dX9_addTo_111 rfl 0 rfl ?_
      refine gf_RX9_22 (r := (some h0)) hX dX9_addTo_112 rfl hk7 ?_
      refine z_iload hX dX9_addTo_115 5 rfl ?_
      refine z_iconst (v := (1 : Int32)) hX dX9_addTo_117 (by decide) ?_
      refine z_isub hX dX9_addTo_118 ?_
      obtain ⟨a12, ha13, h⟩ := h
      obtain ⟨hk14, h⟩ := h
      obtain ⟨hc15, h⟩ := h
      refine y_iald (r := (mR M 579 h0)) hX dX9_addTo_119 ha13 hk14 hc15 ?_
      refine z_aload_n (r := (some h0)) hX dX9_addTo_120 rfl 0 rfl ?_
      refine gf_RX9_26 (r := (some h0)) hX dX9_addTo_121 rfl hk7 ?_
      refine z_iload hX dX9_addTo_124 5 rfl ?_
      refine z_iconst (v := (1 : Int32)) hX dX9_addTo_126 (by decide) ?_
      refine z_isub hX dX9_addTo_127 ?_
      obtain ⟨a16, ha17, h⟩ := h
      obtain ⟨hk18, h⟩ := h
      obtain ⟨hc19, h⟩ := h
      refine y_iald (r := (mR M 580 h0)) hX dX9_addTo_128 ha17 hk18 hc19 ?_
      refine z_callVV (As := [.int l6, .long (aJ M a8 ((l6 - (1 : Int32))).toNatClampNeg), .int (aI M a12 ((l6 - (1 : Int32))).toNatClampNeg), .int (aI M a16 ((l6 - (1 : Int32))).toNatClampNeg)]) (rest := []) (ci := 9) hX (ct_X9_put h) mw_RX9_47 rfl (by decide) rfl (by rfl) (by unfold RoomC; decide) (by decide) dX9_addTo_129 hk7 (fun M21 h => ?_)
      refine z_iinc (v := (l6 + (-1))) hX [(6, .int (l6 + (-1))), (0, va_rf (some h0)), (1, .long l1), (3, .int l3), (4, .int l4), (5, .int l5)] dX9_addTo_132 5 rfl rfl (by rw [hnL]; decide) rfl ?_
      refine z_goto (tgt := 92) hX dX9_addTo_135 (by decide) ?_
      refine z_loc [1, 2, 3, 4, 5, 0] rfl ?_
      exact hR92 _ _ _ _ _ _ h
def bk_X9_addTo_75 (h0 : Nat) (K : Int32 → Mm → Prop) (l1 : Int64) (l3 : Int32) (l4 : Int32) (l5 : Int32) (M : Mm) : Prop := mK M h0 = 10 ∧ (((mI M 581 h0) < (24 : Int32) → (∃ kk, lp_X9_addTo_92 h0 K kk l1 l3 l4 l5 (mI M 581 h0) M)) ∧ (¬ (mI M 581 h0) < (24 : Int32) → (K (0 : Int32) M)))
set_option maxRecDepth 100000 in
set_option maxHeartbeats 4000000 in
theorem zb_X9_addTo_75 {X : Cx} {h0 : Nat} {K : Int32 → Mm → Prop} (hX : Ok X cX9_addTo RX9 rm_X9_addTo) (hQ : Rq X rm_X9_addTo (some .boolean) (QI K)) (hnL : X.2.2.2.2.2.2.2.2.2.2.2.2.2.2 = 7) {l1 : Int64} {l3 : Int32} {l4 : Int32} {l5 : Int32} {M : Mm} (h : bk_X9_addTo_75 h0 K l1 l3 l4 l5 M) : Z X M 0 0 75 [(0, va_rf (some h0)), (1, .long l1), (3, .int l3), (4, .int l4), (5, .int l5)] [] := by
  unfold bk_X9_addTo_75 at h
  refine z_aload_n (r := (some h0)) hX dX9_addTo_75 rfl 0 rfl ?_
  obtain ⟨hk23, h⟩ := h
  refine gf_RX9_39 (r := (some h0)) hX dX9_addTo_76 rfl hk23 ?_
  refine z_bipush (v := (24 : Int32)) hX dX9_addTo_79 (by decide) ?_
  obtain ⟨h1, h2⟩ := h
  refine z_icmp_lt (tgt := 86) hX dX9_addTo_81 (by decide) (fun hc => ?_) (fun hc => ?_)
  · have h := h1 hc
    refine z_aload_n (r := (some h0)) hX dX9_addTo_86 rfl 0 rfl ?_
    refine gf_RX9_39 (r := (some h0)) hX dX9_addTo_87 rfl hk23 ?_
    refine z_istore hX [(6, .int (mI M 581 h0)), (0, va_rf (some h0)), (1, .long l1), (3, .int l3), (4, .int l4), (5, .int l5)] dX9_addTo_90 (by rw [hnL]; decide) rfl ?_
    refine z_loc [1, 2, 3, 4, 5, 0] rfl ?_
    obtain ⟨n, h⟩ := h
    exact zl_X9_addTo_92 hX hQ hnL n _ _ _ _ _ _ h
  · have h := h2 hc
    refine z_iconst (v := (0 : Int32)) hX dX9_addTo_84 (by decide) ?_
    exact y_zret hX hQ dX9_addTo_85 (Or.inl rfl) h
def bk_X9_addTo_29 (h0 : Nat) (K : Int32 → Mm → Prop) (l1 : Int64) (l3 : Int32) (l4 : Int32) (l5 : Int32) (M : Mm) : Prop := mK M h0 = 10 ∧ (((mI M 581 h0) ≤ l5 → (bk_X9_addTo_75 h0 K l1 l3 l4 l5 M)) ∧ (¬ (mI M 581 h0) ≤ l5 → ∃ a25, (mR M 578 h0) = some a25 ∧ isA M a25 2 ∧ vp_in l5 (aN M a25) ∧ ((¬ (aJ M a25 (l5).toNatClampNeg) = l1 → (bk_X9_addTo_75 h0 K l1 l3 l4 l5 M)) ∧ ((aJ M a25 (l5).toNatClampNeg) = l1 → ∃ a29, (mR M 579 h0) = some a29 ∧ isA M a29 1 ∧ vp_in l5 (aN M a29) ∧ ((¬ (aI M a29 (l5).toNatClampNeg) = l3 → (bk_X9_addTo_75 h0 K l1 l3 l4 l5 M)) ∧ ((aI M a29 (l5).toNatClampNeg) = l3 → ∃ a33, (mR M 580 h0) = some a33 ∧ isA M a33 1 ∧ vp_in l5 (aN M a33) ∧ vp_in l5 (aN M a33) ∧ (K (1 : Int32) (tI M a33 (l5).toNatClampNeg ((aI M a33 (l5).toNatClampNeg) + l4)))))))))
set_option maxRecDepth 100000 in
set_option maxHeartbeats 4000000 in
theorem zb_X9_addTo_29 {X : Cx} {h0 : Nat} {K : Int32 → Mm → Prop} (hX : Ok X cX9_addTo RX9 rm_X9_addTo) (hQ : Rq X rm_X9_addTo (some .boolean) (QI K)) (hnL : X.2.2.2.2.2.2.2.2.2.2.2.2.2.2 = 7) {l1 : Int64} {l3 : Int32} {l4 : Int32} {l5 : Int32} {M : Mm} (h : bk_X9_addTo_29 h0 K l1 l3 l4 l5 M) : Z X M 0 0 29 [(0, va_rf (some h0)), (1, .long l1), (3, .int l3), (4, .int l4), (5, .int l5)] [] := by
  unfold bk_X9_addTo_29 at h
  refine z_iload hX dX9_addTo_29 4 rfl ?_
  refine z_aload_n (r := (some h0)) hX dX9_addTo_31 rfl 0 rfl ?_
  obtain ⟨hk24, h⟩ := h
  refine gf_RX9_39 (r := (some h0)) hX dX9_addTo_32 rfl hk24 ?_
  obtain ⟨h1, h2⟩ := h
  refine z_icmp_ge (tgt := 75) hX dX9_addTo_35 (by decide) (fun hc => ?_) (fun hc => ?_)
  · have h := h1 hc
    exact zb_X9_addTo_75 hX hQ hnL h
  · have h := h2 hc
    refine z_aload_n (r := (some h0)) hX dX9_addTo_38 rfl 0 rfl ?_
    refine gf_RX9_18 (r := (some h0)) hX dX9_addTo_39 rfl hk24 ?_
    refine z_iload hX dX9_addTo_42 4 rfl ?_
    obtain ⟨a25, ha26, h⟩ := h
    obtain ⟨hk27, h⟩ := h
    obtain ⟨hc28, h⟩ := h
    refine y_lald (r := (mR M 578 h0)) hX dX9_addTo_44 ha26 hk27 hc28 ?_
    refine z_lload_n hX dX9_addTo_45 rfl 1 rfl ?_
    refine z_lcmp hX dX9_addTo_46 ?_
    obtain ⟨h1, h2⟩ := h
    refine z_if_ne (tgt := 75) hX dX9_addTo_47 (by decide) (fun hc => ?_) (fun hc => ?_)
    · have h := h1 (fun q => hc ((lg_cmp_eq _ _).mpr q))
      exact zb_X9_addTo_75 hX hQ hnL h
    · have h := h2 ((lg_cmp_eq _ _).mp hc)
      refine z_aload_n (r := (some h0)) hX dX9_addTo_50 rfl 0 rfl ?_
      refine gf_RX9_22 (r := (some h0)) hX dX9_addTo_51 rfl hk24 ?_
      refine z_iload hX dX9_addTo_54 4 rfl ?_
      obtain ⟨a29, ha30, h⟩ := h
      obtain ⟨hk31, h⟩ := h
      obtain ⟨hc32, h⟩ := h
      refine y_iald (r := (mR M 579 h0)) hX dX9_addTo_56 ha30 hk31 hc32 ?_
      refine z_iload_n hX dX9_addTo_57 rfl 2 rfl ?_
      obtain ⟨h1, h2⟩ := h
      refine z_icmp_ne (tgt := 75) hX dX9_addTo_58 (by decide) (fun hc => ?_) (fun hc => ?_)
      · have h := h1 hc
        exact zb_X9_addTo_75 hX hQ hnL h
      · have h := h2 hc
        refine z_aload_n (r := (some h0)) hX dX9_addTo_61 rfl 0 rfl ?_
        refine gf_RX9_26 (r := (some h0)) hX dX9_addTo_62 rfl hk24 ?_
        refine z_iload hX dX9_addTo_65 4 rfl ?_
        refine z_dup2_11 hX dX9_addTo_67 rfl (cat_rf _) ?_
        obtain ⟨a33, ha34, h⟩ := h
        obtain ⟨hk35, h⟩ := h
        obtain ⟨hc36, h⟩ := h
        refine y_iald (r := (mR M 580 h0)) hX dX9_addTo_68 ha34 hk35 hc36 ?_
        refine z_iload hX dX9_addTo_69 3 rfl ?_
        refine z_iadd hX dX9_addTo_71 ?_
        obtain ⟨hc37, h⟩ := h
        refine y_iast (r := (mR M 580 h0)) hX dX9_addTo_72 ha34 hk35 hc37 ?_
        refine z_iconst (v := (1 : Int32)) hX dX9_addTo_73 (by decide) ?_
        exact y_zret hX hQ dX9_addTo_74 (Or.inr rfl) h
def lp_X9_addTo_3 (h0 : Nat) (K : Int32 → Mm → Prop) : Nat → Int64 → Int32 → Int32 → Int32 → Mm → Prop
  | 0, _, _, _, _, _ => False
  | n + 1, l1, l3, l4, l5, M => mK M h0 = 10 ∧ (((mI M 581 h0) ≤ l5 → (bk_X9_addTo_29 h0 K l1 l3 l4 l5 M)) ∧ (¬ (mI M 581 h0) ≤ l5 → (wp_X9_isAhead M h0 l5 l1 l3 (fun r39 M40 => ((r39 = 0 → (bk_X9_addTo_29 h0 K l1 l3 l4 l5 M40)) ∧ (¬ r39 = 0 → ((lp_X9_addTo_3 h0 K n) l1 l3 l4 (l5 + 1) M40)))))))
set_option maxRecDepth 100000 in
set_option maxHeartbeats 4000000 in
theorem zl_X9_addTo_3 {X : Cx} {h0 : Nat} {K : Int32 → Mm → Prop} (hX : Ok X cX9_addTo RX9 rm_X9_addTo) (hQ : Rq X rm_X9_addTo (some .boolean) (QI K)) (hnL : X.2.2.2.2.2.2.2.2.2.2.2.2.2.2 = 7) : ∀ (n : Nat) (l1 : Int64) (l3 : Int32) (l4 : Int32) (l5 : Int32) (M : Mm), lp_X9_addTo_3 h0 K n l1 l3 l4 l5 M → Z X M 0 0 3 [(0, va_rf (some h0)), (1, .long l1), (3, .int l3), (4, .int l4), (5, .int l5)] [] := by
  intro n
  induction n with
  | zero =>
    intro l1 l3 l4 l5 M h
    exact False.elim h
  | succ n hR3 =>
    intro l1 l3 l4 l5 M h
    refine z_iload hX dX9_addTo_3 4 rfl ?_
    refine z_aload_n (r := (some h0)) hX dX9_addTo_5 rfl 0 rfl ?_
    obtain ⟨hk38, h⟩ := h
    refine gf_RX9_39 (r := (some h0)) hX dX9_addTo_6 rfl hk38 ?_
    obtain ⟨h1, h2⟩ := h
    refine z_icmp_ge (tgt := 29) hX dX9_addTo_9 (by decide) (fun hc => ?_) (fun hc => ?_)
    · have h := h1 hc
      exact zb_X9_addTo_29 hX hQ hnL h
    · have h := h2 hc
      refine z_aload_n (r := (some h0)) hX dX9_addTo_12 rfl 0 rfl ?_
      refine z_iload hX dX9_addTo_13 4 rfl ?_
      refine z_lload_n hX dX9_addTo_15 rfl 1 rfl ?_
      refine z_iload_n hX dX9_addTo_16 rfl 2 rfl ?_
      refine z_callVI (As := [.int l5, .long l1, .int l3]) (rest := []) (ci := 9) hX (ct_X9_isAhead h) mw_RX9_43 rfl (by decide) rfl (by rfl) (by unfold RoomC; decide) (by decide) dX9_addTo_17 hk38 (fun r39 M40 h => ?_)
      obtain ⟨h1, h2⟩ := h
      refine z_if_eq (tgt := 29) hX dX9_addTo_20 (by decide) (fun hc => ?_) (fun hc => ?_)
      · have h := h1 hc
        exact zb_X9_addTo_29 hX hQ hnL h
      · have h := h2 hc
        refine z_iinc (v := (l5 + 1)) hX [(5, .int (l5 + 1)), (0, va_rf (some h0)), (1, .long l1), (3, .int l3), (4, .int l4)] dX9_addTo_23 4 rfl rfl (by rw [hnL]; decide) rfl ?_
        refine z_goto (tgt := 3) hX dX9_addTo_26 (by decide) ?_
        refine z_loc [1, 2, 3, 4, 0] rfl ?_
        exact hR3 _ _ _ _ _ h
def wp_X9_addTo (M : Mm) (h0 : Nat) (p1 : Int64) (p2 : Int32) (p3 : Int32) (K : Int32 → Mm → Prop) : Prop := (∃ kk, lp_X9_addTo_3 h0 K kk p1 p2 p3 (0 : Int32) M)
set_option maxRecDepth 100000 in
set_option maxHeartbeats 4000000 in
theorem ct_X9_addTo {M : Mm} {h0 : Nat} {p1 : Int64} {p2 : Int32} {p3 : Int32} {K : Int32 → Mm → Prop} (h : wp_X9_addTo M h0 p1 p2 p3 K) : CtI yX9_addTo cX9_addTo 7 (some .boolean) rm_X9_addTo [.ref h0, .long p1, .int p2, .int p3] M K := by
  refine ct_any (QI K) (by decide) (by exact Nat.le_of_ble_eq_true rfl) (fun X hX hQ hnL hnm => ?_)
  rw [show lv_args 0 [.ref h0, .long p1, .int p2, .int p3] = [(0, va_rf (some h0)), (1, .long p1), (3, .int p2), (4, .int p3)] by rfl]
  have hX : Ok X cX9_addTo RX9 rm_X9_addTo := hX
  unfold wp_X9_addTo at h
  refine z_iconst (v := (0 : Int32)) hX dX9_addTo_0 (by decide) ?_
  refine z_istore hX [(5, .int (0 : Int32)), (0, va_rf (some h0)), (1, .long p1), (3, .int p2), (4, .int p3)] dX9_addTo_1 (by rw [hnL]; decide) rfl ?_
  refine z_loc [1, 2, 3, 4, 0] rfl ?_
  obtain ⟨n, h⟩ := h
  exact zl_X9_addTo_3 hX hQ hnL n _ _ _ _ _ h
def rm_X9_lastTime : Room := { frames := 2, cells := 0, slots := 0, locals := 46 }
def wp_X9_lastTime (M : Mm) (h0 : Nat) (p1 : Int32) (K : Int64 → Mm → Prop) : Prop := mK M h0 = 10 ∧ ∃ a2, (mR M 578 h0) = some a2 ∧ isA M a2 2 ∧ vp_in p1 (aN M a2) ∧ (wp_X10_together M (aJ M a2 (p1).toNatClampNeg) ((mJ M 576 h0) - (1 : Int64)) (fun r6 M7 => (K r6 M7)))
set_option maxRecDepth 100000 in
set_option maxHeartbeats 4000000 in
theorem ct_X9_lastTime {M : Mm} {h0 : Nat} {p1 : Int32} {K : Int64 → Mm → Prop} (h : wp_X9_lastTime M h0 p1 K) : CtJ yX9_lastTime cX9_lastTime 2 (some .long) rm_X9_lastTime [.ref h0, .int p1] M K := by
  refine ct_any (QJ K) (by decide) (by exact Nat.le_of_ble_eq_true rfl) (fun X hX hQ hnL hnm => ?_)
  rw [show lv_args 0 [.ref h0, .int p1] = [(0, va_rf (some h0)), (1, .int p1)] by rfl]
  have hX : Ok X cX9_lastTime RX9 rm_X9_lastTime := hX
  unfold wp_X9_lastTime at h
  refine z_aload_n (r := (some h0)) hX dX9_lastTime_0 rfl 0 rfl ?_
  obtain ⟨hk1, h⟩ := h
  refine gf_RX9_18 (r := (some h0)) hX dX9_lastTime_1 rfl hk1 ?_
  refine z_iload_n hX dX9_lastTime_4 rfl 1 rfl ?_
  obtain ⟨a2, ha3, h⟩ := h
  obtain ⟨hk4, h⟩ := h
  obtain ⟨hc5, h⟩ := h
  refine y_lald (r := (mR M 578 h0)) hX dX9_lastTime_5 ha3 hk4 hc5 ?_
  refine z_aload_n (r := (some h0)) hX dX9_lastTime_6 rfl 0 rfl ?_
  refine gf_RX9_9 (r := (some h0)) hX dX9_lastTime_7 rfl hk1 ?_
  refine z_lconst (v := (1 : Int64)) hX dX9_lastTime_10 (by decide) ?_
  refine z_lsub hX dX9_lastTime_11 ?_
  refine z_callNJ (As := [.long (aJ M a2 (p1).toNatClampNeg), .long ((mJ M 576 h0) - (1 : Int64))]) (rest := []) hX (ct_X10_together h) mw_RX9_51 rfl (by rfl) (by unfold RoomC; decide) (by decide) dX9_lastTime_12 (fun r6 M7 h => ?_)
  exact z_lret hX hQ dX9_lastTime_15 h
def rm_X10_part : Room := { frames := 3, cells := 0, slots := 0, locals := 72 }
def bk_X10_part_41 (h0 : Nat) (K : Int32 → Mm → Prop) (s0 : Int32) (M : Mm) : Prop := (K s0 M)
set_option maxRecDepth 100000 in
set_option maxHeartbeats 4000000 in
theorem zb_X10_part_41 {X : Cx} {h0 : Nat} {K : Int32 → Mm → Prop} (hX : Ok X cX10_part RX10 rm_X10_part) (hQ : Rq X rm_X10_part (some .int) (QI K)) (hnL : X.2.2.2.2.2.2.2.2.2.2.2.2.2.2 = 4) {s0 : Int32} {M : Mm} (h : bk_X10_part_41 h0 K s0 M) : Z X M 0 0 41 [] [.int s0] := by
  unfold bk_X10_part_41 at h
  exact z_iret hX hQ dX10_part_41 h
def wp_X10_part (M : Mm) (h0 : Nat) (p1 : Int32) (p2 : Int32) (K : Int32 → Mm → Prop) : Prop := mK M h0 = 11 ∧ (wp_X10_sourceWith M h0 p1 p2 (fun r1 M2 => ((r1 = none → (K (-1 : Int32) M2)) ∧ (∀ a5, r1 = some a5 → mK M2 h0 = 11 ∧ mK M2 a5 = 7 ∧ ∃ a11, (mR M2 644 h0) = some a11 ∧ mK M2 a11 = 2 ∧ (wp_X1_isStopped M2 a11 (mR M2 393 a5) p2 (fun r9 M10 => ((r9 = 0 → mK M10 a5 = 7 ∧ ∃ a16, (mR M10 393 a5) = some a16 ∧ mK M10 a16 = 6 ∧ ∃ a19, (mR M10 324 a16) = some a19 ∧ isA M10 a19 1 ∧ vp_in p2 (aN M10 a19) ∧ (bk_X10_part_41 h0 K (aI M10 a19 (p2).toNatClampNeg) M10)) ∧ (¬ r9 = 0 → (bk_X10_part_41 h0 K (3 : Int32) M10)))))))))
set_option maxRecDepth 100000 in
set_option maxHeartbeats 4000000 in
theorem ct_X10_part {M : Mm} {h0 : Nat} {p1 : Int32} {p2 : Int32} {K : Int32 → Mm → Prop} (h : wp_X10_part M h0 p1 p2 K) : CtI yX10_part cX10_part 4 (some .int) rm_X10_part [.ref h0, .int p1, .int p2] M K := by
  refine ct_any (QI K) (by decide) (by exact Nat.le_of_ble_eq_true rfl) (fun X hX hQ hnL hnm => ?_)
  rw [show lv_args 0 [.ref h0, .int p1, .int p2] = [(0, va_rf (some h0)), (1, .int p1), (2, .int p2)] by rfl]
  have hX : Ok X cX10_part RX10 rm_X10_part := hX
  unfold wp_X10_part at h
  refine z_aload_n (r := (some h0)) hX dX10_part_0 rfl 0 rfl ?_
  refine z_iload_n hX dX10_part_1 rfl 1 rfl ?_
  refine z_iload_n hX dX10_part_2 rfl 2 rfl ?_
  obtain ⟨hk3, h⟩ := h
  refine z_callVR (As := [.int p1, .int p2]) (rest := []) (ci := 10) hX (ct_X10_sourceWith h) mw_RX10_76 rfl (by decide) rfl (by rfl) (by unfold RoomC; decide) (by decide) dX10_part_3 hk3 (fun r1 M2 h => ?_)
  refine z_astore_n (r := r1) hX [(3, va_rf r1), (0, va_rf (some h0)), (1, .int p1), (2, .int p2)] dX10_part_6 rfl (by rw [hnL]; decide) rfl ?_
  refine z_aload_n (r := r1) hX dX10_part_7 rfl 0 rfl ?_
  obtain ⟨h1, h2⟩ := h
  refine z_ifnonnull (r := r1) (tgt := 13) hX dX10_part_8 (by decide) (fun a5 ha6 => ?_) (fun hc => ?_)
  · have h := h2 a5 ha6
    refine z_aload_n (r := (some h0)) hX dX10_part_13 rfl 1 rfl ?_
    obtain ⟨hk7, h⟩ := h
    refine gf_RX10_31 (r := (some h0)) hX dX10_part_14 rfl hk7 ?_
    refine z_aload_n (r := r1) hX dX10_part_17 rfl 0 rfl ?_
    obtain ⟨hk8, h⟩ := h
    refine gf_RX10_88 (r := r1) hX dX10_part_18 ha6 hk8 ?_
    refine z_iload_n hX dX10_part_21 rfl 3 rfl ?_
    obtain ⟨a11, ha12, h⟩ := h
    obtain ⟨hk13, h⟩ := h
    refine z_callVI (As := [va_rf (mR M2 393 a5), .int p2]) (rest := []) (ci := 1) hX (ct_X1_isStopped h) mw_RX10_188 rfl (by decide) rfl (by rw [ha12]; rfl) (by unfold RoomC; decide) (by decide) dX10_part_22 hk13 (fun r9 M10 h => ?_)
    obtain ⟨h1, h2⟩ := h
    refine z_if_eq (tgt := 32) hX dX10_part_25 (by decide) (fun hc => ?_) (fun hc => ?_)
    · have h := h1 hc
      refine z_aload_n (r := r1) hX dX10_part_32 rfl 0 rfl ?_
      obtain ⟨hk15, h⟩ := h
      refine gf_RX10_88 (r := r1) hX dX10_part_33 ha6 hk15 ?_
      obtain ⟨a16, ha17, h⟩ := h
      obtain ⟨hk18, h⟩ := h
      refine gf_RX10_118 (r := (mR M10 393 a5)) hX dX10_part_36 ha17 hk18 ?_
      refine z_iload_n hX dX10_part_39 rfl 3 rfl ?_
      obtain ⟨a19, ha20, h⟩ := h
      obtain ⟨hk21, h⟩ := h
      obtain ⟨hc22, h⟩ := h
      refine y_iald (r := (mR M10 324 a16)) hX dX10_part_40 ha20 hk21 hc22 ?_
      refine z_loc [] rfl ?_
      exact zb_X10_part_41 hX hQ hnL h
    · have h := h2 hc
      refine z_iconst (v := (3 : Int32)) hX dX10_part_28 (by decide) ?_
      refine z_goto (tgt := 41) hX dX10_part_29 (by decide) ?_
      refine z_loc [] rfl ?_
      exact zb_X10_part_41 hX hQ hnL h
  · have h := h1 hc
    refine z_iconst (v := (-1 : Int32)) hX dX10_part_11 (by decide) ?_
    exact z_iret hX hQ dX10_part_12 h
def rm_X10_print : Room := { frames := 5, cells := 0, slots := 0, locals := 114 }
def wp_X10_print (M : Mm) (h0 : Nat) (K : Int32 → Mm → Prop) : Prop := mK M h0 = 11 ∧ (((mR M 644 h0) = none → (K (-1 : Int32) M)) ∧ (∀ a2, (mR M 644 h0) = some a2 → ∃ a6, (mR M 641 h0) = some a6 ∧ mK M a6 = 1 ∧ (wp_X0_clear M a6 (fun M5 => mK M5 h0 = 11 ∧ ∃ a13, (mR M5 644 h0) = some a13 ∧ mK M5 a13 = 2 ∧ (wp_X1_write M5 a13 (mR M5 641 h0) (fun M12 => mK M12 h0 = 11 ∧ ∃ a18, (mR M12 641 h0) = some a18 ∧ mK M12 a18 = 1 ∧ (K (mI M12 1 a18) M12)))))))
set_option maxRecDepth 100000 in
set_option maxHeartbeats 4000000 in
theorem ct_X10_print {M : Mm} {h0 : Nat} {K : Int32 → Mm → Prop} (h : wp_X10_print M h0 K) : CtI yX10_print cX10_print 1 (some .int) rm_X10_print [.ref h0] M K := by
  refine ct_any (QI K) (by decide) (by exact Nat.le_of_ble_eq_true rfl) (fun X hX hQ hnL hnm => ?_)
  rw [show lv_args 0 [.ref h0] = [(0, va_rf (some h0))] by rfl]
  have hX : Ok X cX10_print RX10 rm_X10_print := hX
  unfold wp_X10_print at h
  refine z_aload_n (r := (some h0)) hX dX10_print_0 rfl 0 rfl ?_
  obtain ⟨hk1, h⟩ := h
  refine gf_RX10_31 (r := (some h0)) hX dX10_print_1 rfl hk1 ?_
  obtain ⟨h1, h2⟩ := h
  refine z_ifnonnull (r := (mR M 644 h0)) (tgt := 9) hX dX10_print_4 (by decide) (fun a2 ha3 => ?_) (fun hc => ?_)
  · have h := h2 a2 ha3
    refine z_aload_n (r := (some h0)) hX dX10_print_9 rfl 0 rfl ?_
    refine gf_RX10_18 (r := (some h0)) hX dX10_print_10 rfl hk1 ?_
    obtain ⟨a6, ha7, h⟩ := h
    obtain ⟨hk8, h⟩ := h
    refine z_callVV (As := []) (rest := []) (ci := 0) hX (ct_X0_clear h) mw_RX10_64 rfl (by decide) rfl (by rw [ha7]; rfl) (by unfold RoomC; decide) (by decide) dX10_print_13 hk8 (fun M5 h => ?_)
    refine z_aload_n (r := (some h0)) hX dX10_print_16 rfl 0 rfl ?_
    obtain ⟨hk10, h⟩ := h
    refine gf_RX10_31 (r := (some h0)) hX dX10_print_17 rfl hk10 ?_
    refine z_aload_n (r := (some h0)) hX dX10_print_20 rfl 0 rfl ?_
    refine gf_RX10_18 (r := (some h0)) hX dX10_print_21 rfl hk10 ?_
    obtain ⟨a13, ha14, h⟩ := h
    obtain ⟨hk15, h⟩ := h
    refine z_callVV (As := [va_rf (mR M5 641 h0)]) (rest := []) (ci := 1) hX (ct_X1_write h) mw_RX10_239 rfl (by decide) rfl (by rw [ha14]; rfl) (by unfold RoomC; decide) (by decide) dX10_print_24 hk15 (fun M12 h => ?_)
    refine z_aload_n (r := (some h0)) hX dX10_print_27 rfl 0 rfl ?_
    obtain ⟨hk17, h⟩ := h
    refine gf_RX10_18 (r := (some h0)) hX dX10_print_28 rfl hk17 ?_
    obtain ⟨a18, ha19, h⟩ := h
    obtain ⟨hk20, h⟩ := h
    refine gf_RX10_39 (r := (mR M12 641 h0)) hX dX10_print_31 ha19 hk20 ?_
    exact z_iret hX hQ dX10_print_34 h
  · have h := h1 hc
    refine z_iconst (v := (-1 : Int32)) hX dX10_print_7 (by decide) ?_
    exact z_iret hX hQ dX10_print_8 h
def rm_X11_put : Room := { frames := 1, cells := 0, slots := 0, locals := 25 }
def bk_X11_put_223 (h0 : Nat) (R62 : Int32 → Int64 → Int32 → Int32 → Int64 → Int64 → Mm → Prop) (K : Mm → Prop) (l1 : Int32) (l2 : Int64) (l4 : Int32) (l5 : Int32) (l8 : Int64) (l12 : Int64) (M : Mm) : Prop := (R62 l1 l2 l4 l5 l8 (l12 + l8) M)
set_option maxRecDepth 100000 in
set_option maxHeartbeats 4000000 in
theorem zb_X11_put_223 {X : Cx} {h0 : Nat} {R62 : Int32 → Int64 → Int32 → Int32 → Int64 → Int64 → Mm → Prop} {K : Mm → Prop} (hX : Ok X cX11_put RX11 rm_X11_put) (hQ : Rq X rm_X11_put none (QV K)) (hnL : X.2.2.2.2.2.2.2.2.2.2.2.2.2.2 = 15) (hR62 : ∀ l1 l2 l4 l5 l8 l12 M, R62 l1 l2 l4 l5 l8 l12 M → Z X M 0 0 62 [(0, va_rf (some h0)), (1, .int l1), (2, .long l2), (4, .int l4), (5, .int l5), (8, .long l8), (12, .long l12)] []) {l1 : Int32} {l2 : Int64} {l4 : Int32} {l5 : Int32} {l8 : Int64} {l12 : Int64} {M : Mm} (h : bk_X11_put_223 h0 R62 K l1 l2 l4 l5 l8 l12 M) : Z X M 0 0 223 [(0, va_rf (some h0)), (1, .int l1), (2, .long l2), (4, .int l4), (5, .int l5), (8, .long l8), (12, .long l12)] [] := by
  unfold bk_X11_put_223 at h
  refine z_lload hX dX11_put_223 6 rfl ?_
  refine z_lload hX dX11_put_225 5 rfl ?_
  refine z_ladd hX dX11_put_227 ?_
  refine z_lstore hX [(12, .long (l12 + l8)), (0, va_rf (some h0)), (1, .int l1), (2, .long l2), (4, .int l4), (5, .int l5), (8, .long l8)] dX11_put_228 (by rw [hnL]; decide) rfl ?_
  refine z_goto (tgt := 62) hX dX11_put_230 (by decide) ?_
  refine z_loc [1, 2, 3, 4, 5, 6, 0] rfl ?_
  exact hR62 _ _ _ _ _ _ _ h
def bk_X11_put_206 (h0 : Nat) (R62 : Int32 → Int64 → Int32 → Int32 → Int64 → Int64 → Mm → Prop) (K : Mm → Prop) (l1 : Int32) (l2 : Int64) (l4 : Int32) (l5 : Int32) (l8 : Int64) (l12 : Int64) (l14 : Int32) (M : Mm) : Prop := mK M h0 = 12 ∧ ∃ a2, (mR M 747 h0) = some a2 ∧ isA M a2 1 ∧ vp_in (((24 : Int32) * l1) + l14) (aN M a2) ∧ vp_in (((24 : Int32) * l1) + l14) (aN M a2) ∧ (bk_X11_put_223 h0 R62 K l1 l2 l4 l5 l8 l12 (tI M a2 ((((24 : Int32) * l1) + l14)).toNatClampNeg ((aI M a2 ((((24 : Int32) * l1) + l14)).toNatClampNeg) + l5)))
set_option maxRecDepth 100000 in
set_option maxHeartbeats 4000000 in
theorem zb_X11_put_206 {X : Cx} {h0 : Nat} {R62 : Int32 → Int64 → Int32 → Int32 → Int64 → Int64 → Mm → Prop} {K : Mm → Prop} (hX : Ok X cX11_put RX11 rm_X11_put) (hQ : Rq X rm_X11_put none (QV K)) (hnL : X.2.2.2.2.2.2.2.2.2.2.2.2.2.2 = 15) (hR62 : ∀ l1 l2 l4 l5 l8 l12 M, R62 l1 l2 l4 l5 l8 l12 M → Z X M 0 0 62 [(0, va_rf (some h0)), (1, .int l1), (2, .long l2), (4, .int l4), (5, .int l5), (8, .long l8), (12, .long l12)] []) {l1 : Int32} {l2 : Int64} {l4 : Int32} {l5 : Int32} {l8 : Int64} {l12 : Int64} {l14 : Int32} {M : Mm} (h : bk_X11_put_206 h0 R62 K l1 l2 l4 l5 l8 l12 l14 M) : Z X M 0 0 206 [(0, va_rf (some h0)), (1, .int l1), (2, .long l2), (4, .int l4), (5, .int l5), (8, .long l8), (12, .long l12), (14, .int l14)] [] := by
  unfold bk_X11_put_206 at h
  refine z_aload_n (r := (some h0)) hX dX11_put_206 rfl 0 rfl ?_
  obtain ⟨hk1, h⟩ := h
  refine gf_RX11_93 (r := (some h0)) hX dX11_put_207 rfl hk1 ?_
  refine z_bipush (v := (24 : Int32)) hX dX11_put_210 (by decide) ?_
  refine z_iload_n hX dX11_put_212 rfl 1 rfl ?_
  refine z_imul hX dX11_put_213 ?_
  refine z_iload hX dX11_put_214 7 rfl ?_
  refine z_iadd hX dX11_put_216 ?_
  refine z_dup2_11 hX dX11_put_217 rfl (cat_rf _) ?_
  obtain ⟨a2, ha3, h⟩ := h
  obtain ⟨hk4, h⟩ := h
  obtain ⟨hc5, h⟩ := h
  refine y_iald (r := (mR M 747 h0)) hX dX11_put_218 ha3 hk4 hc5 ?_
  refine z_iload hX dX11_put_219 4 rfl ?_
  refine z_iadd hX dX11_put_221 ?_
  obtain ⟨hc6, h⟩ := h
  refine y_iast (r := (mR M 747 h0)) hX dX11_put_222 ha3 hk4 hc6 ?_
  refine z_loc [0, 1, 2, 3, 4, 5, 6] rfl ?_
  exact zb_X11_put_223 hX hQ hnL hR62 h
def bk_X11_put_124 (h0 : Nat) (R62 : Int32 → Int64 → Int32 → Int32 → Int64 → Int64 → Mm → Prop) (K : Mm → Prop) (l1 : Int32) (l2 : Int64) (l4 : Int32) (l5 : Int32) (l8 : Int64) (l12 : Int64) (l14 : Int32) (M : Mm) : Prop := ((¬ l14 = (24 : Int32) → mK M h0 = 12 ∧ ∃ a8, (mR M 744 h0) = some a8 ∧ isA M a8 1 ∧ vp_in l1 (aN M a8) ∧ ((¬ l14 = (aI M a8 (l1).toNatClampNeg) → (bk_X11_put_206 h0 R62 K l1 l2 l4 l5 l8 l12 l14 M)) ∧ (l14 = (aI M a8 (l1).toNatClampNeg) → ∃ a12, (mR M 745 h0) = some a12 ∧ isA M a12 2 ∧ vp_in (((24 : Int32) * l1) + l14) (aN M a12) ∧ ∃ a16, (mR (tJ M a12 ((((24 : Int32) * l1) + l14)).toNatClampNeg l12) 746 h0) = some a16 ∧ isA (tJ M a12 ((((24 : Int32) * l1) + l14)).toNatClampNeg l12) a16 1 ∧ vp_in (((24 : Int32) * l1) + l14) (aN (tJ M a12 ((((24 : Int32) * l1) + l14)).toNatClampNeg l12) a16) ∧ ∃ a20, (mR (tI (tJ M a12 ((((24 : Int32) * l1) + l14)).toNatClampNeg l12) a16 ((((24 : Int32) * l1) + l14)).toNatClampNeg l4) 747 h0) = some a20 ∧ isA (tI (tJ M a12 ((((24 : Int32) * l1) + l14)).toNatClampNeg l12) a16 ((((24 : Int32) * l1) + l14)).toNatClampNeg l4) a20 1 ∧ vp_in (((24 : Int32) * l1) + l14) (aN (tI (tJ M a12 ((((24 : Int32) * l1) + l14)).toNatClampNeg l12) a16 ((((24 : Int32) * l1) + l14)).toNatClampNeg l4) a20) ∧ ∃ a24, (mR (tI (tI (tJ M a12 ((((24 : Int32) * l1) + l14)).toNatClampNeg l12) a16 ((((24 : Int32) * l1) + l14)).toNatClampNeg l4) a20 ((((24 : Int32) * l1) + l14)).toNatClampNeg (0 : Int32)) 744 h0) = some a24 ∧ isA (tI (tI (tJ M a12 ((((24 : Int32) * l1) + l14)).toNatClampNeg l12) a16 ((((24 : Int32) * l1) + l14)).toNatClampNeg l4) a20 ((((24 : Int32) * l1) + l14)).toNatClampNeg (0 : Int32)) a24 1 ∧ vp_in l1 (aN (tI (tI (tJ M a12 ((((24 : Int32) * l1) + l14)).toNatClampNeg l12) a16 ((((24 : Int32) * l1) + l14)).toNatClampNeg l4) a20 ((((24 : Int32) * l1) + l14)).toNatClampNeg (0 : Int32)) a24) ∧ vp_in l1 (aN (tI (tI (tJ M a12 ((((24 : Int32) * l1) + l14)).toNatClampNeg l12) a16 ((((24 : Int32) * l1) + l14)).toNatClampNeg l4) a20 ((((24 : Int32) * l1) + l14)).toNatClampNeg (0 : Int32)) a24) ∧ (bk_X11_put_206 h0 R62 K l1 l2 l4 l5 l8 l12 l14 (tI (tI (tI (tJ M a12 ((((24 : Int32) * l1) + l14)).toNatClampNeg l12) a16 ((((24 : Int32) * l1) + l14)).toNatClampNeg l4) a20 ((((24 : Int32) * l1) + l14)).toNatClampNeg (0 : Int32)) a24 (l1).toNatClampNeg ((aI (tI (tI (tJ M a12 ((((24 : Int32) * l1) + l14)).toNatClampNeg l12) a16 ((((24 : Int32) * l1) + l14)).toNatClampNeg l4) a20 ((((24 : Int32) * l1) + l14)).toNatClampNeg (0 : Int32)) a24 (l1).toNatClampNeg) + (1 : Int32))))))) ∧ (l14 = (24 : Int32) → mK M h0 = 12 ∧ (bk_X11_put_223 h0 R62 K l1 l2 l4 l5 l8 l12 (sI M 743 h0 ((mI M 743 h0) + (1 : Int32))))))
set_option maxRecDepth 100000 in
set_option maxHeartbeats 4000000 in
theorem zb_X11_put_124 {X : Cx} {h0 : Nat} {R62 : Int32 → Int64 → Int32 → Int32 → Int64 → Int64 → Mm → Prop} {K : Mm → Prop} (hX : Ok X cX11_put RX11 rm_X11_put) (hQ : Rq X rm_X11_put none (QV K)) (hnL : X.2.2.2.2.2.2.2.2.2.2.2.2.2.2 = 15) (hR62 : ∀ l1 l2 l4 l5 l8 l12 M, R62 l1 l2 l4 l5 l8 l12 M → Z X M 0 0 62 [(0, va_rf (some h0)), (1, .int l1), (2, .long l2), (4, .int l4), (5, .int l5), (8, .long l8), (12, .long l12)] []) {l1 : Int32} {l2 : Int64} {l4 : Int32} {l5 : Int32} {l8 : Int64} {l12 : Int64} {l14 : Int32} {M : Mm} (h : bk_X11_put_124 h0 R62 K l1 l2 l4 l5 l8 l12 l14 M) : Z X M 0 0 124 [(0, va_rf (some h0)), (1, .int l1), (2, .long l2), (4, .int l4), (5, .int l5), (8, .long l8), (12, .long l12), (14, .int l14)] [] := by
  unfold bk_X11_put_124 at h
  refine z_iload hX dX11_put_124 7 rfl ?_
  refine z_bipush (v := (24 : Int32)) hX dX11_put_126 (by decide) ?_
  obtain ⟨h1, h2⟩ := h
  refine z_icmp_ne (tgt := 144) hX dX11_put_128 (by decide) (fun hc => ?_) (fun hc => ?_)
  · have h := h1 hc
    refine z_iload hX dX11_put_144 7 rfl ?_
    refine z_aload_n (r := (some h0)) hX dX11_put_146 rfl 0 rfl ?_
    obtain ⟨hk7, h⟩ := h
    refine gf_RX11_84 (r := (some h0)) hX dX11_put_147 rfl hk7 ?_
    refine z_iload_n hX dX11_put_150 rfl 1 rfl ?_
    obtain ⟨a8, ha9, h⟩ := h
    obtain ⟨hk10, h⟩ := h
    obtain ⟨hc11, h⟩ := h
    refine y_iald (r := (mR M 744 h0)) hX dX11_put_151 ha9 hk10 hc11 ?_
    obtain ⟨h1, h2⟩ := h
    refine z_icmp_ne (tgt := 206) hX dX11_put_152 (by decide) (fun hc => ?_) (fun hc => ?_)
    · have h := h1 hc
      exact zb_X11_put_206 hX hQ hnL hR62 h
    · have h := h2 hc
      refine z_aload_n (r := (some h0)) hX dX11_put_155 rfl 0 rfl ?_
      refine gf_RX11_87 (r := (some h0)) hX dX11_put_156 rfl hk7 ?_
      refine z_bipush (v := (24 : Int32)) hX dX11_put_159 (by decide) ?_
      refine z_iload_n hX dX11_put_161 rfl 1 rfl ?_
      refine z_imul hX dX11_put_162 ?_
      refine z_iload hX dX11_put_163 7 rfl ?_
      refine z_iadd hX dX11_put_165 ?_
      refine z_lload hX dX11_put_166 6 rfl ?_
      obtain ⟨a12, ha13, h⟩ := h
      obtain ⟨hk14, h⟩ := h
      obtain ⟨hc15, h⟩ := h
      refine y_last (r := (mR M 745 h0)) hX dX11_put_168 ha13 hk14 hc15 ?_
      refine z_aload_n (r := (some h0)) hX dX11_put_169 rfl 0 rfl ?_
      refine gf_RX11_90 (r := (some h0)) hX dX11_put_170 rfl hk7 ?_
      refine z_bipush (v := (24 : Int32)) hX dX11_put_173 (by decide) ?_
      refine z_iload_n hX dX11_put_175 rfl 1 rfl ?_
      refine z_imul hX dX11_put_176 ?_
      refine z_iload hX dX11_put_177 7 rfl ?_
      refine z_iadd hX dX11_put_179 ?_
      refine z_iload hX dX11_put_180 3 rfl ?_
      obtain ⟨a16, ha17, h⟩ := h
      obtain ⟨hk18, h⟩ := h
      obtain ⟨hc19, h⟩ := h
      refine y_iast (r := (mR (tJ M a12 ((((24 : Int32) * l1) + l14)).toNatClampNeg l12) 746 h0)) hX dX11_put_182 ha17 hk18 hc19 ?_
      refine z_aload_n (r := (some h0)) hX dX11_put_183 rfl 0 rfl ?_
      refine gf_RX11_93 (r := (some h0)) hX dX11_put_184 rfl hk7 ?_
      refine z_bipush (v := (24 : Int32)) hX dX11_put_187 (by decide) ?_
      refine z_iload_n hX dX11_put_189 rfl 1 rfl ?_
      refine z_imul hX dX11_put_190 ?_
      refine z_iload hX dX11_put_191 7 rfl ?_
      refine z_iadd hX dX11_put_193 ?_
      refine z_iconst (v := (0 : Int32)) hX dX11_put_194 (by decide) ?_
      obtain ⟨a20, ha21, h⟩ := h
      obtain ⟨hk22, h⟩ := h
      obtain ⟨hc23, h⟩ := h
      refine y_iast (r := (mR (tI (tJ M a12 ((((24 : Int32) * l1) + l14)).toNatClampNeg l12) a16 ((((24 : Int32) * l1) + l14)).toNatClampNeg l4) 747 h0)) hX dX11_put_195 ha21 hk22 hc23 ?_
      refine z_aload_n (r := (some h0)) hX dX11_put_196 rfl 0 rfl ?_
      refine gf_RX11_84 (r := (some h0)) hX dX11_put_197 rfl hk7 ?_
      refine z_iload_n hX dX11_put_200 rfl 1 rfl ?_
      refine z_dup2_11 hX dX11_put_201 rfl (cat_rf _) ?_
      obtain ⟨a24, ha25, h⟩ := h
      obtain ⟨hk26, h⟩ := h
      obtain ⟨hc27, h⟩ := h
      refine y_iald (r := (mR (tI (tI (tJ M a12 ((((24 : Int32) * l1) + l14)).toNatClampNeg l12) a16 ((((24 : Int32) * l1) + l14)).toNatClampNeg l4) a20 ((((24 : Int32) * l1) + l14)).toNatClampNeg (0 : Int32)) 744 h0)) hX dX11_put_202 ha25 hk26 hc27 ?_
      refine z_iconst (v := (1 : Int32)) hX dX11_put_203 (by decide) ?_
      refine z_iadd hX dX11_put_204 ?_
      obtain ⟨hc28, h⟩ := h
      refine y_iast (r := (mR (tI (tI (tJ M a12 ((((24 : Int32) * l1) + l14)).toNatClampNeg l12) a16 ((((24 : Int32) * l1) + l14)).toNatClampNeg l4) a20 ((((24 : Int32) * l1) + l14)).toNatClampNeg (0 : Int32)) 744 h0)) hX dX11_put_205 ha25 hk26 hc28 ?_
      exact zb_X11_put_206 hX hQ hnL hR62 h
  · have h := h2 hc
    refine z_aload_n (r := (some h0)) hX dX11_put_131 rfl 0 rfl ?_
    refine z_dup hX dX11_put_132 (cat_rf _) ?_
    obtain ⟨hk29, h⟩ := h
    refine gf_RX11_289 (r := (some h0)) hX dX11_put_133 rfl hk29 ?_
    refine z_iconst (v := (1 : Int32)) hX dX11_put_136 (by decide) ?_
    refine z_iadd hX dX11_put_137 ?_
    refine pf_RX11_289 (r := (some h0)) (v := ((mI M 743 h0) + (1 : Int32))) hX dX11_put_138 rfl hk29 ?_
    refine z_goto (tgt := 223) hX dX11_put_141 (by decide) ?_
    refine z_loc [0, 1, 2, 3, 4, 5, 6] rfl ?_
    exact zb_X11_put_223 hX hQ hnL hR62 h
def bk_X11_put_118 (h0 : Nat) (R62 : Int32 → Int64 → Int32 → Int32 → Int64 → Int64 → Mm → Prop) (R72 : Int32 → Int64 → Int32 → Int32 → Int64 → Int64 → Int32 → Mm → Prop) (K : Mm → Prop) (l1 : Int32) (l2 : Int64) (l4 : Int32) (l5 : Int32) (l8 : Int64) (l12 : Int64) (l14 : Int32) (M : Mm) : Prop := (R72 l1 l2 l4 l5 l8 l12 (l14 + 1) M)
set_option maxRecDepth 100000 in
set_option maxHeartbeats 4000000 in
theorem zb_X11_put_118 {X : Cx} {h0 : Nat} {R62 : Int32 → Int64 → Int32 → Int32 → Int64 → Int64 → Mm → Prop} {R72 : Int32 → Int64 → Int32 → Int32 → Int64 → Int64 → Int32 → Mm → Prop} {K : Mm → Prop} (hX : Ok X cX11_put RX11 rm_X11_put) (hQ : Rq X rm_X11_put none (QV K)) (hnL : X.2.2.2.2.2.2.2.2.2.2.2.2.2.2 = 15) (hR62 : ∀ l1 l2 l4 l5 l8 l12 M, R62 l1 l2 l4 l5 l8 l12 M → Z X M 0 0 62 [(0, va_rf (some h0)), (1, .int l1), (2, .long l2), (4, .int l4), (5, .int l5), (8, .long l8), (12, .long l12)] []) (hR72 : ∀ l1 l2 l4 l5 l8 l12 l14 M, R72 l1 l2 l4 l5 l8 l12 l14 M → Z X M 0 0 72 [(0, va_rf (some h0)), (1, .int l1), (2, .long l2), (4, .int l4), (5, .int l5), (8, .long l8), (12, .long l12), (14, .int l14)] []) {l1 : Int32} {l2 : Int64} {l4 : Int32} {l5 : Int32} {l8 : Int64} {l12 : Int64} {l14 : Int32} {M : Mm} (h : bk_X11_put_118 h0 R62 R72 K l1 l2 l4 l5 l8 l12 l14 M) : Z X M 0 0 118 [(0, va_rf (some h0)), (1, .int l1), (2, .long l2), (4, .int l4), (5, .int l5), (8, .long l8), (12, .long l12), (14, .int l14)] [] := by
  unfold bk_X11_put_118 at h
  refine z_iinc (v := (l14 + 1)) hX [(14, .int (l14 + 1)), (0, va_rf (some h0)), (1, .int l1), (2, .long l2), (4, .int l4), (5, .int l5), (8, .long l8), (12, .long l12)] dX11_put_118 7 rfl rfl (by rw [hnL]; decide) rfl ?_
  refine z_goto (tgt := 72) hX dX11_put_121 (by decide) ?_
  refine z_loc [1, 2, 3, 4, 5, 6, 7, 0] rfl ?_
  exact hR72 _ _ _ _ _ _ _ _ h
def lp_X11_put_72 (h0 : Nat) (R62 : Int32 → Int64 → Int32 → Int32 → Int64 → Int64 → Mm → Prop) (K : Mm → Prop) : Nat → Int32 → Int64 → Int32 → Int32 → Int64 → Int64 → Int32 → Mm → Prop
  | 0, _, _, _, _, _, _, _, _ => False
  | n + 1, l1, l2, l4, l5, l8, l12, l14, M => mK M h0 = 12 ∧ ∃ a32, (mR M 744 h0) = some a32 ∧ isA M a32 1 ∧ vp_in l1 (aN M a32) ∧ (((aI M a32 (l1).toNatClampNeg) ≤ l14 → (bk_X11_put_124 h0 R62 K l1 l2 l4 l5 l8 l12 l14 M)) ∧ (¬ (aI M a32 (l1).toNatClampNeg) ≤ l14 → ∃ a36, (mR M 745 h0) = some a36 ∧ isA M a36 2 ∧ vp_in (((24 : Int32) * l1) + l14) (aN M a36) ∧ ((¬ (aJ M a36 ((((24 : Int32) * l1) + l14)).toNatClampNeg) = l12 → (bk_X11_put_118 h0 R62 (lp_X11_put_72 h0 R62 K n) K l1 l2 l4 l5 l8 l12 l14 M)) ∧ ((aJ M a36 ((((24 : Int32) * l1) + l14)).toNatClampNeg) = l12 → ∃ a40, (mR M 746 h0) = some a40 ∧ isA M a40 1 ∧ vp_in (((24 : Int32) * l1) + l14) (aN M a40) ∧ (((aI M a40 ((((24 : Int32) * l1) + l14)).toNatClampNeg) = l4 → (bk_X11_put_124 h0 R62 K l1 l2 l4 l5 l8 l12 l14 M)) ∧ (¬ (aI M a40 ((((24 : Int32) * l1) + l14)).toNatClampNeg) = l4 → (bk_X11_put_118 h0 R62 (lp_X11_put_72 h0 R62 K n) K l1 l2 l4 l5 l8 l12 l14 M)))))))
set_option maxRecDepth 100000 in
set_option maxHeartbeats 4000000 in
theorem zl_X11_put_72 {X : Cx} {h0 : Nat} {R62 : Int32 → Int64 → Int32 → Int32 → Int64 → Int64 → Mm → Prop} {K : Mm → Prop} (hX : Ok X cX11_put RX11 rm_X11_put) (hQ : Rq X rm_X11_put none (QV K)) (hnL : X.2.2.2.2.2.2.2.2.2.2.2.2.2.2 = 15) (hR62 : ∀ l1 l2 l4 l5 l8 l12 M, R62 l1 l2 l4 l5 l8 l12 M → Z X M 0 0 62 [(0, va_rf (some h0)), (1, .int l1), (2, .long l2), (4, .int l4), (5, .int l5), (8, .long l8), (12, .long l12)] []) : ∀ (n : Nat) (l1 : Int32) (l2 : Int64) (l4 : Int32) (l5 : Int32) (l8 : Int64) (l12 : Int64) (l14 : Int32) (M : Mm), lp_X11_put_72 h0 R62 K n l1 l2 l4 l5 l8 l12 l14 M → Z X M 0 0 72 [(0, va_rf (some h0)), (1, .int l1), (2, .long l2), (4, .int l4), (5, .int l5), (8, .long l8), (12, .long l12), (14, .int l14)] [] := by
  intro n
  induction n with
  | zero =>
    intro l1 l2 l4 l5 l8 l12 l14 M h
    exact False.elim h
  | succ n hR72 =>
    intro l1 l2 l4 l5 l8 l12 l14 M h
    refine z_iload hX dX11_put_72 7 rfl ?_
    refine z_aload_n (r := (some h0)) hX dX11_put_74 rfl 0 rfl ?_
    obtain ⟨hk31, h⟩ := h
    refine gf_RX11_84 (r := (some h0)) hX dX11_put_75 rfl hk31 ?_
    refine z_iload_n hX dX11_put_78 rfl 1 rfl ?_
    obtain ⟨a32, ha33, h⟩ := h
    obtain ⟨hk34, h⟩ := h
    obtain ⟨hc35, h⟩ := h
    refine y_iald (r := (mR M 744 h0)) hX dX11_put_79 ha33 hk34 hc35 ?_
    obtain ⟨h1, h2⟩ := h
    refine z_icmp_ge (tgt := 124) hX dX11_put_80 (by decide) (fun hc => ?_) (fun hc => ?_)
    · have h := h1 hc
      exact zb_X11_put_124 hX hQ hnL hR62 h
    · have h := h2 hc
      refine z_aload_n (r := (some h0)) hX dX11_put_83 rfl 0 rfl ?_
      refine gf_RX11_87 (r := (some h0)) hX dX11_put_84 rfl hk31 ?_
      refine z_bipush (v := (24 : Int32)) hX dX11_put_87 (by decide) ?_
      refine z_iload_n hX dX11_put_89 rfl 1 rfl ?_
      refine z_imul hX dX11_put_90 ?_
      refine z_iload hX dX11_put_91 7 rfl ?_
      refine z_iadd hX dX11_put_93 ?_
      obtain ⟨a36, ha37, h⟩ := h
      obtain ⟨hk38, h⟩ := h
      obtain ⟨hc39, h⟩ := h
      refine y_lald (r := (mR M 745 h0)) hX dX11_put_94 ha37 hk38 hc39 ?_
      refine z_lload hX dX11_put_95 6 rfl ?_
      refine z_lcmp hX dX11_put_97 ?_
      obtain ⟨h1, h2⟩ := h
      refine z_if_ne (tgt := 118) hX dX11_put_98 (by decide) (fun hc => ?_) (fun hc => ?_)
      · have h := h1 (fun q => hc ((lg_cmp_eq _ _).mpr q))
        exact zb_X11_put_118 hX hQ hnL hR62 hR72 h
      · have h := h2 ((lg_cmp_eq _ _).mp hc)
        refine z_aload_n (r := (some h0)) hX dX11_put_101 rfl 0 rfl ?_
        refine gf_RX11_90 (r := (some h0)) hX dX11_put_102 rfl hk31 ?_
        refine z_bipush (v := (24 : Int32)) hX dX11_put_105 (by decide) ?_
        refine z_iload_n hX dX11_put_107 rfl 1 rfl ?_
        refine z_imul hX dX11_put_108 ?_
        refine z_iload hX dX11_put_109 7 rfl ?_
        refine z_iadd hX dX11_put_111 ?_
        obtain ⟨a40, ha41, h⟩ := h
        obtain ⟨hk42, h⟩ := h
        obtain ⟨hc43, h⟩ := h
        refine y_iald (r := (mR M 746 h0)) hX dX11_put_112 ha41 hk42 hc43 ?_
        refine z_iload hX dX11_put_113 3 rfl ?_
        obtain ⟨h1, h2⟩ := h
        refine z_icmp_eq (tgt := 124) hX dX11_put_115 (by decide) (fun hc => ?_) (fun hc => ?_)
        · have h := h1 hc
          exact zb_X11_put_124 hX hQ hnL hR62 h
        · have h := h2 hc
          exact zb_X11_put_118 hX hQ hnL hR62 hR72 h
def lp_X11_put_62 (h0 : Nat) (K : Mm → Prop) : Nat → Int32 → Int64 → Int32 → Int32 → Int64 → Int64 → Mm → Prop
  | 0, _, _, _, _, _, _, _ => False
  | n + 1, l1, l2, l4, l5, l8, l12, M => ((l2 < l12 → (K M)) ∧ (¬ l2 < l12 → (∃ kk, lp_X11_put_72 h0 (lp_X11_put_62 h0 K n) K kk l1 l2 l4 l5 l8 l12 (0 : Int32) M)))
set_option maxRecDepth 100000 in
set_option maxHeartbeats 4000000 in
theorem zl_X11_put_62 {X : Cx} {h0 : Nat} {K : Mm → Prop} (hX : Ok X cX11_put RX11 rm_X11_put) (hQ : Rq X rm_X11_put none (QV K)) (hnL : X.2.2.2.2.2.2.2.2.2.2.2.2.2.2 = 15) : ∀ (n : Nat) (l1 : Int32) (l2 : Int64) (l4 : Int32) (l5 : Int32) (l8 : Int64) (l12 : Int64) (M : Mm), lp_X11_put_62 h0 K n l1 l2 l4 l5 l8 l12 M → Z X M 0 0 62 [(0, va_rf (some h0)), (1, .int l1), (2, .long l2), (4, .int l4), (5, .int l5), (8, .long l8), (12, .long l12)] [] := by
  intro n
  induction n with
  | zero =>
    intro l1 l2 l4 l5 l8 l12 M h
    exact False.elim h
  | succ n hR62 =>
    intro l1 l2 l4 l5 l8 l12 M h
    refine z_lload hX dX11_put_62 6 rfl ?_
    refine z_lload_n hX dX11_put_64 rfl 2 rfl ?_
    refine z_lcmp hX dX11_put_65 ?_
    obtain ⟨h1, h2⟩ := h
    refine z_if_gt (tgt := 233) hX dX11_put_66 (by decide) (fun hc => ?_) (fun hc => ?_)
    · have h := h1 ((lg_cmp_gt _ _).mp hc)
      exact z_vret hX hQ dX11_put_233 h
    · have h := h2 (fun q => hc ((lg_cmp_gt _ _).mpr q))
      refine z_iconst (v := (0 : Int32)) hX dX11_put_69 (by decide) ?_
      refine z_istore hX [(14, .int (0 : Int32)), (0, va_rf (some h0)), (1, .int l1), (2, .long l2), (4, .int l4), (5, .int l5), (8, .long l8), (12, .long l12)] dX11_put_70 (by rw [hnL]; decide) rfl ?_
      refine z_loc [1, 2, 3, 4, 5, 6, 7, 0] rfl ?_
      obtain ⟨n, h⟩ := h
      exact zl_X11_put_72 hX hQ hnL hR62 n _ _ _ _ _ _ _ _ h
def lp_X11_put_33 (h0 : Nat) (K : Mm → Prop) : Nat → Int32 → Int64 → Int32 → Int32 → Int64 → Int64 → Int64 → Mm → Prop
  | 0, _, _, _, _, _, _, _, _ => False
  | n + 1, l1, l2, l4, l5, l6, l8, l10, M => (((((l10 - l8) + l6) - (1 : Int64)) < l2 → (∃ kk, lp_X11_put_62 h0 K kk l1 l2 l4 l5 l8 l10 M)) ∧ (¬ (((l10 - l8) + l6) - (1 : Int64)) < l2 → ((lp_X11_put_33 h0 K n) l1 l2 l4 l5 l6 l8 (l10 - l8) M)))
set_option maxRecDepth 100000 in
set_option maxHeartbeats 4000000 in
theorem zl_X11_put_33 {X : Cx} {h0 : Nat} {K : Mm → Prop} (hX : Ok X cX11_put RX11 rm_X11_put) (hQ : Rq X rm_X11_put none (QV K)) (hnL : X.2.2.2.2.2.2.2.2.2.2.2.2.2.2 = 15) : ∀ (n : Nat) (l1 : Int32) (l2 : Int64) (l4 : Int32) (l5 : Int32) (l6 : Int64) (l8 : Int64) (l10 : Int64) (M : Mm), lp_X11_put_33 h0 K n l1 l2 l4 l5 l6 l8 l10 M → Z X M 0 0 33 [(0, va_rf (some h0)), (1, .int l1), (2, .long l2), (4, .int l4), (5, .int l5), (6, .long l6), (8, .long l8), (10, .long l10)] [] := by
  intro n
  induction n with
  | zero =>
    intro l1 l2 l4 l5 l6 l8 l10 M h
    exact False.elim h
  | succ n hR33 =>
    intro l1 l2 l4 l5 l6 l8 l10 M h
    refine z_lload hX dX11_put_33 7 rfl ?_
    refine z_lload hX dX11_put_35 6 rfl ?_
    refine z_lsub hX dX11_put_37 ?_
    refine z_lload hX dX11_put_38 5 rfl ?_
    refine z_ladd hX dX11_put_40 ?_
    refine z_lconst (v := (1 : Int64)) hX dX11_put_41 (by decide) ?_
    refine z_lsub hX dX11_put_42 ?_
    refine z_lload_n hX dX11_put_43 rfl 2 rfl ?_
    refine z_lcmp hX dX11_put_44 ?_
    obtain ⟨h1, h2⟩ := h
    refine z_if_lt (tgt := 58) hX dX11_put_45 (by decide) (fun hc => ?_) (fun hc => ?_)
    · have h := h1 ((lg_cmp_lt _ _).mp hc)
      refine z_lload hX dX11_put_58 7 rfl ?_
      refine z_lstore hX [(12, .long l10), (0, va_rf (some h0)), (1, .int l1), (2, .long l2), (4, .int l4), (5, .int l5), (6, .long l6), (8, .long l8), (10, .long l10)] dX11_put_60 (by rw [hnL]; decide) rfl ?_
      refine z_loc [1, 2, 3, 4, 5, 7, 0] rfl ?_
      obtain ⟨n, h⟩ := h
      exact zl_X11_put_62 hX hQ hnL n _ _ _ _ _ _ _ h
    · have h := h2 (fun q => hc ((lg_cmp_lt _ _).mpr q))
      refine z_lload hX dX11_put_48 7 rfl ?_
      refine z_lload hX dX11_put_50 6 rfl ?_
      refine z_lsub hX dX11_put_52 ?_
      refine z_lstore hX [(10, .long (l10 - l8)), (0, va_rf (some h0)), (1, .int l1), (2, .long l2), (4, .int l4), (5, .int l5), (6, .long l6), (8, .long l8)] dX11_put_53 (by rw [hnL]; decide) rfl ?_
      refine z_goto (tgt := 33) hX dX11_put_55 (by decide) ?_
      refine z_loc [1, 2, 3, 4, 5, 6, 7, 0] rfl ?_
      exact hR33 _ _ _ _ _ _ _ _ h
def wp_X11_put (M : Mm) (h0 : Nat) (p1 : Int32) (p2 : Int64) (p3 : Int32) (p4 : Int32) (K : Mm → Prop) : Prop := mK M h0 = 12 ∧ ∃ a45, (mR M 720 h0) = some a45 ∧ isA M a45 2 ∧ vp_in ((12 : Int32) + p1) (aN M a45) ∧ ∃ a49, (mR M 721 h0) = some a49 ∧ isA M a49 2 ∧ vp_in ((12 : Int32) + p1) (aN M a49) ∧ (wp_J9_floorDiv_f86c9 M p2 (aJ M a49 (((12 : Int32) + p1)).toNatClampNeg) (fun r53 M54 => (∃ kk, lp_X11_put_33 h0 K kk p1 p2 p3 p4 (aJ M a45 (((12 : Int32) + p1)).toNatClampNeg) (aJ M a49 (((12 : Int32) + p1)).toNatClampNeg) (r53 * (aJ M a49 (((12 : Int32) + p1)).toNatClampNeg)) M54)))
set_option maxRecDepth 100000 in
set_option maxHeartbeats 4000000 in
theorem ct_X11_put {M : Mm} {h0 : Nat} {p1 : Int32} {p2 : Int64} {p3 : Int32} {p4 : Int32} {K : Mm → Prop} (h : wp_X11_put M h0 p1 p2 p3 p4 K) : CtV yX11_put cX11_put 15 none rm_X11_put [.ref h0, .int p1, .long p2, .int p3, .int p4] M K := by
  refine ct_any (QV K) (by decide) (by exact Nat.le_of_ble_eq_true rfl) (fun X hX hQ hnL hnm => ?_)
  rw [show lv_args 0 [.ref h0, .int p1, .long p2, .int p3, .int p4] = [(0, va_rf (some h0)), (1, .int p1), (2, .long p2), (4, .int p3), (5, .int p4)] by rfl]
  have hX : Ok X cX11_put RX11 rm_X11_put := hX
  unfold wp_X11_put at h
  refine z_aload_n (r := (some h0)) hX dX11_put_0 rfl 0 rfl ?_
  obtain ⟨hk44, h⟩ := h
  refine gf_RX11_33 (r := (some h0)) hX dX11_put_1 rfl hk44 ?_
  refine z_bipush (v := (12 : Int32)) hX dX11_put_4 (by decide) ?_
  refine z_iload_n hX dX11_put_6 rfl 1 rfl ?_
  refine z_iadd hX dX11_put_7 ?_
  obtain ⟨a45, ha46, h⟩ := h
  obtain ⟨hk47, h⟩ := h
  obtain ⟨hc48, h⟩ := h
  refine y_lald (r := (mR M 720 h0)) hX dX11_put_8 ha46 hk47 hc48 ?_
  refine z_lstore hX [(6, .long (aJ M a45 (((12 : Int32) + p1)).toNatClampNeg)), (0, va_rf (some h0)), (1, .int p1), (2, .long p2), (4, .int p3), (5, .int p4)] dX11_put_9 (by rw [hnL]; decide) rfl ?_
  refine z_aload_n (r := (some h0)) hX dX11_put_11 rfl 1 rfl ?_
  refine gf_RX11_36 (r := (some h0)) hX dX11_put_12 rfl hk44 ?_
  refine z_bipush (v := (12 : Int32)) hX dX11_put_15 (by decide) ?_
  refine z_iload_n hX dX11_put_17 rfl 2 rfl ?_
  refine z_iadd hX dX11_put_18 ?_
  obtain ⟨a49, ha50, h⟩ := h
  obtain ⟨hk51, h⟩ := h
  obtain ⟨hc52, h⟩ := h
  refine y_lald (r := (mR M 721 h0)) hX dX11_put_19 ha50 hk51 hc52 ?_
  refine z_lstore hX [(8, .long (aJ M a49 (((12 : Int32) + p1)).toNatClampNeg)), (6, .long (aJ M a45 (((12 : Int32) + p1)).toNatClampNeg)), (0, va_rf (some h0)), (1, .int p1), (2, .long p2), (4, .int p3), (5, .int p4)] dX11_put_20 (by rw [hnL]; decide) rfl ?_
  refine z_lload_n hX dX11_put_22 rfl 4 rfl ?_
  refine z_lload hX dX11_put_23 0 rfl ?_
  refine z_callSJ (As := [.long p2, .long (aJ M a49 (((12 : Int32) + p1)).toNatClampNeg)]) (rest := []) hX (ct_J9_floorDiv_f86c9 h) mw_RX11_331 rfl (by rfl) (by unfold RoomC; decide) (by decide) dX11_put_25 (fun r53 M54 h => ?_)
  refine z_lload hX dX11_put_28 0 rfl ?_
  refine z_lmul hX dX11_put_30 ?_
  refine z_lstore hX [(10, .long (r53 * (aJ M a49 (((12 : Int32) + p1)).toNatClampNeg))), (8, .long (aJ M a49 (((12 : Int32) + p1)).toNatClampNeg)), (6, .long (aJ M a45 (((12 : Int32) + p1)).toNatClampNeg)), (0, va_rf (some h0)), (1, .int p1), (2, .long p2), (4, .int p3), (5, .int p4)] dX11_put_31 (by rw [hnL]; decide) rfl ?_
  refine z_loc [3, 4, 5, 6, 7, 2, 1, 0] rfl ?_
  obtain ⟨n, h⟩ := h
  exact zl_X11_put_33 hX hQ hnL n _ _ _ _ _ _ _ _ h
def rm_X11_kept : Room := { frames := 2, cells := 0, slots := 0, locals := 42 }
def bk_X11_kept_19 (h0 : Nat) (K : Int32 → Mm → Prop) (M : Mm) : Prop := mK M h0 = 12 ∧ (K (0 : Int32) (sI M 704 h0 (2 : Int32)))
set_option maxRecDepth 100000 in
set_option maxHeartbeats 4000000 in
theorem zb_X11_kept_19 {X : Cx} {h0 : Nat} {K : Int32 → Mm → Prop} (hX : Ok X cX11_kept RX11 rm_X11_kept) (hQ : Rq X rm_X11_kept (some .int) (QI K)) (hnL : X.2.2.2.2.2.2.2.2.2.2.2.2.2.2 = 3) {M : Mm} (h : bk_X11_kept_19 h0 K M) : Z X M 0 0 19 [(0, va_rf (some h0))] [] := by
  unfold bk_X11_kept_19 at h
  refine z_aload_n (r := (some h0)) hX dX11_kept_19 rfl 0 rfl ?_
  refine z_iconst (v := (2 : Int32)) hX dX11_kept_20 (by decide) ?_
  obtain ⟨hk1, h⟩ := h
  refine pf_RX11_123 (r := (some h0)) (v := (2 : Int32)) hX dX11_kept_21 rfl hk1 ?_
  refine z_iconst (v := (0 : Int32)) hX dX11_kept_24 (by decide) ?_
  exact z_iret hX hQ dX11_kept_25 h
def bk_X11_kept_89 (h0 : Nat) (K : Int32 → Mm → Prop) (s0 : Int32) (M : Mm) : Prop := (K s0 M)
set_option maxRecDepth 100000 in
set_option maxHeartbeats 4000000 in
theorem zb_X11_kept_89 {X : Cx} {h0 : Nat} {K : Int32 → Mm → Prop} (hX : Ok X cX11_kept RX11 rm_X11_kept) (hQ : Rq X rm_X11_kept (some .int) (QI K)) (hnL : X.2.2.2.2.2.2.2.2.2.2.2.2.2.2 = 3) {s0 : Int32} {M : Mm} (h : bk_X11_kept_89 h0 K s0 M) : Z X M 0 0 89 [] [.int s0] := by
  unfold bk_X11_kept_89 at h
  exact z_iret hX hQ dX11_kept_89 h
def wp_X11_kept (M : Mm) (h0 : Nat) (p1 : Int32) (p2 : Int32) (K : Int32 → Mm → Prop) : Prop := mK M h0 = 12 ∧ (wp_X11_mustBe M h0 p1 (fun r3 M4 => ((¬ r3 = 0 → ((p2 < 0 → (bk_X11_kept_19 h0 K M4)) ∧ (¬ p2 < 0 → ((p2 ≤ (1 : Int32) → mK M4 h0 = 12 ∧ (wp_X11_kindOf M4 h0 p1 (fun r7 M8 => ((¬ r7 = (4 : Int32) → ((¬ p2 = (1 : Int32) → mK M8 h0 = 12 ∧ (wp_X11_kindOf M8 h0 p1 (fun r11 M12 => ((¬ r11 = (5 : Int32) → mK M12 h0 = 12 ∧ (wp_X11_kindOf M12 h0 p1 (fun r15 M16 => ((¬ r15 = (3 : Int32) → (bk_X11_kept_89 h0 K (0 : Int32) M16)) ∧ (r15 = (3 : Int32) → mK M16 h0 = 12 ∧ (wp_X11_heldIn M16 h0 p1 (fun r19 M20 => (bk_X11_kept_89 h0 K r19 M20)))))))) ∧ (r11 = (5 : Int32) → mK M12 h0 = 12 ∧ ∃ a24, (mR M12 744 h0) = some a24 ∧ isA M12 a24 1 ∧ vp_in p1 (aN M12 a24) ∧ (bk_X11_kept_89 h0 K (aI M12 a24 (p1).toNatClampNeg) M12)))))) ∧ (p2 = (1 : Int32) → (K (0 : Int32) M8)))) ∧ (r7 = (4 : Int32) → mK M8 h0 = 12 ∧ ∃ a29, (mR M8 748 h0) = some a29 ∧ isA M8 a29 1 ∧ vp_in (((2 : Int32) * p1) + p2) (aN M8 a29) ∧ (K (aI M8 a29 ((((2 : Int32) * p1) + p2)).toNatClampNeg) M8)))))) ∧ (¬ p2 ≤ (1 : Int32) → (bk_X11_kept_19 h0 K M4)))))) ∧ (r3 = 0 → (K (0 : Int32) M4)))))
set_option maxRecDepth 100000 in
set_option maxHeartbeats 4000000 in
theorem ct_X11_kept {M : Mm} {h0 : Nat} {p1 : Int32} {p2 : Int32} {K : Int32 → Mm → Prop} (h : wp_X11_kept M h0 p1 p2 K) : CtI yX11_kept cX11_kept 3 (some .int) rm_X11_kept [.ref h0, .int p1, .int p2] M K := by
  refine ct_any (QI K) (by decide) (by exact Nat.le_of_ble_eq_true rfl) (fun X hX hQ hnL hnm => ?_)
  rw [show lv_args 0 [.ref h0, .int p1, .int p2] = [(0, va_rf (some h0)), (1, .int p1), (2, .int p2)] by rfl]
  have hX : Ok X cX11_kept RX11 rm_X11_kept := hX
  unfold wp_X11_kept at h
  refine z_aload_n (r := (some h0)) hX dX11_kept_0 rfl 0 rfl ?_
  refine z_iload_n hX dX11_kept_1 rfl 1 rfl ?_
  obtain ⟨hk5, h⟩ := h
  refine z_callVI (As := [.int p1]) (rest := []) (ci := 11) hX (ct_X11_mustBe h) mw_RX11_398 rfl (by decide) rfl (by rfl) (by unfold RoomC; decide) (by decide) dX11_kept_2 hk5 (fun r3 M4 h => ?_)
  obtain ⟨h1, h2⟩ := h
  refine z_if_ne (tgt := 10) hX dX11_kept_5 (by decide) (fun hc => ?_) (fun hc => ?_)
  · have h := h1 hc
    refine z_iload_n hX dX11_kept_10 rfl 2 rfl ?_
    obtain ⟨h1, h2⟩ := h
    refine z_if_lt (tgt := 19) hX dX11_kept_11 (by decide) (fun hc => ?_) (fun hc => ?_)
    · have h := h1 hc
      refine z_loc [0] rfl ?_
      exact zb_X11_kept_19 hX hQ hnL h
    · have h := h2 hc
      refine z_iload_n hX dX11_kept_14 rfl 2 rfl ?_
      refine z_iconst (v := (1 : Int32)) hX dX11_kept_15 (by decide) ?_
      obtain ⟨h1, h2⟩ := h
      refine z_icmp_le (tgt := 26) hX dX11_kept_16 (by decide) (fun hc => ?_) (fun hc => ?_)
      · have h := h1 hc
        refine z_aload_n (r := (some h0)) hX dX11_kept_26 rfl 0 rfl ?_
        refine z_iload_n hX dX11_kept_27 rfl 1 rfl ?_
        obtain ⟨hk9, h⟩ := h
        refine z_callVI (As := [.int p1]) (rest := []) (ci := 11) hX (ct_X11_kindOf h) mw_RX11_308 rfl (by decide) rfl (by rfl) (by unfold RoomC; decide) (by decide) dX11_kept_28 hk9 (fun r7 M8 h => ?_)
        refine z_iconst (v := (4 : Int32)) hX dX11_kept_31 (by decide) ?_
        obtain ⟨h1, h2⟩ := h
        refine z_icmp_ne (tgt := 46) hX dX11_kept_32 (by decide) (fun hc => ?_) (fun hc => ?_)
        · have h := h1 hc
          refine z_iload_n hX dX11_kept_46 rfl 2 rfl ?_
          refine z_iconst (v := (1 : Int32)) hX dX11_kept_47 (by decide) ?_
          obtain ⟨h1, h2⟩ := h
          refine z_icmp_ne (tgt := 53) hX dX11_kept_48 (by decide) (fun hc => ?_) (fun hc => ?_)
          · have h := h1 hc
            refine z_aload_n (r := (some h0)) hX dX11_kept_53 rfl 0 rfl ?_
            refine z_iload_n hX dX11_kept_54 rfl 1 rfl ?_
            obtain ⟨hk13, h⟩ := h
            refine z_callVI (As := [.int p1]) (rest := []) (ci := 11) hX (ct_X11_kindOf h) mw_RX11_308 rfl (by decide) rfl (by rfl) (by unfold RoomC; decide) (by decide) dX11_kept_55 hk13 (fun r11 M12 h => ?_)
            refine z_iconst (v := (5 : Int32)) hX dX11_kept_58 (by decide) ?_
            obtain ⟨h1, h2⟩ := h
            refine z_icmp_ne (tgt := 71) hX dX11_kept_59 (by decide) (fun hc => ?_) (fun hc => ?_)
            · have h := h1 hc
              refine z_aload_n (r := (some h0)) hX dX11_kept_71 rfl 0 rfl ?_
              refine z_iload_n hX dX11_kept_72 rfl 1 rfl ?_
              obtain ⟨hk17, h⟩ := h
              refine z_callVI (As := [.int p1]) (rest := []) (ci := 11) hX (ct_X11_kindOf h) mw_RX11_308 rfl (by decide) rfl (by rfl) (by unfold RoomC; decide) (by decide) dX11_kept_73 hk17 (fun r15 M16 h => ?_)
              refine z_iconst (v := (3 : Int32)) hX dX11_kept_76 (by decide) ?_
              obtain ⟨h1, h2⟩ := h
              refine z_icmp_ne (tgt := 88) hX dX11_kept_77 (by decide) (fun hc => ?_) (fun hc => ?_)
              · have h := h1 hc
                refine z_iconst (v := (0 : Int32)) hX dX11_kept_88 (by decide) ?_
                refine z_loc [] rfl ?_
                exact zb_X11_kept_89 hX hQ hnL h
              · have h := h2 hc
                refine z_aload_n (r := (some h0)) hX dX11_kept_80 rfl 0 rfl ?_
                refine z_iload_n hX dX11_kept_81 rfl 1 rfl ?_
                obtain ⟨hk21, h⟩ := h
                refine z_callVI (As := [.int p1]) (rest := []) (ci := 11) hX (ct_X11_heldIn h) mw_RX11_401 rfl (by decide) rfl (by rfl) (by unfold RoomC; decide) (by decide) dX11_kept_82 hk21 (fun r19 M20 h => ?_)
                refine z_goto (tgt := 89) hX dX11_kept_85 (by decide) ?_
                refine z_loc [] rfl ?_
                exact zb_X11_kept_89 hX hQ hnL h
            · have h := h2 hc
              refine z_aload_n (r := (some h0)) hX dX11_kept_62 rfl 0 rfl ?_
              obtain ⟨hk23, h⟩ := h
              refine gf_RX11_84 (r := (some h0)) hX dX11_kept_63 rfl hk23 ?_
              refine z_iload_n hX dX11_kept_66 rfl 1 rfl ?_
              obtain ⟨a24, ha25, h⟩ := h
              obtain ⟨hk26, h⟩ := h
              obtain ⟨hc27, h⟩ := h
              refine y_iald (r := (mR M12 744 h0)) hX dX11_kept_67 ha25 hk26 hc27 ?_
              refine z_goto (tgt := 89) hX dX11_kept_68 (by decide) ?_
              refine z_loc [] rfl ?_
              exact zb_X11_kept_89 hX hQ hnL h
          · have h := h2 hc
            refine z_iconst (v := (0 : Int32)) hX dX11_kept_51 (by decide) ?_
            exact z_iret hX hQ dX11_kept_52 h
        · have h := h2 hc
          refine z_aload_n (r := (some h0)) hX dX11_kept_35 rfl 0 rfl ?_
          obtain ⟨hk28, h⟩ := h
          refine gf_RX11_96 (r := (some h0)) hX dX11_kept_36 rfl hk28 ?_
          refine z_iconst (v := (2 : Int32)) hX dX11_kept_39 (by decide) ?_
          refine z_iload_n hX dX11_kept_40 rfl 1 rfl ?_
          refine z_imul hX dX11_kept_41 ?_
          refine z_iload_n hX dX11_kept_42 rfl 2 rfl ?_
          refine z_iadd hX dX11_kept_43 ?_
          obtain ⟨a29, ha30, h⟩ := h
          obtain ⟨hk31, h⟩ := h
          obtain ⟨hc32, h⟩ := h
          refine y_iald (r := (mR M8 748 h0)) hX dX11_kept_44 ha30 hk31 hc32 ?_
          exact z_iret hX hQ dX11_kept_45 h
      · have h := h2 hc
        refine z_loc [0] rfl ?_
        exact zb_X11_kept_19 hX hQ hnL h
  · have h := h2 hc
    refine z_iconst (v := (0 : Int32)) hX dX11_kept_8 (by decide) ?_
    exact z_iret hX hQ dX11_kept_9 h
def rm_X7_readInput : Room := { frames := 3, cells := 0, slots := 0, locals := 65 }
def bk_X7_readInput_42 (h0 : Nat) (K : Int32 → Mm → Prop) (M : Mm) : Prop := mK M h0 = 8 ∧ (wp_X7_refuse M h0 (4 : Int32) (fun r1 M2 => (bz r1 ∧ K r1 M2)))
set_option maxRecDepth 100000 in
set_option maxHeartbeats 4000000 in
theorem zb_X7_readInput_42 {X : Cx} {h0 : Nat} {K : Int32 → Mm → Prop} (hX : Ok X cX7_readInput RX7 rm_X7_readInput) (hQ : Rq X rm_X7_readInput (some .boolean) (QI K)) (hnL : X.2.2.2.2.2.2.2.2.2.2.2.2.2.2 = 3) {M : Mm} (h : bk_X7_readInput_42 h0 K M) : Z X M 0 0 42 [(0, va_rf (some h0))] [] := by
  unfold bk_X7_readInput_42 at h
  refine z_aload_n (r := (some h0)) hX dX7_readInput_42 rfl 0 rfl ?_
  refine z_iconst (v := (4 : Int32)) hX dX7_readInput_43 (by decide) ?_
  obtain ⟨hk3, h⟩ := h
  refine z_callVI (As := [.int (4 : Int32)]) (rest := []) (ci := 7) hX (ct_X7_refuse h) mw_RX7_34 rfl (by decide) rfl (by rfl) (by unfold RoomC; decide) (by decide) dX7_readInput_44 hk3 (fun r1 M2 h => ?_)
  exact y_zret hX hQ dX7_readInput_47 h.1 h.2
def wp_X7_readInput (M : Mm) (h0 : Nat) (p1 : Option Nat) (K : Int32 → Mm → Prop) : Prop := mK M h0 = 8 ∧ ∃ a6, (mR M 448 h0) = some a6 ∧ mK M a6 = 5 ∧ (((mI M 258 a6) = (3 : Int32) → ∃ a11, (mR M 449 h0) = some a11 ∧ mK M a11 = 2 ∧ (wp_X1_named M a11 (mJ M 260 a6) (fun r9 M10 => ((r9 = none → (bk_X7_readInput_42 h0 K M10)) ∧ (∀ a15, r9 = some a15 → mK M10 a15 = 7 ∧ (((mR M10 389 a15) = none → ∃ a22, p1 = some a22 ∧ mK M10 a22 = 7 ∧ (wp_X6_addInput M10 a22 r9 (fun M21 => mK M21 a15 = 7 ∧ mK (sR M21 389 a15 p1) h0 = 8 ∧ ∃ a31, (mR (sR M21 389 a15 p1) 448 h0) = some a31 ∧ mK (sR M21 389 a15 p1) a31 = 5 ∧ (wp_X4_advance (sR M21 389 a15 p1) a31 (fun M30 => (K (1 : Int32) M30)))))) ∧ (∀ a18, (mR M10 389 a15) = some a18 → (bk_X7_readInput_42 h0 K M10)))))))) ∧ (¬ (mI M 258 a6) = (3 : Int32) → (wp_X7_refuseToken M h0 (fun r35 M36 => (bz r35 ∧ K r35 M36)))))
set_option maxRecDepth 100000 in
set_option maxHeartbeats 4000000 in
theorem ct_X7_readInput {M : Mm} {h0 : Nat} {p1 : Option Nat} {K : Int32 → Mm → Prop} (h : wp_X7_readInput M h0 p1 K) : CtI yX7_readInput cX7_readInput 3 (some .boolean) rm_X7_readInput [.ref h0, va_rf p1] M K := by
  refine ct_any (QI K) (by decide) (by cases p1 <;> exact Nat.le_of_ble_eq_true rfl) (fun X hX hQ hnL hnm => ?_)
  rw [show lv_args 0 [.ref h0, va_rf p1] = [(0, va_rf (some h0)), (1, va_rf p1)] by cases p1 <;> rfl]
  have hX : Ok X cX7_readInput RX7 rm_X7_readInput := hX
  unfold wp_X7_readInput at h
  refine z_aload_n (r := (some h0)) hX dX7_readInput_0 rfl 0 rfl ?_
  obtain ⟨hk5, h⟩ := h
  refine gf_RX7_9 (r := (some h0)) hX dX7_readInput_1 rfl hk5 ?_
  obtain ⟨a6, ha7, h⟩ := h
  obtain ⟨hk8, h⟩ := h
  refine gf_RX7_24 (r := (mR M 448 h0)) hX dX7_readInput_4 ha7 hk8 ?_
  refine z_iconst (v := (3 : Int32)) hX dX7_readInput_7 (by decide) ?_
  obtain ⟨h1, h2⟩ := h
  refine z_icmp_eq (tgt := 16) hX dX7_readInput_8 (by decide) (fun hc => ?_) (fun hc => ?_)
  · have h := h1 hc
    refine z_aload_n (r := (some h0)) hX dX7_readInput_16 rfl 0 rfl ?_
    refine gf_RX7_15 (r := (some h0)) hX dX7_readInput_17 rfl hk5 ?_
    refine z_aload_n (r := (some h0)) hX dX7_readInput_20 rfl 0 rfl ?_
    refine gf_RX7_9 (r := (some h0)) hX dX7_readInput_21 rfl hk5 ?_
    refine gf_RX7_81 (r := (mR M 448 h0)) hX dX7_readInput_24 ha7 hk8 ?_
    obtain ⟨a11, ha12, h⟩ := h
    obtain ⟨hk13, h⟩ := h
    refine z_callVR (As := [.long (mJ M 260 a6)]) (rest := []) (ci := 1) hX (ct_X1_named h) mw_RX7_87 rfl (by decide) rfl (by rw [ha12]; rfl) (by unfold RoomC; decide) (by decide) dX7_readInput_27 hk13 (fun r9 M10 h => ?_)
    refine z_astore_n (r := r9) (i := 2) hX [(2, va_rf r9), (0, va_rf (some h0)), (1, va_rf p1)] dX7_readInput_30 rfl (by rw [hnL]; decide) (by simp [cat_rf]) ?_
    refine z_aload_n (r := r9) hX dX7_readInput_31 rfl 0 rfl ?_
    obtain ⟨h1, h2⟩ := h
    refine z_ifnull (r := r9) (tgt := 42) hX dX7_readInput_32 (by decide) (fun hc => ?_) (fun a15 ha16 => ?_)
    · have h := h1 hc
      refine z_loc [1] rfl ?_
      exact zb_X7_readInput_42 hX hQ hnL h
    · have h := h2 a15 ha16
      refine z_aload_n (r := r9) hX dX7_readInput_35 rfl 0 rfl ?_
      obtain ⟨hk17, h⟩ := h
      refine gf_RX7_201 (r := r9) hX dX7_readInput_36 ha16 hk17 ?_
      obtain ⟨h1, h2⟩ := h
      refine z_ifnull (r := (mR M10 389 a15)) (tgt := 48) hX dX7_readInput_39 (by decide) (fun hc => ?_) (fun a18 ha19 => ?_)
      · have h := h1 hc
        refine z_aload_n (r := p1) hX dX7_readInput_48 rfl 2 rfl ?_
        refine z_aload_n (r := r9) hX dX7_readInput_49 rfl 0 rfl ?_
        obtain ⟨a22, ha23, h⟩ := h
        obtain ⟨hk24, h⟩ := h
        refine z_callVV (As := [va_rf r9]) (rest := []) (ci := 6) hX (ct_X6_addInput h) mw_RX7_205 rfl (by decide) rfl (by rw [ha23]; rfl) (by unfold RoomC; decide) (by decide) dX7_readInput_50 hk24 (fun M21 h => ?_)
        refine z_aload_n (r := r9) hX dX7_readInput_53 rfl 0 rfl ?_
        refine z_aload_n (r := p1) hX dX7_readInput_54 rfl 2 rfl ?_
        obtain ⟨hk26, h⟩ := h
        refine pf_RX7_201 (r := r9) (v := p1) hX dX7_readInput_55 ha16 hk26 ?_
        refine z_aload_n (r := (some h0)) hX dX7_readInput_58 rfl 1 rfl ?_
        obtain ⟨hk28, h⟩ := h
        refine gf_RX7_9 (r := (some h0)) hX dX7_readInput_59 rfl hk28 ?_
        obtain ⟨a31, ha32, h⟩ := h
        obtain ⟨hk33, h⟩ := h
        refine z_callVV (As := []) (rest := []) (ci := 4) hX (ct_X4_advance h) mw_RX7_19 rfl (by decide) rfl (by rw [ha32]; rfl) (by unfold RoomC; decide) (by decide) dX7_readInput_62 hk33 (fun M30 h => ?_)
        refine z_iconst (v := (1 : Int32)) hX dX7_readInput_65 (by decide) ?_
        exact y_zret hX hQ dX7_readInput_66 (Or.inr rfl) h
      · have h := h2 a18 ha19
        refine z_loc [1] rfl ?_
        exact zb_X7_readInput_42 hX hQ hnL h
  · have h := h2 hc
    refine z_aload_n (r := (some h0)) hX dX7_readInput_11 rfl 0 rfl ?_
    refine z_callVI (As := []) (rest := []) (ci := 7) hX (ct_X7_refuseToken h) mw_RX7_84 rfl (by decide) rfl (by rfl) (by unfold RoomC; decide) (by decide) dX7_readInput_12 hk5 (fun r35 M36 h => ?_)
    exact y_zret hX hQ dX7_readInput_15 h.1 h.2
def rm_X7_isNumber : Room := { frames := 2, cells := 0, slots := 0, locals := 41 }
def bk_X7_isNumber_58 (h0 : Nat) (K : Int32 → Mm → Prop) (s0 : Int32) (M : Mm) : Prop := (bz s0 ∧ K s0 M)
set_option maxRecDepth 100000 in
set_option maxHeartbeats 4000000 in
theorem zb_X7_isNumber_58 {X : Cx} {h0 : Nat} {K : Int32 → Mm → Prop} (hX : Ok X cX7_isNumber RX7 rm_X7_isNumber) (hQ : Rq X rm_X7_isNumber (some .boolean) (QI K)) (hnL : X.2.2.2.2.2.2.2.2.2.2.2.2.2.2 = 5) {s0 : Int32} {M : Mm} (h : bk_X7_isNumber_58 h0 K s0 M) : Z X M 0 0 58 [] [.int s0] := by
  unfold bk_X7_isNumber_58 at h
  exact y_zret hX hQ dX7_isNumber_58 h.1 h.2
def bk_X7_isNumber_53 (h0 : Nat) (K : Int32 → Mm → Prop) (M : Mm) : Prop := (bk_X7_isNumber_58 h0 K (1 : Int32) M)
set_option maxRecDepth 100000 in
set_option maxHeartbeats 4000000 in
theorem zb_X7_isNumber_53 {X : Cx} {h0 : Nat} {K : Int32 → Mm → Prop} (hX : Ok X cX7_isNumber RX7 rm_X7_isNumber) (hQ : Rq X rm_X7_isNumber (some .boolean) (QI K)) (hnL : X.2.2.2.2.2.2.2.2.2.2.2.2.2.2 = 5) {M : Mm} (h : bk_X7_isNumber_53 h0 K M) : Z X M 0 0 53 [] [] := by
  unfold bk_X7_isNumber_53 at h
  refine z_iconst (v := (1 : Int32)) hX dX7_isNumber_53 (by decide) ?_
  refine z_goto (tgt := 58) hX dX7_isNumber_54 (by decide) ?_
  exact zb_X7_isNumber_58 hX hQ hnL h
def bk_X7_isNumber_45 (h0 : Nat) (K : Int32 → Mm → Prop) (M : Mm) : Prop := mK M h0 = 8 ∧ (wp_X7_refuse M h0 (5 : Int32) (fun r1 M2 => ((r1 = 0 → (bk_X7_isNumber_58 h0 K (0 : Int32) M2)) ∧ (¬ r1 = 0 → (bk_X7_isNumber_53 h0 K M2)))))
set_option maxRecDepth 100000 in
set_option maxHeartbeats 4000000 in
theorem zb_X7_isNumber_45 {X : Cx} {h0 : Nat} {K : Int32 → Mm → Prop} (hX : Ok X cX7_isNumber RX7 rm_X7_isNumber) (hQ : Rq X rm_X7_isNumber (some .boolean) (QI K)) (hnL : X.2.2.2.2.2.2.2.2.2.2.2.2.2.2 = 5) {M : Mm} (h : bk_X7_isNumber_45 h0 K M) : Z X M 0 0 45 [(0, va_rf (some h0))] [] := by
  unfold bk_X7_isNumber_45 at h
  refine z_aload_n (r := (some h0)) hX dX7_isNumber_45 rfl 0 rfl ?_
  refine z_iconst (v := (5 : Int32)) hX dX7_isNumber_46 (by decide) ?_
  obtain ⟨hk3, h⟩ := h
  refine z_callVI (As := [.int (5 : Int32)]) (rest := []) (ci := 7) hX (ct_X7_refuse h) mw_RX7_34 rfl (by decide) rfl (by rfl) (by unfold RoomC; decide) (by decide) dX7_isNumber_47 hk3 (fun r1 M2 h => ?_)
  obtain ⟨h1, h2⟩ := h
  refine z_if_eq (tgt := 57) hX dX7_isNumber_50 (by decide) (fun hc => ?_) (fun hc => ?_)
  · have h := h1 hc
    refine z_iconst (v := (0 : Int32)) hX dX7_isNumber_57 (by decide) ?_
    refine z_loc [] rfl ?_
    exact zb_X7_isNumber_58 hX hQ hnL h
  · have h := h2 hc
    refine z_loc [] rfl ?_
    exact zb_X7_isNumber_53 hX hQ hnL h
def wp_X7_isNumber (M : Mm) (h0 : Nat) (p1 : Int64) (p2 : Int64) (K : Int32 → Mm → Prop) : Prop := mK M h0 = 8 ∧ ∃ a6, (mR M 448 h0) = some a6 ∧ mK M a6 = 5 ∧ (((mI M 258 a6) = (4 : Int32) → (((mJ (sJ M 454 h0 (mJ M 260 a6)) 454 h0) < p1 → (bk_X7_isNumber_45 h0 K (sJ M 454 h0 (mJ M 260 a6)))) ∧ (¬ (mJ (sJ M 454 h0 (mJ M 260 a6)) 454 h0) < p1 → (((mJ (sJ M 454 h0 (mJ M 260 a6)) 454 h0) ≤ p2 → (bk_X7_isNumber_53 h0 K (sJ M 454 h0 (mJ M 260 a6)))) ∧ (¬ (mJ (sJ M 454 h0 (mJ M 260 a6)) 454 h0) ≤ p2 → (bk_X7_isNumber_45 h0 K (sJ M 454 h0 (mJ M 260 a6)))))))) ∧ (¬ (mI M 258 a6) = (4 : Int32) → (wp_X7_refuseToken M h0 (fun r10 M11 => (bz r10 ∧ K r10 M11)))))
set_option maxRecDepth 100000 in
set_option maxHeartbeats 4000000 in
theorem ct_X7_isNumber {M : Mm} {h0 : Nat} {p1 : Int64} {p2 : Int64} {K : Int32 → Mm → Prop} (h : wp_X7_isNumber M h0 p1 p2 K) : CtI yX7_isNumber cX7_isNumber 5 (some .boolean) rm_X7_isNumber [.ref h0, .long p1, .long p2] M K := by
  refine ct_any (QI K) (by decide) (by exact Nat.le_of_ble_eq_true rfl) (fun X hX hQ hnL hnm => ?_)
  rw [show lv_args 0 [.ref h0, .long p1, .long p2] = [(0, va_rf (some h0)), (1, .long p1), (3, .long p2)] by rfl]
  have hX : Ok X cX7_isNumber RX7 rm_X7_isNumber := hX
  unfold wp_X7_isNumber at h
  refine z_aload_n (r := (some h0)) hX dX7_isNumber_0 rfl 0 rfl ?_
  obtain ⟨hk5, h⟩ := h
  refine gf_RX7_9 (r := (some h0)) hX dX7_isNumber_1 rfl hk5 ?_
  obtain ⟨a6, ha7, h⟩ := h
  obtain ⟨hk8, h⟩ := h
  refine gf_RX7_24 (r := (mR M 448 h0)) hX dX7_isNumber_4 ha7 hk8 ?_
  refine z_iconst (v := (4 : Int32)) hX dX7_isNumber_7 (by decide) ?_
  obtain ⟨h1, h2⟩ := h
  refine z_icmp_eq (tgt := 16) hX dX7_isNumber_8 (by decide) (fun hc => ?_) (fun hc => ?_)
  · have h := h1 hc
    refine z_aload_n (r := (some h0)) hX dX7_isNumber_16 rfl 0 rfl ?_
    refine z_aload_n (r := (some h0)) hX dX7_isNumber_17 rfl 0 rfl ?_
    refine gf_RX7_9 (r := (some h0)) hX dX7_isNumber_18 rfl hk5 ?_
    refine gf_RX7_81 (r := (mR M 448 h0)) hX dX7_isNumber_21 ha7 hk8 ?_
    refine pf_RX7_62 (r := (some h0)) (v := (mJ M 260 a6)) hX dX7_isNumber_24 rfl hk5 ?_
    refine z_aload_n (r := (some h0)) hX dX7_isNumber_27 rfl 0 rfl ?_
    refine gf_RX7_62 (r := (some h0)) hX dX7_isNumber_28 rfl hk5 ?_
    refine z_lload_n hX dX7_isNumber_31 rfl 1 rfl ?_
    refine z_lcmp hX dX7_isNumber_32 ?_
    obtain ⟨h1, h2⟩ := h
    refine z_if_lt (tgt := 45) hX dX7_isNumber_33 (by decide) (fun hc => ?_) (fun hc => ?_)
    · have h := h1 ((lg_cmp_lt _ _).mp hc)
      refine z_loc [0] rfl ?_
      exact zb_X7_isNumber_45 hX hQ hnL h
    · have h := h2 (fun q => hc ((lg_cmp_lt _ _).mpr q))
      refine z_aload_n (r := (some h0)) hX dX7_isNumber_36 rfl 0 rfl ?_
      refine gf_RX7_62 (r := (some h0)) hX dX7_isNumber_37 rfl hk5 ?_
      refine z_lload_n hX dX7_isNumber_40 rfl 2 rfl ?_
      refine z_lcmp hX dX7_isNumber_41 ?_
      obtain ⟨h1, h2⟩ := h
      refine z_if_le (tgt := 53) hX dX7_isNumber_42 (by decide) (fun hc => ?_) (fun hc => ?_)
      · have h := h1 ((lg_cmp_le _ _).mp hc)
        refine z_loc [] rfl ?_
        exact zb_X7_isNumber_53 hX hQ hnL h
      · have h := h2 (fun q => hc ((lg_cmp_le _ _).mpr q))
        refine z_loc [0] rfl ?_
        exact zb_X7_isNumber_45 hX hQ hnL h
  · have h := h2 hc
    refine z_aload_n (r := (some h0)) hX dX7_isNumber_11 rfl 0 rfl ?_
    refine z_callVI (As := []) (rest := []) (ci := 7) hX (ct_X7_refuseToken h) mw_RX7_84 rfl (by decide) rfl (by rfl) (by unfold RoomC; decide) (by decide) dX7_isNumber_12 hk5 (fun r10 M11 h => ?_)
    exact y_zret hX hQ dX7_isNumber_15 h.1 h.2
def rm_X7_readKeyword : Room := { frames := 3, cells := 0, slots := 0, locals := 65 }
def wp_X7_readKeyword (M : Mm) (h0 : Nat) (p1 : Int64) (K : Int32 → Mm → Prop) : Prop := mK M h0 = 8 ∧ (wp_X7_isKeyword M h0 p1 (fun r1 M2 => ((¬ r1 = 0 → mK M2 h0 = 8 ∧ ∃ a8, (mR M2 448 h0) = some a8 ∧ mK M2 a8 = 5 ∧ (wp_X4_advance M2 a8 (fun M7 => (K (1 : Int32) M7)))) ∧ (r1 = 0 → mK M2 h0 = 8 ∧ (wp_X7_refuseToken M2 h0 (fun r12 M13 => (bz r12 ∧ K r12 M13)))))))
set_option maxRecDepth 100000 in
set_option maxHeartbeats 4000000 in
theorem ct_X7_readKeyword {M : Mm} {h0 : Nat} {p1 : Int64} {K : Int32 → Mm → Prop} (h : wp_X7_readKeyword M h0 p1 K) : CtI yX7_readKeyword cX7_readKeyword 3 (some .boolean) rm_X7_readKeyword [.ref h0, .long p1] M K := by
  refine ct_any (QI K) (by decide) (by exact Nat.le_of_ble_eq_true rfl) (fun X hX hQ hnL hnm => ?_)
  rw [show lv_args 0 [.ref h0, .long p1] = [(0, va_rf (some h0)), (1, .long p1)] by rfl]
  have hX : Ok X cX7_readKeyword RX7 rm_X7_readKeyword := hX
  unfold wp_X7_readKeyword at h
  refine z_aload_n (r := (some h0)) hX dX7_readKeyword_0 rfl 0 rfl ?_
  refine z_lload_n hX dX7_readKeyword_1 rfl 1 rfl ?_
  obtain ⟨hk3, h⟩ := h
  refine z_callVI (As := [.long p1]) (rest := []) (ci := 7) hX (ct_X7_isKeyword h) mw_RX7_30 rfl (by decide) rfl (by rfl) (by unfold RoomC; decide) (by decide) dX7_readKeyword_2 hk3 (fun r1 M2 h => ?_)
  obtain ⟨h1, h2⟩ := h
  refine z_if_ne (tgt := 13) hX dX7_readKeyword_5 (by decide) (fun hc => ?_) (fun hc => ?_)
  · have h := h1 hc
    refine z_aload_n (r := (some h0)) hX dX7_readKeyword_13 rfl 0 rfl ?_
    obtain ⟨hk5, h⟩ := h
    refine gf_RX7_9 (r := (some h0)) hX dX7_readKeyword_14 rfl hk5 ?_
    obtain ⟨a8, ha9, h⟩ := h
    obtain ⟨hk10, h⟩ := h
    refine z_callVV (As := []) (rest := []) (ci := 4) hX (ct_X4_advance h) mw_RX7_19 rfl (by decide) rfl (by rw [ha9]; rfl) (by unfold RoomC; decide) (by decide) dX7_readKeyword_17 hk10 (fun M7 h => ?_)
    refine z_iconst (v := (1 : Int32)) hX dX7_readKeyword_20 (by decide) ?_
    exact y_zret hX hQ dX7_readKeyword_21 (Or.inr rfl) h
  · have h := h2 hc
    refine z_aload_n (r := (some h0)) hX dX7_readKeyword_8 rfl 0 rfl ?_
    obtain ⟨hk14, h⟩ := h
    refine z_callVI (As := []) (rest := []) (ci := 7) hX (ct_X7_refuseToken h) mw_RX7_84 rfl (by decide) rfl (by rfl) (by unfold RoomC; decide) (by decide) dX7_readKeyword_9 hk14 (fun r12 M13 h => ?_)
    exact y_zret hX hQ dX7_readKeyword_12 h.1 h.2
def rm_X7_readSign : Room := { frames := 3, cells := 0, slots := 0, locals := 65 }
def wp_X7_readSign (M : Mm) (h0 : Nat) (p1 : Int32) (K : Int32 → Mm → Prop) : Prop := mK M h0 = 8 ∧ (wp_X7_isSign M h0 p1 (fun r1 M2 => ((¬ r1 = 0 → mK M2 h0 = 8 ∧ ∃ a8, (mR M2 448 h0) = some a8 ∧ mK M2 a8 = 5 ∧ (wp_X4_advance M2 a8 (fun M7 => (K (1 : Int32) M7)))) ∧ (r1 = 0 → mK M2 h0 = 8 ∧ (wp_X7_refuseToken M2 h0 (fun r12 M13 => (bz r12 ∧ K r12 M13)))))))
set_option maxRecDepth 100000 in
set_option maxHeartbeats 4000000 in
theorem ct_X7_readSign {M : Mm} {h0 : Nat} {p1 : Int32} {K : Int32 → Mm → Prop} (h : wp_X7_readSign M h0 p1 K) : CtI yX7_readSign cX7_readSign 2 (some .boolean) rm_X7_readSign [.ref h0, .int p1] M K := by
  refine ct_any (QI K) (by decide) (by exact Nat.le_of_ble_eq_true rfl) (fun X hX hQ hnL hnm => ?_)
  rw [show lv_args 0 [.ref h0, .int p1] = [(0, va_rf (some h0)), (1, .int p1)] by rfl]
  have hX : Ok X cX7_readSign RX7 rm_X7_readSign := hX
  unfold wp_X7_readSign at h
  refine z_aload_n (r := (some h0)) hX dX7_readSign_0 rfl 0 rfl ?_
  refine z_iload_n hX dX7_readSign_1 rfl 1 rfl ?_
  obtain ⟨hk3, h⟩ := h
  refine z_callVI (As := [.int p1]) (rest := []) (ci := 7) hX (ct_X7_isSign h) mw_RX7_208 rfl (by decide) rfl (by rfl) (by unfold RoomC; decide) (by decide) dX7_readSign_2 hk3 (fun r1 M2 h => ?_)
  obtain ⟨h1, h2⟩ := h
  refine z_if_ne (tgt := 13) hX dX7_readSign_5 (by decide) (fun hc => ?_) (fun hc => ?_)
  · have h := h1 hc
    refine z_aload_n (r := (some h0)) hX dX7_readSign_13 rfl 0 rfl ?_
    obtain ⟨hk5, h⟩ := h
    refine gf_RX7_9 (r := (some h0)) hX dX7_readSign_14 rfl hk5 ?_
    obtain ⟨a8, ha9, h⟩ := h
    obtain ⟨hk10, h⟩ := h
    refine z_callVV (As := []) (rest := []) (ci := 4) hX (ct_X4_advance h) mw_RX7_19 rfl (by decide) rfl (by rw [ha9]; rfl) (by unfold RoomC; decide) (by decide) dX7_readSign_17 hk10 (fun M7 h => ?_)
    refine z_iconst (v := (1 : Int32)) hX dX7_readSign_20 (by decide) ?_
    exact y_zret hX hQ dX7_readSign_21 (Or.inr rfl) h
  · have h := h2 hc
    refine z_aload_n (r := (some h0)) hX dX7_readSign_8 rfl 0 rfl ?_
    obtain ⟨hk14, h⟩ := h
    refine z_callVI (As := []) (rest := []) (ci := 7) hX (ct_X7_refuseToken h) mw_RX7_84 rfl (by decide) rfl (by rfl) (by unfold RoomC; decide) (by decide) dX7_readSign_9 hk14 (fun r12 M13 h => ?_)
    exact y_zret hX hQ dX7_readSign_12 h.1 h.2
def rm_X9_add : Room := { frames := 2, cells := 0, slots := 0, locals := 51 }
def bk_X9_add_79 (h0 : Nat) (R32 : Int64 → Int32 → Int32 → Int64 → Int32 → Int32 → Mm → Prop) (K : Int32 → Mm → Prop) (l1 : Int64) (l3 : Int32) (l4 : Int32) (l5 : Int64) (l7 : Int32) (l8 : Int32) (M : Mm) : Prop := (R32 l1 l3 l4 l5 l7 (l8 + (-1)) M)
set_option maxRecDepth 100000 in
set_option maxHeartbeats 4000000 in
theorem zb_X9_add_79 {X : Cx} {h0 : Nat} {R32 : Int64 → Int32 → Int32 → Int64 → Int32 → Int32 → Mm → Prop} {K : Int32 → Mm → Prop} (hX : Ok X cX9_add RX9 rm_X9_add) (hQ : Rq X rm_X9_add (some .int) (QI K)) (hnL : X.2.2.2.2.2.2.2.2.2.2.2.2.2.2 = 11) (hR32 : ∀ l1 l3 l4 l5 l7 l8 M, R32 l1 l3 l4 l5 l7 l8 M → Z X M 0 0 32 [(0, va_rf (some h0)), (1, .long l1), (3, .int l3), (4, .int l4), (5, .long l5), (7, .int l7), (8, .int l8)] []) {l1 : Int64} {l3 : Int32} {l4 : Int32} {l5 : Int64} {l7 : Int32} {l8 : Int32} {M : Mm} (h : bk_X9_add_79 h0 R32 K l1 l3 l4 l5 l7 l8 M) : Z X M 0 0 79 [(0, va_rf (some h0)), (1, .long l1), (3, .int l3), (4, .int l4), (5, .long l5), (7, .int l7), (8, .int l8)] [] := by
  unfold bk_X9_add_79 at h
  refine z_iinc (v := (l8 + (-1))) hX [(8, .int (l8 + (-1))), (0, va_rf (some h0)), (1, .long l1), (3, .int l3), (4, .int l4), (5, .long l5), (7, .int l7)] dX9_add_79 6 rfl rfl (by rw [hnL]; decide) rfl ?_
  refine z_goto (tgt := 32) hX dX9_add_82 (by decide) ?_
  refine z_loc [1, 2, 3, 4, 5, 6, 0] rfl ?_
  exact hR32 _ _ _ _ _ _ _ h
def lp_X9_add_32 (h0 : Nat) (K : Int32 → Mm → Prop) : Nat → Int64 → Int32 → Int32 → Int64 → Int32 → Int32 → Mm → Prop
  | 0, _, _, _, _, _, _, _ => False
  | n + 1, l1, l3, l4, l5, l7, l8, M => ((l8 < 0 → (K l7 M)) ∧ (¬ l8 < 0 → mK M h0 = 10 ∧ (((((l5 - (((l8).toInt64) * (mJ M 577 h0))) + (mJ M 576 h0)) - (1 : Int64)) < l1 → (bk_X9_add_79 h0 (lp_X9_add_32 h0 K n) K l1 l3 l4 l5 l7 l8 M)) ∧ (¬ (((l5 - (((l8).toInt64) * (mJ M 577 h0))) + (mJ M 576 h0)) - (1 : Int64)) < l1 → (wp_X9_addTo M h0 (l5 - (((l8).toInt64) * (mJ M 577 h0))) l3 l4 (fun r2 M3 => ((¬ r2 = 0 → (bk_X9_add_79 h0 (lp_X9_add_32 h0 K n) K l1 l3 l4 l5 l7 l8 M3)) ∧ (r2 = 0 → (bk_X9_add_79 h0 (lp_X9_add_32 h0 K n) K l1 l3 l4 l5 (l7 + 1) l8 M3)))))))))
set_option maxRecDepth 100000 in
set_option maxHeartbeats 4000000 in
theorem zl_X9_add_32 {X : Cx} {h0 : Nat} {K : Int32 → Mm → Prop} (hX : Ok X cX9_add RX9 rm_X9_add) (hQ : Rq X rm_X9_add (some .int) (QI K)) (hnL : X.2.2.2.2.2.2.2.2.2.2.2.2.2.2 = 11) : ∀ (n : Nat) (l1 : Int64) (l3 : Int32) (l4 : Int32) (l5 : Int64) (l7 : Int32) (l8 : Int32) (M : Mm), lp_X9_add_32 h0 K n l1 l3 l4 l5 l7 l8 M → Z X M 0 0 32 [(0, va_rf (some h0)), (1, .long l1), (3, .int l3), (4, .int l4), (5, .long l5), (7, .int l7), (8, .int l8)] [] := by
  intro n
  induction n with
  | zero =>
    intro l1 l3 l4 l5 l7 l8 M h
    exact False.elim h
  | succ n hR32 =>
    intro l1 l3 l4 l5 l7 l8 M h
    refine z_iload hX dX9_add_32 6 rfl ?_
    obtain ⟨h1, h2⟩ := h
    refine z_if_lt (tgt := 85) hX dX9_add_34 (by decide) (fun hc => ?_) (fun hc => ?_)
    · have h := h1 hc
      refine z_iload hX dX9_add_85 5 rfl ?_
      exact z_iret hX hQ dX9_add_87 h
    · have h := h2 hc
      refine z_lload hX dX9_add_37 4 rfl ?_
      refine z_iload hX dX9_add_39 6 rfl ?_
      refine z_i2l hX dX9_add_41 ?_
      refine z_aload_n (r := (some h0)) hX dX9_add_42 rfl 0 rfl ?_
      obtain ⟨hk1, h⟩ := h
      refine gf_RX9_15 (r := (some h0)) hX dX9_add_43 rfl hk1 ?_
      refine z_lmul hX dX9_add_46 ?_
      refine z_lsub hX dX9_add_47 ?_
      refine z_lstore hX [(9, .long (l5 - (((l8).toInt64) * (mJ M 577 h0)))), (0, va_rf (some h0)), (1, .long l1), (3, .int l3), (4, .int l4), (5, .long l5), (7, .int l7), (8, .int l8)] dX9_add_48 (by rw [hnL]; decide) rfl ?_
      refine z_lload_n hX dX9_add_50 rfl 2 rfl ?_
      refine z_lload hX dX9_add_51 0 rfl ?_
      refine z_aload_n (r := (some h0)) hX dX9_add_53 rfl 1 rfl ?_
      refine gf_RX9_9 (r := (some h0)) hX dX9_add_54 rfl hk1 ?_
      refine z_ladd hX dX9_add_57 ?_
      refine z_lconst (v := (1 : Int64)) hX dX9_add_58 (by decide) ?_
      refine z_lsub hX dX9_add_59 ?_
      refine z_lcmp hX dX9_add_60 ?_
      obtain ⟨h1, h2⟩ := h
      refine z_if_gt (tgt := 79) hX dX9_add_61 (by decide) (fun hc => ?_) (fun hc => ?_)
      · have h := h1 ((lg_cmp_gt _ _).mp hc)
        refine z_loc [1, 2, 3, 4, 5, 6, 7] rfl ?_
        exact zb_X9_add_79 hX hQ hnL hR32 h
      · have h := h2 (fun q => hc ((lg_cmp_gt _ _).mpr q))
        refine z_aload_n (r := (some h0)) hX dX9_add_64 rfl 1 rfl ?_
        refine z_lload hX dX9_add_65 0 rfl ?_
        refine z_iload_n hX dX9_add_67 rfl 3 rfl ?_
        refine z_iload hX dX9_add_68 4 rfl ?_
        refine z_callVI (As := [.long (l5 - (((l8).toInt64) * (mJ M 577 h0))), .int l3, .int l4]) (rest := []) (ci := 9) hX (ct_X9_addTo h) mw_RX9_35 rfl (by decide) rfl (by rfl) (by unfold RoomC; decide) (by decide) dX9_add_70 hk1 (fun r2 M3 h => ?_)
        obtain ⟨h1, h2⟩ := h
        refine z_if_ne (tgt := 79) hX dX9_add_73 (by decide) (fun hc => ?_) (fun hc => ?_)
        · have h := h1 hc
          refine z_loc [1, 2, 3, 4, 5, 6, 7] rfl ?_
          exact zb_X9_add_79 hX hQ hnL hR32 h
        · have h := h2 hc
          refine z_iinc (v := (l7 + 1)) hX [(7, .int (l7 + 1)), (9, .long (l5 - (((l8).toInt64) * (mJ M 577 h0)))), (0, va_rf (some h0)), (1, .long l1), (3, .int l3), (4, .int l4), (5, .long l5), (8, .int l8)] dX9_add_76 6 rfl rfl (by rw [hnL]; decide) rfl ?_
          refine z_loc [2, 3, 4, 5, 6, 0, 7] rfl ?_
          exact zb_X9_add_79 hX hQ hnL hR32 h
def wp_X9_add (M : Mm) (h0 : Nat) (p1 : Int64) (p2 : Int32) (p3 : Int32) (K : Int32 → Mm → Prop) : Prop := mK M h0 = 10 ∧ (((1 : Int64) ≤ (mJ M 577 h0) → (wp_J9_floorDiv_f86c9 M p1 (mJ M 577 h0) (fun r6 M7 => mK M7 h0 = 10 ∧ (∃ kk, lp_X9_add_32 h0 K kk p1 p2 p3 (r6 * (mJ M7 577 h0)) (0 : Int32) (3 : Int32) M7)))) ∧ (¬ (1 : Int64) ≤ (mJ M 577 h0) → (K (0 : Int32) M)))
set_option maxRecDepth 100000 in
set_option maxHeartbeats 4000000 in
theorem ct_X9_add {M : Mm} {h0 : Nat} {p1 : Int64} {p2 : Int32} {p3 : Int32} {K : Int32 → Mm → Prop} (h : wp_X9_add M h0 p1 p2 p3 K) : CtI yX9_add cX9_add 11 (some .int) rm_X9_add [.ref h0, .long p1, .int p2, .int p3] M K := by
  refine ct_any (QI K) (by decide) (by exact Nat.le_of_ble_eq_true rfl) (fun X hX hQ hnL hnm => ?_)
  rw [show lv_args 0 [.ref h0, .long p1, .int p2, .int p3] = [(0, va_rf (some h0)), (1, .long p1), (3, .int p2), (4, .int p3)] by rfl]
  have hX : Ok X cX9_add RX9 rm_X9_add := hX
  unfold wp_X9_add at h
  refine z_aload_n (r := (some h0)) hX dX9_add_0 rfl 0 rfl ?_
  obtain ⟨hk5, h⟩ := h
  refine gf_RX9_15 (r := (some h0)) hX dX9_add_1 rfl hk5 ?_
  refine z_lconst (v := (1 : Int64)) hX dX9_add_4 (by decide) ?_
  refine z_lcmp hX dX9_add_5 ?_
  obtain ⟨h1, h2⟩ := h
  refine z_if_ge (tgt := 11) hX dX9_add_6 (by decide) (fun hc => ?_) (fun hc => ?_)
  · have h := h1 ((lg_cmp_ge _ _).mp hc)
    refine z_lload_n hX dX9_add_11 rfl 1 rfl ?_
    refine z_aload_n (r := (some h0)) hX dX9_add_12 rfl 0 rfl ?_
    refine gf_RX9_15 (r := (some h0)) hX dX9_add_13 rfl hk5 ?_
    refine z_callSJ (As := [.long p1, .long (mJ M 577 h0)]) (rest := []) hX (ct_J9_floorDiv_f86c9 h) mw_RX9_29 rfl (by rfl) (by unfold RoomC; decide) (by decide) dX9_add_16 (fun r6 M7 h => ?_)
    refine z_aload_n (r := (some h0)) hX dX9_add_19 rfl 0 rfl ?_
    obtain ⟨hk9, h⟩ := h
    refine gf_RX9_15 (r := (some h0)) hX dX9_add_20 rfl hk9 ?_
    refine z_lmul hX dX9_add_23 ?_
    refine z_lstore hX [(5, .long (r6 * (mJ M7 577 h0))), (0, va_rf (some h0)), (1, .long p1), (3, .int p2), (4, .int p3)] dX9_add_24 (by rw [hnL]; decide) rfl ?_
    refine z_iconst (v := (0 : Int32)) hX dX9_add_26 (by decide) ?_
    refine z_istore hX [(7, .int (0 : Int32)), (5, .long (r6 * (mJ M7 577 h0))), (0, va_rf (some h0)), (1, .long p1), (3, .int p2), (4, .int p3)] dX9_add_27 (by rw [hnL]; decide) rfl ?_
    refine z_iconst (v := (3 : Int32)) hX dX9_add_29 (by decide) ?_
    refine z_istore hX [(8, .int (3 : Int32)), (7, .int (0 : Int32)), (5, .long (r6 * (mJ M7 577 h0))), (0, va_rf (some h0)), (1, .long p1), (3, .int p2), (4, .int p3)] dX9_add_30 (by rw [hnL]; decide) rfl ?_
    refine z_loc [3, 4, 5, 6, 2, 1, 0] rfl ?_
    obtain ⟨n, h⟩ := h
    exact zl_X9_add_32 hX hQ hnL n _ _ _ _ _ _ _ h
  · have h := h2 (fun q => hc ((lg_cmp_ge _ _).mpr q))
    refine z_iconst (v := (0 : Int32)) hX dX9_add_9 (by decide) ?_
    exact z_iret hX hQ dX9_add_10 h
def rm_X7_readBeginning : Room := { frames := 4, cells := 2, slots := 16, locals := 86 }
def bk_X7_readBeginning_61 (h0 : Nat) (K : Option Nat → Mm → Prop) (M : Mm) : Prop := mK M h0 = 8 ∧ (wp_X7_refuse M h0 (6 : Int32) (fun r1 M2 => (K none M2)))
set_option maxRecDepth 100000 in
set_option maxHeartbeats 4000000 in
theorem zb_X7_readBeginning_61 {X : Cx} {h0 : Nat} {K : Option Nat → Mm → Prop} (hX : Ok X cX7_readBeginning RX7 rm_X7_readBeginning) (hQ : Rq X rm_X7_readBeginning (some (.object "WatermarkJoin$Stream")) (QR K)) (hnL : X.2.2.2.2.2.2.2.2.2.2.2.2.2.2 = 4) {M : Mm} (h : bk_X7_readBeginning_61 h0 K M) : Z X M 0 0 61 [(0, va_rf (some h0))] [] := by
  unfold bk_X7_readBeginning_61 at h
  refine z_aload_n (r := (some h0)) hX dX7_readBeginning_61 rfl 0 rfl ?_
  refine z_bipush (v := (6 : Int32)) hX dX7_readBeginning_62 (by decide) ?_
  obtain ⟨hk3, h⟩ := h
  refine z_callVI (As := [.int (6 : Int32)]) (rest := []) (ci := 7) hX (ct_X7_refuse h) mw_RX7_34 rfl (by decide) rfl (by rfl) (by unfold RoomC; decide) (by decide) dX7_readBeginning_64 hk3 (fun r1 M2 h => ?_)
  refine z_pop hX dX7_readBeginning_67 rfl ?_
  refine z_null hX dX7_readBeginning_68 ?_
  refine z_widen 2 16 (by decide) (by decide) ?_
  exact z_aret hX hQ dX7_readBeginning_69 h
def wp_X7_readBeginning (M : Mm) (h0 : Nat) (p1 : Int32) (K : Option Nat → Mm → Prop) : Prop := mK M h0 = 8 ∧ ∃ a6, (mR M 448 h0) = some a6 ∧ mK M a6 = 5 ∧ (((mI M 258 a6) = (3 : Int32) → ∃ a11, (mR M 449 h0) = some a11 ∧ mK M a11 = 2 ∧ (wp_X1_named M a11 (mJ M 260 a6) (fun r9 M10 => ((r9 = none → ((¬ p1 = 0 → (bk_X7_readBeginning_61 h0 K M10)) ∧ (p1 = 0 → mK M10 h0 = 8 ∧ ∃ a18, (mR M10 449 h0) = some a18 ∧ mK M10 a18 = 2 ∧ (((mI M10 69 a18) < (12 : Int32) → ∃ a23, (mR M10 448 h0) = some a23 ∧ mK M10 a23 = 5 ∧ (wp_X4_advance M10 a23 (fun M22 => mK M22 h0 = 8 ∧ (wp_X7_readSign M22 h0 (61 : Int32) (fun r27 M28 => ((¬ r27 = 0 → (∀ q31, mK M28 q31 = 0 → mK (nw M28 q31 7) h0 = 8 ∧ ∃ a35, (mR (nw M28 q31 7) 449 h0) = some a35 ∧ mK (nw M28 q31 7) a35 = 2 ∧ ∃ a38, (mR (nw M28 q31 7) 448 h0) = some a38 ∧ mK (nw M28 q31 7) a38 = 5 ∧ (wp_X6_init (nw M28 q31 7) q31 (mI (nw M28 q31 7) 69 a35) (mJ M 260 a6) (mJ (nw M28 q31 7) 260 a38) (fun M42 => (K (some q31) M42))))) ∧ (r27 = 0 → (K none M28)))))))) ∧ (¬ (mI M10 69 a18) < (12 : Int32) → (bk_X7_readBeginning_61 h0 K M10)))))) ∧ (∀ a15, r9 = some a15 → mK M10 h0 = 8 ∧ (wp_X7_refuse M10 h0 (3 : Int32) (fun r44 M45 => (K none M45)))))))) ∧ (¬ (mI M 258 a6) = (3 : Int32) → (wp_X7_refuseToken M h0 (fun r48 M49 => (K none M49)))))
set_option maxRecDepth 100000 in
set_option maxHeartbeats 4000000 in
theorem ct_X7_readBeginning {M : Mm} {h0 : Nat} {p1 : Int32} {K : Option Nat → Mm → Prop} (h : wp_X7_readBeginning M h0 p1 K) : CtR yX7_readBeginning cX7_readBeginning 4 (some (.object "WatermarkJoin$Stream")) rm_X7_readBeginning [.ref h0, .int p1] M K := by
  refine ct_any (QR K) (by decide) (by exact Nat.le_of_ble_eq_true rfl) (fun X hX hQ hnL hnm => ?_)
  rw [show lv_args 0 [.ref h0, .int p1] = [(0, va_rf (some h0)), (1, .int p1)] by rfl]
  have hX : Ok X cX7_readBeginning RX7 rm_X7_readBeginning := hX
  unfold wp_X7_readBeginning at h
  refine z_aload_n (r := (some h0)) hX dX7_readBeginning_0 rfl 0 rfl ?_
  obtain ⟨hk5, h⟩ := h
  refine gf_RX7_9 (r := (some h0)) hX dX7_readBeginning_1 rfl hk5 ?_
  obtain ⟨a6, ha7, h⟩ := h
  obtain ⟨hk8, h⟩ := h
  refine gf_RX7_81 (r := (mR M 448 h0)) hX dX7_readBeginning_4 ha7 hk8 ?_
  refine z_lstore_n hX [(2, .long (mJ M 260 a6)), (0, va_rf (some h0)), (1, .int p1)] dX7_readBeginning_7 rfl (by rw [hnL]; decide) rfl ?_
  refine z_aload_n (r := (some h0)) hX dX7_readBeginning_8 rfl 1 rfl ?_
  refine gf_RX7_9 (r := (some h0)) hX dX7_readBeginning_9 rfl hk5 ?_
  refine gf_RX7_24 (r := (mR M 448 h0)) hX dX7_readBeginning_12 ha7 hk8 ?_
  refine z_iconst (v := (3 : Int32)) hX dX7_readBeginning_15 (by decide) ?_
  obtain ⟨h1, h2⟩ := h
  refine z_icmp_eq (tgt := 26) hX dX7_readBeginning_16 (by decide) (fun hc => ?_) (fun hc => ?_)
  · have h := h1 hc
    refine z_aload_n (r := (some h0)) hX dX7_readBeginning_26 rfl 1 rfl ?_
    refine gf_RX7_15 (r := (some h0)) hX dX7_readBeginning_27 rfl hk5 ?_
    refine z_lload_n hX dX7_readBeginning_30 rfl 0 rfl ?_
    obtain ⟨a11, ha12, h⟩ := h
    obtain ⟨hk13, h⟩ := h
    refine z_callVR (As := [.long (mJ M 260 a6)]) (rest := []) (ci := 1) hX (ct_X1_named h) mw_RX7_87 rfl (by decide) rfl (by rw [ha12]; rfl) (by unfold RoomC; decide) (by decide) dX7_readBeginning_31 hk13 (fun r9 M10 h => ?_)
    obtain ⟨h1, h2⟩ := h
    refine z_ifnull (r := r9) (tgt := 45) hX dX7_readBeginning_34 (by decide) (fun hc => ?_) (fun a15 ha16 => ?_)
    · have h := h1 hc
      refine z_iload_n hX dX7_readBeginning_45 rfl 2 rfl ?_
      obtain ⟨h1, h2⟩ := h
      refine z_if_ne (tgt := 61) hX dX7_readBeginning_46 (by decide) (fun hc => ?_) (fun hc => ?_)
      · have h := h1 hc
        refine z_loc [1] rfl ?_
        refine z_widen 0 0 (by decide) (by decide) ?_
        exact zb_X7_readBeginning_61 hX hQ hnL h
      · have h := h2 hc
        refine z_aload_n (r := (some h0)) hX dX7_readBeginning_49 rfl 1 rfl ?_
        obtain ⟨hk17, h⟩ := h
        refine gf_RX7_15 (r := (some h0)) hX dX7_readBeginning_50 rfl hk17 ?_
        obtain ⟨a18, ha19, h⟩ := h
        obtain ⟨hk20, h⟩ := h
        refine gf_RX7_91 (r := (mR M10 449 h0)) hX dX7_readBeginning_53 ha19 hk20 ?_
        refine z_bipush (v := (12 : Int32)) hX dX7_readBeginning_56 (by decide) ?_
        obtain ⟨h1, h2⟩ := h
        refine z_icmp_lt (tgt := 70) hX dX7_readBeginning_58 (by decide) (fun hc => ?_) (fun hc => ?_)
        · have h := h1 hc
          refine z_aload_n (r := (some h0)) hX dX7_readBeginning_70 rfl 1 rfl ?_
          refine gf_RX7_9 (r := (some h0)) hX dX7_readBeginning_71 rfl hk17 ?_
          obtain ⟨a23, ha24, h⟩ := h
          obtain ⟨hk25, h⟩ := h
          refine z_callVV (As := []) (rest := []) (ci := 4) hX (ct_X4_advance h) mw_RX7_19 rfl (by decide) rfl (by rw [ha24]; rfl) (by unfold RoomC; decide) (by decide) dX7_readBeginning_74 hk25 (fun M22 h => ?_)
          refine z_aload_n (r := (some h0)) hX dX7_readBeginning_77 rfl 1 rfl ?_
          refine z_bipush (v := (61 : Int32)) hX dX7_readBeginning_78 (by decide) ?_
          obtain ⟨hk29, h⟩ := h
          refine z_callVI (As := [.int (61 : Int32)]) (rest := []) (ci := 7) hX (ct_X7_readSign h) mw_RX7_78 rfl (by decide) rfl (by rfl) (by unfold RoomC; decide) (by decide) dX7_readBeginning_80 hk29 (fun r27 M28 h => ?_)
          obtain ⟨h1, h2⟩ := h
          refine z_if_ne (tgt := 88) hX dX7_readBeginning_83 (by decide) (fun hc => ?_) (fun hc => ?_)
          · have h := h1 hc
            refine nq_RX7_94 hX dX7_readBeginning_88 (by decide) (by decide) (fun q31 hq32 => ?_)
            have h := h q31 hq32
            refine z_dup hX dX7_readBeginning_91 (cat_rf _) ?_
            refine z_aload_n (r := (some h0)) hX dX7_readBeginning_92 rfl 1 rfl ?_
            obtain ⟨hk34, h⟩ := h
            refine gf_RX7_15 (r := (some h0)) hX dX7_readBeginning_93 rfl hk34 ?_
            obtain ⟨a35, ha36, h⟩ := h
            obtain ⟨hk37, h⟩ := h
            refine gf_RX7_91 (r := (mR (nw M28 q31 7) 449 h0)) hX dX7_readBeginning_96 ha36 hk37 ?_
            refine z_lload_n hX dX7_readBeginning_99 rfl 0 rfl ?_
            refine z_aload_n (r := (some h0)) hX dX7_readBeginning_100 rfl 1 rfl ?_
            refine gf_RX7_9 (r := (some h0)) hX dX7_readBeginning_101 rfl hk34 ?_
            obtain ⟨a38, ha39, h⟩ := h
            obtain ⟨hk40, h⟩ := h
            refine gf_RX7_81 (r := (mR (nw M28 q31 7) 448 h0)) hX dX7_readBeginning_104 ha39 hk40 ?_
            refine z_callIV (As := [.int (mI (nw M28 q31 7) 69 a35), .long (mJ M 260 a6), .long (mJ (nw M28 q31 7) 260 a38)]) (rest := [va_rf (some q31)]) hX (ct_X6_init h) mw_RX7_96 rfl (by rfl) (by unfold RoomC; decide) (by simp only [List.map_cons, List.map_nil, List.sum_cons, List.sum_nil, cat_rf, cat_i, cat_j]; decide) dX7_readBeginning_107 (fun M42 h => ?_)
            refine z_widen 2 16 (by decide) (by decide) ?_
            exact z_aret hX hQ dX7_readBeginning_110 h
          · have h := h2 hc
            refine z_null hX dX7_readBeginning_86 ?_
            refine z_widen 2 16 (by decide) (by decide) ?_
            exact z_aret hX hQ dX7_readBeginning_87 h
        · have h := h2 hc
          refine z_loc [1] rfl ?_
          refine z_widen 0 0 (by decide) (by decide) ?_
          exact zb_X7_readBeginning_61 hX hQ hnL h
    · have h := h2 a15 ha16
      refine z_aload_n (r := (some h0)) hX dX7_readBeginning_37 rfl 1 rfl ?_
      refine z_iconst (v := (3 : Int32)) hX dX7_readBeginning_38 (by decide) ?_
      obtain ⟨hk46, h⟩ := h
      refine z_callVI (As := [.int (3 : Int32)]) (rest := []) (ci := 7) hX (ct_X7_refuse h) mw_RX7_34 rfl (by decide) rfl (by rfl) (by unfold RoomC; decide) (by decide) dX7_readBeginning_39 hk46 (fun r44 M45 h => ?_)
      refine z_pop hX dX7_readBeginning_42 rfl ?_
      refine z_null hX dX7_readBeginning_43 ?_
      refine z_widen 2 16 (by decide) (by decide) ?_
      exact z_aret hX hQ dX7_readBeginning_44 h
  · have h := h2 hc
    refine z_aload_n (r := (some h0)) hX dX7_readBeginning_19 rfl 1 rfl ?_
    refine z_callVI (As := []) (rest := []) (ci := 7) hX (ct_X7_refuseToken h) mw_RX7_84 rfl (by decide) rfl (by rfl) (by unfold RoomC; decide) (by decide) dX7_readBeginning_20 hk5 (fun r48 M49 h => ?_)
    refine z_pop hX dX7_readBeginning_23 rfl ?_
    refine z_null hX dX7_readBeginning_24 ?_
    refine z_widen 2 16 (by decide) (by decide) ?_
    exact z_aret hX hQ dX7_readBeginning_25 h
def rm_X7_readUnion : Room := { frames := 4, cells := 0, slots := 0, locals := 87 }
def bk_X7_readUnion_49 (h0 : Nat) (K : Int32 → Mm → Prop) (M : Mm) : Prop := mK M h0 = 8 ∧ (wp_X7_readSign M h0 (59 : Int32) (fun r1 M2 => (bz r1 ∧ K r1 M2)))
set_option maxRecDepth 100000 in
set_option maxHeartbeats 4000000 in
theorem zb_X7_readUnion_49 {X : Cx} {h0 : Nat} {K : Int32 → Mm → Prop} (hX : Ok X cX7_readUnion RX7 rm_X7_readUnion) (hQ : Rq X rm_X7_readUnion (some .boolean) (QI K)) (hnL : X.2.2.2.2.2.2.2.2.2.2.2.2.2.2 = 3) {M : Mm} (h : bk_X7_readUnion_49 h0 K M) : Z X M 0 0 49 [(0, va_rf (some h0))] [] := by
  unfold bk_X7_readUnion_49 at h
  refine z_aload_n (r := (some h0)) hX dX7_readUnion_49 rfl 0 rfl ?_
  refine z_bipush (v := (59 : Int32)) hX dX7_readUnion_50 (by decide) ?_
  obtain ⟨hk3, h⟩ := h
  refine z_callVI (As := [.int (59 : Int32)]) (rest := []) (ci := 7) hX (ct_X7_readSign h) mw_RX7_78 rfl (by decide) rfl (by rfl) (by unfold RoomC; decide) (by decide) dX7_readUnion_52 hk3 (fun r1 M2 h => ?_)
  exact y_zret hX hQ dX7_readUnion_55 h.1 h.2
def bk_X7_readUnion_33 (h0 : Nat) (R9 : Option Nat → Int32 → Mm → Prop) (K : Int32 → Mm → Prop) (l1 : Option Nat) (l2 : Int32) (M : Mm) : Prop := mK M h0 = 8 ∧ (wp_X7_readInput M h0 l1 (fun r5 M6 => ((¬ r5 = 0 → (R9 l1 (l2 + 1) M6)) ∧ (r5 = 0 → (K (0 : Int32) M6)))))
set_option maxRecDepth 100000 in
set_option maxHeartbeats 4000000 in
theorem zb_X7_readUnion_33 {X : Cx} {h0 : Nat} {R9 : Option Nat → Int32 → Mm → Prop} {K : Int32 → Mm → Prop} (hX : Ok X cX7_readUnion RX7 rm_X7_readUnion) (hQ : Rq X rm_X7_readUnion (some .boolean) (QI K)) (hnL : X.2.2.2.2.2.2.2.2.2.2.2.2.2.2 = 3) (hR9 : ∀ l1 l2 M, R9 l1 l2 M → Z X M 0 0 9 [(0, va_rf (some h0)), (1, va_rf l1), (2, .int l2)] []) {l1 : Option Nat} {l2 : Int32} {M : Mm} (h : bk_X7_readUnion_33 h0 R9 K l1 l2 M) : Z X M 0 0 33 [(0, va_rf (some h0)), (1, va_rf l1), (2, .int l2)] [] := by
  unfold bk_X7_readUnion_33 at h
  refine z_aload_n (r := (some h0)) hX dX7_readUnion_33 rfl 0 rfl ?_
  refine z_aload_n (r := l1) hX dX7_readUnion_34 rfl 1 rfl ?_
  obtain ⟨hk7, h⟩ := h
  refine z_callVI (As := [va_rf l1]) (rest := []) (ci := 7) hX (ct_X7_readInput h) mw_RX7_116 rfl (by decide) rfl (by rfl) (by unfold RoomC; decide) (by decide) dX7_readUnion_35 hk7 (fun r5 M6 h => ?_)
  obtain ⟨h1, h2⟩ := h
  refine z_if_ne (tgt := 43) hX dX7_readUnion_38 (by decide) (fun hc => ?_) (fun hc => ?_)
  · have h := h1 hc
    refine z_iinc (v := (l2 + 1)) hX [(2, .int (l2 + 1)), (0, va_rf (some h0)), (1, va_rf l1)] dX7_readUnion_43 2 rfl rfl (by rw [hnL]; decide) (by simp [cat_rf]) ?_
    refine z_goto (tgt := 9) hX dX7_readUnion_46 (by decide) ?_
    refine z_loc [1, 2, 0] rfl ?_
    exact hR9 _ _ _ h
  · have h := h2 hc
    refine z_iconst (v := (0 : Int32)) hX dX7_readUnion_41 (by decide) ?_
    exact y_zret hX hQ dX7_readUnion_42 (Or.inl rfl) h
def lp_X7_readUnion_9 (h0 : Nat) (K : Int32 → Mm → Prop) : Nat → Option Nat → Int32 → Mm → Prop
  | 0, _, _, _ => False
  | n + 1, l1, l2, M => (((4 : Int32) ≤ l2 → (bk_X7_readUnion_49 h0 K M)) ∧ (¬ (4 : Int32) ≤ l2 → ((l2 < (2 : Int32) → (bk_X7_readUnion_33 h0 (lp_X7_readUnion_9 h0 K n) K l1 l2 M)) ∧ (¬ l2 < (2 : Int32) → mK M h0 = 8 ∧ ∃ a10, (mR M 448 h0) = some a10 ∧ mK M a10 = 5 ∧ (((mI M 258 a10) = (3 : Int32) → (bk_X7_readUnion_33 h0 (lp_X7_readUnion_9 h0 K n) K l1 l2 M)) ∧ (¬ (mI M 258 a10) = (3 : Int32) → (bk_X7_readUnion_49 h0 K M)))))))
set_option maxRecDepth 100000 in
set_option maxHeartbeats 4000000 in
theorem zl_X7_readUnion_9 {X : Cx} {h0 : Nat} {K : Int32 → Mm → Prop} (hX : Ok X cX7_readUnion RX7 rm_X7_readUnion) (hQ : Rq X rm_X7_readUnion (some .boolean) (QI K)) (hnL : X.2.2.2.2.2.2.2.2.2.2.2.2.2.2 = 3) : ∀ (n : Nat) (l1 : Option Nat) (l2 : Int32) (M : Mm), lp_X7_readUnion_9 h0 K n l1 l2 M → Z X M 0 0 9 [(0, va_rf (some h0)), (1, va_rf l1), (2, .int l2)] [] := by
  intro n
  induction n with
  | zero =>
    intro l1 l2 M h
    exact False.elim h
  | succ n hR9 =>
    intro l1 l2 M h
    refine z_iload_n hX dX7_readUnion_9 rfl 2 rfl ?_
    refine z_iconst (v := (4 : Int32)) hX dX7_readUnion_10 (by decide) ?_
    obtain ⟨h1, h2⟩ := h
    refine z_icmp_ge (tgt := 49) hX dX7_readUnion_11 (by decide) (fun hc => ?_) (fun hc => ?_)
    · have h := h1 hc
      refine z_loc [0] rfl ?_
      exact zb_X7_readUnion_49 hX hQ hnL h
    · have h := h2 hc
      refine z_iload_n hX dX7_readUnion_14 rfl 2 rfl ?_
      refine z_iconst (v := (2 : Int32)) hX dX7_readUnion_15 (by decide) ?_
      obtain ⟨h1, h2⟩ := h
      refine z_icmp_lt (tgt := 33) hX dX7_readUnion_16 (by decide) (fun hc => ?_) (fun hc => ?_)
      · have h := h1 hc
        exact zb_X7_readUnion_33 hX hQ hnL hR9 h
      · have h := h2 hc
        refine z_aload_n (r := (some h0)) hX dX7_readUnion_19 rfl 0 rfl ?_
        obtain ⟨hk9, h⟩ := h
        refine gf_RX7_9 (r := (some h0)) hX dX7_readUnion_20 rfl hk9 ?_
        obtain ⟨a10, ha11, h⟩ := h
        obtain ⟨hk12, h⟩ := h
        refine gf_RX7_24 (r := (mR M 448 h0)) hX dX7_readUnion_23 ha11 hk12 ?_
        refine z_iconst (v := (3 : Int32)) hX dX7_readUnion_26 (by decide) ?_
        obtain ⟨h1, h2⟩ := h
        refine z_icmp_eq (tgt := 33) hX dX7_readUnion_27 (by decide) (fun hc => ?_) (fun hc => ?_)
        · have h := h1 hc
          exact zb_X7_readUnion_33 hX hQ hnL hR9 h
        · have h := h2 hc
          refine z_goto (tgt := 49) hX dX7_readUnion_30 (by decide) ?_
          refine z_loc [0] rfl ?_
          exact zb_X7_readUnion_49 hX hQ hnL h
def wp_X7_readUnion (M : Mm) (h0 : Nat) (p1 : Option Nat) (K : Int32 → Mm → Prop) : Prop := mK M h0 = 8 ∧ ∃ a16, (mR M 448 h0) = some a16 ∧ mK M a16 = 5 ∧ (wp_X4_advance M a16 (fun M15 => (∃ kk, lp_X7_readUnion_9 h0 K kk p1 (0 : Int32) M15)))
set_option maxRecDepth 100000 in
set_option maxHeartbeats 4000000 in
theorem ct_X7_readUnion {M : Mm} {h0 : Nat} {p1 : Option Nat} {K : Int32 → Mm → Prop} (h : wp_X7_readUnion M h0 p1 K) : CtI yX7_readUnion cX7_readUnion 3 (some .boolean) rm_X7_readUnion [.ref h0, va_rf p1] M K := by
  refine ct_any (QI K) (by decide) (by cases p1 <;> exact Nat.le_of_ble_eq_true rfl) (fun X hX hQ hnL hnm => ?_)
  rw [show lv_args 0 [.ref h0, va_rf p1] = [(0, va_rf (some h0)), (1, va_rf p1)] by cases p1 <;> rfl]
  have hX : Ok X cX7_readUnion RX7 rm_X7_readUnion := hX
  unfold wp_X7_readUnion at h
  refine z_aload_n (r := (some h0)) hX dX7_readUnion_0 rfl 0 rfl ?_
  obtain ⟨hk13, h⟩ := h
  refine gf_RX7_9 (r := (some h0)) hX dX7_readUnion_1 rfl hk13 ?_
  obtain ⟨a16, ha17, h⟩ := h
  obtain ⟨hk18, h⟩ := h
  refine z_callVV (As := []) (rest := []) (ci := 4) hX (ct_X4_advance h) mw_RX7_19 rfl (by decide) rfl (by rw [ha17]; rfl) (by unfold RoomC; decide) (by decide) dX7_readUnion_4 hk18 (fun M15 h => ?_)
  refine z_iconst (v := (0 : Int32)) hX dX7_readUnion_7 (by decide) ?_
  refine z_istore_n (i := 2) hX [(2, .int (0 : Int32)), (0, va_rf (some h0)), (1, va_rf p1)] dX7_readUnion_8 rfl (by rw [hnL]; decide) (by simp [cat_rf]) ?_
  refine z_loc [1, 2, 0] rfl ?_
  obtain ⟨n, h⟩ := h
  exact zl_X7_readUnion_9 hX hQ hnL n _ _ _ h
def rm_X7_readSignedNumber : Room := { frames := 3, cells := 0, slots := 0, locals := 65 }
def bk_X7_readSignedNumber_61 (h0 : Nat) (K : Int32 → Mm → Prop) (M : Mm) : Prop := mK M h0 = 8 ∧ ∃ a4, (mR M 448 h0) = some a4 ∧ mK M a4 = 5 ∧ (wp_X4_advance M a4 (fun M3 => (K (1 : Int32) M3)))
set_option maxRecDepth 100000 in
set_option maxHeartbeats 4000000 in
theorem zb_X7_readSignedNumber_61 {X : Cx} {h0 : Nat} {K : Int32 → Mm → Prop} (hX : Ok X cX7_readSignedNumber RX7 rm_X7_readSignedNumber) (hQ : Rq X rm_X7_readSignedNumber (some .boolean) (QI K)) (hnL : X.2.2.2.2.2.2.2.2.2.2.2.2.2.2 = 4) {M : Mm} (h : bk_X7_readSignedNumber_61 h0 K M) : Z X M 0 0 61 [(0, va_rf (some h0))] [] := by
  unfold bk_X7_readSignedNumber_61 at h
  refine z_aload_n (r := (some h0)) hX dX7_readSignedNumber_61 rfl 0 rfl ?_
  obtain ⟨hk1, h⟩ := h
  refine gf_RX7_9 (r := (some h0)) hX dX7_readSignedNumber_62 rfl hk1 ?_
  obtain ⟨a4, ha5, h⟩ := h
  obtain ⟨hk6, h⟩ := h
  refine z_callVV (As := []) (rest := []) (ci := 4) hX (ct_X4_advance h) mw_RX7_19 rfl (by decide) rfl (by rw [ha5]; rfl) (by unfold RoomC; decide) (by decide) dX7_readSignedNumber_65 hk6 (fun M3 h => ?_)
  refine z_iconst (v := (1 : Int32)) hX dX7_readSignedNumber_68 (by decide) ?_
  exact y_zret hX hQ dX7_readSignedNumber_69 (Or.inr rfl) h
def bk_X7_readSignedNumber_48 (h0 : Nat) (K : Int32 → Mm → Prop) (l3 : Int32) (M : Mm) : Prop := ((l3 = 0 → (bk_X7_readSignedNumber_61 h0 K M)) ∧ (¬ l3 = 0 → mK M h0 = 8 ∧ (bk_X7_readSignedNumber_61 h0 K (sJ M 454 h0 (-(mJ M 454 h0))))))
set_option maxRecDepth 100000 in
set_option maxHeartbeats 4000000 in
theorem zb_X7_readSignedNumber_48 {X : Cx} {h0 : Nat} {K : Int32 → Mm → Prop} (hX : Ok X cX7_readSignedNumber RX7 rm_X7_readSignedNumber) (hQ : Rq X rm_X7_readSignedNumber (some .boolean) (QI K)) (hnL : X.2.2.2.2.2.2.2.2.2.2.2.2.2.2 = 4) {l3 : Int32} {M : Mm} (h : bk_X7_readSignedNumber_48 h0 K l3 M) : Z X M 0 0 48 [(0, va_rf (some h0)), (3, .int l3)] [] := by
  unfold bk_X7_readSignedNumber_48 at h
  refine z_iload_n hX dX7_readSignedNumber_48 rfl 1 rfl ?_
  obtain ⟨h1, h2⟩ := h
  refine z_if_eq (tgt := 61) hX dX7_readSignedNumber_49 (by decide) (fun hc => ?_) (fun hc => ?_)
  · have h := h1 hc
    refine z_loc [0] rfl ?_
    exact zb_X7_readSignedNumber_61 hX hQ hnL h
  · have h := h2 hc
    refine z_aload_n (r := (some h0)) hX dX7_readSignedNumber_52 rfl 0 rfl ?_
    refine z_aload_n (r := (some h0)) hX dX7_readSignedNumber_53 rfl 0 rfl ?_
    obtain ⟨hk8, h⟩ := h
    refine gf_RX7_62 (r := (some h0)) hX dX7_readSignedNumber_54 rfl hk8 ?_
    refine z_lneg hX dX7_readSignedNumber_57 ?_
    refine pf_RX7_62 (r := (some h0)) (v := (-(mJ M 454 h0))) hX dX7_readSignedNumber_58 rfl hk8 ?_
    refine z_loc [0] rfl ?_
    exact zb_X7_readSignedNumber_61 hX hQ hnL h
def bk_X7_readSignedNumber_46 (h0 : Nat) (K : Int32 → Mm → Prop) (M : Mm) : Prop := (K (0 : Int32) M)
set_option maxRecDepth 100000 in
set_option maxHeartbeats 4000000 in
theorem zb_X7_readSignedNumber_46 {X : Cx} {h0 : Nat} {K : Int32 → Mm → Prop} (hX : Ok X cX7_readSignedNumber RX7 rm_X7_readSignedNumber) (hQ : Rq X rm_X7_readSignedNumber (some .boolean) (QI K)) (hnL : X.2.2.2.2.2.2.2.2.2.2.2.2.2.2 = 4) {M : Mm} (h : bk_X7_readSignedNumber_46 h0 K M) : Z X M 0 0 46 [] [] := by
  unfold bk_X7_readSignedNumber_46 at h
  refine z_iconst (v := (0 : Int32)) hX dX7_readSignedNumber_46 (by decide) ?_
  exact y_zret hX hQ dX7_readSignedNumber_47 (Or.inl rfl) h
def bk_X7_readSignedNumber_18 (h0 : Nat) (K : Int32 → Mm → Prop) (l1 : Int64) (l3 : Int32) (M : Mm) : Prop := ((l3 = 0 → mK M h0 = 8 ∧ (wp_X7_isNumber M h0 l1 (999999999999999999 : Int64) (fun r10 M11 => ((¬ r10 = 0 → (bk_X7_readSignedNumber_48 h0 K l3 M11)) ∧ (r10 = 0 → (bk_X7_readSignedNumber_46 h0 K M11)))))) ∧ (¬ l3 = 0 → mK M h0 = 8 ∧ (wp_X7_isNumber M h0 (0 : Int64) (-l1) (fun r14 M15 => ((r14 = 0 → (bk_X7_readSignedNumber_46 h0 K M15)) ∧ (¬ r14 = 0 → (bk_X7_readSignedNumber_48 h0 K l3 M15)))))))
set_option maxRecDepth 100000 in
set_option maxHeartbeats 4000000 in
theorem zb_X7_readSignedNumber_18 {X : Cx} {h0 : Nat} {K : Int32 → Mm → Prop} (hX : Ok X cX7_readSignedNumber RX7 rm_X7_readSignedNumber) (hQ : Rq X rm_X7_readSignedNumber (some .boolean) (QI K)) (hnL : X.2.2.2.2.2.2.2.2.2.2.2.2.2.2 = 4) {l1 : Int64} {l3 : Int32} {M : Mm} (h : bk_X7_readSignedNumber_18 h0 K l1 l3 M) : Z X M 0 0 18 [(0, va_rf (some h0)), (1, .long l1), (3, .int l3)] [] := by
  unfold bk_X7_readSignedNumber_18 at h
  refine z_iload_n hX dX7_readSignedNumber_18 rfl 2 rfl ?_
  obtain ⟨h1, h2⟩ := h
  refine z_if_eq (tgt := 35) hX dX7_readSignedNumber_19 (by decide) (fun hc => ?_) (fun hc => ?_)
  · have h := h1 hc
    refine z_aload_n (r := (some h0)) hX dX7_readSignedNumber_35 rfl 0 rfl ?_
    refine z_lload_n hX dX7_readSignedNumber_36 rfl 1 rfl ?_
    refine z_ldc2 (v := (999999999999999999 : Int64)) hX dX7_readSignedNumber_37 kj_RX7_69 ?_
    obtain ⟨hk12, h⟩ := h
    refine z_callVI (As := [.long l1, .long (999999999999999999 : Int64)]) (rest := []) (ci := 7) hX (ct_X7_isNumber h) mw_RX7_58 rfl (by decide) rfl (by rfl) (by unfold RoomC; decide) (by decide) dX7_readSignedNumber_40 hk12 (fun r10 M11 h => ?_)
    obtain ⟨h1, h2⟩ := h
    refine z_if_ne (tgt := 48) hX dX7_readSignedNumber_43 (by decide) (fun hc => ?_) (fun hc => ?_)
    · have h := h1 hc
      refine z_loc [0, 2] rfl ?_
      exact zb_X7_readSignedNumber_48 hX hQ hnL h
    · have h := h2 hc
      refine z_loc [] rfl ?_
      exact zb_X7_readSignedNumber_46 hX hQ hnL h
  · have h := h2 hc
    refine z_aload_n (r := (some h0)) hX dX7_readSignedNumber_22 rfl 0 rfl ?_
    refine z_lconst (v := (0 : Int64)) hX dX7_readSignedNumber_23 (by decide) ?_
    refine z_lload_n hX dX7_readSignedNumber_24 rfl 1 rfl ?_
    refine z_lneg hX dX7_readSignedNumber_25 ?_
    obtain ⟨hk16, h⟩ := h
    refine z_callVI (As := [.long (0 : Int64), .long (-l1)]) (rest := []) (ci := 7) hX (ct_X7_isNumber h) mw_RX7_58 rfl (by decide) rfl (by rfl) (by unfold RoomC; decide) (by decide) dX7_readSignedNumber_26 hk16 (fun r14 M15 h => ?_)
    obtain ⟨h1, h2⟩ := h
    refine z_if_eq (tgt := 46) hX dX7_readSignedNumber_29 (by decide) (fun hc => ?_) (fun hc => ?_)
    · have h := h1 hc
      refine z_loc [] rfl ?_
      exact zb_X7_readSignedNumber_46 hX hQ hnL h
    · have h := h2 hc
      refine z_goto (tgt := 48) hX dX7_readSignedNumber_32 (by decide) ?_
      refine z_loc [0, 2] rfl ?_
      exact zb_X7_readSignedNumber_48 hX hQ hnL h
def wp_X7_readSignedNumber (M : Mm) (h0 : Nat) (p1 : Int64) (K : Int32 → Mm → Prop) : Prop := mK M h0 = 8 ∧ (wp_X7_isSign M h0 (45 : Int32) (fun r18 M19 => ((r18 = 0 → (bk_X7_readSignedNumber_18 h0 K p1 r18 M19)) ∧ (¬ r18 = 0 → mK M19 h0 = 8 ∧ ∃ a25, (mR M19 448 h0) = some a25 ∧ mK M19 a25 = 5 ∧ (wp_X4_advance M19 a25 (fun M24 => (bk_X7_readSignedNumber_18 h0 K p1 r18 M24)))))))
set_option maxRecDepth 100000 in
set_option maxHeartbeats 4000000 in
theorem ct_X7_readSignedNumber {M : Mm} {h0 : Nat} {p1 : Int64} {K : Int32 → Mm → Prop} (h : wp_X7_readSignedNumber M h0 p1 K) : CtI yX7_readSignedNumber cX7_readSignedNumber 4 (some .boolean) rm_X7_readSignedNumber [.ref h0, .long p1] M K := by
  refine ct_any (QI K) (by decide) (by exact Nat.le_of_ble_eq_true rfl) (fun X hX hQ hnL hnm => ?_)
  rw [show lv_args 0 [.ref h0, .long p1] = [(0, va_rf (some h0)), (1, .long p1)] by rfl]
  have hX : Ok X cX7_readSignedNumber RX7 rm_X7_readSignedNumber := hX
  unfold wp_X7_readSignedNumber at h
  refine z_aload_n (r := (some h0)) hX dX7_readSignedNumber_0 rfl 0 rfl ?_
  refine z_bipush (v := (45 : Int32)) hX dX7_readSignedNumber_1 (by decide) ?_
  obtain ⟨hk20, h⟩ := h
  refine z_callVI (As := [.int (45 : Int32)]) (rest := []) (ci := 7) hX (ct_X7_isSign h) mw_RX7_208 rfl (by decide) rfl (by rfl) (by unfold RoomC; decide) (by decide) dX7_readSignedNumber_3 hk20 (fun r18 M19 h => ?_)
  refine z_istore_n hX [(3, .int r18), (0, va_rf (some h0)), (1, .long p1)] dX7_readSignedNumber_6 rfl (by rw [hnL]; decide) rfl ?_
  refine z_iload_n hX dX7_readSignedNumber_7 rfl 0 rfl ?_
  obtain ⟨h1, h2⟩ := h
  refine z_if_eq (tgt := 18) hX dX7_readSignedNumber_8 (by decide) (fun hc => ?_) (fun hc => ?_)
  · have h := h1 hc
    refine z_loc [1, 2, 0] rfl ?_
    exact zb_X7_readSignedNumber_18 hX hQ hnL h
  · have h := h2 hc
    refine z_aload_n (r := (some h0)) hX dX7_readSignedNumber_11 rfl 1 rfl ?_
    obtain ⟨hk22, h⟩ := h
    refine gf_RX7_9 (r := (some h0)) hX dX7_readSignedNumber_12 rfl hk22 ?_
    obtain ⟨a25, ha26, h⟩ := h
    obtain ⟨hk27, h⟩ := h
    refine z_callVV (As := []) (rest := []) (ci := 4) hX (ct_X4_advance h) mw_RX7_19 rfl (by decide) rfl (by rw [ha26]; rfl) (by unfold RoomC; decide) (by decide) dX7_readSignedNumber_15 hk27 (fun M24 h => ?_)
    refine z_loc [1, 2, 0] rfl ?_
    exact zb_X7_readSignedNumber_18 hX hQ hnL h
def rm_X7_readNumber : Room := { frames := 3, cells := 0, slots := 0, locals := 65 }
def wp_X7_readNumber (M : Mm) (h0 : Nat) (p1 : Int64) (p2 : Int64) (K : Int32 → Mm → Prop) : Prop := mK M h0 = 8 ∧ (wp_X7_isNumber M h0 p1 p2 (fun r1 M2 => ((¬ r1 = 0 → mK M2 h0 = 8 ∧ ∃ a8, (mR M2 448 h0) = some a8 ∧ mK M2 a8 = 5 ∧ (wp_X4_advance M2 a8 (fun M7 => (K (1 : Int32) M7)))) ∧ (r1 = 0 → (K (0 : Int32) M2)))))
set_option maxRecDepth 100000 in
set_option maxHeartbeats 4000000 in
theorem ct_X7_readNumber {M : Mm} {h0 : Nat} {p1 : Int64} {p2 : Int64} {K : Int32 → Mm → Prop} (h : wp_X7_readNumber M h0 p1 p2 K) : CtI yX7_readNumber cX7_readNumber 5 (some .boolean) rm_X7_readNumber [.ref h0, .long p1, .long p2] M K := by
  refine ct_any (QI K) (by decide) (by exact Nat.le_of_ble_eq_true rfl) (fun X hX hQ hnL hnm => ?_)
  rw [show lv_args 0 [.ref h0, .long p1, .long p2] = [(0, va_rf (some h0)), (1, .long p1), (3, .long p2)] by rfl]
  have hX : Ok X cX7_readNumber RX7 rm_X7_readNumber := hX
  unfold wp_X7_readNumber at h
  refine z_aload_n (r := (some h0)) hX dX7_readNumber_0 rfl 0 rfl ?_
  refine z_lload_n hX dX7_readNumber_1 rfl 1 rfl ?_
  refine z_lload_n hX dX7_readNumber_2 rfl 2 rfl ?_
  obtain ⟨hk3, h⟩ := h
  refine z_callVI (As := [.long p1, .long p2]) (rest := []) (ci := 7) hX (ct_X7_isNumber h) mw_RX7_58 rfl (by decide) rfl (by rfl) (by unfold RoomC; decide) (by decide) dX7_readNumber_3 hk3 (fun r1 M2 h => ?_)
  obtain ⟨h1, h2⟩ := h
  refine z_if_ne (tgt := 11) hX dX7_readNumber_6 (by decide) (fun hc => ?_) (fun hc => ?_)
  · have h := h1 hc
    refine z_aload_n (r := (some h0)) hX dX7_readNumber_11 rfl 0 rfl ?_
    obtain ⟨hk5, h⟩ := h
    refine gf_RX7_9 (r := (some h0)) hX dX7_readNumber_12 rfl hk5 ?_
    obtain ⟨a8, ha9, h⟩ := h
    obtain ⟨hk10, h⟩ := h
    refine z_callVV (As := []) (rest := []) (ci := 4) hX (ct_X4_advance h) mw_RX7_19 rfl (by decide) rfl (by rw [ha9]; rfl) (by unfold RoomC; decide) (by decide) dX7_readNumber_15 hk10 (fun M7 h => ?_)
    refine z_iconst (v := (1 : Int32)) hX dX7_readNumber_18 (by decide) ?_
    exact y_zret hX hQ dX7_readNumber_19 (Or.inr rfl) h
  · have h := h2 hc
    refine z_iconst (v := (0 : Int32)) hX dX7_readNumber_9 (by decide) ?_
    exact y_zret hX hQ dX7_readNumber_10 (Or.inl rfl) h
def rm_X7_readAlign : Room := { frames := 4, cells := 0, slots := 0, locals := 89 }
def wp_X7_readAlign (M : Mm) (h0 : Nat) (K : Int32 → Mm → Prop) : Prop := mK M h0 = 8 ∧ ∃ a4, (mR M 448 h0) = some a4 ∧ mK M a4 = 5 ∧ (wp_X4_advance M a4 (fun M3 => mK M3 h0 = 8 ∧ (wp_X7_isNumber M3 h0 (0 : Int64) (3 : Int64) (fun r8 M9 => ((¬ r8 = 0 → mK M9 h0 = 8 ∧ ∃ a15, (mR M9 449 h0) = some a15 ∧ mK M9 a15 = 2 ∧ (wp_X1_isAligned M9 a15 (((mJ M9 454 h0)).toInt32) (fun r13 M14 => ((r13 = 0 → mK M14 h0 = 8 ∧ ∃ a22, (mR M14 448 h0) = some a22 ∧ mK M14 a22 = 5 ∧ (wp_X4_advance M14 a22 (fun M21 => mK M21 h0 = 8 ∧ (wp_X7_readNumber M21 h0 (0 : Int64) (999999999999999999 : Int64) (fun r26 M27 => ((¬ r26 = 0 → mK M27 h0 = 8 ∧ ∃ a31, (mR M27 449 h0) = some a31 ∧ mK M27 a31 = 2 ∧ ∃ a34, (mR M27 67 a31) = some a34 ∧ isA M27 a34 2 ∧ vp_in (((mJ M9 454 h0)).toInt32) (aN M27 a34) ∧ (wp_X7_readSign (tJ M27 a34 ((((mJ M9 454 h0)).toInt32)).toNatClampNeg (mJ M27 454 h0)) h0 (59 : Int32) (fun r38 M39 => (bz r38 ∧ K r38 M39)))) ∧ (r26 = 0 → (K (0 : Int32) M27)))))))) ∧ (¬ r13 = 0 → mK M14 h0 = 8 ∧ (wp_X7_refuse M14 h0 (5 : Int32) (fun r41 M42 => (bz r41 ∧ K r41 M42)))))))) ∧ (r8 = 0 → (K (0 : Int32) M9)))))))
set_option maxRecDepth 100000 in
set_option maxHeartbeats 4000000 in
theorem ct_X7_readAlign {M : Mm} {h0 : Nat} {K : Int32 → Mm → Prop} (h : wp_X7_readAlign M h0 K) : CtI yX7_readAlign cX7_readAlign 2 (some .boolean) rm_X7_readAlign [.ref h0] M K := by
  refine ct_any (QI K) (by decide) (by exact Nat.le_of_ble_eq_true rfl) (fun X hX hQ hnL hnm => ?_)
  rw [show lv_args 0 [.ref h0] = [(0, va_rf (some h0))] by rfl]
  have hX : Ok X cX7_readAlign RX7 rm_X7_readAlign := hX
  unfold wp_X7_readAlign at h
  refine z_aload_n (r := (some h0)) hX dX7_readAlign_0 rfl 0 rfl ?_
  obtain ⟨hk1, h⟩ := h
  refine gf_RX7_9 (r := (some h0)) hX dX7_readAlign_1 rfl hk1 ?_
  obtain ⟨a4, ha5, h⟩ := h
  obtain ⟨hk6, h⟩ := h
  refine z_callVV (As := []) (rest := []) (ci := 4) hX (ct_X4_advance h) mw_RX7_19 rfl (by decide) rfl (by rw [ha5]; rfl) (by unfold RoomC; decide) (by decide) dX7_readAlign_4 hk6 (fun M3 h => ?_)
  refine z_aload_n (r := (some h0)) hX dX7_readAlign_7 rfl 0 rfl ?_
  refine z_lconst (v := (0 : Int64)) hX dX7_readAlign_8 (by decide) ?_
  refine z_ldc2 (v := (3 : Int64)) hX dX7_readAlign_9 kj_RX7_56 ?_
  obtain ⟨hk10, h⟩ := h
  refine z_callVI (As := [.long (0 : Int64), .long (3 : Int64)]) (rest := []) (ci := 7) hX (ct_X7_isNumber h) mw_RX7_58 rfl (by decide) rfl (by rfl) (by unfold RoomC; decide) (by decide) dX7_readAlign_12 hk10 (fun r8 M9 h => ?_)
  obtain ⟨h1, h2⟩ := h
  refine z_if_ne (tgt := 20) hX dX7_readAlign_15 (by decide) (fun hc => ?_) (fun hc => ?_)
  · have h := h1 hc
    refine z_aload_n (r := (some h0)) hX dX7_readAlign_20 rfl 0 rfl ?_
    obtain ⟨hk12, h⟩ := h
    refine gf_RX7_62 (r := (some h0)) hX dX7_readAlign_21 rfl hk12 ?_
    refine z_l2i hX dX7_readAlign_24 ?_
    refine z_istore_n hX [(1, .int (((mJ M9 454 h0)).toInt32)), (0, va_rf (some h0))] dX7_readAlign_25 rfl (by rw [hnL]; decide) rfl ?_
    refine z_aload_n (r := (some h0)) hX dX7_readAlign_26 rfl 1 rfl ?_
    refine gf_RX7_15 (r := (some h0)) hX dX7_readAlign_27 rfl hk12 ?_
    refine z_iload_n hX dX7_readAlign_30 rfl 0 rfl ?_
    obtain ⟨a15, ha16, h⟩ := h
    obtain ⟨hk17, h⟩ := h
    refine z_callVI (As := [.int (((mJ M9 454 h0)).toInt32)]) (rest := []) (ci := 1) hX (ct_X1_isAligned h) mw_RX7_66 rfl (by decide) rfl (by rw [ha16]; rfl) (by unfold RoomC; decide) (by decide) dX7_readAlign_31 hk17 (fun r13 M14 h => ?_)
    obtain ⟨h1, h2⟩ := h
    refine z_if_eq (tgt := 43) hX dX7_readAlign_34 (by decide) (fun hc => ?_) (fun hc => ?_)
    · have h := h1 hc
      refine z_aload_n (r := (some h0)) hX dX7_readAlign_43 rfl 1 rfl ?_
      obtain ⟨hk19, h⟩ := h
      refine gf_RX7_9 (r := (some h0)) hX dX7_readAlign_44 rfl hk19 ?_
      obtain ⟨a22, ha23, h⟩ := h
      obtain ⟨hk24, h⟩ := h
      refine z_callVV (As := []) (rest := []) (ci := 4) hX (ct_X4_advance h) mw_RX7_19 rfl (by decide) rfl (by rw [ha23]; rfl) (by unfold RoomC; decide) (by decide) dX7_readAlign_47 hk24 (fun M21 h => ?_)
      refine z_aload_n (r := (some h0)) hX dX7_readAlign_50 rfl 1 rfl ?_
      refine z_lconst (v := (0 : Int64)) hX dX7_readAlign_51 (by decide) ?_
      refine z_ldc2 (v := (999999999999999999 : Int64)) hX dX7_readAlign_52 kj_RX7_69 ?_
      obtain ⟨hk28, h⟩ := h
      refine z_callVI (As := [.long (0 : Int64), .long (999999999999999999 : Int64)]) (rest := []) (ci := 7) hX (ct_X7_readNumber h) mw_RX7_71 rfl (by decide) rfl (by rfl) (by unfold RoomC; decide) (by decide) dX7_readAlign_55 hk28 (fun r26 M27 h => ?_)
      obtain ⟨h1, h2⟩ := h
      refine z_if_ne (tgt := 63) hX dX7_readAlign_58 (by decide) (fun hc => ?_) (fun hc => ?_)
      · have h := h1 hc
        refine z_aload_n (r := (some h0)) hX dX7_readAlign_63 rfl 1 rfl ?_
        obtain ⟨hk30, h⟩ := h
        refine gf_RX7_15 (r := (some h0)) hX dX7_readAlign_64 rfl hk30 ?_
        obtain ⟨a31, ha32, h⟩ := h
        obtain ⟨hk33, h⟩ := h
        refine gf_RX7_74 (r := (mR M27 449 h0)) hX dX7_readAlign_67 ha32 hk33 ?_
        refine z_iload_n hX dX7_readAlign_70 rfl 0 rfl ?_
        refine z_aload_n (r := (some h0)) hX dX7_readAlign_71 rfl 1 rfl ?_
        refine gf_RX7_62 (r := (some h0)) hX dX7_readAlign_72 rfl hk30 ?_
        obtain ⟨a34, ha35, h⟩ := h
        obtain ⟨hk36, h⟩ := h
        obtain ⟨hc37, h⟩ := h
        refine y_last (r := (mR M27 67 a31)) hX dX7_readAlign_75 ha35 hk36 hc37 ?_
        refine z_aload_n (r := (some h0)) hX dX7_readAlign_76 rfl 1 rfl ?_
        refine z_bipush (v := (59 : Int32)) hX dX7_readAlign_77 (by decide) ?_
        refine z_callVI (As := [.int (59 : Int32)]) (rest := []) (ci := 7) hX (ct_X7_readSign h) mw_RX7_78 rfl (by decide) rfl (by rfl) (by unfold RoomC; decide) (by decide) dX7_readAlign_79 hk30 (fun r38 M39 h => ?_)
        exact y_zret hX hQ dX7_readAlign_82 h.1 h.2
      · have h := h2 hc
        refine z_iconst (v := (0 : Int32)) hX dX7_readAlign_61 (by decide) ?_
        exact y_zret hX hQ dX7_readAlign_62 (Or.inl rfl) h
    · have h := h2 hc
      refine z_aload_n (r := (some h0)) hX dX7_readAlign_37 rfl 1 rfl ?_
      refine z_iconst (v := (5 : Int32)) hX dX7_readAlign_38 (by decide) ?_
      obtain ⟨hk43, h⟩ := h
      refine z_callVI (As := [.int (5 : Int32)]) (rest := []) (ci := 7) hX (ct_X7_refuse h) mw_RX7_34 rfl (by decide) rfl (by rfl) (by unfold RoomC; decide) (by decide) dX7_readAlign_39 hk43 (fun r41 M42 h => ?_)
      exact y_zret hX hQ dX7_readAlign_42 h.1 h.2
  · have h := h2 hc
    refine z_iconst (v := (0 : Int32)) hX dX7_readAlign_18 (by decide) ?_
    exact y_zret hX hQ dX7_readAlign_19 (Or.inl rfl) h
def rm_X7_readSource : Room := { frames := 4, cells := 5, slots := 24, locals := 89 }
def bk_X7_readSource_160 (h0 : Nat) (K : Int32 → Mm → Prop) (l1 : Option Nat) (l2 : Int32) (l3 : Int64) (l5 : Int32) (l6 : Int32) (M : Mm) : Prop := (∀ q1, mK M q1 = 0 → (wp_X5_init (nw M q1 6) q1 l2 l3 l5 l6 (fun M5 => ∃ a7, l1 = some a7 ∧ mK M5 a7 = 7 ∧ mK (sR M5 393 a7 (some q1)) h0 = 8 ∧ (wp_X7_readSign (sR M5 393 a7 (some q1)) h0 (59 : Int32) (fun r11 M12 => (bz r11 ∧ K r11 M12))))))
set_option maxRecDepth 100000 in
set_option maxHeartbeats 4000000 in
theorem zb_X7_readSource_160 {X : Cx} {h0 : Nat} {K : Int32 → Mm → Prop} (hX : Ok X cX7_readSource RX7 rm_X7_readSource) (hQ : Rq X rm_X7_readSource (some .boolean) (QI K)) (hnL : X.2.2.2.2.2.2.2.2.2.2.2.2.2.2 = 7) {l1 : Option Nat} {l2 : Int32} {l3 : Int64} {l5 : Int32} {l6 : Int32} {M : Mm} (h : bk_X7_readSource_160 h0 K l1 l2 l3 l5 l6 M) : Z X M 0 0 160 [(0, va_rf (some h0)), (1, va_rf l1), (2, .int l2), (3, .long l3), (5, .int l5), (6, .int l6)] [] := by
  unfold bk_X7_readSource_160 at h
  refine z_aload_n (r := l1) hX dX7_readSource_160 rfl 1 rfl ?_
  refine nq_RX7_137 hX dX7_readSource_161 (by decide) (by decide) (fun q1 hq2 => ?_)
  have h := h q1 hq2
  refine z_dup hX dX7_readSource_164 (cat_rf _) ?_
  refine z_iload_n hX dX7_readSource_165 rfl 2 rfl ?_
  refine z_lload_n hX dX7_readSource_166 rfl 3 rfl ?_
  refine z_iload hX dX7_readSource_167 4 rfl ?_
  refine z_iload hX dX7_readSource_169 5 rfl ?_
  refine z_callIV (As := [.int l2, .long l3, .int l5, .int l6]) (rest := [va_rf (some q1), va_rf l1]) hX (ct_X5_init h) mw_RX7_154 rfl (by rfl) (by unfold RoomC; decide) (by simp only [List.map_cons, List.map_nil, List.sum_cons, List.sum_nil, cat_rf, cat_i, cat_j]; decide) dX7_readSource_171 (fun M5 h => ?_)
  obtain ⟨a7, ha8, h⟩ := h
  obtain ⟨hk9, h⟩ := h
  refine pf_RX7_157 (r := l1) (v := (some q1)) hX dX7_readSource_174 ha8 hk9 ?_
  refine z_aload_n (r := (some h0)) hX dX7_readSource_177 rfl 0 rfl ?_
  refine z_bipush (v := (59 : Int32)) hX dX7_readSource_178 (by decide) ?_
  obtain ⟨hk13, h⟩ := h
  refine z_callVI (As := [.int (59 : Int32)]) (rest := []) (ci := 7) hX (ct_X7_readSign h) mw_RX7_78 rfl (by decide) rfl (by rfl) (by unfold RoomC; decide) (by decide) dX7_readSource_180 hk13 (fun r11 M12 h => ?_)
  refine z_widen 5 24 (by decide) (by decide) ?_
  exact y_zret hX hQ dX7_readSource_183 h.1 h.2
def bk_X7_readSource_120 (h0 : Nat) (K : Int32 → Mm → Prop) (l1 : Option Nat) (l2 : Int32) (l3 : Int64) (l5 : Int32) (M : Mm) : Prop := mK M h0 = 8 ∧ (wp_X7_isKeyword M h0 (444301538672 : Int64) (fun r15 M16 => ((r15 = 0 → (bk_X7_readSource_160 h0 K l1 l2 l3 l5 (-1 : Int32) M16)) ∧ (¬ r15 = 0 → mK M16 h0 = 8 ∧ ∃ a22, (mR M16 448 h0) = some a22 ∧ mK M16 a22 = 5 ∧ (wp_X4_advance M16 a22 (fun M21 => mK M21 h0 = 8 ∧ (wp_X7_readNumber M21 h0 (0 : Int64) (3 : Int64) (fun r26 M27 => ((¬ r26 = 0 → mK M27 h0 = 8 ∧ (bk_X7_readSource_160 h0 K l1 l2 l3 l5 (((mJ M27 454 h0)).toInt32) M27)) ∧ (r26 = 0 → (K (0 : Int32) M27)))))))))))
set_option maxRecDepth 100000 in
set_option maxHeartbeats 4000000 in
theorem zb_X7_readSource_120 {X : Cx} {h0 : Nat} {K : Int32 → Mm → Prop} (hX : Ok X cX7_readSource RX7 rm_X7_readSource) (hQ : Rq X rm_X7_readSource (some .boolean) (QI K)) (hnL : X.2.2.2.2.2.2.2.2.2.2.2.2.2.2 = 7) {l1 : Option Nat} {l2 : Int32} {l3 : Int64} {l5 : Int32} {M : Mm} (h : bk_X7_readSource_120 h0 K l1 l2 l3 l5 M) : Z X M 0 0 120 [(0, va_rf (some h0)), (1, va_rf l1), (2, .int l2), (3, .long l3), (5, .int l5)] [] := by
  unfold bk_X7_readSource_120 at h
  refine z_iconst (v := (-1 : Int32)) hX dX7_readSource_120 (by decide) ?_
  refine z_istore hX [(6, .int (-1 : Int32)), (0, va_rf (some h0)), (1, va_rf l1), (2, .int l2), (3, .long l3), (5, .int l5)] dX7_readSource_121 (by rw [hnL]; decide) rfl ?_
  refine z_aload_n (r := (some h0)) hX dX7_readSource_123 rfl 1 rfl ?_
  refine z_ldc2 (v := (444301538672 : Int64)) hX dX7_readSource_124 kj_RX7_152 ?_
  obtain ⟨hk17, h⟩ := h
  refine z_callVI (As := [.long (444301538672 : Int64)]) (rest := []) (ci := 7) hX (ct_X7_isKeyword h) mw_RX7_30 rfl (by decide) rfl (by rfl) (by unfold RoomC; decide) (by decide) dX7_readSource_127 hk17 (fun r15 M16 h => ?_)
  obtain ⟨h1, h2⟩ := h
  refine z_if_eq (tgt := 160) hX dX7_readSource_130 (by decide) (fun hc => ?_) (fun hc => ?_)
  · have h := h1 hc
    refine z_loc [1, 2, 3, 4, 5, 0] rfl ?_
    refine z_widen 0 0 (by decide) (by decide) ?_
    exact zb_X7_readSource_160 hX hQ hnL h
  · have h := h2 hc
    refine z_aload_n (r := (some h0)) hX dX7_readSource_133 rfl 1 rfl ?_
    obtain ⟨hk19, h⟩ := h
    refine gf_RX7_9 (r := (some h0)) hX dX7_readSource_134 rfl hk19 ?_
    obtain ⟨a22, ha23, h⟩ := h
    obtain ⟨hk24, h⟩ := h
    refine z_callVV (As := []) (rest := []) (ci := 4) hX (ct_X4_advance h) mw_RX7_19 rfl (by decide) rfl (by rw [ha23]; rfl) (by unfold RoomC; decide) (by decide) dX7_readSource_137 hk24 (fun M21 h => ?_)
    refine z_aload_n (r := (some h0)) hX dX7_readSource_140 rfl 1 rfl ?_
    refine z_lconst (v := (0 : Int64)) hX dX7_readSource_141 (by decide) ?_
    refine z_ldc2 (v := (3 : Int64)) hX dX7_readSource_142 kj_RX7_56 ?_
    obtain ⟨hk28, h⟩ := h
    refine z_callVI (As := [.long (0 : Int64), .long (3 : Int64)]) (rest := []) (ci := 7) hX (ct_X7_readNumber h) mw_RX7_71 rfl (by decide) rfl (by rfl) (by unfold RoomC; decide) (by decide) dX7_readSource_145 hk28 (fun r26 M27 h => ?_)
    obtain ⟨h1, h2⟩ := h
    refine z_if_ne (tgt := 153) hX dX7_readSource_148 (by decide) (fun hc => ?_) (fun hc => ?_)
    · have h := h1 hc
      refine z_aload_n (r := (some h0)) hX dX7_readSource_153 rfl 1 rfl ?_
      obtain ⟨hk30, h⟩ := h
      refine gf_RX7_62 (r := (some h0)) hX dX7_readSource_154 rfl hk30 ?_
      refine z_l2i hX dX7_readSource_157 ?_
      refine z_istore hX [(6, .int (((mJ M27 454 h0)).toInt32)), (0, va_rf (some h0)), (1, va_rf l1), (2, .int l2), (3, .long l3), (5, .int l5)] dX7_readSource_158 (by rw [hnL]; decide) rfl ?_
      refine z_loc [1, 2, 3, 4, 5, 0] rfl ?_
      refine z_widen 0 0 (by decide) (by decide) ?_
      exact zb_X7_readSource_160 hX hQ hnL h
    · have h := h2 hc
      refine z_iconst (v := (0 : Int32)) hX dX7_readSource_151 (by decide) ?_
      refine z_widen 5 24 (by decide) (by decide) ?_
      exact y_zret hX hQ dX7_readSource_152 (Or.inl rfl) h
def bk_X7_readSource_80 (h0 : Nat) (K : Int32 → Mm → Prop) (l1 : Option Nat) (l2 : Int32) (l3 : Int64) (M : Mm) : Prop := mK M h0 = 8 ∧ (wp_X7_isKeyword M h0 (418330731890 : Int64) (fun r31 M32 => ((r31 = 0 → (bk_X7_readSource_120 h0 K l1 l2 l3 (0 : Int32) M32)) ∧ (¬ r31 = 0 → mK M32 h0 = 8 ∧ ∃ a38, (mR M32 448 h0) = some a38 ∧ mK M32 a38 = 5 ∧ (wp_X4_advance M32 a38 (fun M37 => mK M37 h0 = 8 ∧ (wp_X7_readNumber M37 h0 (1 : Int64) (1000 : Int64) (fun r42 M43 => ((¬ r42 = 0 → mK M43 h0 = 8 ∧ (bk_X7_readSource_120 h0 K l1 l2 l3 (((mJ M43 454 h0)).toInt32) M43)) ∧ (r42 = 0 → (K (0 : Int32) M43)))))))))))
set_option maxRecDepth 100000 in
set_option maxHeartbeats 4000000 in
theorem zb_X7_readSource_80 {X : Cx} {h0 : Nat} {K : Int32 → Mm → Prop} (hX : Ok X cX7_readSource RX7 rm_X7_readSource) (hQ : Rq X rm_X7_readSource (some .boolean) (QI K)) (hnL : X.2.2.2.2.2.2.2.2.2.2.2.2.2.2 = 7) {l1 : Option Nat} {l2 : Int32} {l3 : Int64} {M : Mm} (h : bk_X7_readSource_80 h0 K l1 l2 l3 M) : Z X M 0 0 80 [(0, va_rf (some h0)), (1, va_rf l1), (2, .int l2), (3, .long l3)] [] := by
  unfold bk_X7_readSource_80 at h
  refine z_iconst (v := (0 : Int32)) hX dX7_readSource_80 (by decide) ?_
  refine z_istore hX [(5, .int (0 : Int32)), (0, va_rf (some h0)), (1, va_rf l1), (2, .int l2), (3, .long l3)] dX7_readSource_81 (by rw [hnL]; decide) rfl ?_
  refine z_aload_n (r := (some h0)) hX dX7_readSource_83 rfl 1 rfl ?_
  refine z_ldc2 (v := (418330731890 : Int64)) hX dX7_readSource_84 kj_RX7_148 ?_
  obtain ⟨hk33, h⟩ := h
  refine z_callVI (As := [.long (418330731890 : Int64)]) (rest := []) (ci := 7) hX (ct_X7_isKeyword h) mw_RX7_30 rfl (by decide) rfl (by rfl) (by unfold RoomC; decide) (by decide) dX7_readSource_87 hk33 (fun r31 M32 h => ?_)
  obtain ⟨h1, h2⟩ := h
  refine z_if_eq (tgt := 120) hX dX7_readSource_90 (by decide) (fun hc => ?_) (fun hc => ?_)
  · have h := h1 hc
    refine z_loc [1, 2, 3, 4, 0] rfl ?_
    refine z_widen 0 0 (by decide) (by decide) ?_
    exact zb_X7_readSource_120 hX hQ hnL h
  · have h := h2 hc
    refine z_aload_n (r := (some h0)) hX dX7_readSource_93 rfl 1 rfl ?_
    obtain ⟨hk35, h⟩ := h
    refine gf_RX7_9 (r := (some h0)) hX dX7_readSource_94 rfl hk35 ?_
    obtain ⟨a38, ha39, h⟩ := h
    obtain ⟨hk40, h⟩ := h
    refine z_callVV (As := []) (rest := []) (ci := 4) hX (ct_X4_advance h) mw_RX7_19 rfl (by decide) rfl (by rw [ha39]; rfl) (by unfold RoomC; decide) (by decide) dX7_readSource_97 hk40 (fun M37 h => ?_)
    refine z_aload_n (r := (some h0)) hX dX7_readSource_100 rfl 1 rfl ?_
    refine z_lconst (v := (1 : Int64)) hX dX7_readSource_101 (by decide) ?_
    refine z_ldc2 (v := (1000 : Int64)) hX dX7_readSource_102 kj_RX7_150 ?_
    obtain ⟨hk44, h⟩ := h
    refine z_callVI (As := [.long (1 : Int64), .long (1000 : Int64)]) (rest := []) (ci := 7) hX (ct_X7_readNumber h) mw_RX7_71 rfl (by decide) rfl (by rfl) (by unfold RoomC; decide) (by decide) dX7_readSource_105 hk44 (fun r42 M43 h => ?_)
    obtain ⟨h1, h2⟩ := h
    refine z_if_ne (tgt := 113) hX dX7_readSource_108 (by decide) (fun hc => ?_) (fun hc => ?_)
    · have h := h1 hc
      refine z_aload_n (r := (some h0)) hX dX7_readSource_113 rfl 1 rfl ?_
      obtain ⟨hk46, h⟩ := h
      refine gf_RX7_62 (r := (some h0)) hX dX7_readSource_114 rfl hk46 ?_
      refine z_l2i hX dX7_readSource_117 ?_
      refine z_istore hX [(5, .int (((mJ M43 454 h0)).toInt32)), (0, va_rf (some h0)), (1, va_rf l1), (2, .int l2), (3, .long l3)] dX7_readSource_118 (by rw [hnL]; decide) rfl ?_
      refine z_loc [1, 2, 3, 4, 0] rfl ?_
      refine z_widen 0 0 (by decide) (by decide) ?_
      exact zb_X7_readSource_120 hX hQ hnL h
    · have h := h2 hc
      refine z_iconst (v := (0 : Int32)) hX dX7_readSource_111 (by decide) ?_
      refine z_widen 5 24 (by decide) (by decide) ?_
      exact y_zret hX hQ dX7_readSource_112 (Or.inl rfl) h
def wp_X7_readSource (M : Mm) (h0 : Nat) (p1 : Option Nat) (K : Int32 → Mm → Prop) : Prop := mK M h0 = 8 ∧ ∃ a50, (mR M 448 h0) = some a50 ∧ mK M a50 = 5 ∧ (wp_X4_advance M a50 (fun M49 => mK M49 h0 = 8 ∧ (wp_X7_readNumber M49 h0 (1 : Int64) (4 : Int64) (fun r54 M55 => ((¬ r54 = 0 → mK M55 h0 = 8 ∧ (wp_X7_isKeyword M55 h0 (7102823 : Int64) (fun r59 M60 => ((r59 = 0 → mK M60 h0 = 8 ∧ (wp_X7_readKeyword M60 h0 (469786323827 : Int64) (fun r62 M63 => ((¬ r62 = 0 → (bk_X7_readSource_80 h0 K p1 (((mJ M55 454 h0)).toInt32) (-1 : Int64) M63)) ∧ (r62 = 0 → (K (0 : Int32) M63)))))) ∧ (¬ r59 = 0 → mK M60 h0 = 8 ∧ ∃ a69, (mR M60 448 h0) = some a69 ∧ mK M60 a69 = 5 ∧ (wp_X4_advance M60 a69 (fun M68 => mK M68 h0 = 8 ∧ (wp_X7_readNumber M68 h0 (0 : Int64) (999999999999999999 : Int64) (fun r73 M74 => ((¬ r73 = 0 → mK M74 h0 = 8 ∧ (bk_X7_readSource_80 h0 K p1 (((mJ M55 454 h0)).toInt32) (mJ M74 454 h0) M74)) ∧ (r73 = 0 → (K (0 : Int32) M74)))))))))))) ∧ (r54 = 0 → (K (0 : Int32) M55)))))))
set_option maxRecDepth 100000 in
set_option maxHeartbeats 4000000 in
theorem ct_X7_readSource {M : Mm} {h0 : Nat} {p1 : Option Nat} {K : Int32 → Mm → Prop} (h : wp_X7_readSource M h0 p1 K) : CtI yX7_readSource cX7_readSource 7 (some .boolean) rm_X7_readSource [.ref h0, va_rf p1] M K := by
  refine ct_any (QI K) (by decide) (by cases p1 <;> exact Nat.le_of_ble_eq_true rfl) (fun X hX hQ hnL hnm => ?_)
  rw [show lv_args 0 [.ref h0, va_rf p1] = [(0, va_rf (some h0)), (1, va_rf p1)] by cases p1 <;> rfl]
  have hX : Ok X cX7_readSource RX7 rm_X7_readSource := hX
  unfold wp_X7_readSource at h
  refine z_aload_n (r := (some h0)) hX dX7_readSource_0 rfl 0 rfl ?_
  obtain ⟨hk47, h⟩ := h
  refine gf_RX7_9 (r := (some h0)) hX dX7_readSource_1 rfl hk47 ?_
  obtain ⟨a50, ha51, h⟩ := h
  obtain ⟨hk52, h⟩ := h
  refine z_callVV (As := []) (rest := []) (ci := 4) hX (ct_X4_advance h) mw_RX7_19 rfl (by decide) rfl (by rw [ha51]; rfl) (by unfold RoomC; decide) (by decide) dX7_readSource_4 hk52 (fun M49 h => ?_)
  refine z_aload_n (r := (some h0)) hX dX7_readSource_7 rfl 0 rfl ?_
  refine z_lconst (v := (1 : Int64)) hX dX7_readSource_8 (by decide) ?_
  refine z_ldc2 (v := (4 : Int64)) hX dX7_readSource_9 kj_RX7_135 ?_
  obtain ⟨hk56, h⟩ := h
  refine z_callVI (As := [.long (1 : Int64), .long (4 : Int64)]) (rest := []) (ci := 7) hX (ct_X7_readNumber h) mw_RX7_71 rfl (by decide) rfl (by rfl) (by unfold RoomC; decide) (by decide) dX7_readSource_12 hk56 (fun r54 M55 h => ?_)
  obtain ⟨h1, h2⟩ := h
  refine z_if_ne (tgt := 20) hX dX7_readSource_15 (by decide) (fun hc => ?_) (fun hc => ?_)
  · have h := h1 hc
    refine z_aload_n (r := (some h0)) hX dX7_readSource_20 rfl 0 rfl ?_
    obtain ⟨hk58, h⟩ := h
    refine gf_RX7_62 (r := (some h0)) hX dX7_readSource_21 rfl hk58 ?_
    refine z_l2i hX dX7_readSource_24 ?_
    refine z_istore_n (i := 2) hX [(2, .int (((mJ M55 454 h0)).toInt32)), (0, va_rf (some h0)), (1, va_rf p1)] dX7_readSource_25 rfl (by rw [hnL]; decide) (by simp [cat_rf]) ?_
    refine z_ldc2 (v := (-1 : Int64)) hX dX7_readSource_26 kj_RX7_139 ?_
    refine z_lstore_n hX [(3, .long (-1 : Int64)), (2, .int (((mJ M55 454 h0)).toInt32)), (0, va_rf (some h0)), (1, va_rf p1)] dX7_readSource_29 rfl (by rw [hnL]; decide) rfl ?_
    refine z_aload_n (r := (some h0)) hX dX7_readSource_30 rfl 2 rfl ?_
    refine z_ldc2 (v := (7102823 : Int64)) hX dX7_readSource_31 kj_RX7_141 ?_
    refine z_callVI (As := [.long (7102823 : Int64)]) (rest := []) (ci := 7) hX (ct_X7_isKeyword h) mw_RX7_30 rfl (by decide) rfl (by rfl) (by unfold RoomC; decide) (by decide) dX7_readSource_34 hk58 (fun r59 M60 h => ?_)
    obtain ⟨h1, h2⟩ := h
    refine z_if_eq (tgt := 68) hX dX7_readSource_37 (by decide) (fun hc => ?_) (fun hc => ?_)
    · have h := h1 hc
      refine z_aload_n (r := (some h0)) hX dX7_readSource_68 rfl 2 rfl ?_
      refine z_ldc2 (v := (469786323827 : Int64)) hX dX7_readSource_69 kj_RX7_143 ?_
      obtain ⟨hk64, h⟩ := h
      refine z_callVI (As := [.long (469786323827 : Int64)]) (rest := []) (ci := 7) hX (ct_X7_readKeyword h) mw_RX7_145 rfl (by decide) rfl (by rfl) (by unfold RoomC; decide) (by decide) dX7_readSource_72 hk64 (fun r62 M63 h => ?_)
      obtain ⟨h1, h2⟩ := h
      refine z_if_ne (tgt := 80) hX dX7_readSource_75 (by decide) (fun hc => ?_) (fun hc => ?_)
      · have h := h1 hc
        refine z_loc [2, 3, 1, 0] rfl ?_
        refine z_widen 0 0 (by decide) (by decide) ?_
        exact zb_X7_readSource_80 hX hQ hnL h
      · have h := h2 hc
        refine z_iconst (v := (0 : Int32)) hX dX7_readSource_78 (by decide) ?_
        refine z_widen 5 24 (by decide) (by decide) ?_
        exact y_zret hX hQ dX7_readSource_79 (Or.inl rfl) h
    · have h := h2 hc
      refine z_aload_n (r := (some h0)) hX dX7_readSource_40 rfl 2 rfl ?_
      obtain ⟨hk66, h⟩ := h
      refine gf_RX7_9 (r := (some h0)) hX dX7_readSource_41 rfl hk66 ?_
      obtain ⟨a69, ha70, h⟩ := h
      obtain ⟨hk71, h⟩ := h
      refine z_callVV (As := []) (rest := []) (ci := 4) hX (ct_X4_advance h) mw_RX7_19 rfl (by decide) rfl (by rw [ha70]; rfl) (by unfold RoomC; decide) (by decide) dX7_readSource_44 hk71 (fun M68 h => ?_)
      refine z_aload_n (r := (some h0)) hX dX7_readSource_47 rfl 2 rfl ?_
      refine z_lconst (v := (0 : Int64)) hX dX7_readSource_48 (by decide) ?_
      refine z_ldc2 (v := (999999999999999999 : Int64)) hX dX7_readSource_49 kj_RX7_69 ?_
      obtain ⟨hk75, h⟩ := h
      refine z_callVI (As := [.long (0 : Int64), .long (999999999999999999 : Int64)]) (rest := []) (ci := 7) hX (ct_X7_readNumber h) mw_RX7_71 rfl (by decide) rfl (by rfl) (by unfold RoomC; decide) (by decide) dX7_readSource_52 hk75 (fun r73 M74 h => ?_)
      obtain ⟨h1, h2⟩ := h
      refine z_if_ne (tgt := 60) hX dX7_readSource_55 (by decide) (fun hc => ?_) (fun hc => ?_)
      · have h := h1 hc
        refine z_aload_n (r := (some h0)) hX dX7_readSource_60 rfl 2 rfl ?_
        obtain ⟨hk77, h⟩ := h
        refine gf_RX7_62 (r := (some h0)) hX dX7_readSource_61 rfl hk77 ?_
        refine z_lstore_n hX [(3, .long (mJ M74 454 h0)), (2, .int (((mJ M55 454 h0)).toInt32)), (0, va_rf (some h0)), (1, va_rf p1)] dX7_readSource_64 rfl (by rw [hnL]; decide) rfl ?_
        refine z_goto (tgt := 80) hX dX7_readSource_65 (by decide) ?_
        refine z_loc [2, 3, 1, 0] rfl ?_
        refine z_widen 0 0 (by decide) (by decide) ?_
        exact zb_X7_readSource_80 hX hQ hnL h
      · have h := h2 hc
        refine z_iconst (v := (0 : Int32)) hX dX7_readSource_58 (by decide) ?_
        refine z_widen 5 24 (by decide) (by decide) ?_
        exact y_zret hX hQ dX7_readSource_59 (Or.inl rfl) h
  · have h := h2 hc
    refine z_iconst (v := (0 : Int32)) hX dX7_readSource_18 (by decide) ?_
    refine z_widen 5 24 (by decide) (by decide) ?_
    exact y_zret hX hQ dX7_readSource_19 (Or.inl rfl) h
def rm_X7_readDelay : Room := { frames := 4, cells := 0, slots := 0, locals := 89 }
def bk_X7_readDelay_26 (h0 : Nat) (K : Int32 → Mm → Prop) (M : Mm) : Prop := (K (0 : Int32) M)
set_option maxRecDepth 100000 in
set_option maxHeartbeats 4000000 in
theorem zb_X7_readDelay_26 {X : Cx} {h0 : Nat} {K : Int32 → Mm → Prop} (hX : Ok X cX7_readDelay RX7 rm_X7_readDelay) (hQ : Rq X rm_X7_readDelay (some .boolean) (QI K)) (hnL : X.2.2.2.2.2.2.2.2.2.2.2.2.2.2 = 2) {M : Mm} (h : bk_X7_readDelay_26 h0 K M) : Z X M 0 0 26 [] [] := by
  unfold bk_X7_readDelay_26 at h
  refine z_iconst (v := (0 : Int32)) hX dX7_readDelay_26 (by decide) ?_
  exact y_zret hX hQ dX7_readDelay_27 (Or.inl rfl) h
def wp_X7_readDelay (M : Mm) (h0 : Nat) (p1 : Option Nat) (K : Int32 → Mm → Prop) : Prop := mK M h0 = 8 ∧ ∃ a4, (mR M 448 h0) = some a4 ∧ mK M a4 = 5 ∧ (wp_X4_advance M a4 (fun M3 => mK M3 h0 = 8 ∧ (wp_X7_readInput M3 h0 p1 (fun r8 M9 => ((r8 = 0 → (bk_X7_readDelay_26 h0 K M9)) ∧ (¬ r8 = 0 → mK M9 h0 = 8 ∧ (wp_X7_readNumber M9 h0 (0 : Int64) (999999999999999999 : Int64) (fun r12 M13 => ((¬ r12 = 0 → mK M13 h0 = 8 ∧ ∃ a17, p1 = some a17 ∧ mK M13 a17 = 7 ∧ (wp_X7_readSign (sJ M13 392 a17 (mJ M13 454 h0)) h0 (59 : Int32) (fun r21 M22 => (bz r21 ∧ K r21 M22)))) ∧ (r12 = 0 → (bk_X7_readDelay_26 h0 K M13)))))))))))
set_option maxRecDepth 100000 in
set_option maxHeartbeats 4000000 in
theorem ct_X7_readDelay {M : Mm} {h0 : Nat} {p1 : Option Nat} {K : Int32 → Mm → Prop} (h : wp_X7_readDelay M h0 p1 K) : CtI yX7_readDelay cX7_readDelay 2 (some .boolean) rm_X7_readDelay [.ref h0, va_rf p1] M K := by
  refine ct_any (QI K) (by decide) (by cases p1 <;> exact Nat.le_of_ble_eq_true rfl) (fun X hX hQ hnL hnm => ?_)
  rw [show lv_args 0 [.ref h0, va_rf p1] = [(0, va_rf (some h0)), (1, va_rf p1)] by cases p1 <;> rfl]
  have hX : Ok X cX7_readDelay RX7 rm_X7_readDelay := hX
  unfold wp_X7_readDelay at h
  refine z_aload_n (r := (some h0)) hX dX7_readDelay_0 rfl 0 rfl ?_
  obtain ⟨hk1, h⟩ := h
  refine gf_RX7_9 (r := (some h0)) hX dX7_readDelay_1 rfl hk1 ?_
  obtain ⟨a4, ha5, h⟩ := h
  obtain ⟨hk6, h⟩ := h
  refine z_callVV (As := []) (rest := []) (ci := 4) hX (ct_X4_advance h) mw_RX7_19 rfl (by decide) rfl (by rw [ha5]; rfl) (by unfold RoomC; decide) (by decide) dX7_readDelay_4 hk6 (fun M3 h => ?_)
  refine z_aload_n (r := (some h0)) hX dX7_readDelay_7 rfl 0 rfl ?_
  refine z_aload_n (r := p1) hX dX7_readDelay_8 rfl 1 rfl ?_
  obtain ⟨hk10, h⟩ := h
  refine z_callVI (As := [va_rf p1]) (rest := []) (ci := 7) hX (ct_X7_readInput h) mw_RX7_116 rfl (by decide) rfl (by rfl) (by unfold RoomC; decide) (by decide) dX7_readDelay_9 hk10 (fun r8 M9 h => ?_)
  obtain ⟨h1, h2⟩ := h
  refine z_if_eq (tgt := 26) hX dX7_readDelay_12 (by decide) (fun hc => ?_) (fun hc => ?_)
  · have h := h1 hc
    refine z_loc [] rfl ?_
    exact zb_X7_readDelay_26 hX hQ hnL h
  · have h := h2 hc
    refine z_aload_n (r := (some h0)) hX dX7_readDelay_15 rfl 0 rfl ?_
    refine z_lconst (v := (0 : Int64)) hX dX7_readDelay_16 (by decide) ?_
    refine z_ldc2 (v := (999999999999999999 : Int64)) hX dX7_readDelay_17 kj_RX7_69 ?_
    obtain ⟨hk14, h⟩ := h
    refine z_callVI (As := [.long (0 : Int64), .long (999999999999999999 : Int64)]) (rest := []) (ci := 7) hX (ct_X7_readNumber h) mw_RX7_71 rfl (by decide) rfl (by rfl) (by unfold RoomC; decide) (by decide) dX7_readDelay_20 hk14 (fun r12 M13 h => ?_)
    obtain ⟨h1, h2⟩ := h
    refine z_if_ne (tgt := 28) hX dX7_readDelay_23 (by decide) (fun hc => ?_) (fun hc => ?_)
    · have h := h1 hc
      refine z_aload_n (r := p1) hX dX7_readDelay_28 rfl 1 rfl ?_
      refine z_aload_n (r := (some h0)) hX dX7_readDelay_29 rfl 0 rfl ?_
      obtain ⟨hk16, h⟩ := h
      refine gf_RX7_62 (r := (some h0)) hX dX7_readDelay_30 rfl hk16 ?_
      obtain ⟨a17, ha18, h⟩ := h
      obtain ⟨hk19, h⟩ := h
      refine pf_RX7_161 (r := p1) (v := (mJ M13 454 h0)) hX dX7_readDelay_33 ha18 hk19 ?_
      refine z_aload_n (r := (some h0)) hX dX7_readDelay_36 rfl 0 rfl ?_
      refine z_bipush (v := (59 : Int32)) hX dX7_readDelay_37 (by decide) ?_
      refine z_callVI (As := [.int (59 : Int32)]) (rest := []) (ci := 7) hX (ct_X7_readSign h) mw_RX7_78 rfl (by decide) rfl (by rfl) (by unfold RoomC; decide) (by decide) dX7_readDelay_39 hk16 (fun r21 M22 h => ?_)
      exact y_zret hX hQ dX7_readDelay_42 h.1 h.2
    · have h := h2 hc
      refine z_loc [] rfl ?_
      exact zb_X7_readDelay_26 hX hQ hnL h
def rm_X7_readWindow : Room := { frames := 4, cells := 4, slots := 78, locals := 89 }
def bk_X7_readWindow_48 (h0 : Nat) (K : Int32 → Mm → Prop) (M : Mm) : Prop := (K (0 : Int32) M)
set_option maxRecDepth 100000 in
set_option maxHeartbeats 4000000 in
theorem zb_X7_readWindow_48 {X : Cx} {h0 : Nat} {K : Int32 → Mm → Prop} (hX : Ok X cX7_readWindow RX7 rm_X7_readWindow) (hQ : Rq X rm_X7_readWindow (some .boolean) (QI K)) (hnL : X.2.2.2.2.2.2.2.2.2.2.2.2.2.2 = 6) {M : Mm} (h : bk_X7_readWindow_48 h0 K M) : Z X M 0 0 48 [] [] := by
  unfold bk_X7_readWindow_48 at h
  refine z_iconst (v := (0 : Int32)) hX dX7_readWindow_48 (by decide) ?_
  refine z_widen 4 78 (by decide) (by decide) ?_
  exact y_zret hX hQ dX7_readWindow_49 (Or.inl rfl) h
def bk_X7_readWindow_88 (h0 : Nat) (K : Int32 → Mm → Prop) (M : Mm) : Prop := (K (0 : Int32) M)
set_option maxRecDepth 100000 in
set_option maxHeartbeats 4000000 in
theorem zb_X7_readWindow_88 {X : Cx} {h0 : Nat} {K : Int32 → Mm → Prop} (hX : Ok X cX7_readWindow RX7 rm_X7_readWindow) (hQ : Rq X rm_X7_readWindow (some .boolean) (QI K)) (hnL : X.2.2.2.2.2.2.2.2.2.2.2.2.2.2 = 6) {M : Mm} (h : bk_X7_readWindow_88 h0 K M) : Z X M 0 0 88 [] [] := by
  unfold bk_X7_readWindow_88 at h
  refine z_iconst (v := (0 : Int32)) hX dX7_readWindow_88 (by decide) ?_
  refine z_widen 4 78 (by decide) (by decide) ?_
  exact y_zret hX hQ dX7_readWindow_89 (Or.inl rfl) h
def wp_X7_readWindow (M : Mm) (h0 : Nat) (p1 : Option Nat) (K : Int32 → Mm → Prop) : Prop := mK M h0 = 8 ∧ ∃ a5, (mR (sI M 453 h0 ((mI M 453 h0) + (1 : Int32))) 448 h0) = some a5 ∧ mK (sI M 453 h0 ((mI M 453 h0) + (1 : Int32))) a5 = 5 ∧ (wp_X4_advance (sI M 453 h0 ((mI M 453 h0) + (1 : Int32))) a5 (fun M4 => mK M4 h0 = 8 ∧ (wp_X7_readInput M4 h0 p1 (fun r9 M10 => ((¬ r9 = 0 → mK M10 h0 = 8 ∧ (wp_X7_readKeyword M10 h0 (1936292453 : Int64) (fun r13 M14 => ((r13 = 0 → (bk_X7_readWindow_48 h0 K M14)) ∧ (¬ r13 = 0 → mK M14 h0 = 8 ∧ (wp_X7_readNumber M14 h0 (1 : Int64) (1000000 : Int64) (fun r17 M18 => ((¬ r17 = 0 → mK M18 h0 = 8 ∧ (wp_X7_readKeyword M18 h0 (1937007984 : Int64) (fun r22 M23 => ((r22 = 0 → (bk_X7_readWindow_88 h0 K M23)) ∧ (¬ r22 = 0 → mK M23 h0 = 8 ∧ (wp_X7_readNumber M23 h0 ((((mJ M18 454 h0) + (4 : Int64)) - (1 : Int64)) / (4 : Int64)) (mJ M18 454 h0) (fun r25 M26 => ((¬ r25 = 0 → (∀ q29, mK M26 q29 = 0 → mK (nw M26 q29 10) h0 = 8 ∧ (wp_X9_init (nw M26 q29 10) q29 (mJ M18 454 h0) (mJ (nw M26 q29 10) 454 h0) (fun M34 => ∃ a36, p1 = some a36 ∧ mK M34 a36 = 7 ∧ mK (sR M34 395 a36 (some q29)) h0 = 8 ∧ (wp_X7_readSign (sR M34 395 a36 (some q29)) h0 (59 : Int32) (fun r40 M41 => (bz r40 ∧ K r40 M41))))))) ∧ (r25 = 0 → (bk_X7_readWindow_88 h0 K M26)))))))))) ∧ (r17 = 0 → (bk_X7_readWindow_48 h0 K M18)))))))))) ∧ (r9 = 0 → (K (0 : Int32) M10)))))))
set_option maxRecDepth 100000 in
set_option maxHeartbeats 4000000 in
theorem ct_X7_readWindow {M : Mm} {h0 : Nat} {p1 : Option Nat} {K : Int32 → Mm → Prop} (h : wp_X7_readWindow M h0 p1 K) : CtI yX7_readWindow cX7_readWindow 6 (some .boolean) rm_X7_readWindow [.ref h0, va_rf p1] M K := by
  refine ct_any (QI K) (by decide) (by cases p1 <;> exact Nat.le_of_ble_eq_true rfl) (fun X hX hQ hnL hnm => ?_)
  rw [show lv_args 0 [.ref h0, va_rf p1] = [(0, va_rf (some h0)), (1, va_rf p1)] by cases p1 <;> rfl]
  have hX : Ok X cX7_readWindow RX7 rm_X7_readWindow := hX
  unfold wp_X7_readWindow at h
  refine z_aload_n (r := (some h0)) hX dX7_readWindow_0 rfl 0 rfl ?_
  refine z_dup hX dX7_readWindow_1 (cat_rf _) ?_
  obtain ⟨hk1, h⟩ := h
  refine gf_RX7_129 (r := (some h0)) hX dX7_readWindow_2 rfl hk1 ?_
  refine z_iconst (v := (1 : Int32)) hX dX7_readWindow_5 (by decide) ?_
  refine z_iadd hX dX7_readWindow_6 ?_
  refine pf_RX7_129 (r := (some h0)) (v := ((mI M 453 h0) + (1 : Int32))) hX dX7_readWindow_7 rfl hk1 ?_
  refine z_aload_n (r := (some h0)) hX dX7_readWindow_10 rfl 0 rfl ?_
  refine gf_RX7_9 (r := (some h0)) hX dX7_readWindow_11 rfl hk1 ?_
  obtain ⟨a5, ha6, h⟩ := h
  obtain ⟨hk7, h⟩ := h
  refine z_callVV (As := []) (rest := []) (ci := 4) hX (ct_X4_advance h) mw_RX7_19 rfl (by decide) rfl (by rw [ha6]; rfl) (by unfold RoomC; decide) (by decide) dX7_readWindow_14 hk7 (fun M4 h => ?_)
  refine z_aload_n (r := (some h0)) hX dX7_readWindow_17 rfl 0 rfl ?_
  refine z_aload_n (r := p1) hX dX7_readWindow_18 rfl 1 rfl ?_
  obtain ⟨hk11, h⟩ := h
  refine z_callVI (As := [va_rf p1]) (rest := []) (ci := 7) hX (ct_X7_readInput h) mw_RX7_116 rfl (by decide) rfl (by rfl) (by unfold RoomC; decide) (by decide) dX7_readWindow_19 hk11 (fun r9 M10 h => ?_)
  obtain ⟨h1, h2⟩ := h
  refine z_if_ne (tgt := 27) hX dX7_readWindow_22 (by decide) (fun hc => ?_) (fun hc => ?_)
  · have h := h1 hc
    refine z_aload_n (r := (some h0)) hX dX7_readWindow_27 rfl 0 rfl ?_
    refine z_ldc2 (v := (1936292453 : Int64)) hX dX7_readWindow_28 kj_RX7_186 ?_
    obtain ⟨hk15, h⟩ := h
    refine z_callVI (As := [.long (1936292453 : Int64)]) (rest := []) (ci := 7) hX (ct_X7_readKeyword h) mw_RX7_145 rfl (by decide) rfl (by rfl) (by unfold RoomC; decide) (by decide) dX7_readWindow_31 hk15 (fun r13 M14 h => ?_)
    obtain ⟨h1, h2⟩ := h
    refine z_if_eq (tgt := 48) hX dX7_readWindow_34 (by decide) (fun hc => ?_) (fun hc => ?_)
    · have h := h1 hc
      refine z_loc [] rfl ?_
      refine z_widen 0 0 (by decide) (by decide) ?_
      exact zb_X7_readWindow_48 hX hQ hnL h
    · have h := h2 hc
      refine z_aload_n (r := (some h0)) hX dX7_readWindow_37 rfl 0 rfl ?_
      refine z_lconst (v := (1 : Int64)) hX dX7_readWindow_38 (by decide) ?_
      refine z_ldc2 (v := (1000000 : Int64)) hX dX7_readWindow_39 kj_RX7_188 ?_
      obtain ⟨hk19, h⟩ := h
      refine z_callVI (As := [.long (1 : Int64), .long (1000000 : Int64)]) (rest := []) (ci := 7) hX (ct_X7_readNumber h) mw_RX7_71 rfl (by decide) rfl (by rfl) (by unfold RoomC; decide) (by decide) dX7_readWindow_42 hk19 (fun r17 M18 h => ?_)
      obtain ⟨h1, h2⟩ := h
      refine z_if_ne (tgt := 50) hX dX7_readWindow_45 (by decide) (fun hc => ?_) (fun hc => ?_)
      · have h := h1 hc
        refine z_aload_n (r := (some h0)) hX dX7_readWindow_50 rfl 0 rfl ?_
        obtain ⟨hk21, h⟩ := h
        refine gf_RX7_62 (r := (some h0)) hX dX7_readWindow_51 rfl hk21 ?_
        refine z_lstore_n (i := 2) hX [(2, .long (mJ M18 454 h0)), (0, va_rf (some h0)), (1, va_rf p1)] dX7_readWindow_54 rfl (by rw [hnL]; decide) (by simp [cat_rf]) ?_
        refine z_lload_n hX dX7_readWindow_55 rfl 0 rfl ?_
        refine z_ldc2 (v := (4 : Int64)) hX dX7_readWindow_56 kj_RX7_135 ?_
        refine z_ladd hX dX7_readWindow_59 ?_
        refine z_lconst (v := (1 : Int64)) hX dX7_readWindow_60 (by decide) ?_
        refine z_lsub hX dX7_readWindow_61 ?_
        refine z_ldc2 (v := (4 : Int64)) hX dX7_readWindow_62 kj_RX7_135 ?_
        refine z_ldiv hX dX7_readWindow_65 (by decide) ?_
        refine z_lstore hX [(4, .long ((((mJ M18 454 h0) + (4 : Int64)) - (1 : Int64)) / (4 : Int64))), (2, .long (mJ M18 454 h0)), (0, va_rf (some h0)), (1, va_rf p1)] dX7_readWindow_66 (by rw [hnL]; decide) rfl ?_
        refine z_aload_n (r := (some h0)) hX dX7_readWindow_68 rfl 2 rfl ?_
        refine z_ldc2 (v := (1937007984 : Int64)) hX dX7_readWindow_69 kj_RX7_190 ?_
        refine z_callVI (As := [.long (1937007984 : Int64)]) (rest := []) (ci := 7) hX (ct_X7_readKeyword h) mw_RX7_145 rfl (by decide) rfl (by rfl) (by unfold RoomC; decide) (by decide) dX7_readWindow_72 hk21 (fun r22 M23 h => ?_)
        obtain ⟨h1, h2⟩ := h
        refine z_if_eq (tgt := 88) hX dX7_readWindow_75 (by decide) (fun hc => ?_) (fun hc => ?_)
        · have h := h1 hc
          refine z_loc [] rfl ?_
          refine z_widen 0 0 (by decide) (by decide) ?_
          exact zb_X7_readWindow_88 hX hQ hnL h
        · have h := h2 hc
          refine z_aload_n (r := (some h0)) hX dX7_readWindow_78 rfl 2 rfl ?_
          refine z_lload hX dX7_readWindow_79 0 rfl ?_
          refine z_lload_n hX dX7_readWindow_81 rfl 1 rfl ?_
          obtain ⟨hk27, h⟩ := h
          refine z_callVI (As := [.long ((((mJ M18 454 h0) + (4 : Int64)) - (1 : Int64)) / (4 : Int64)), .long (mJ M18 454 h0)]) (rest := []) (ci := 7) hX (ct_X7_readNumber h) mw_RX7_71 rfl (by decide) rfl (by rfl) (by unfold RoomC; decide) (by decide) dX7_readWindow_82 hk27 (fun r25 M26 h => ?_)
          obtain ⟨h1, h2⟩ := h
          refine z_if_ne (tgt := 90) hX dX7_readWindow_85 (by decide) (fun hc => ?_) (fun hc => ?_)
          · have h := h1 hc
            refine z_aload_n (r := p1) hX dX7_readWindow_90 rfl 3 rfl ?_
            refine nq_RX7_192 hX dX7_readWindow_91 (by decide) (by decide) (fun q29 hq30 => ?_)
            have h := h q29 hq30
            refine z_dup hX dX7_readWindow_94 (cat_rf _) ?_
            refine z_lload_n hX dX7_readWindow_95 rfl 1 rfl ?_
            refine z_aload_n (r := (some h0)) hX dX7_readWindow_96 rfl 2 rfl ?_
            obtain ⟨hk32, h⟩ := h
            refine gf_RX7_62 (r := (some h0)) hX dX7_readWindow_97 rfl hk32 ?_
            refine z_callIV (As := [.long (mJ M18 454 h0), .long (mJ (nw M26 q29 10) 454 h0)]) (rest := [va_rf (some q29), va_rf p1]) hX (ct_X9_init h) mw_RX7_194 rfl (by rfl) (by unfold RoomC; decide) (by simp only [List.map_cons, List.map_nil, List.sum_cons, List.sum_nil, cat_rf, cat_i, cat_j]; decide) dX7_readWindow_100 (fun M34 h => ?_)
            obtain ⟨a36, ha37, h⟩ := h
            obtain ⟨hk38, h⟩ := h
            refine pf_RX7_197 (r := p1) (v := (some q29)) hX dX7_readWindow_103 ha37 hk38 ?_
            refine z_aload_n (r := (some h0)) hX dX7_readWindow_106 rfl 2 rfl ?_
            refine z_bipush (v := (59 : Int32)) hX dX7_readWindow_107 (by decide) ?_
            obtain ⟨hk42, h⟩ := h
            refine z_callVI (As := [.int (59 : Int32)]) (rest := []) (ci := 7) hX (ct_X7_readSign h) mw_RX7_78 rfl (by decide) rfl (by rfl) (by unfold RoomC; decide) (by decide) dX7_readWindow_109 hk42 (fun r40 M41 h => ?_)
            refine z_widen 4 78 (by decide) (by decide) ?_
            exact y_zret hX hQ dX7_readWindow_112 h.1 h.2
          · have h := h2 hc
            refine z_loc [] rfl ?_
            refine z_widen 0 0 (by decide) (by decide) ?_
            exact zb_X7_readWindow_88 hX hQ hnL h
      · have h := h2 hc
        refine z_loc [] rfl ?_
        refine z_widen 0 0 (by decide) (by decide) ?_
        exact zb_X7_readWindow_48 hX hQ hnL h
  · have h := h2 hc
    refine z_iconst (v := (0 : Int32)) hX dX7_readWindow_25 (by decide) ?_
    refine z_widen 4 78 (by decide) (by decide) ?_
    exact y_zret hX hQ dX7_readWindow_26 (Or.inl rfl) h
