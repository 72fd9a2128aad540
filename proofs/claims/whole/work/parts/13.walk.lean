def rm_X11_partsThat : Room := { frames := 2, cells := 0, slots := 0, locals := 52 }
def bk_X11_partsThat_90 (h0 : Nat) (R4 : Int32 → Int32 → Int32 → Mm → Prop) (K : Int32 → Mm → Prop) (l1 : Int32) (l2 : Int32) (l3 : Int32) (M : Mm) : Prop := (R4 l1 l2 (l3 + 1) M)
set_option maxRecDepth 100000 in
set_option maxHeartbeats 4000000 in
theorem zb_X11_partsThat_90 {X : Cx} {h0 : Nat} {R4 : Int32 → Int32 → Int32 → Mm → Prop} {K : Int32 → Mm → Prop} (hX : Ok X cX11_partsThat RX11 rm_X11_partsThat) (hQ : Rq X rm_X11_partsThat (some .int) (QI K)) (hnL : X.2.2.2.2.2.2.2.2.2.2.2.2.2.2 = 5) (hR4 : ∀ l1 l2 l3 M, R4 l1 l2 l3 M → Z X M 0 0 4 [(0, va_rf (some h0)), (1, .int l1), (2, .int l2), (3, .int l3)] []) {l1 : Int32} {l2 : Int32} {l3 : Int32} {M : Mm} (h : bk_X11_partsThat_90 h0 R4 K l1 l2 l3 M) : Z X M 0 0 90 [(0, va_rf (some h0)), (1, .int l1), (2, .int l2), (3, .int l3)] [] := by
  unfold bk_X11_partsThat_90 at h
  refine z_iinc (v := (l3 + 1)) hX [(3, .int (l3 + 1)), (0, va_rf (some h0)), (1, .int l1), (2, .int l2)] dX11_partsThat_90 3 rfl rfl (by rw [hnL]; decide) rfl ?_
  refine z_goto (tgt := 4) hX dX11_partsThat_93 (by decide) ?_
  refine z_loc [1, 2, 3, 0] rfl ?_
  exact hR4 _ _ _ _ h
def bk_X11_partsThat_82 (h0 : Nat) (R4 : Int32 → Int32 → Int32 → Mm → Prop) (R17 : Int32 → Int32 → Int32 → Int32 → Mm → Prop) (K : Int32 → Mm → Prop) (l1 : Int32) (l3 : Int32) (l4 : Int32) (s0 : Int32) (s1 : Int32) (M : Mm) : Prop := (R17 l1 (s1 + s0) l3 (l4 + 1) M)
set_option maxRecDepth 100000 in
set_option maxHeartbeats 4000000 in
theorem zb_X11_partsThat_82 {X : Cx} {h0 : Nat} {R4 : Int32 → Int32 → Int32 → Mm → Prop} {R17 : Int32 → Int32 → Int32 → Int32 → Mm → Prop} {K : Int32 → Mm → Prop} (hX : Ok X cX11_partsThat RX11 rm_X11_partsThat) (hQ : Rq X rm_X11_partsThat (some .int) (QI K)) (hnL : X.2.2.2.2.2.2.2.2.2.2.2.2.2.2 = 5) (hR4 : ∀ l1 l2 l3 M, R4 l1 l2 l3 M → Z X M 0 0 4 [(0, va_rf (some h0)), (1, .int l1), (2, .int l2), (3, .int l3)] []) (hR17 : ∀ l1 l2 l3 l4 M, R17 l1 l2 l3 l4 M → Z X M 0 0 17 [(0, va_rf (some h0)), (1, .int l1), (2, .int l2), (3, .int l3), (4, .int l4)] []) {l1 : Int32} {l3 : Int32} {l4 : Int32} {s0 : Int32} {s1 : Int32} {M : Mm} (h : bk_X11_partsThat_82 h0 R4 R17 K l1 l3 l4 s0 s1 M) : Z X M 0 0 82 [(0, va_rf (some h0)), (1, .int l1), (3, .int l3), (4, .int l4)] [.int s0, .int s1] := by
  unfold bk_X11_partsThat_82 at h
  refine z_iadd hX dX11_partsThat_82 ?_
  refine z_istore_n hX [(2, .int (s1 + s0)), (0, va_rf (some h0)), (1, .int l1), (3, .int l3), (4, .int l4)] dX11_partsThat_83 rfl (by rw [hnL]; decide) rfl ?_
  refine z_iinc (v := (l4 + 1)) hX [(4, .int (l4 + 1)), (2, .int (s1 + s0)), (0, va_rf (some h0)), (1, .int l1), (3, .int l3)] dX11_partsThat_84 4 rfl rfl (by rw [hnL]; decide) rfl ?_
  refine z_goto (tgt := 17) hX dX11_partsThat_87 (by decide) ?_
  refine z_loc [2, 3, 1, 4, 0] rfl ?_
  exact hR17 _ _ _ _ _ h
def lp_X11_partsThat_17 (h0 : Nat) (R4 : Int32 → Int32 → Int32 → Mm → Prop) (K : Int32 → Mm → Prop) : Nat → Int32 → Int32 → Int32 → Int32 → Mm → Prop
  | 0, _, _, _, _, _ => False
  | n + 1, l1, l2, l3, l4, M => mK M h0 = 12 ∧ ∃ a2, (mR M 718 h0) = some a2 ∧ isA M a2 1 ∧ vp_in ((12 : Int32) + l3) (aN M a2) ∧ (((aI M a2 (((12 : Int32) + l3)).toNatClampNeg) ≤ l4 → (bk_X11_partsThat_90 h0 R4 K l1 l2 l3 M)) ∧ (¬ (aI M a2 (((12 : Int32) + l3)).toNatClampNeg) ≤ l4 → (wp_X11_kindOf M h0 l3 (fun r6 M7 => ((¬ r6 = 0 → (bk_X11_partsThat_90 h0 R4 K l1 l2 l3 M7)) ∧ (r6 = 0 → ((l1 = 0 → mK M7 h0 = 12 ∧ ∃ a10, (mR M7 735 h0) = some a10 ∧ isA M7 a10 1 ∧ vp_in (((4 : Int32) * l3) + l4) (aN M7 a10) ∧ ((¬ (aI M7 a10 ((((4 : Int32) * l3) + l4)).toNatClampNeg) = (1 : Int32) → (bk_X11_partsThat_82 h0 R4 (lp_X11_partsThat_17 h0 R4 K n) K l1 l3 l4 (0 : Int32) l2 M7)) ∧ ((aI M7 a10 ((((4 : Int32) * l3) + l4)).toNatClampNeg) = (1 : Int32) → (bk_X11_partsThat_82 h0 R4 (lp_X11_partsThat_17 h0 R4 K n) K l1 l3 l4 (1 : Int32) l2 M7)))) ∧ (¬ l1 = 0 → mK M7 h0 = 12 ∧ (wp_X11_isStopped M7 h0 l3 l4 (fun r14 M15 => ((r14 = 0 → (bk_X11_partsThat_82 h0 R4 (lp_X11_partsThat_17 h0 R4 K n) K l1 l3 l4 (0 : Int32) l2 M15)) ∧ (¬ r14 = 0 → (bk_X11_partsThat_82 h0 R4 (lp_X11_partsThat_17 h0 R4 K n) K l1 l3 l4 (1 : Int32) l2 M15)))))))))))))
set_option maxRecDepth 100000 in
set_option maxHeartbeats 4000000 in
theorem zl_X11_partsThat_17 {X : Cx} {h0 : Nat} {R4 : Int32 → Int32 → Int32 → Mm → Prop} {K : Int32 → Mm → Prop} (hX : Ok X cX11_partsThat RX11 rm_X11_partsThat) (hQ : Rq X rm_X11_partsThat (some .int) (QI K)) (hnL : X.2.2.2.2.2.2.2.2.2.2.2.2.2.2 = 5) (hR4 : ∀ l1 l2 l3 M, R4 l1 l2 l3 M → Z X M 0 0 4 [(0, va_rf (some h0)), (1, .int l1), (2, .int l2), (3, .int l3)] []) : ∀ (n : Nat) (l1 : Int32) (l2 : Int32) (l3 : Int32) (l4 : Int32) (M : Mm), lp_X11_partsThat_17 h0 R4 K n l1 l2 l3 l4 M → Z X M 0 0 17 [(0, va_rf (some h0)), (1, .int l1), (2, .int l2), (3, .int l3), (4, .int l4)] [] := by
  intro n
  induction n with
  | zero =>
    intro l1 l2 l3 l4 M h
    exact False.elim h
  | succ n hR17 =>
    intro l1 l2 l3 l4 M h
    refine z_iload hX dX11_partsThat_17 4 rfl ?_
    refine z_aload_n (r := (some h0)) hX dX11_partsThat_19 rfl 0 rfl ?_
    obtain ⟨hk1, h⟩ := h
    refine gf_RX11_26 (r := (some h0)) hX dX11_partsThat_20 rfl hk1 ?_
    refine z_bipush (v := (12 : Int32)) hX dX11_partsThat_23 (by decide) ?_
    refine z_iload_n hX dX11_partsThat_25 rfl 3 rfl ?_
    refine z_iadd hX dX11_partsThat_26 ?_
    obtain ⟨a2, ha3, h⟩ := h
    obtain ⟨hk4, h⟩ := h
    obtain ⟨hc5, h⟩ := h
    refine y_iald (r := (mR M 718 h0)) hX dX11_partsThat_27 ha3 hk4 hc5 ?_
    obtain ⟨h1, h2⟩ := h
    refine z_icmp_ge (tgt := 90) hX dX11_partsThat_28 (by decide) (fun hc => ?_) (fun hc => ?_)
    · have h := h1 hc
      refine z_loc [0, 1, 2, 3] rfl ?_
      exact zb_X11_partsThat_90 hX hQ hnL hR4 h
    · have h := h2 hc
      refine z_aload_n (r := (some h0)) hX dX11_partsThat_31 rfl 0 rfl ?_
      refine z_iload_n hX dX11_partsThat_32 rfl 3 rfl ?_
      refine z_callVI (As := [.int l3]) (rest := []) (ci := 11) hX (ct_X11_kindOf h) mw_RX11_308 rfl (by decide) rfl (by rfl) (by unfold RoomC; decide) (by decide) dX11_partsThat_33 hk1 (fun r6 M7 h => ?_)
      obtain ⟨h1, h2⟩ := h
      refine z_if_ne (tgt := 90) hX dX11_partsThat_36 (by decide) (fun hc => ?_) (fun hc => ?_)
      · have h := h1 hc
        refine z_loc [0, 1, 2, 3] rfl ?_
        exact zb_X11_partsThat_90 hX hQ hnL hR4 h
      · have h := h2 hc
        refine z_iload_n hX dX11_partsThat_39 rfl 2 rfl ?_
        refine z_iload_n hX dX11_partsThat_40 rfl 1 rfl ?_
        obtain ⟨h1, h2⟩ := h
        refine z_if_eq (tgt := 62) hX dX11_partsThat_41 (by decide) (fun hc => ?_) (fun hc => ?_)
        · have h := h1 hc
          refine z_aload_n (r := (some h0)) hX dX11_partsThat_62 rfl 0 rfl ?_
          obtain ⟨hk9, h⟩ := h
          refine gf_RX11_69 (r := (some h0)) hX dX11_partsThat_63 rfl hk9 ?_
          refine z_iconst (v := (4 : Int32)) hX dX11_partsThat_66 (by decide) ?_
          refine z_iload_n hX dX11_partsThat_67 rfl 3 rfl ?_
          refine z_imul hX dX11_partsThat_68 ?_
          refine z_iload hX dX11_partsThat_69 4 rfl ?_
          refine z_iadd hX dX11_partsThat_71 ?_
          obtain ⟨a10, ha11, h⟩ := h
          obtain ⟨hk12, h⟩ := h
          obtain ⟨hc13, h⟩ := h
          refine y_iald (r := (mR M7 735 h0)) hX dX11_partsThat_72 ha11 hk12 hc13 ?_
          refine z_iconst (v := (1 : Int32)) hX dX11_partsThat_73 (by decide) ?_
          obtain ⟨h1, h2⟩ := h
          refine z_icmp_ne (tgt := 81) hX dX11_partsThat_74 (by decide) (fun hc => ?_) (fun hc => ?_)
          · have h := h1 hc
            refine z_iconst (v := (0 : Int32)) hX dX11_partsThat_81 (by decide) ?_
            refine z_loc [0, 1, 3, 4] rfl ?_
            exact zb_X11_partsThat_82 hX hQ hnL hR4 hR17 h
          · have h := h2 hc
            refine z_iconst (v := (1 : Int32)) hX dX11_partsThat_77 (by decide) ?_
            refine z_goto (tgt := 82) hX dX11_partsThat_78 (by decide) ?_
            refine z_loc [0, 1, 3, 4] rfl ?_
            exact zb_X11_partsThat_82 hX hQ hnL hR4 hR17 h
        · have h := h2 hc
          refine z_aload_n (r := (some h0)) hX dX11_partsThat_44 rfl 0 rfl ?_
          refine z_iload_n hX dX11_partsThat_45 rfl 3 rfl ?_
          refine z_iload hX dX11_partsThat_46 4 rfl ?_
          obtain ⟨hk16, h⟩ := h
          refine z_callVI (As := [.int l3, .int l4]) (rest := [.int l2]) (ci := 11) hX (ct_X11_isStopped h) mw_RX11_389 rfl (by decide) rfl (by rfl) (by unfold RoomC; decide) (by simp only [List.map_cons, List.map_nil, List.sum_cons, List.sum_nil, cat_rf, cat_i, cat_j]; decide) dX11_partsThat_48 hk16 (fun r14 M15 h => ?_)
          obtain ⟨h1, h2⟩ := h
          refine z_if_eq (tgt := 58) hX dX11_partsThat_51 (by decide) (fun hc => ?_) (fun hc => ?_)
          · have h := h1 hc
            refine z_iconst (v := (0 : Int32)) hX dX11_partsThat_58 (by decide) ?_
            refine z_goto (tgt := 82) hX dX11_partsThat_59 (by decide) ?_
            refine z_loc [0, 1, 3, 4] rfl ?_
            exact zb_X11_partsThat_82 hX hQ hnL hR4 hR17 h
          · have h := h2 hc
            refine z_iconst (v := (1 : Int32)) hX dX11_partsThat_54 (by decide) ?_
            refine z_goto (tgt := 82) hX dX11_partsThat_55 (by decide) ?_
            refine z_loc [0, 1, 3, 4] rfl ?_
            exact zb_X11_partsThat_82 hX hQ hnL hR4 hR17 h
def lp_X11_partsThat_4 (h0 : Nat) (K : Int32 → Mm → Prop) : Nat → Int32 → Int32 → Int32 → Mm → Prop
  | 0, _, _, _, _ => False
  | n + 1, l1, l2, l3, M => mK M h0 = 12 ∧ ∃ a19, (mR M 729 h0) = some a19 ∧ isA M a19 1 ∧ vp_in (1 : Int32) (aN M a19) ∧ (((aI M a19 ((1 : Int32)).toNatClampNeg) ≤ l3 → (K l2 M)) ∧ (¬ (aI M a19 ((1 : Int32)).toNatClampNeg) ≤ l3 → (∃ kk, lp_X11_partsThat_17 h0 (lp_X11_partsThat_4 h0 K n) K kk l1 l2 l3 (0 : Int32) M)))
set_option maxRecDepth 100000 in
set_option maxHeartbeats 4000000 in
theorem zl_X11_partsThat_4 {X : Cx} {h0 : Nat} {K : Int32 → Mm → Prop} (hX : Ok X cX11_partsThat RX11 rm_X11_partsThat) (hQ : Rq X rm_X11_partsThat (some .int) (QI K)) (hnL : X.2.2.2.2.2.2.2.2.2.2.2.2.2.2 = 5) : ∀ (n : Nat) (l1 : Int32) (l2 : Int32) (l3 : Int32) (M : Mm), lp_X11_partsThat_4 h0 K n l1 l2 l3 M → Z X M 0 0 4 [(0, va_rf (some h0)), (1, .int l1), (2, .int l2), (3, .int l3)] [] := by
  intro n
  induction n with
  | zero =>
    intro l1 l2 l3 M h
    exact False.elim h
  | succ n hR4 =>
    intro l1 l2 l3 M h
    refine z_iload_n hX dX11_partsThat_4 rfl 3 rfl ?_
    refine z_aload_n (r := (some h0)) hX dX11_partsThat_5 rfl 0 rfl ?_
    obtain ⟨hk18, h⟩ := h
    refine gf_RX11_60 (r := (some h0)) hX dX11_partsThat_6 rfl hk18 ?_
    refine z_iconst (v := (1 : Int32)) hX dX11_partsThat_9 (by decide) ?_
    obtain ⟨a19, ha20, h⟩ := h
    obtain ⟨hk21, h⟩ := h
    obtain ⟨hc22, h⟩ := h
    refine y_iald (r := (mR M 729 h0)) hX dX11_partsThat_10 ha20 hk21 hc22 ?_
    obtain ⟨h1, h2⟩ := h
    refine z_icmp_ge (tgt := 96) hX dX11_partsThat_11 (by decide) (fun hc => ?_) (fun hc => ?_)
    · have h := h1 hc
      refine z_iload_n hX dX11_partsThat_96 rfl 2 rfl ?_
      exact z_iret hX hQ dX11_partsThat_97 h
    · have h := h2 hc
      refine z_iconst (v := (0 : Int32)) hX dX11_partsThat_14 (by decide) ?_
      refine z_istore hX [(4, .int (0 : Int32)), (0, va_rf (some h0)), (1, .int l1), (2, .int l2), (3, .int l3)] dX11_partsThat_15 (by rw [hnL]; decide) rfl ?_
      refine z_loc [1, 2, 3, 4, 0] rfl ?_
      obtain ⟨n, h⟩ := h
      exact zl_X11_partsThat_17 hX hQ hnL hR4 n _ _ _ _ _ h
def wp_X11_partsThat (M : Mm) (h0 : Nat) (p1 : Int32) (K : Int32 → Mm → Prop) : Prop := (∃ kk, lp_X11_partsThat_4 h0 K kk p1 (0 : Int32) (0 : Int32) M)
set_option maxRecDepth 100000 in
set_option maxHeartbeats 4000000 in
theorem ct_X11_partsThat {M : Mm} {h0 : Nat} {p1 : Int32} {K : Int32 → Mm → Prop} (h : wp_X11_partsThat M h0 p1 K) : CtI yX11_partsThat cX11_partsThat 5 (some .int) rm_X11_partsThat [.ref h0, .int p1] M K := by
  refine ct_any (QI K) (by decide) (by exact Nat.le_of_ble_eq_true rfl) (fun X hX hQ hnL hnm => ?_)
  rw [show lv_args 0 [.ref h0, .int p1] = [(0, va_rf (some h0)), (1, .int p1)] by rfl]
  have hX : Ok X cX11_partsThat RX11 rm_X11_partsThat := hX
  unfold wp_X11_partsThat at h
  refine z_iconst (v := (0 : Int32)) hX dX11_partsThat_0 (by decide) ?_
  refine z_istore_n hX [(2, .int (0 : Int32)), (0, va_rf (some h0)), (1, .int p1)] dX11_partsThat_1 rfl (by rw [hnL]; decide) rfl ?_
  refine z_iconst (v := (0 : Int32)) hX dX11_partsThat_2 (by decide) ?_
  refine z_istore_n hX [(3, .int (0 : Int32)), (2, .int (0 : Int32)), (0, va_rf (some h0)), (1, .int p1)] dX11_partsThat_3 rfl (by rw [hnL]; decide) rfl ?_
  refine z_loc [2, 3, 1, 0] rfl ?_
  obtain ⟨n, h⟩ := h
  exact zl_X11_partsThat_4 hX hQ hnL n _ _ _ _ h
def rm_X11_told : Room := { frames := 3, cells := 0, slots := 0, locals := 76 }
def wp_X11_told (M : Mm) (h0 : Nat) (p1 : Int32) (K : Int32 → Mm → Prop) : Prop := mK M h0 = 12 ∧ (((p1).toInt < 0 ∨ 8 < (p1).toInt → (K (-1 : Int32) (sI M 704 h0 (0 : Int32)))) ∧ (p1 = 0 → ∃ a3, (mR (sI M 704 h0 (0 : Int32)) 729 h0) = some a3 ∧ isA (sI M 704 h0 (0 : Int32)) a3 1 ∧ vp_in (1 : Int32) (aN (sI M 704 h0 (0 : Int32)) a3) ∧ (K (aI (sI M 704 h0 (0 : Int32)) a3 ((1 : Int32)).toNatClampNeg) (sI M 704 h0 (0 : Int32)))) ∧ (p1 = 1 → (K (mI (sI M 704 h0 (0 : Int32)) 738 h0) (sI M 704 h0 (0 : Int32)))) ∧ (p1 = 2 → (K (mI (sI M 704 h0 (0 : Int32)) 739 h0) (sI M 704 h0 (0 : Int32)))) ∧ (p1 = 3 → (K (mI (sI M 704 h0 (0 : Int32)) 741 h0) (sI M 704 h0 (0 : Int32)))) ∧ (p1 = 4 → (K (mI (sI M 704 h0 (0 : Int32)) 743 h0) (sI M 704 h0 (0 : Int32)))) ∧ (p1 = 5 → (wp_X11_heldIn (sI M 704 h0 (0 : Int32)) h0 (-1 : Int32) (fun r7 M8 => (K r7 M8)))) ∧ (p1 = 6 → (wp_X11_partsThat (sI M 704 h0 (0 : Int32)) h0 (0 : Int32) (fun r10 M11 => (K r10 M11)))) ∧ (p1 = 7 → (wp_X11_partsThat (sI M 704 h0 (0 : Int32)) h0 (1 : Int32) (fun r13 M14 => (K r13 M14)))) ∧ (p1 = 8 → (K (mI (sI M 704 h0 (0 : Int32)) 706 h0) (sI M 704 h0 (0 : Int32)))))
set_option maxRecDepth 100000 in
set_option maxHeartbeats 4000000 in
theorem ct_X11_told {M : Mm} {h0 : Nat} {p1 : Int32} {K : Int32 → Mm → Prop} (h : wp_X11_told M h0 p1 K) : CtI yX11_told cX11_told 2 (some .int) rm_X11_told [.ref h0, .int p1] M K := by
  refine ct_any (QI K) (by decide) (by exact Nat.le_of_ble_eq_true rfl) (fun X hX hQ hnL hnm => ?_)
  rw [show lv_args 0 [.ref h0, .int p1] = [(0, va_rf (some h0)), (1, .int p1)] by rfl]
  have hX : Ok X cX11_told RX11 rm_X11_told := hX
  unfold wp_X11_told at h
  refine z_aload_n (r := (some h0)) hX dX11_told_0 rfl 0 rfl ?_
  refine z_iconst (v := (0 : Int32)) hX dX11_told_1 (by decide) ?_
  obtain ⟨hk1, h⟩ := h
  refine pf_RX11_123 (r := (some h0)) (v := (0 : Int32)) hX dX11_told_2 rfl hk1 ?_
  refine z_iload_n hX dX11_told_5 rfl 1 rfl ?_
  obtain ⟨hD, h1, h2, h3, h4, h5, h6, h7, h8, h9⟩ := h
  by_cases hlo : (p1).toInt < 0 ∨ 8 < (p1).toInt
  · have h := hD hlo
    refine z_tswD (tgt := 106) hX dX11_told_6 hlo (by decide) ?_
    refine z_iconst (v := (-1 : Int32)) hX dX11_told_106 (by decide) ?_
    exact z_iret hX hQ dX11_told_107 h
  · rcases (show (p1).toInt = 0 ∨ (p1).toInt = 1 ∨ (p1).toInt = 2 ∨ (p1).toInt = 3 ∨ (p1).toInt = 4 ∨ (p1).toInt = 5 ∨ (p1).toInt = 6 ∨ (p1).toInt = 7 ∨ (p1).toInt = 8 by omega) with hj | hj | hj | hj | hj | hj | hj | hj | hj
    · have hx9 : p1 = 0 := Int32.toInt_inj.mp (by rw [hj]; rfl)
      have h := h1 hx9
      refine z_tswI (off := 50) (tgt := 56) hX dX11_told_6 (by rw [hx9]; decide) (by rw [hx9]; decide) (by rw [hx9]; rfl) (by decide) ?_
      refine z_aload_n (r := (some h0)) hX dX11_told_56 rfl 0 rfl ?_
      refine gf_RX11_60 (r := (some h0)) hX dX11_told_57 rfl hk1 ?_
      refine z_iconst (v := (1 : Int32)) hX dX11_told_60 (by decide) ?_
      obtain ⟨a3, ha4, h⟩ := h
      obtain ⟨hk5, h⟩ := h
      obtain ⟨hc6, h⟩ := h
      refine y_iald (r := (mR (sI M 704 h0 (0 : Int32)) 729 h0)) hX dX11_told_61 ha4 hk5 hc6 ?_
      exact z_iret hX hQ dX11_told_62 h
    · have hx9 : p1 = 1 := Int32.toInt_inj.mp (by rw [hj]; rfl)
      have h := h2 hx9
      refine z_tswI (off := 57) (tgt := 63) hX dX11_told_6 (by rw [hx9]; decide) (by rw [hx9]; decide) (by rw [hx9]; rfl) (by decide) ?_
      refine z_aload_n (r := (some h0)) hX dX11_told_63 rfl 0 rfl ?_
      refine gf_RX11_292 (r := (some h0)) hX dX11_told_64 rfl hk1 ?_
      exact z_iret hX hQ dX11_told_67 h
    · have hx9 : p1 = 2 := Int32.toInt_inj.mp (by rw [hj]; rfl)
      have h := h3 hx9
      refine z_tswI (off := 62) (tgt := 68) hX dX11_told_6 (by rw [hx9]; decide) (by rw [hx9]; decide) (by rw [hx9]; rfl) (by decide) ?_
      refine z_aload_n (r := (some h0)) hX dX11_told_68 rfl 0 rfl ?_
      refine gf_RX11_283 (r := (some h0)) hX dX11_told_69 rfl hk1 ?_
      exact z_iret hX hQ dX11_told_72 h
    · have hx9 : p1 = 3 := Int32.toInt_inj.mp (by rw [hj]; rfl)
      have h := h4 hx9
      refine z_tswI (off := 67) (tgt := 73) hX dX11_told_6 (by rw [hx9]; decide) (by rw [hx9]; decide) (by rw [hx9]; rfl) (by decide) ?_
      refine z_aload_n (r := (some h0)) hX dX11_told_73 rfl 0 rfl ?_
      refine gf_RX11_286 (r := (some h0)) hX dX11_told_74 rfl hk1 ?_
      exact z_iret hX hQ dX11_told_77 h
    · have hx9 : p1 = 4 := Int32.toInt_inj.mp (by rw [hj]; rfl)
      have h := h5 hx9
      refine z_tswI (off := 72) (tgt := 78) hX dX11_told_6 (by rw [hx9]; decide) (by rw [hx9]; decide) (by rw [hx9]; rfl) (by decide) ?_
      refine z_aload_n (r := (some h0)) hX dX11_told_78 rfl 0 rfl ?_
      refine gf_RX11_289 (r := (some h0)) hX dX11_told_79 rfl hk1 ?_
      exact z_iret hX hQ dX11_told_82 h
    · have hx9 : p1 = 5 := Int32.toInt_inj.mp (by rw [hj]; rfl)
      have h := h6 hx9
      refine z_tswI (off := 77) (tgt := 83) hX dX11_told_6 (by rw [hx9]; decide) (by rw [hx9]; decide) (by rw [hx9]; rfl) (by decide) ?_
      refine z_aload_n (r := (some h0)) hX dX11_told_83 rfl 0 rfl ?_
      refine z_iconst (v := (-1 : Int32)) hX dX11_told_84 (by decide) ?_
      refine z_callVI (As := [.int (-1 : Int32)]) (rest := []) (ci := 11) hX (ct_X11_heldIn h) mw_RX11_401 rfl (by decide) rfl (by rfl) (by unfold RoomC; decide) (by decide) dX11_told_85 hk1 (fun r7 M8 h => ?_)
      exact z_iret hX hQ dX11_told_88 h
    · have hx9 : p1 = 6 := Int32.toInt_inj.mp (by rw [hj]; rfl)
      have h := h7 hx9
      refine z_tswI (off := 83) (tgt := 89) hX dX11_told_6 (by rw [hx9]; decide) (by rw [hx9]; decide) (by rw [hx9]; rfl) (by decide) ?_
      refine z_aload_n (r := (some h0)) hX dX11_told_89 rfl 0 rfl ?_
      refine z_iconst (v := (0 : Int32)) hX dX11_told_90 (by decide) ?_
      refine z_callVI (As := [.int (0 : Int32)]) (rest := []) (ci := 11) hX (ct_X11_partsThat h) mw_RX11_408 rfl (by decide) rfl (by rfl) (by unfold RoomC; decide) (by decide) dX11_told_91 hk1 (fun r10 M11 h => ?_)
      exact z_iret hX hQ dX11_told_94 h
    · have hx9 : p1 = 7 := Int32.toInt_inj.mp (by rw [hj]; rfl)
      have h := h8 hx9
      refine z_tswI (off := 89) (tgt := 95) hX dX11_told_6 (by rw [hx9]; decide) (by rw [hx9]; decide) (by rw [hx9]; rfl) (by decide) ?_
      refine z_aload_n (r := (some h0)) hX dX11_told_95 rfl 0 rfl ?_
      refine z_iconst (v := (1 : Int32)) hX dX11_told_96 (by decide) ?_
      refine z_callVI (As := [.int (1 : Int32)]) (rest := []) (ci := 11) hX (ct_X11_partsThat h) mw_RX11_408 rfl (by decide) rfl (by rfl) (by unfold RoomC; decide) (by decide) dX11_told_97 hk1 (fun r13 M14 h => ?_)
      exact z_iret hX hQ dX11_told_100 h
    · have hx9 : p1 = 8 := Int32.toInt_inj.mp (by rw [hj]; rfl)
      have h := h9 hx9
      refine z_tswI (off := 95) (tgt := 101) hX dX11_told_6 (by rw [hx9]; decide) (by rw [hx9]; decide) (by rw [hx9]; rfl) (by decide) ?_
      refine z_aload_n (r := (some h0)) hX dX11_told_101 rfl 0 rfl ?_
      refine gf_RX11_127 (r := (some h0)) hX dX11_told_102 rfl hk1 ?_
      exact z_iret hX hQ dX11_told_105 h
def rm_X11_say : Room := { frames := 0, cells := 0, slots := 0, locals := 0 }
def wp_X11_say (M : Mm) (h0 : Nat) (p1 : Int32) (K : Mm → Prop) : Prop := mK M h0 = 12 ∧ ∃ a2, (mR M 759 h0) = some a2 ∧ isA M a2 0 ∧ vp_in (mI M 760 h0) (aN M a2) ∧ (K (sI (tI M a2 ((mI M 760 h0)).toNatClampNeg ((((p1).toInt8.toInt32)).toInt8.toInt32)) 760 h0 ((mI (tI M a2 ((mI M 760 h0)).toNatClampNeg ((((p1).toInt8.toInt32)).toInt8.toInt32)) 760 h0) + (1 : Int32))))
set_option maxRecDepth 100000 in
set_option maxHeartbeats 4000000 in
theorem ct_X11_say {M : Mm} {h0 : Nat} {p1 : Int32} {K : Mm → Prop} (h : wp_X11_say M h0 p1 K) : CtV yX11_say cX11_say 2 none rm_X11_say [.ref h0, .int p1] M K := by
  refine ct_any (QV K) (by decide) (by exact Nat.le_of_ble_eq_true rfl) (fun X hX hQ hnL hnm => ?_)
  rw [show lv_args 0 [.ref h0, .int p1] = [(0, va_rf (some h0)), (1, .int p1)] by rfl]
  have hX : Ok X cX11_say RX11 rm_X11_say := hX
  unfold wp_X11_say at h
  refine z_aload_n (r := (some h0)) hX dX11_say_0 rfl 0 rfl ?_
  obtain ⟨hk1, h⟩ := h
  refine gf_RX11_120 (r := (some h0)) hX dX11_say_1 rfl hk1 ?_
  refine z_aload_n (r := (some h0)) hX dX11_say_4 rfl 0 rfl ?_
  refine gf_RX11_412 (r := (some h0)) hX dX11_say_5 rfl hk1 ?_
  refine z_iload_n hX dX11_say_8 rfl 1 rfl ?_
  refine z_i2b hX dX11_say_9 ?_
  obtain ⟨a2, ha3, h⟩ := h
  obtain ⟨hk4, h⟩ := h
  obtain ⟨hc5, h⟩ := h
  refine y_bast (r := (mR M 759 h0)) hX dX11_say_10 ha3 hk4 hc5 ?_
  refine z_aload_n (r := (some h0)) hX dX11_say_11 rfl 0 rfl ?_
  refine z_dup hX dX11_say_12 (cat_rf _) ?_
  refine gf_RX11_412 (r := (some h0)) hX dX11_say_13 rfl hk1 ?_
  refine z_iconst (v := (1 : Int32)) hX dX11_say_16 (by decide) ?_
  refine z_iadd hX dX11_say_17 ?_
  refine pf_RX11_412 (r := (some h0)) (v := ((mI (tI M a2 ((mI M 760 h0)).toNatClampNeg ((((p1).toInt8.toInt32)).toInt8.toInt32)) 760 h0) + (1 : Int32))) hX dX11_say_18 rfl hk1 ?_
  exact z_vret hX hQ dX11_say_21 h
def rm_X11_sayAll : Room := { frames := 4, cells := 0, slots := 0, locals := 111 }
def lp_X11_sayAll_2 (h0 : Nat) (K : Mm → Prop) : Nat → Nat → Int32 → Mm → Prop
  | 0, _, _, _ => False
  | n + 1, l1, l2, M => l1 < 11 ∧ (((nI (slen l1)) ≤ l2 → (K M)) ∧ (¬ (nI (slen l1)) ≤ l2 → l1 < 11 ∧ vp_in l2 (slen l1) ∧ mK M h0 = 12 ∧ (wp_X11_say M h0 (sby l1 (l2).toNatClampNeg) (fun M5 => ((lp_X11_sayAll_2 h0 K n) l1 (l2 + 1) M5)))))
set_option maxRecDepth 100000 in
set_option maxHeartbeats 4000000 in
theorem zl_X11_sayAll_2 {X : Cx} {h0 : Nat} {K : Mm → Prop} (hX : Ok X cX11_sayAll RX11 rm_X11_sayAll) (hQ : Rq X rm_X11_sayAll none (QV K)) (hnL : X.2.2.2.2.2.2.2.2.2.2.2.2.2.2 = 3) : ∀ (n : Nat) (l1 : Nat) (l2 : Int32) (M : Mm), lp_X11_sayAll_2 h0 K n l1 l2 M → Z X M 0 0 2 [(0, va_rf (some h0)), (1, va_rf (some (sK (tX X) l1))), (2, .int l2)] [] := by
  intro n
  induction n with
  | zero =>
    intro l1 l2 M h
    exact False.elim h
  | succ n hR2 =>
    intro l1 l2 M h
    refine z_iload_n hX dX11_sayAll_2 rfl 2 rfl ?_
    refine z_aload_n (r := (some (sK (tX X) l1))) hX dX11_sayAll_3 rfl 1 rfl ?_
    obtain ⟨hc1, h⟩ := h
    refine z_strlen (i := l1) (rest := [.int l2]) hX hc1 (by unfold RoomC; decide) (by simp only [List.map_cons, List.map_nil, List.sum_cons, List.sum_nil, cat_rf, cat_i, cat_j]; decide) dX11_sayAll_4 ?_
    obtain ⟨h1, h2⟩ := h
    refine z_icmp_ge (tgt := 25) hX dX11_sayAll_7 (by decide) (fun hc => ?_) (fun hc => ?_)
    · have h := h1 hc
      exact z_vret hX hQ dX11_sayAll_25 h
    · have h := h2 hc
      refine z_aload_n (r := (some h0)) hX dX11_sayAll_10 rfl 0 rfl ?_
      refine z_aload_n (r := (some (sK (tX X) l1))) hX dX11_sayAll_11 rfl 1 rfl ?_
      refine z_iload_n hX dX11_sayAll_12 rfl 2 rfl ?_
      obtain ⟨hc2, h⟩ := h
      obtain ⟨hc3, h⟩ := h
      refine z_schar (i := l1) (x := l2) (rest := [va_rf (some h0)]) hX hc2 hc3 (by unfold RoomC; decide) (by simp only [List.map_cons, List.map_nil, List.sum_cons, List.sum_nil, cat_rf, cat_i, cat_j]; decide) dX11_sayAll_13 ?_
      obtain ⟨hk6, h⟩ := h
      refine z_callVV (As := [.int (sby l1 (l2).toNatClampNeg)]) (rest := []) (ci := 11) hX (ct_X11_say h) mw_RX11_415 rfl (by decide) rfl (by rfl) (by unfold RoomC; decide) (by decide) dX11_sayAll_16 hk6 (fun M5 h => ?_)
      refine z_iinc (v := (l2 + 1)) hX [(2, .int (l2 + 1)), (0, va_rf (some h0)), (1, va_rf (some (sK (tX X) l1)))] dX11_sayAll_19 2 rfl rfl (by rw [hnL]; decide) rfl ?_
      refine z_goto (tgt := 2) hX dX11_sayAll_22 (by decide) ?_
      refine z_loc [1, 2, 0] rfl ?_
      exact hR2 _ _ _ h
def wp_X11_sayAll (M : Mm) (h0 : Nat) (p1 : Nat) (K : Mm → Prop) : Prop := (∃ kk, lp_X11_sayAll_2 h0 K kk p1 (0 : Int32) M)
set_option maxRecDepth 100000 in
set_option maxHeartbeats 4000000 in
theorem ct_X11_sayAll {M : Mm} {h0 : Nat} {p1 : Nat} {K : Mm → Prop} (h : wp_X11_sayAll M h0 p1 K) : CtVt yX11_sayAll cX11_sayAll 3 none rm_X11_sayAll (fun t => [.ref h0, .ref (sK t p1)]) M K := by
  refine ct_anyT (QV K) (by decide) (fun t => by exact Nat.le_of_ble_eq_true rfl) (fun X hX hQ hnL hnm => ?_)
  rw [show lv_args 0 [.ref h0, .ref (sK (tX X) p1)] = [(0, va_rf (some h0)), (1, va_rf (some (sK (tX X) p1)))] by rfl]
  have hX : Ok X cX11_sayAll RX11 rm_X11_sayAll := hX
  unfold wp_X11_sayAll at h
  refine z_iconst (v := (0 : Int32)) hX dX11_sayAll_0 (by decide) ?_
  refine z_istore_n hX [(2, .int (0 : Int32)), (0, va_rf (some h0)), (1, va_rf (some (sK (tX X) p1)))] dX11_sayAll_1 rfl (by rw [hnL]; decide) rfl ?_
  refine z_loc [1, 2, 0] rfl ?_
  obtain ⟨n, h⟩ := h
  exact zl_X11_sayAll_2 hX hQ hnL n _ _ _ h
def rm_X11_sayNumber : Room := { frames := 1, cells := 0, slots := 0, locals := 21 }
def lp_X11_sayNumber_50 (h0 : Nat) (K : Mm → Prop) : Nat → Int64 → Int64 → Mm → Prop
  | 0, _, _, _ => False
  | n + 1, l3, l5, M => ((l5 ≤ (0 : Int64) → (K M)) ∧ (¬ l5 ≤ (0 : Int64) → ¬ l5 = 0 ∧ mK M h0 = 12 ∧ (wp_X11_say M h0 ((((48 : Int64) + ((l3 / l5) - (l3 / l5) / (10 : Int64) * (10 : Int64)))).toInt32) (fun M3 => ((lp_X11_sayNumber_50 h0 K n) l3 (l5 / (10 : Int64)) M3)))))
set_option maxRecDepth 100000 in
set_option maxHeartbeats 4000000 in
theorem zl_X11_sayNumber_50 {X : Cx} {h0 : Nat} {K : Mm → Prop} (hX : Ok X cX11_sayNumber RX11 rm_X11_sayNumber) (hQ : Rq X rm_X11_sayNumber none (QV K)) (hnL : X.2.2.2.2.2.2.2.2.2.2.2.2.2.2 = 7) : ∀ (n : Nat) (l3 : Int64) (l5 : Int64) (M : Mm), lp_X11_sayNumber_50 h0 K n l3 l5 M → Z X M 0 0 50 [(0, va_rf (some h0)), (3, .long l3), (5, .long l5)] [] := by
  intro n
  induction n with
  | zero =>
    intro l3 l5 M h
    exact False.elim h
  | succ n hR50 =>
    intro l3 l5 M h
    refine z_lload hX dX11_sayNumber_50 2 rfl ?_
    refine z_lconst (v := (0 : Int64)) hX dX11_sayNumber_52 (by decide) ?_
    refine z_lcmp hX dX11_sayNumber_53 ?_
    obtain ⟨h1, h2⟩ := h
    refine z_if_le (tgt := 85) hX dX11_sayNumber_54 (by decide) (fun hc => ?_) (fun hc => ?_)
    · have h := h1 ((lg_cmp_le _ _).mp hc)
      exact z_vret hX hQ dX11_sayNumber_85 h
    · have h := h2 (fun q => hc ((lg_cmp_le _ _).mpr q))
      refine z_aload_n (r := (some h0)) hX dX11_sayNumber_57 rfl 0 rfl ?_
      refine z_ldc2 (v := (48 : Int64)) hX dX11_sayNumber_58 kj_RX11_163 ?_
      refine z_lload_n hX dX11_sayNumber_61 rfl 1 rfl ?_
      refine z_lload hX dX11_sayNumber_62 2 rfl ?_
      obtain ⟨hc1, h⟩ := h
      refine z_ldiv hX dX11_sayNumber_64 hc1 ?_
      refine z_ldc2 (v := (10 : Int64)) hX dX11_sayNumber_65 kj_RX11_161 ?_
      refine z_lrem hX dX11_sayNumber_68 (by decide) ?_
      refine z_ladd hX dX11_sayNumber_69 ?_
      refine z_l2i hX dX11_sayNumber_70 ?_
      obtain ⟨hk4, h⟩ := h
      refine z_callVV (As := [.int ((((48 : Int64) + ((l3 / l5) - (l3 / l5) / (10 : Int64) * (10 : Int64)))).toInt32)]) (rest := []) (ci := 11) hX (ct_X11_say h) mw_RX11_415 rfl (by decide) rfl (by rfl) (by unfold RoomC; decide) (by decide) dX11_sayNumber_71 hk4 (fun M3 h => ?_)
      refine z_lload hX dX11_sayNumber_74 2 rfl ?_
      refine z_ldc2 (v := (10 : Int64)) hX dX11_sayNumber_76 kj_RX11_161 ?_
      refine z_ldiv hX dX11_sayNumber_79 (by decide) ?_
      refine z_lstore hX [(5, .long (l5 / (10 : Int64))), (0, va_rf (some h0)), (3, .long l3)] dX11_sayNumber_80 (by rw [hnL]; decide) rfl ?_
      refine z_goto (tgt := 50) hX dX11_sayNumber_82 (by decide) ?_
      refine z_loc [1, 2, 0] rfl ?_
      exact hR50 _ _ _ h
def lp_X11_sayNumber_28 (h0 : Nat) (K : Mm → Prop) : Nat → Int64 → Int64 → Mm → Prop
  | 0, _, _, _ => False
  | n + 1, l3, l5, M => ¬ l5 = 0 ∧ (((l3 / l5) ≤ (9 : Int64) → (∃ kk, lp_X11_sayNumber_50 h0 K kk l3 l5 M)) ∧ (¬ (l3 / l5) ≤ (9 : Int64) → ((lp_X11_sayNumber_28 h0 K n) l3 (l5 * (10 : Int64)) M)))
set_option maxRecDepth 100000 in
set_option maxHeartbeats 4000000 in
theorem zl_X11_sayNumber_28 {X : Cx} {h0 : Nat} {K : Mm → Prop} (hX : Ok X cX11_sayNumber RX11 rm_X11_sayNumber) (hQ : Rq X rm_X11_sayNumber none (QV K)) (hnL : X.2.2.2.2.2.2.2.2.2.2.2.2.2.2 = 7) : ∀ (n : Nat) (l3 : Int64) (l5 : Int64) (M : Mm), lp_X11_sayNumber_28 h0 K n l3 l5 M → Z X M 0 0 28 [(0, va_rf (some h0)), (3, .long l3), (5, .long l5)] [] := by
  intro n
  induction n with
  | zero =>
    intro l3 l5 M h
    exact False.elim h
  | succ n hR28 =>
    intro l3 l5 M h
    refine z_lload_n hX dX11_sayNumber_28 rfl 1 rfl ?_
    refine z_lload hX dX11_sayNumber_29 2 rfl ?_
    obtain ⟨hc6, h⟩ := h
    refine z_ldiv hX dX11_sayNumber_31 hc6 ?_
    refine z_ldc2 (v := (9 : Int64)) hX dX11_sayNumber_32 kj_RX11_418 ?_
    refine z_lcmp hX dX11_sayNumber_35 ?_
    obtain ⟨h1, h2⟩ := h
    refine z_if_le (tgt := 50) hX dX11_sayNumber_36 (by decide) (fun hc => ?_) (fun hc => ?_)
    · have h := h1 ((lg_cmp_le _ _).mp hc)
      obtain ⟨n, h⟩ := h
      exact zl_X11_sayNumber_50 hX hQ hnL n _ _ _ h
    · have h := h2 (fun q => hc ((lg_cmp_le _ _).mpr q))
      refine z_lload hX dX11_sayNumber_39 2 rfl ?_
      refine z_ldc2 (v := (10 : Int64)) hX dX11_sayNumber_41 kj_RX11_161 ?_
      refine z_lmul hX dX11_sayNumber_44 ?_
      refine z_lstore hX [(5, .long (l5 * (10 : Int64))), (0, va_rf (some h0)), (3, .long l3)] dX11_sayNumber_45 (by rw [hnL]; decide) rfl ?_
      refine z_goto (tgt := 28) hX dX11_sayNumber_47 (by decide) ?_
      refine z_loc [1, 2, 0] rfl ?_
      exact hR28 _ _ _ h
def bk_X11_sayNumber_24 (h0 : Nat) (K : Mm → Prop) (s0 : Int64) (M : Mm) : Prop := (∃ kk, lp_X11_sayNumber_28 h0 K kk s0 (1 : Int64) M)
set_option maxRecDepth 100000 in
set_option maxHeartbeats 4000000 in
theorem zb_X11_sayNumber_24 {X : Cx} {h0 : Nat} {K : Mm → Prop} (hX : Ok X cX11_sayNumber RX11 rm_X11_sayNumber) (hQ : Rq X rm_X11_sayNumber none (QV K)) (hnL : X.2.2.2.2.2.2.2.2.2.2.2.2.2.2 = 7) {s0 : Int64} {M : Mm} (h : bk_X11_sayNumber_24 h0 K s0 M) : Z X M 0 0 24 [(0, va_rf (some h0))] [.long s0] := by
  unfold bk_X11_sayNumber_24 at h
  refine z_lstore_n hX [(3, .long s0), (0, va_rf (some h0))] dX11_sayNumber_24 rfl (by rw [hnL]; decide) rfl ?_
  refine z_lconst (v := (1 : Int64)) hX dX11_sayNumber_25 (by decide) ?_
  refine z_lstore hX [(5, .long (1 : Int64)), (3, .long s0), (0, va_rf (some h0))] dX11_sayNumber_26 (by rw [hnL]; decide) rfl ?_
  refine z_loc [2, 1, 0] rfl ?_
  obtain ⟨n, h⟩ := h
  exact zl_X11_sayNumber_28 hX hQ hnL n _ _ _ h
def bk_X11_sayNumber_12 (h0 : Nat) (K : Mm → Prop) (l1 : Int64) (M : Mm) : Prop := (((0 : Int64) ≤ l1 → (bk_X11_sayNumber_24 h0 K l1 M)) ∧ (¬ (0 : Int64) ≤ l1 → (bk_X11_sayNumber_24 h0 K (-l1) M)))
set_option maxRecDepth 100000 in
set_option maxHeartbeats 4000000 in
theorem zb_X11_sayNumber_12 {X : Cx} {h0 : Nat} {K : Mm → Prop} (hX : Ok X cX11_sayNumber RX11 rm_X11_sayNumber) (hQ : Rq X rm_X11_sayNumber none (QV K)) (hnL : X.2.2.2.2.2.2.2.2.2.2.2.2.2.2 = 7) {l1 : Int64} {M : Mm} (h : bk_X11_sayNumber_12 h0 K l1 M) : Z X M 0 0 12 [(0, va_rf (some h0)), (1, .long l1)] [] := by
  unfold bk_X11_sayNumber_12 at h
  refine z_lload_n hX dX11_sayNumber_12 rfl 1 rfl ?_
  refine z_lconst (v := (0 : Int64)) hX dX11_sayNumber_13 (by decide) ?_
  refine z_lcmp hX dX11_sayNumber_14 ?_
  obtain ⟨h1, h2⟩ := h
  refine z_if_ge (tgt := 23) hX dX11_sayNumber_15 (by decide) (fun hc => ?_) (fun hc => ?_)
  · have h := h1 ((lg_cmp_ge _ _).mp hc)
    refine z_lload_n hX dX11_sayNumber_23 rfl 1 rfl ?_
    refine z_loc [0] rfl ?_
    exact zb_X11_sayNumber_24 hX hQ hnL h
  · have h := h2 (fun q => hc ((lg_cmp_ge _ _).mpr q))
    refine z_lload_n hX dX11_sayNumber_18 rfl 1 rfl ?_
    refine z_lneg hX dX11_sayNumber_19 ?_
    refine z_goto (tgt := 24) hX dX11_sayNumber_20 (by decide) ?_
    refine z_loc [0] rfl ?_
    exact zb_X11_sayNumber_24 hX hQ hnL h
def wp_X11_sayNumber (M : Mm) (h0 : Nat) (p1 : Int64) (K : Mm → Prop) : Prop := (((0 : Int64) ≤ p1 → (bk_X11_sayNumber_12 h0 K p1 M)) ∧ (¬ (0 : Int64) ≤ p1 → mK M h0 = 12 ∧ (wp_X11_say M h0 (45 : Int32) (fun M8 => (bk_X11_sayNumber_12 h0 K p1 M8)))))
set_option maxRecDepth 100000 in
set_option maxHeartbeats 4000000 in
theorem ct_X11_sayNumber {M : Mm} {h0 : Nat} {p1 : Int64} {K : Mm → Prop} (h : wp_X11_sayNumber M h0 p1 K) : CtV yX11_sayNumber cX11_sayNumber 7 none rm_X11_sayNumber [.ref h0, .long p1] M K := by
  refine ct_any (QV K) (by decide) (by exact Nat.le_of_ble_eq_true rfl) (fun X hX hQ hnL hnm => ?_)
  rw [show lv_args 0 [.ref h0, .long p1] = [(0, va_rf (some h0)), (1, .long p1)] by rfl]
  have hX : Ok X cX11_sayNumber RX11 rm_X11_sayNumber := hX
  unfold wp_X11_sayNumber at h
  refine z_lload_n hX dX11_sayNumber_0 rfl 1 rfl ?_
  refine z_lconst (v := (0 : Int64)) hX dX11_sayNumber_1 (by decide) ?_
  refine z_lcmp hX dX11_sayNumber_2 ?_
  obtain ⟨h1, h2⟩ := h
  refine z_if_ge (tgt := 12) hX dX11_sayNumber_3 (by decide) (fun hc => ?_) (fun hc => ?_)
  · have h := h1 ((lg_cmp_ge _ _).mp hc)
    exact zb_X11_sayNumber_12 hX hQ hnL h
  · have h := h2 (fun q => hc ((lg_cmp_ge _ _).mpr q))
    refine z_aload_n (r := (some h0)) hX dX11_sayNumber_6 rfl 0 rfl ?_
    refine z_bipush (v := (45 : Int32)) hX dX11_sayNumber_7 (by decide) ?_
    obtain ⟨hk9, h⟩ := h
    refine z_callVV (As := [.int (45 : Int32)]) (rest := []) (ci := 11) hX (ct_X11_say h) mw_RX11_415 rfl (by decide) rfl (by rfl) (by unfold RoomC; decide) (by decide) dX11_sayNumber_9 hk9 (fun M8 h => ?_)
    exact zb_X11_sayNumber_12 hX hQ hnL h
def rm_X11_wordOf : Room := { frames := 0, cells := 0, slots := 0, locals := 0 }
def bk_X11_wordOf_57 (K : Nat → Mm → Prop) (s0 : Nat) (M : Mm) : Prop := (s0 < 11 ∧ K s0 M)
set_option maxRecDepth 100000 in
set_option maxHeartbeats 4000000 in
theorem zb_X11_wordOf_57 {X : Cx} {K : Nat → Mm → Prop} (hX : Ok X cX11_wordOf RX11 rm_X11_wordOf) (hQ : Rq X rm_X11_wordOf (some (.object "java/lang/String")) (QS K)) (hnL : X.2.2.2.2.2.2.2.2.2.2.2.2.2.2 = 1) {s0 : Nat} {M : Mm} (h : bk_X11_wordOf_57 K s0 M) : Z X M 0 0 57 [] [va_rf (some (sK (tX X) s0))] := by
  unfold bk_X11_wordOf_57 at h
  exact z_sret hX hQ h.1 dX11_wordOf_57 h.2
def wp_X11_wordOf (M : Mm) (p1 : Int32) (K : Nat → Mm → Prop) : Prop := ((¬ p1 = 0 → ((¬ p1 = (1 : Int32) → ((¬ p1 = (2 : Int32) → ((¬ p1 = (3 : Int32) → ((¬ p1 = (4 : Int32) → (bk_X11_wordOf_57 K 6 M)) ∧ (p1 = (4 : Int32) → (bk_X11_wordOf_57 K 5 M)))) ∧ (p1 = (3 : Int32) → (bk_X11_wordOf_57 K 4 M)))) ∧ (p1 = (2 : Int32) → (bk_X11_wordOf_57 K 3 M)))) ∧ (p1 = (1 : Int32) → (bk_X11_wordOf_57 K 2 M)))) ∧ (p1 = 0 → (bk_X11_wordOf_57 K 1 M)))
set_option maxRecDepth 100000 in
set_option maxHeartbeats 4000000 in
theorem ct_X11_wordOf {M : Mm} {p1 : Int32} {K : Nat → Mm → Prop} (h : wp_X11_wordOf M p1 K) : CtS yX11_wordOf cX11_wordOf 1 (some (.object "java/lang/String")) rm_X11_wordOf [.int p1] M K := by
  refine ct_any (QS K) (by decide) (by exact Nat.le_of_ble_eq_true rfl) (fun X hX hQ hnL hnm => ?_)
  rw [show lv_args 0 [.int p1] = [(0, .int p1)] by rfl]
  have hX : Ok X cX11_wordOf RX11 rm_X11_wordOf := hX
  unfold wp_X11_wordOf at h
  refine z_iload_n hX dX11_wordOf_0 rfl 0 rfl ?_
  obtain ⟨h1, h2⟩ := h
  refine z_if_ne (tgt := 10) hX dX11_wordOf_1 (by decide) (fun hc => ?_) (fun hc => ?_)
  · have h := h1 hc
    refine z_iload_n hX dX11_wordOf_10 rfl 0 rfl ?_
    refine z_iconst (v := (1 : Int32)) hX dX11_wordOf_11 (by decide) ?_
    obtain ⟨h1, h2⟩ := h
    refine z_icmp_ne (tgt := 21) hX dX11_wordOf_12 (by decide) (fun hc => ?_) (fun hc => ?_)
    · have h := h1 hc
      refine z_iload_n hX dX11_wordOf_21 rfl 0 rfl ?_
      refine z_iconst (v := (2 : Int32)) hX dX11_wordOf_22 (by decide) ?_
      obtain ⟨h1, h2⟩ := h
      refine z_icmp_ne (tgt := 32) hX dX11_wordOf_23 (by decide) (fun hc => ?_) (fun hc => ?_)
      · have h := h1 hc
        refine z_iload_n hX dX11_wordOf_32 rfl 0 rfl ?_
        refine z_iconst (v := (3 : Int32)) hX dX11_wordOf_33 (by decide) ?_
        obtain ⟨h1, h2⟩ := h
        refine z_icmp_ne (tgt := 43) hX dX11_wordOf_34 (by decide) (fun hc => ?_) (fun hc => ?_)
        · have h := h1 hc
          refine z_iload_n hX dX11_wordOf_43 rfl 0 rfl ?_
          refine z_iconst (v := (4 : Int32)) hX dX11_wordOf_44 (by decide) ?_
          obtain ⟨h1, h2⟩ := h
          refine z_icmp_ne (tgt := 54) hX dX11_wordOf_45 (by decide) (fun hc => ?_) (fun hc => ?_)
          · have h := h1 hc
            refine z_ldcSW (i := 6) hX (by decide) rfl dX11_wordOf_54 ?_
            refine z_loc [] rfl ?_
            exact zb_X11_wordOf_57 hX hQ hnL h
          · have h := h2 hc
            refine z_ldcSW (i := 5) hX (by decide) rfl dX11_wordOf_48 ?_
            refine z_goto (tgt := 57) hX dX11_wordOf_51 (by decide) ?_
            refine z_loc [] rfl ?_
            exact zb_X11_wordOf_57 hX hQ hnL h
        · have h := h2 hc
          refine z_ldcSW (i := 4) hX (by decide) rfl dX11_wordOf_37 ?_
          refine z_goto (tgt := 57) hX dX11_wordOf_40 (by decide) ?_
          refine z_loc [] rfl ?_
          exact zb_X11_wordOf_57 hX hQ hnL h
      · have h := h2 hc
        refine z_ldcSW (i := 3) hX (by decide) rfl dX11_wordOf_26 ?_
        refine z_goto (tgt := 57) hX dX11_wordOf_29 (by decide) ?_
        refine z_loc [] rfl ?_
        exact zb_X11_wordOf_57 hX hQ hnL h
    · have h := h2 hc
      refine z_ldcSW (i := 2) hX (by decide) rfl dX11_wordOf_15 ?_
      refine z_goto (tgt := 57) hX dX11_wordOf_18 (by decide) ?_
      refine z_loc [] rfl ?_
      exact zb_X11_wordOf_57 hX hQ hnL h
  · have h := h2 hc
    refine z_ldcSW (i := 1) hX (by decide) rfl dX11_wordOf_4 ?_
    refine z_goto (tgt := 57) hX dX11_wordOf_7 (by decide) ?_
    refine z_loc [] rfl ?_
    exact zb_X11_wordOf_57 hX hQ hnL h
def rm_X11_print : Room := { frames := 5, cells := 0, slots := 0, locals := 133 }
def bk_X11_print_229 (h0 : Nat) (R21 : Int32 → Mm → Prop) (K : Int32 → Mm → Prop) (l1 : Int32) (s0 : Nat) (s1 : Option Nat) (M : Mm) : Prop := ∃ a3, s1 = some a3 ∧ mK M a3 = 12 ∧ (wp_X11_sayAll M a3 s0 (fun M2 => mK M2 h0 = 12 ∧ (wp_X11_say M2 h0 (10 : Int32) (fun M8 => (R21 (l1 + 1) M8)))))
set_option maxRecDepth 100000 in
set_option maxHeartbeats 4000000 in
theorem zb_X11_print_229 {X : Cx} {h0 : Nat} {R21 : Int32 → Mm → Prop} {K : Int32 → Mm → Prop} (hX : Ok X cX11_print RX11 rm_X11_print) (hQ : Rq X rm_X11_print (some .int) (QI K)) (hnL : X.2.2.2.2.2.2.2.2.2.2.2.2.2.2 = 3) (hR21 : ∀ l1 M, R21 l1 M → Z X M 0 0 21 [(0, va_rf (some h0)), (1, .int l1)] []) {l1 : Int32} {s0 : Nat} {s1 : Option Nat} {M : Mm} (h : bk_X11_print_229 h0 R21 K l1 s0 s1 M) : Z X M 0 0 229 [(0, va_rf (some h0)), (1, .int l1)] [va_rf (some (sK (tX X) s0)), va_rf s1] := by
  unfold bk_X11_print_229 at h
  obtain ⟨a3, ha4, h⟩ := h
  obtain ⟨hk5, h⟩ := h
  refine z_callVVt (i := s0) (rest := []) (ci := 11) hX (ct_X11_sayAll h) mw_RX11_438 rfl (by decide) rfl (by rw [ha4]; rfl) (by unfold RoomC; decide) (by decide) dX11_print_229 hk5 (fun M2 h => ?_)
  refine z_aload_n (r := (some h0)) hX dX11_print_232 rfl 0 rfl ?_
  refine z_bipush (v := (10 : Int32)) hX dX11_print_233 (by decide) ?_
  obtain ⟨hk9, h⟩ := h
  refine z_callVV (As := [.int (10 : Int32)]) (rest := []) (ci := 11) hX (ct_X11_say h) mw_RX11_415 rfl (by decide) rfl (by rfl) (by unfold RoomC; decide) (by decide) dX11_print_235 hk9 (fun M8 h => ?_)
  refine z_iinc (v := (l1 + 1)) hX [(1, .int (l1 + 1)), (0, va_rf (some h0))] dX11_print_238 1 rfl rfl (by rw [hnL]; decide) rfl ?_
  refine z_goto (tgt := 21) hX dX11_print_241 (by decide) ?_
  refine z_loc [1, 0] rfl ?_
  exact hR21 _ _ h
def bk_X11_print_210 (h0 : Nat) (R21 : Int32 → Mm → Prop) (K : Int32 → Mm → Prop) (l1 : Int32) (M : Mm) : Prop := mK M h0 = 12 ∧ ∃ a12, (mR M 734 h0) = some a12 ∧ isA M a12 3 ∧ vp_in l1 (aN M a12) ∧ (((aI M a12 (l1).toNatClampNeg) = 0 → (bk_X11_print_229 h0 R21 K l1 10 (some h0) M)) ∧ (¬ (aI M a12 (l1).toNatClampNeg) = 0 → (bk_X11_print_229 h0 R21 K l1 9 (some h0) M)))
set_option maxRecDepth 100000 in
set_option maxHeartbeats 4000000 in
theorem zb_X11_print_210 {X : Cx} {h0 : Nat} {R21 : Int32 → Mm → Prop} {K : Int32 → Mm → Prop} (hX : Ok X cX11_print RX11 rm_X11_print) (hQ : Rq X rm_X11_print (some .int) (QI K)) (hnL : X.2.2.2.2.2.2.2.2.2.2.2.2.2.2 = 3) (hR21 : ∀ l1 M, R21 l1 M → Z X M 0 0 21 [(0, va_rf (some h0)), (1, .int l1)] []) {l1 : Int32} {M : Mm} (h : bk_X11_print_210 h0 R21 K l1 M) : Z X M 0 0 210 [(0, va_rf (some h0)), (1, .int l1)] [] := by
  unfold bk_X11_print_210 at h
  refine z_aload_n (r := (some h0)) hX dX11_print_210 rfl 0 rfl ?_
  refine z_aload_n (r := (some h0)) hX dX11_print_211 rfl 0 rfl ?_
  obtain ⟨hk11, h⟩ := h
  refine gf_RX11_66 (r := (some h0)) hX dX11_print_212 rfl hk11 ?_
  refine z_iload_n hX dX11_print_215 rfl 1 rfl ?_
  obtain ⟨a12, ha13, h⟩ := h
  obtain ⟨hk14, h⟩ := h
  obtain ⟨hc15, h⟩ := h
  refine y_zald (r := (mR M 734 h0)) hX dX11_print_216 ha13 hk14 hc15 ?_
  obtain ⟨h1, h2⟩ := h
  refine z_if_eq (tgt := 226) hX dX11_print_217 (by decide) (fun hc => ?_) (fun hc => ?_)
  · have h := h1 hc
    refine z_ldcSW (i := 10) hX (by decide) rfl dX11_print_226 ?_
    exact zb_X11_print_229 hX hQ hnL hR21 h
  · have h := h2 hc
    refine z_ldcSW (i := 9) hX (by decide) rfl dX11_print_220 ?_
    refine z_goto (tgt := 229) hX dX11_print_223 (by decide) ?_
    exact zb_X11_print_229 hX hQ hnL hR21 h
def lp_X11_print_112 (h0 : Nat) (R21 : Int32 → Mm → Prop) (K : Int32 → Mm → Prop) : Nat → Int32 → Int32 → Mm → Prop
  | 0, _, _, _ => False
  | n + 1, l1, l2, M => mK M h0 = 12 ∧ ∃ a17, (mR M 724 h0) = some a17 ∧ isA M a17 1 ∧ vp_in ((12 : Int32) + l1) (aN M a17) ∧ (((aI M a17 (((12 : Int32) + l1)).toNatClampNeg) ≤ l2 → (wp_X11_say M h0 (32 : Int32) (fun M22 => mK M22 h0 = 12 ∧ ∃ a25, (mR M22 733 h0) = some a25 ∧ isA M22 a25 2 ∧ vp_in l1 (aN M22 a25) ∧ ((¬ (aJ M22 a25 (l1).toNatClampNeg) = (-9000000000000000000 : Int64) → vp_in l1 (aN M22 a25) ∧ ((¬ (aJ M22 a25 (l1).toNatClampNeg) = (9000000000000000000 : Int64) → vp_in l1 (aN M22 a25) ∧ (wp_X11_sayNumber M22 h0 (aJ M22 a25 (l1).toNatClampNeg) (fun M32 => (bk_X11_print_210 h0 R21 K l1 M32)))) ∧ ((aJ M22 a25 (l1).toNatClampNeg) = (9000000000000000000 : Int64) → (wp_X11_sayAll M22 h0 8 (fun M35 => (bk_X11_print_210 h0 R21 K l1 M35)))))) ∧ ((aJ M22 a25 (l1).toNatClampNeg) = (-9000000000000000000 : Int64) → (wp_X11_sayAll M22 h0 7 (fun M38 => (bk_X11_print_210 h0 R21 K l1 M38)))))))) ∧ (¬ (aI M a17 (((12 : Int32) + l1)).toNatClampNeg) ≤ l2 → (wp_X11_say M h0 (32 : Int32) (fun M41 => mK M41 h0 = 12 ∧ (wp_X11_inputOf M41 h0 l1 l2 (fun r43 M44 => mK M44 h0 = 12 ∧ (wp_X11_sayNumber M44 h0 ((r43).toInt64) (fun M48 => ((lp_X11_print_112 h0 R21 K n) l1 (l2 + 1) M48)))))))))
set_option maxRecDepth 100000 in
set_option maxHeartbeats 4000000 in
theorem zl_X11_print_112 {X : Cx} {h0 : Nat} {R21 : Int32 → Mm → Prop} {K : Int32 → Mm → Prop} (hX : Ok X cX11_print RX11 rm_X11_print) (hQ : Rq X rm_X11_print (some .int) (QI K)) (hnL : X.2.2.2.2.2.2.2.2.2.2.2.2.2.2 = 3) (hR21 : ∀ l1 M, R21 l1 M → Z X M 0 0 21 [(0, va_rf (some h0)), (1, .int l1)] []) : ∀ (n : Nat) (l1 : Int32) (l2 : Int32) (M : Mm), lp_X11_print_112 h0 R21 K n l1 l2 M → Z X M 0 0 112 [(0, va_rf (some h0)), (1, .int l1), (2, .int l2)] [] := by
  intro n
  induction n with
  | zero =>
    intro l1 l2 M h
    exact False.elim h
  | succ n hR112 =>
    intro l1 l2 M h
    refine z_iload_n hX dX11_print_112 rfl 2 rfl ?_
    refine z_aload_n (r := (some h0)) hX dX11_print_113 rfl 0 rfl ?_
    obtain ⟨hk16, h⟩ := h
    refine gf_RX11_45 (r := (some h0)) hX dX11_print_114 rfl hk16 ?_
    refine z_bipush (v := (12 : Int32)) hX dX11_print_117 (by decide) ?_
    refine z_iload_n hX dX11_print_119 rfl 1 rfl ?_
    refine z_iadd hX dX11_print_120 ?_
    obtain ⟨a17, ha18, h⟩ := h
    obtain ⟨hk19, h⟩ := h
    obtain ⟨hc20, h⟩ := h
    refine y_iald (r := (mR M 724 h0)) hX dX11_print_121 ha18 hk19 hc20 ?_
    obtain ⟨h1, h2⟩ := h
    refine z_icmp_ge (tgt := 148) hX dX11_print_122 (by decide) (fun hc => ?_) (fun hc => ?_)
    · have h := h1 hc
      refine z_aload_n (r := (some h0)) hX dX11_print_148 rfl 0 rfl ?_
      refine z_bipush (v := (32 : Int32)) hX dX11_print_149 (by decide) ?_
      refine z_callVV (As := [.int (32 : Int32)]) (rest := []) (ci := 11) hX (ct_X11_say h) mw_RX11_415 rfl (by decide) rfl (by rfl) (by unfold RoomC; decide) (by decide) dX11_print_151 hk16 (fun M22 h => ?_)
      refine z_aload_n (r := (some h0)) hX dX11_print_154 rfl 0 rfl ?_
      obtain ⟨hk24, h⟩ := h
      refine gf_RX11_63 (r := (some h0)) hX dX11_print_155 rfl hk24 ?_
      refine z_iload_n hX dX11_print_158 rfl 1 rfl ?_
      obtain ⟨a25, ha26, h⟩ := h
      obtain ⟨hk27, h⟩ := h
      obtain ⟨hc28, h⟩ := h
      refine y_lald (r := (mR M22 733 h0)) hX dX11_print_159 ha26 hk27 hc28 ?_
      refine z_ldc2 (v := (-9000000000000000000 : Int64)) hX dX11_print_160 kj_RX11_281 ?_
      refine z_lcmp hX dX11_print_163 ?_
      obtain ⟨h1, h2⟩ := h
      refine z_if_ne (tgt := 177) hX dX11_print_164 (by decide) (fun hc => ?_) (fun hc => ?_)
      · have h := h1 (fun q => hc ((lg_cmp_eq _ _).mpr q))
        refine z_aload_n (r := (some h0)) hX dX11_print_177 rfl 0 rfl ?_
        refine gf_RX11_63 (r := (some h0)) hX dX11_print_178 rfl hk24 ?_
        refine z_iload_n hX dX11_print_181 rfl 1 rfl ?_
        obtain ⟨hc29, h⟩ := h
        refine y_lald (r := (mR M22 733 h0)) hX dX11_print_182 ha26 hk27 hc29 ?_
        refine z_ldc2 (v := (9000000000000000000 : Int64)) hX dX11_print_183 kj_RX11_298 ?_
        refine z_lcmp hX dX11_print_186 ?_
        obtain ⟨h1, h2⟩ := h
        refine z_if_ne (tgt := 200) hX dX11_print_187 (by decide) (fun hc => ?_) (fun hc => ?_)
        · have h := h1 (fun q => hc ((lg_cmp_eq _ _).mpr q))
          refine z_aload_n (r := (some h0)) hX dX11_print_200 rfl 0 rfl ?_
          refine z_aload_n (r := (some h0)) hX dX11_print_201 rfl 0 rfl ?_
          refine gf_RX11_63 (r := (some h0)) hX dX11_print_202 rfl hk24 ?_
          refine z_iload_n hX dX11_print_205 rfl 1 rfl ?_
          obtain ⟨hc30, h⟩ := h
          refine y_lald (r := (mR M22 733 h0)) hX dX11_print_206 ha26 hk27 hc30 ?_
          refine z_callVV (As := [.long (aJ M22 a25 (l1).toNatClampNeg)]) (rest := []) (ci := 11) hX (ct_X11_sayNumber h) mw_RX11_429 rfl (by decide) rfl (by rfl) (by unfold RoomC; decide) (by decide) dX11_print_207 hk24 (fun M32 h => ?_)
          refine z_loc [0, 1] rfl ?_
          exact zb_X11_print_210 hX hQ hnL hR21 h
        · have h := h2 ((lg_cmp_eq _ _).mp hc)
          refine z_aload_n (r := (some h0)) hX dX11_print_190 rfl 0 rfl ?_
          refine z_ldcSW (i := 8) hX (by decide) rfl dX11_print_191 ?_
          refine z_callVVt (i := 8) (rest := []) (ci := 11) hX (ct_X11_sayAll h) mw_RX11_438 rfl (by decide) rfl (by rfl) (by unfold RoomC; decide) (by decide) dX11_print_194 hk24 (fun M35 h => ?_)
          refine z_goto (tgt := 210) hX dX11_print_197 (by decide) ?_
          refine z_loc [0, 1] rfl ?_
          exact zb_X11_print_210 hX hQ hnL hR21 h
      · have h := h2 ((lg_cmp_eq _ _).mp hc)
        refine z_aload_n (r := (some h0)) hX dX11_print_167 rfl 0 rfl ?_
        refine z_ldcSW (i := 7) hX (by decide) rfl dX11_print_168 ?_
        refine z_callVVt (i := 7) (rest := []) (ci := 11) hX (ct_X11_sayAll h) mw_RX11_438 rfl (by decide) rfl (by rfl) (by unfold RoomC; decide) (by decide) dX11_print_171 hk24 (fun M38 h => ?_)
        refine z_goto (tgt := 210) hX dX11_print_174 (by decide) ?_
        refine z_loc [0, 1] rfl ?_
        exact zb_X11_print_210 hX hQ hnL hR21 h
    · have h := h2 hc
      refine z_aload_n (r := (some h0)) hX dX11_print_125 rfl 0 rfl ?_
      refine z_bipush (v := (32 : Int32)) hX dX11_print_126 (by decide) ?_
      refine z_callVV (As := [.int (32 : Int32)]) (rest := []) (ci := 11) hX (ct_X11_say h) mw_RX11_415 rfl (by decide) rfl (by rfl) (by unfold RoomC; decide) (by decide) dX11_print_128 hk16 (fun M41 h => ?_)
      refine z_aload_n (r := (some h0)) hX dX11_print_131 rfl 0 rfl ?_
      refine z_aload_n (r := (some h0)) hX dX11_print_132 rfl 0 rfl ?_
      refine z_iload_n hX dX11_print_133 rfl 1 rfl ?_
      refine z_iload_n hX dX11_print_134 rfl 2 rfl ?_
      obtain ⟨hk45, h⟩ := h
      refine z_callVI (As := [.int l1, .int l2]) (rest := [va_rf (some h0)]) (ci := 11) hX (ct_X11_inputOf h) mw_RX11_318 rfl (by decide) rfl (by rfl) (by unfold RoomC; decide) (by simp only [List.map_cons, List.map_nil, List.sum_cons, List.sum_nil, cat_rf, cat_i, cat_j]; decide) dX11_print_135 hk45 (fun r43 M44 h => ?_)
      refine z_i2l hX dX11_print_138 ?_
      obtain ⟨hk49, h⟩ := h
      refine z_callVV (As := [.long ((r43).toInt64)]) (rest := []) (ci := 11) hX (ct_X11_sayNumber h) mw_RX11_429 rfl (by decide) rfl (by rfl) (by unfold RoomC; decide) (by decide) dX11_print_139 hk49 (fun M48 h => ?_)
      refine z_iinc (v := (l2 + 1)) hX [(2, .int (l2 + 1)), (0, va_rf (some h0)), (1, .int l1)] dX11_print_142 2 rfl rfl (by rw [hnL]; decide) rfl ?_
      refine z_goto (tgt := 112) hX dX11_print_145 (by decide) ?_
      refine z_loc [1, 2, 0] rfl ?_
      exact hR112 _ _ _ h
def lp_X11_print_55 (h0 : Nat) (R21 : Int32 → Mm → Prop) (K : Int32 → Mm → Prop) : Nat → Int32 → Int32 → Mm → Prop
  | 0, _, _, _ => False
  | n + 1, l1, l2, M => ((l2 < 0 → mK M h0 = 12 ∧ (wp_X11_say M h0 (32 : Int32) (fun M52 => mK M52 h0 = 12 ∧ (wp_X11_kindOf M52 h0 l1 (fun r55 M56 => (wp_X11_wordOf M56 r55 (fun r59 M60 => mK M60 h0 = 12 ∧ (wp_X11_sayAll M60 h0 r59 (fun M63 => (∃ kk, lp_X11_print_112 h0 R21 K kk l1 (0 : Int32) M63)))))))))) ∧ (¬ l2 < 0 → mK M h0 = 12 ∧ ∃ a67, (mR M 716 h0) = some a67 ∧ isA M a67 2 ∧ vp_in ((12 : Int32) + l1) (aN M a67) ∧ (wp_X11_say M h0 (((((((aJ M a67 (((12 : Int32) + l1)).toNatClampNeg) >>> ((((5 : Int32) * l2)).toInt64 &&& 63)) &&& (31 : Int64))).toInt32) + (97 : Int32)) - (1 : Int32)) (fun M72 => ((lp_X11_print_55 h0 R21 K n) l1 (l2 + (-1)) M72)))))
set_option maxRecDepth 100000 in
set_option maxHeartbeats 4000000 in
theorem zl_X11_print_55 {X : Cx} {h0 : Nat} {R21 : Int32 → Mm → Prop} {K : Int32 → Mm → Prop} (hX : Ok X cX11_print RX11 rm_X11_print) (hQ : Rq X rm_X11_print (some .int) (QI K)) (hnL : X.2.2.2.2.2.2.2.2.2.2.2.2.2.2 = 3) (hR21 : ∀ l1 M, R21 l1 M → Z X M 0 0 21 [(0, va_rf (some h0)), (1, .int l1)] []) : ∀ (n : Nat) (l1 : Int32) (l2 : Int32) (M : Mm), lp_X11_print_55 h0 R21 K n l1 l2 M → Z X M 0 0 55 [(0, va_rf (some h0)), (1, .int l1), (2, .int l2)] [] := by
  intro n
  induction n with
  | zero =>
    intro l1 l2 M h
    exact False.elim h
  | succ n hR55 =>
    intro l1 l2 M h
    refine z_iload_n hX dX11_print_55 rfl 2 rfl ?_
    obtain ⟨h1, h2⟩ := h
    refine z_if_lt (tgt := 92) hX dX11_print_56 (by decide) (fun hc => ?_) (fun hc => ?_)
    · have h := h1 hc
      refine z_aload_n (r := (some h0)) hX dX11_print_92 rfl 0 rfl ?_
      refine z_bipush (v := (32 : Int32)) hX dX11_print_93 (by decide) ?_
      obtain ⟨hk53, h⟩ := h
      refine z_callVV (As := [.int (32 : Int32)]) (rest := []) (ci := 11) hX (ct_X11_say h) mw_RX11_415 rfl (by decide) rfl (by rfl) (by unfold RoomC; decide) (by decide) dX11_print_95 hk53 (fun M52 h => ?_)
      refine z_aload_n (r := (some h0)) hX dX11_print_98 rfl 0 rfl ?_
      refine z_aload_n (r := (some h0)) hX dX11_print_99 rfl 0 rfl ?_
      refine z_iload_n hX dX11_print_100 rfl 1 rfl ?_
      obtain ⟨hk57, h⟩ := h
      refine z_callVI (As := [.int l1]) (rest := [va_rf (some h0)]) (ci := 11) hX (ct_X11_kindOf h) mw_RX11_308 rfl (by decide) rfl (by rfl) (by unfold RoomC; decide) (by simp only [List.map_cons, List.map_nil, List.sum_cons, List.sum_nil, cat_rf, cat_i, cat_j]; decide) dX11_print_101 hk57 (fun r55 M56 h => ?_)
      refine z_callSS (As := [.int r55]) (rest := [va_rf (some h0)]) hX (ct_X11_wordOf h) mw_RX11_434 rfl (by rfl) (by unfold RoomC; decide) (by simp only [List.map_cons, List.map_nil, List.sum_cons, List.sum_nil, cat_rf, cat_i, cat_j]; decide) dX11_print_104 (fun r59 M60 _ h => ?_)
      obtain ⟨hk64, h⟩ := h
      refine z_callVVt (i := r59) (rest := []) (ci := 11) hX (ct_X11_sayAll h) mw_RX11_438 rfl (by decide) rfl (by rfl) (by unfold RoomC; decide) (by decide) dX11_print_107 hk64 (fun M63 h => ?_)
      refine z_iconst (v := (0 : Int32)) hX dX11_print_110 (by decide) ?_
      refine z_istore_n hX [(2, .int (0 : Int32)), (0, va_rf (some h0)), (1, .int l1)] dX11_print_111 rfl (by rw [hnL]; decide) rfl ?_
      refine z_loc [1, 2, 0] rfl ?_
      obtain ⟨n, h⟩ := h
      exact zl_X11_print_112 hX hQ hnL hR21 n _ _ _ h
    · have h := h2 hc
      refine z_aload_n (r := (some h0)) hX dX11_print_59 rfl 0 rfl ?_
      refine z_aload_n (r := (some h0)) hX dX11_print_60 rfl 0 rfl ?_
      obtain ⟨hk66, h⟩ := h
      refine gf_RX11_19 (r := (some h0)) hX dX11_print_61 rfl hk66 ?_
      refine z_bipush (v := (12 : Int32)) hX dX11_print_64 (by decide) ?_
      refine z_iload_n hX dX11_print_66 rfl 1 rfl ?_
      refine z_iadd hX dX11_print_67 ?_
      obtain ⟨a67, ha68, h⟩ := h
      obtain ⟨hk69, h⟩ := h
      obtain ⟨hc70, h⟩ := h
      refine y_lald (r := (mR M 716 h0)) hX dX11_print_68 ha68 hk69 hc70 ?_
      refine z_iconst (v := (5 : Int32)) hX dX11_print_69 (by decide) ?_
      refine z_iload_n hX dX11_print_70 rfl 2 rfl ?_
      refine z_imul hX dX11_print_71 ?_
      refine z_lshr hX dX11_print_72 ?_
      refine z_ldc2 (v := (31 : Int64)) hX dX11_print_73 kj_RX11_432 ?_
      refine z_land hX dX11_print_76 ?_
      refine z_l2i hX dX11_print_77 ?_
      refine z_bipush (v := (97 : Int32)) hX dX11_print_78 (by decide) ?_
      refine z_iadd hX dX11_print_80 ?_
      refine z_iconst (v := (1 : Int32)) hX dX11_print_81 (by decide) ?_
      refine z_isub hX dX11_print_82 ?_
      refine z_callVV (As := [.int (((((((aJ M a67 (((12 : Int32) + l1)).toNatClampNeg) >>> ((((5 : Int32) * l2)).toInt64 &&& 63)) &&& (31 : Int64))).toInt32) + (97 : Int32)) - (1 : Int32))]) (rest := []) (ci := 11) hX (ct_X11_say h) mw_RX11_415 rfl (by decide) rfl (by rfl) (by unfold RoomC; decide) (by decide) dX11_print_83 hk66 (fun M72 h => ?_)
      refine z_iinc (v := (l2 + (-1))) hX [(2, .int (l2 + (-1))), (0, va_rf (some h0)), (1, .int l1)] dX11_print_86 2 rfl rfl (by rw [hnL]; decide) rfl ?_
      refine z_goto (tgt := 55) hX dX11_print_89 (by decide) ?_
      refine z_loc [1, 2, 0] rfl ?_
      exact hR55 _ _ _ h
def lp_X11_print_21 (h0 : Nat) (K : Int32 → Mm → Prop) : Nat → Int32 → Mm → Prop
  | 0, _, _ => False
  | n + 1, l1, M => mK M h0 = 12 ∧ ∃ a75, (mR M 729 h0) = some a75 ∧ isA M a75 1 ∧ vp_in (1 : Int32) (aN M a75) ∧ (((aI M a75 ((1 : Int32)).toNatClampNeg) ≤ l1 → (K (mI M 760 h0) M)) ∧ (¬ (aI M a75 ((1 : Int32)).toNatClampNeg) ≤ l1 → (wp_X11_sayNumber M h0 ((l1).toInt64) (fun M80 => mK M80 h0 = 12 ∧ (wp_X11_say M80 h0 (32 : Int32) (fun M83 => mK M83 h0 = 12 ∧ ∃ a87, (mR M83 717 h0) = some a87 ∧ isA M83 a87 1 ∧ vp_in ((12 : Int32) + l1) (aN M83 a87) ∧ (∃ kk, lp_X11_print_55 h0 (lp_X11_print_21 h0 K n) K kk l1 ((aI M83 a87 (((12 : Int32) + l1)).toNatClampNeg) - (1 : Int32)) M83)))))))
set_option maxRecDepth 100000 in
set_option maxHeartbeats 4000000 in
theorem zl_X11_print_21 {X : Cx} {h0 : Nat} {K : Int32 → Mm → Prop} (hX : Ok X cX11_print RX11 rm_X11_print) (hQ : Rq X rm_X11_print (some .int) (QI K)) (hnL : X.2.2.2.2.2.2.2.2.2.2.2.2.2.2 = 3) : ∀ (n : Nat) (l1 : Int32) (M : Mm), lp_X11_print_21 h0 K n l1 M → Z X M 0 0 21 [(0, va_rf (some h0)), (1, .int l1)] [] := by
  intro n
  induction n with
  | zero =>
    intro l1 M h
    exact False.elim h
  | succ n hR21 =>
    intro l1 M h
    refine z_iload_n hX dX11_print_21 rfl 1 rfl ?_
    refine z_aload_n (r := (some h0)) hX dX11_print_22 rfl 0 rfl ?_
    obtain ⟨hk74, h⟩ := h
    refine gf_RX11_60 (r := (some h0)) hX dX11_print_23 rfl hk74 ?_
    refine z_iconst (v := (1 : Int32)) hX dX11_print_26 (by decide) ?_
    obtain ⟨a75, ha76, h⟩ := h
    obtain ⟨hk77, h⟩ := h
    obtain ⟨hc78, h⟩ := h
    refine y_iald (r := (mR M 729 h0)) hX dX11_print_27 ha76 hk77 hc78 ?_
    obtain ⟨h1, h2⟩ := h
    refine z_icmp_ge (tgt := 244) hX dX11_print_28 (by decide) (fun hc => ?_) (fun hc => ?_)
    · have h := h1 hc
      refine z_aload_n (r := (some h0)) hX dX11_print_244 rfl 0 rfl ?_
      refine gf_RX11_412 (r := (some h0)) hX dX11_print_245 rfl hk74 ?_
      exact z_iret hX hQ dX11_print_248 h
    · have h := h2 hc
      refine z_aload_n (r := (some h0)) hX dX11_print_31 rfl 0 rfl ?_
      refine z_iload_n hX dX11_print_32 rfl 1 rfl ?_
      refine z_i2l hX dX11_print_33 ?_
      refine z_callVV (As := [.long ((l1).toInt64)]) (rest := []) (ci := 11) hX (ct_X11_sayNumber h) mw_RX11_429 rfl (by decide) rfl (by rfl) (by unfold RoomC; decide) (by decide) dX11_print_34 hk74 (fun M80 h => ?_)
      refine z_aload_n (r := (some h0)) hX dX11_print_37 rfl 0 rfl ?_
      refine z_bipush (v := (32 : Int32)) hX dX11_print_38 (by decide) ?_
      obtain ⟨hk84, h⟩ := h
      refine z_callVV (As := [.int (32 : Int32)]) (rest := []) (ci := 11) hX (ct_X11_say h) mw_RX11_415 rfl (by decide) rfl (by rfl) (by unfold RoomC; decide) (by decide) dX11_print_40 hk84 (fun M83 h => ?_)
      refine z_aload_n (r := (some h0)) hX dX11_print_43 rfl 0 rfl ?_
      obtain ⟨hk86, h⟩ := h
      refine gf_RX11_23 (r := (some h0)) hX dX11_print_44 rfl hk86 ?_
      refine z_bipush (v := (12 : Int32)) hX dX11_print_47 (by decide) ?_
      refine z_iload_n hX dX11_print_49 rfl 1 rfl ?_
      refine z_iadd hX dX11_print_50 ?_
      obtain ⟨a87, ha88, h⟩ := h
      obtain ⟨hk89, h⟩ := h
      obtain ⟨hc90, h⟩ := h
      refine y_iald (r := (mR M83 717 h0)) hX dX11_print_51 ha88 hk89 hc90 ?_
      refine z_iconst (v := (1 : Int32)) hX dX11_print_52 (by decide) ?_
      refine z_isub hX dX11_print_53 ?_
      refine z_istore_n hX [(2, .int ((aI M83 a87 (((12 : Int32) + l1)).toNatClampNeg) - (1 : Int32))), (0, va_rf (some h0)), (1, .int l1)] dX11_print_54 rfl (by rw [hnL]; decide) rfl ?_
      refine z_loc [1, 2, 0] rfl ?_
      obtain ⟨n, h⟩ := h
      exact zl_X11_print_55 hX hQ hnL hR21 n _ _ _ h
def wp_X11_print (M : Mm) (h0 : Nat) (K : Int32 → Mm → Prop) : Prop := mK M h0 = 12 ∧ ((¬ (mI (sI M 704 h0 (0 : Int32)) 732 h0) = 0 → (∃ kk, lp_X11_print_21 h0 K kk (0 : Int32) (sI (sI M 704 h0 (0 : Int32)) 760 h0 (0 : Int32)))) ∧ ((mI (sI M 704 h0 (0 : Int32)) 732 h0) = 0 → (K (-1 : Int32) (sI M 704 h0 (0 : Int32)))))
set_option maxRecDepth 100000 in
set_option maxHeartbeats 4000000 in
theorem ct_X11_print {M : Mm} {h0 : Nat} {K : Int32 → Mm → Prop} (h : wp_X11_print M h0 K) : CtI yX11_print cX11_print 3 (some .int) rm_X11_print [.ref h0] M K := by
  refine ct_any (QI K) (by decide) (by exact Nat.le_of_ble_eq_true rfl) (fun X hX hQ hnL hnm => ?_)
  rw [show lv_args 0 [.ref h0] = [(0, va_rf (some h0))] by rfl]
  have hX : Ok X cX11_print RX11 rm_X11_print := hX
  unfold wp_X11_print at h
  refine z_aload_n (r := (some h0)) hX dX11_print_0 rfl 0 rfl ?_
  refine z_iconst (v := (0 : Int32)) hX dX11_print_1 (by decide) ?_
  obtain ⟨hk91, h⟩ := h
  refine pf_RX11_123 (r := (some h0)) (v := (0 : Int32)) hX dX11_print_2 rfl hk91 ?_
  refine z_aload_n (r := (some h0)) hX dX11_print_5 rfl 0 rfl ?_
  refine gf_RX11_277 (r := (some h0)) hX dX11_print_6 rfl hk91 ?_
  obtain ⟨h1, h2⟩ := h
  refine z_if_ne (tgt := 14) hX dX11_print_9 (by decide) (fun hc => ?_) (fun hc => ?_)
  · have h := h1 hc
    refine z_aload_n (r := (some h0)) hX dX11_print_14 rfl 0 rfl ?_
    refine z_iconst (v := (0 : Int32)) hX dX11_print_15 (by decide) ?_
    refine pf_RX11_412 (r := (some h0)) (v := (0 : Int32)) hX dX11_print_16 rfl hk91 ?_
    refine z_iconst (v := (0 : Int32)) hX dX11_print_19 (by decide) ?_
    refine z_istore_n hX [(1, .int (0 : Int32)), (0, va_rf (some h0))] dX11_print_20 rfl (by rw [hnL]; decide) rfl ?_
    refine z_loc [1, 0] rfl ?_
    obtain ⟨n, h⟩ := h
    exact zl_X11_print_21 hX hQ hnL n _ _ h
  · have h := h2 hc
    refine z_iconst (v := (-1 : Int32)) hX dX11_print_12 (by decide) ?_
    exact z_iret hX hQ dX11_print_13 h
def rm_X11_letter : Room := { frames := 0, cells := 0, slots := 0, locals := 0 }
def bk_X11_letter_27 (h0 : Nat) (K : Int32 → Mm → Prop) (s0 : Int32) (M : Mm) : Prop := (K s0 M)
set_option maxRecDepth 100000 in
set_option maxHeartbeats 4000000 in
theorem zb_X11_letter_27 {X : Cx} {h0 : Nat} {K : Int32 → Mm → Prop} (hX : Ok X cX11_letter RX11 rm_X11_letter) (hQ : Rq X rm_X11_letter (some .int) (QI K)) (hnL : X.2.2.2.2.2.2.2.2.2.2.2.2.2.2 = 2) {s0 : Int32} {M : Mm} (h : bk_X11_letter_27 h0 K s0 M) : Z X M 0 0 27 [] [.int s0] := by
  unfold bk_X11_letter_27 at h
  exact z_iret hX hQ dX11_letter_27 h
def bk_X11_letter_17 (h0 : Nat) (K : Int32 → Mm → Prop) (M : Mm) : Prop := (bk_X11_letter_27 h0 K (-1 : Int32) M)
set_option maxRecDepth 100000 in
set_option maxHeartbeats 4000000 in
theorem zb_X11_letter_17 {X : Cx} {h0 : Nat} {K : Int32 → Mm → Prop} (hX : Ok X cX11_letter RX11 rm_X11_letter) (hQ : Rq X rm_X11_letter (some .int) (QI K)) (hnL : X.2.2.2.2.2.2.2.2.2.2.2.2.2.2 = 2) {M : Mm} (h : bk_X11_letter_17 h0 K M) : Z X M 0 0 17 [] [] := by
  unfold bk_X11_letter_17 at h
  refine z_iconst (v := (-1 : Int32)) hX dX11_letter_17 (by decide) ?_
  refine z_goto (tgt := 27) hX dX11_letter_18 (by decide) ?_
  exact zb_X11_letter_27 hX hQ hnL h
def wp_X11_letter (M : Mm) (h0 : Nat) (p1 : Int32) (K : Int32 → Mm → Prop) : Prop := mK M h0 = 12 ∧ ((p1 < 0 → (bk_X11_letter_17 h0 K (sI M 704 h0 (0 : Int32)))) ∧ (¬ p1 < 0 → ((p1 < (mI (sI M 704 h0 (0 : Int32)) 760 h0) → ∃ a3, (mR (sI M 704 h0 (0 : Int32)) 759 h0) = some a3 ∧ isA (sI M 704 h0 (0 : Int32)) a3 0 ∧ vp_in p1 (aN (sI M 704 h0 (0 : Int32)) a3) ∧ (bk_X11_letter_27 h0 K (aI (sI M 704 h0 (0 : Int32)) a3 (p1).toNatClampNeg) (sI M 704 h0 (0 : Int32)))) ∧ (¬ p1 < (mI (sI M 704 h0 (0 : Int32)) 760 h0) → (bk_X11_letter_17 h0 K (sI M 704 h0 (0 : Int32)))))))
set_option maxRecDepth 100000 in
set_option maxHeartbeats 4000000 in
theorem ct_X11_letter {M : Mm} {h0 : Nat} {p1 : Int32} {K : Int32 → Mm → Prop} (h : wp_X11_letter M h0 p1 K) : CtI yX11_letter cX11_letter 2 (some .int) rm_X11_letter [.ref h0, .int p1] M K := by
  refine ct_any (QI K) (by decide) (by exact Nat.le_of_ble_eq_true rfl) (fun X hX hQ hnL hnm => ?_)
  rw [show lv_args 0 [.ref h0, .int p1] = [(0, va_rf (some h0)), (1, .int p1)] by rfl]
  have hX : Ok X cX11_letter RX11 rm_X11_letter := hX
  unfold wp_X11_letter at h
  refine z_aload_n (r := (some h0)) hX dX11_letter_0 rfl 0 rfl ?_
  refine z_iconst (v := (0 : Int32)) hX dX11_letter_1 (by decide) ?_
  obtain ⟨hk1, h⟩ := h
  refine pf_RX11_123 (r := (some h0)) (v := (0 : Int32)) hX dX11_letter_2 rfl hk1 ?_
  refine z_iload_n hX dX11_letter_5 rfl 1 rfl ?_
  obtain ⟨h1, h2⟩ := h
  refine z_if_lt (tgt := 17) hX dX11_letter_6 (by decide) (fun hc => ?_) (fun hc => ?_)
  · have h := h1 hc
    refine z_loc [] rfl ?_
    exact zb_X11_letter_17 hX hQ hnL h
  · have h := h2 hc
    refine z_iload_n hX dX11_letter_9 rfl 1 rfl ?_
    refine z_aload_n (r := (some h0)) hX dX11_letter_10 rfl 0 rfl ?_
    refine gf_RX11_412 (r := (some h0)) hX dX11_letter_11 rfl hk1 ?_
    obtain ⟨h1, h2⟩ := h
    refine z_icmp_lt (tgt := 21) hX dX11_letter_14 (by decide) (fun hc => ?_) (fun hc => ?_)
    · have h := h1 hc
      refine z_aload_n (r := (some h0)) hX dX11_letter_21 rfl 0 rfl ?_
      refine gf_RX11_120 (r := (some h0)) hX dX11_letter_22 rfl hk1 ?_
      refine z_iload_n hX dX11_letter_25 rfl 1 rfl ?_
      obtain ⟨a3, ha4, h⟩ := h
      obtain ⟨hk5, h⟩ := h
      obtain ⟨hc6, h⟩ := h
      refine y_bald (r := (mR (sI M 704 h0 (0 : Int32)) 759 h0)) hX dX11_letter_26 ha4 hk5 hc6 ?_
      refine z_loc [] rfl ?_
      exact zb_X11_letter_27 hX hQ hnL h
    · have h := h2 hc
      refine z_loc [] rfl ?_
      exact zb_X11_letter_17 hX hQ hnL h
def rm_J9_floorDiv_f86c9 : Room := { frames := 0, cells := 0, slots := 0, locals := 0 }
def bk_J9_floorDiv_f86c9_27 (K : Int64 → Mm → Prop) (l4 : Int64) (M : Mm) : Prop := (K l4 M)
set_option maxRecDepth 100000 in
set_option maxHeartbeats 4000000 in
theorem zb_J9_floorDiv_f86c9_27 {X : Cx} {K : Int64 → Mm → Prop} (hX : Ok X cJ9_floorDiv_f86c9 RJ9 rm_J9_floorDiv_f86c9) (hQ : Rq X rm_J9_floorDiv_f86c9 (some .long) (QJ K)) (hnL : X.2.2.2.2.2.2.2.2.2.2.2.2.2.2 = 6) {l4 : Int64} {M : Mm} (h : bk_J9_floorDiv_f86c9_27 K l4 M) : Z X M 0 0 27 [(4, .long l4)] [] := by
  unfold bk_J9_floorDiv_f86c9_27 at h
  refine z_lload hX dJ9_floorDiv_f86c9_27 0 rfl ?_
  exact z_lret hX hQ dJ9_floorDiv_f86c9_29 h
def wp_J9_floorDiv_f86c9 (M : Mm) (p1 : Int64) (p2 : Int64) (K : Int64 → Mm → Prop) : Prop := ¬ p2 = 0 ∧ (((0 : Int64) ≤ (p1 ^^^ p2) → (bk_J9_floorDiv_f86c9_27 K (p1 / p2) M)) ∧ (¬ (0 : Int64) ≤ (p1 ^^^ p2) → ((((p1 / p2) * p2) = p1 → (bk_J9_floorDiv_f86c9_27 K (p1 / p2) M)) ∧ (¬ ((p1 / p2) * p2) = p1 → (K ((p1 / p2) - (1 : Int64)) M)))))
set_option maxRecDepth 100000 in
set_option maxHeartbeats 4000000 in
theorem ct_J9_floorDiv_f86c9 {M : Mm} {p1 : Int64} {p2 : Int64} {K : Int64 → Mm → Prop} (h : wp_J9_floorDiv_f86c9 M p1 p2 K) : CtJ yJ9_floorDiv_f86c9 cJ9_floorDiv_f86c9 6 (some .long) rm_J9_floorDiv_f86c9 [.long p1, .long p2] M K := by
  refine ct_anyF (QJ K) (by decide +kernel) (by exact Nat.le_of_ble_eq_true rfl) (fun X hX hQ hnL hnm => ?_)
  rw [show lv_args 0 [.long p1, .long p2] = [(0, .long p1), (2, .long p2)] by rfl]
  have hX : Ok X cJ9_floorDiv_f86c9 RJ9 rm_J9_floorDiv_f86c9 := hX
  unfold wp_J9_floorDiv_f86c9 at h
  refine z_lload_n hX dJ9_floorDiv_f86c9_0 rfl 0 rfl ?_
  refine z_lload_n hX dJ9_floorDiv_f86c9_1 rfl 1 rfl ?_
  obtain ⟨hc1, h⟩ := h
  refine z_ldiv hX dJ9_floorDiv_f86c9_2 hc1 ?_
  refine z_lstore hX [(4, .long (p1 / p2)), (0, .long p1), (2, .long p2)] dJ9_floorDiv_f86c9_3 (by rw [hnL]; decide) rfl ?_
  refine z_lload_n hX dJ9_floorDiv_f86c9_5 rfl 1 rfl ?_
  refine z_lload_n hX dJ9_floorDiv_f86c9_6 rfl 2 rfl ?_
  refine z_lxor hX dJ9_floorDiv_f86c9_7 ?_
  refine z_lconst (v := (0 : Int64)) hX dJ9_floorDiv_f86c9_8 (by decide) ?_
  refine z_lcmp hX dJ9_floorDiv_f86c9_9 ?_
  obtain ⟨h1, h2⟩ := h
  refine z_if_ge (tgt := 27) hX dJ9_floorDiv_f86c9_10 (by decide) (fun hc => ?_) (fun hc => ?_)
  · have h := h1 ((lg_cmp_ge _ _).mp hc)
    refine z_loc [0] rfl ?_
    exact zb_J9_floorDiv_f86c9_27 hX hQ hnL h
  · have h := h2 (fun q => hc ((lg_cmp_ge _ _).mpr q))
    refine z_lload hX dJ9_floorDiv_f86c9_13 0 rfl ?_
    refine z_lload_n hX dJ9_floorDiv_f86c9_15 rfl 2 rfl ?_
    refine z_lmul hX dJ9_floorDiv_f86c9_16 ?_
    refine z_lload_n hX dJ9_floorDiv_f86c9_17 rfl 1 rfl ?_
    refine z_lcmp hX dJ9_floorDiv_f86c9_18 ?_
    obtain ⟨h1, h2⟩ := h
    refine z_if_eq (tgt := 27) hX dJ9_floorDiv_f86c9_19 (by decide) (fun hc => ?_) (fun hc => ?_)
    · have h := h1 ((lg_cmp_eq _ _).mp hc)
      refine z_loc [0] rfl ?_
      exact zb_J9_floorDiv_f86c9_27 hX hQ hnL h
    · have h := h2 (fun q => hc ((lg_cmp_eq _ _).mpr q))
      refine z_lload hX dJ9_floorDiv_f86c9_22 0 rfl ?_
      refine z_lconst (v := (1 : Int64)) hX dJ9_floorDiv_f86c9_24 (by decide) ?_
      refine z_lsub hX dJ9_floorDiv_f86c9_25 ?_
      exact z_lret hX hQ dJ9_floorDiv_f86c9_26 h
def rm_X1_init : Room := { frames := 2, cells := 6, slots := 200, locals := 40 }
def lp_X1_init_32 (h0 : Nat) (K : Mm → Prop) : Nat → Int32 → Mm → Prop
  | 0, _, _ => False
  | n + 1, l3, M => (((4 : Int32) ≤ l3 → (∀ q1, mK M q1 = 0 → (wp_X8_init (nw M q1 9) q1 (fun M5 => mK M5 h0 = 2 ∧ (K (sR M5 68 h0 (some q1))))))) ∧ (¬ (4 : Int32) ≤ l3 → mK M h0 = 2 ∧ ∃ a10, (mR M 67 h0) = some a10 ∧ isA M a10 2 ∧ vp_in l3 (aN M a10) ∧ ((lp_X1_init_32 h0 K n) (l3 + 1) (tJ M a10 (l3).toNatClampNeg (-1 : Int64)))))
set_option maxRecDepth 100000 in
set_option maxHeartbeats 4000000 in
theorem zl_X1_init_32 {X : Cx} {h0 : Nat} {K : Mm → Prop} (hX : Ok X cX1_init RX1 rm_X1_init) (hQ : Rq X rm_X1_init none (QV K)) (hnL : X.2.2.2.2.2.2.2.2.2.2.2.2.2.2 = 4) (hnm : X.2.2.2.2.2.2.2.2.1.name = "<init>") : ∀ (n : Nat) (l3 : Int32) (M : Mm), lp_X1_init_32 h0 K n l3 M → Z X M 2 16 32 [(0, va_rf (some h0)), (3, .int l3)] [] := by
  intro n
  induction n with
  | zero =>
    intro l3 M h
    exact False.elim h
  | succ n hR32 =>
    intro l3 M h
    refine z_iload_n hX dX1_init_32 rfl 1 rfl ?_
    refine z_iconst (v := (4 : Int32)) hX dX1_init_33 (by decide) ?_
    obtain ⟨h1, h2⟩ := h
    refine z_icmp_ge (tgt := 52) hX dX1_init_34 (by decide) (fun hc => ?_) (fun hc => ?_)
    · have h := h1 hc
      refine z_aload_n (r := (some h0)) hX dX1_init_52 rfl 0 rfl ?_
      refine nq_RX1_30 hX dX1_init_53 (by decide) (by decide) (fun q1 hq2 => ?_)
      have h := h q1 hq2
      refine z_dup hX dX1_init_56 (cat_rf _) ?_
      refine z_callIV (As := []) (rest := [va_rf (some q1), va_rf (some h0)]) hX (ct_X8_init h) mw_RX1_32 rfl (by rfl) (by unfold RoomC; decide) (by simp only [List.map_cons, List.map_nil, List.sum_cons, List.sum_nil, cat_rf, cat_i, cat_j]; decide) dX1_init_57 (fun M5 h => ?_)
      obtain ⟨hk7, h⟩ := h
      refine pf_RX1_33 (r := (some h0)) (v := (some q1)) hX hnm dX1_init_60 rfl hk7 ?_
      refine z_widen 6 200 (by decide) (by decide) ?_
      exact z_vret hX hQ dX1_init_63 h
    · have h := h2 hc
      refine z_aload_n (r := (some h0)) hX dX1_init_37 rfl 0 rfl ?_
      obtain ⟨hk9, h⟩ := h
      refine gf_RX1_24 (r := (some h0)) hX dX1_init_38 rfl hk9 ?_
      refine z_iload_n hX dX1_init_41 rfl 1 rfl ?_
      refine z_ldc2 (v := (-1 : Int64)) hX dX1_init_42 kj_RX1_28 ?_
      obtain ⟨a10, ha11, h⟩ := h
      obtain ⟨hk12, h⟩ := h
      obtain ⟨hc13, h⟩ := h
      refine y_last (r := (mR M 67 h0)) hX dX1_init_45 ha11 hk12 hc13 ?_
      refine z_iinc (v := (l3 + 1)) hX [(3, .int (l3 + 1)), (0, va_rf (some h0))] dX1_init_46 1 rfl rfl (by rw [hnL]; decide) rfl ?_
      refine z_goto (tgt := 32) hX dX1_init_49 (by decide) ?_
      refine z_loc [1, 0] rfl ?_
      refine z_widen 2 16 (by decide) (by decide) ?_
      exact hR32 _ _ h
def wp_X1_init (M : Mm) (h0 : Nat) (p1 : Option Nat) (p2 : Option Nat) (K : Mm → Prop) : Prop := mK M h0 = 2 ∧ (∀ q17, mK (sR (sR M 64 h0 p1) 65 h0 p2) q17 = 0 → mK (na (sR (sR M 64 h0 p1) 65 h0 p2) q17 412 12) h0 = 2 ∧ (∀ q22, mK (sR (na (sR (sR M 64 h0 p1) 65 h0 p2) q17 412 12) 66 h0 (some q17)) q22 = 0 → mK (na (sR (na (sR (sR M 64 h0 p1) 65 h0 p2) q17 412 12) 66 h0 (some q17)) q22 418 4) h0 = 2 ∧ (∃ kk, lp_X1_init_32 h0 K kk (0 : Int32) (sR (na (sR (na (sR (sR M 64 h0 p1) 65 h0 p2) q17 412 12) 66 h0 (some q17)) q22 418 4) 67 h0 (some q22)))))
set_option maxRecDepth 100000 in
set_option maxHeartbeats 4000000 in
theorem ct_X1_init {M : Mm} {h0 : Nat} {p1 : Option Nat} {p2 : Option Nat} {K : Mm → Prop} (h : wp_X1_init M h0 p1 p2 K) : CtV yX1_init cX1_init 4 none rm_X1_init [.ref h0, va_rf p1, va_rf p2] M K := by
  refine ct_any (QV K) (by decide) (by cases p1 <;> cases p2 <;> exact Nat.le_of_ble_eq_true rfl) (fun X hX hQ hnL hnm => ?_)
  rw [show lv_args 0 [.ref h0, va_rf p1, va_rf p2] = [(0, va_rf (some h0)), (1, va_rf p1), (2, va_rf p2)] by cases p1 <;> cases p2 <;> rfl]
  have hX : Ok X cX1_init RX1 rm_X1_init := hX
  unfold wp_X1_init at h
  refine z_aload_n (r := (some h0)) hX dX1_init_0 rfl 0 rfl ?_
  refine mw_RX1_3 (a := h0) hX dX1_init_1 (by decide) (by decide) ?_
  refine z_aload_n (r := (some h0)) hX dX1_init_4 rfl 0 rfl ?_
  refine z_aload_n (r := p1) hX dX1_init_5 rfl 1 rfl ?_
  obtain ⟨hk14, h⟩ := h
  refine pf_RX1_9 (r := (some h0)) (v := p1) hX hnm dX1_init_6 rfl hk14 ?_
  refine z_aload_n (r := (some h0)) hX dX1_init_9 rfl 0 rfl ?_
  refine z_aload_n (r := p2) hX dX1_init_10 rfl 2 rfl ?_
  refine pf_RX1_15 (r := (some h0)) (v := p2) hX hnm dX1_init_11 rfl hk14 ?_
  refine z_aload_n (r := (some h0)) hX dX1_init_14 rfl 0 rfl ?_
  refine z_bipush (v := (12 : Int32)) hX dX1_init_15 (by decide) ?_
  refine z_newq (n := 12) (kd := 412) hX (wjU_mem (by decide +kernel) rfl) (by decide) (by decide) (by decide) (by decide) (by decide) dX1_init_17 (by decide) (by decide) (fun q17 hq18 => ?_)
  have h := h q17 hq18
  obtain ⟨hk20, h⟩ := h
  refine pf_RX1_20 (r := (some h0)) (v := (some q17)) hX hnm dX1_init_20 rfl hk20 ?_
  refine z_aload_n (r := (some h0)) hX dX1_init_23 rfl 0 rfl ?_
  refine z_iconst (v := (4 : Int32)) hX dX1_init_24 (by decide) ?_
  refine y_newa_long (n := 4) hX 418 (by decide) (by decide) (by decide) (by decide) (by decide) dX1_init_25 (by decide) (by decide) (fun q22 hq23 => ?_)
  have h := h q22 hq23
  obtain ⟨hk25, h⟩ := h
  refine pf_RX1_24 (r := (some h0)) (v := (some q22)) hX hnm dX1_init_27 rfl hk25 ?_
  refine z_iconst (v := (0 : Int32)) hX dX1_init_30 (by decide) ?_
  refine z_istore_n (i := 3) hX [(3, .int (0 : Int32)), (0, va_rf (some h0)), (1, va_rf p1), (2, va_rf p2)] dX1_init_31 rfl (by rw [hnL]; decide) (by simp [cat_rf]) ?_
  refine z_loc [1, 0] rfl ?_
  refine z_widen 2 16 (by decide) (by decide) ?_
  obtain ⟨n, h⟩ := h
  exact zl_X1_init_32 hX hQ hnL hnm n _ _ h
def rm_X1_isStopped : Room := { frames := 2, cells := 0, slots := 0, locals := 46 }
def bk_X1_isStopped_20 (h0 : Nat) (K : Int32 → Mm → Prop) (M : Mm) : Prop := (K (0 : Int32) M)
set_option maxRecDepth 100000 in
set_option maxHeartbeats 4000000 in
theorem zb_X1_isStopped_20 {X : Cx} {h0 : Nat} {K : Int32 → Mm → Prop} (hX : Ok X cX1_isStopped RX1 rm_X1_isStopped) (hQ : Rq X rm_X1_isStopped (some .boolean) (QI K)) (hnL : X.2.2.2.2.2.2.2.2.2.2.2.2.2.2 = 7) {M : Mm} (h : bk_X1_isStopped_20 h0 K M) : Z X M 0 0 20 [] [] := by
  unfold bk_X1_isStopped_20 at h
  refine z_iconst (v := (0 : Int32)) hX dX1_isStopped_20 (by decide) ?_
  exact y_zret hX hQ dX1_isStopped_21 (Or.inl rfl) h
def bk_X1_isStopped_111 (h0 : Nat) (K : Int32 → Mm → Prop) (s0 : Int32) (M : Mm) : Prop := (bz s0 ∧ K s0 M)
set_option maxRecDepth 100000 in
set_option maxHeartbeats 4000000 in
theorem zb_X1_isStopped_111 {X : Cx} {h0 : Nat} {K : Int32 → Mm → Prop} (hX : Ok X cX1_isStopped RX1 rm_X1_isStopped) (hQ : Rq X rm_X1_isStopped (some .boolean) (QI K)) (hnL : X.2.2.2.2.2.2.2.2.2.2.2.2.2.2 = 7) {s0 : Int32} {M : Mm} (h : bk_X1_isStopped_111 h0 K s0 M) : Z X M 0 0 111 [] [.int s0] := by
  unfold bk_X1_isStopped_111 at h
  exact y_zret hX hQ dX1_isStopped_111 h.1 h.2
def bk_X1_isStopped_77 (h0 : Nat) (R29 : Option Nat → Int32 → Int64 → Int32 → Mm → Prop) (K : Int32 → Mm → Prop) (l1 : Option Nat) (l2 : Int32) (l3 : Int64) (l5 : Int32) (M : Mm) : Prop := (R29 l1 l2 l3 (l5 + 1) M)
set_option maxRecDepth 100000 in
set_option maxHeartbeats 4000000 in
theorem zb_X1_isStopped_77 {X : Cx} {h0 : Nat} {R29 : Option Nat → Int32 → Int64 → Int32 → Mm → Prop} {K : Int32 → Mm → Prop} (hX : Ok X cX1_isStopped RX1 rm_X1_isStopped) (hQ : Rq X rm_X1_isStopped (some .boolean) (QI K)) (hnL : X.2.2.2.2.2.2.2.2.2.2.2.2.2.2 = 7) (hR29 : ∀ l1 l2 l3 l5 M, R29 l1 l2 l3 l5 M → Z X M 0 0 29 [(0, va_rf (some h0)), (1, va_rf l1), (2, .int l2), (3, .long l3), (5, .int l5)] []) {l1 : Option Nat} {l2 : Int32} {l3 : Int64} {l5 : Int32} {M : Mm} (h : bk_X1_isStopped_77 h0 R29 K l1 l2 l3 l5 M) : Z X M 0 0 77 [(0, va_rf (some h0)), (1, va_rf l1), (2, .int l2), (3, .long l3), (5, .int l5)] [] := by
  unfold bk_X1_isStopped_77 at h
  refine z_iinc (v := (l5 + 1)) hX [(5, .int (l5 + 1)), (0, va_rf (some h0)), (1, va_rf l1), (2, .int l2), (3, .long l3)] dX1_isStopped_77 4 rfl rfl (by rw [hnL]; decide) rfl ?_
  refine z_goto (tgt := 29) hX dX1_isStopped_80 (by decide) ?_
  refine z_loc [1, 2, 3, 4, 0] rfl ?_
  exact hR29 _ _ _ _ _ h
def lp_X1_isStopped_29 (h0 : Nat) (K : Int32 → Mm → Prop) : Nat → Option Nat → Int32 → Int64 → Int32 → Mm → Prop
  | 0, _, _, _, _, _ => False
  | n + 1, l1, l2, l3, l5, M => mK M h0 = 2 ∧ (((mI M 69 h0) ≤ l5 → ∃ a2, l1 = some a2 ∧ mK M a2 = 6 ∧ ∃ a5, (mR M 325 a2) = some a5 ∧ isA M a5 2 ∧ vp_in l2 (aN M a5) ∧ ∃ a9, (mR M 67 h0) = some a9 ∧ isA M a9 2 ∧ vp_in (mI M 323 a2) (aN M a9) ∧ (wp_X10_together M l3 (aJ M a9 ((mI M 323 a2)).toNatClampNeg) (fun r13 M14 => (((aJ M a5 (l2).toNatClampNeg) ≤ r13 → (bk_X1_isStopped_111 h0 K (0 : Int32) M14)) ∧ (¬ (aJ M a5 (l2).toNatClampNeg) ≤ r13 → (bk_X1_isStopped_111 h0 K (1 : Int32) M14)))))) ∧ (¬ (mI M 69 h0) ≤ l5 → ∃ a16, (mR M 66 h0) = some a16 ∧ isA M a16 4 ∧ vp_in l5 (aN M a16) ∧ ∃ a20, (aR M a16 (l5).toNatClampNeg) = some a20 ∧ mK M a20 = 7 ∧ (((mR M 393 a20) = none → (bk_X1_isStopped_77 h0 (lp_X1_isStopped_29 h0 K n) K l1 l2 l3 l5 M)) ∧ (∀ a23, (mR M 393 a20) = some a23 → mK M a23 = 6 ∧ ∃ a26, l1 = some a26 ∧ mK M a26 = 6 ∧ ((¬ (mI M 323 a23) = (mI M 323 a26) → (bk_X1_isStopped_77 h0 (lp_X1_isStopped_29 h0 K n) K l1 l2 l3 l5 M)) ∧ ((mI M 323 a23) = (mI M 323 a26) → (wp_X5_leastActive M a23 (fun r29 M30 => (bk_X1_isStopped_77 h0 (lp_X1_isStopped_29 h0 K n) K l1 l2 (if r29 < l3 then r29 else l3) l5 M30)))))))))
set_option maxRecDepth 100000 in
set_option maxHeartbeats 4000000 in
theorem zl_X1_isStopped_29 {X : Cx} {h0 : Nat} {K : Int32 → Mm → Prop} (hX : Ok X cX1_isStopped RX1 rm_X1_isStopped) (hQ : Rq X rm_X1_isStopped (some .boolean) (QI K)) (hnL : X.2.2.2.2.2.2.2.2.2.2.2.2.2.2 = 7) : ∀ (n : Nat) (l1 : Option Nat) (l2 : Int32) (l3 : Int64) (l5 : Int32) (M : Mm), lp_X1_isStopped_29 h0 K n l1 l2 l3 l5 M → Z X M 0 0 29 [(0, va_rf (some h0)), (1, va_rf l1), (2, .int l2), (3, .long l3), (5, .int l5)] [] := by
  intro n
  induction n with
  | zero =>
    intro l1 l2 l3 l5 M h
    exact False.elim h
  | succ n hR29 =>
    intro l1 l2 l3 l5 M h
    refine z_iload hX dX1_isStopped_29 4 rfl ?_
    refine z_aload_n (r := (some h0)) hX dX1_isStopped_31 rfl 0 rfl ?_
    obtain ⟨hk1, h⟩ := h
    refine gf_RX1_37 (r := (some h0)) hX dX1_isStopped_32 rfl hk1 ?_
    obtain ⟨h1, h2⟩ := h
    refine z_icmp_ge (tgt := 83) hX dX1_isStopped_35 (by decide) (fun hc => ?_) (fun hc => ?_)
    · have h := h1 hc
      refine z_aload_n (r := l1) hX dX1_isStopped_83 rfl 1 rfl ?_
      obtain ⟨a2, ha3, h⟩ := h
      obtain ⟨hk4, h⟩ := h
      refine gf_RX1_74 (r := l1) hX dX1_isStopped_84 ha3 hk4 ?_
      refine z_iload_n hX dX1_isStopped_87 rfl 2 rfl ?_
      obtain ⟨a5, ha6, h⟩ := h
      obtain ⟨hk7, h⟩ := h
      obtain ⟨hc8, h⟩ := h
      refine y_lald (r := (mR M 325 a2)) hX dX1_isStopped_88 ha6 hk7 hc8 ?_
      refine z_lload_n hX dX1_isStopped_89 rfl 3 rfl ?_
      refine z_aload_n (r := (some h0)) hX dX1_isStopped_90 rfl 0 rfl ?_
      refine gf_RX1_24 (r := (some h0)) hX dX1_isStopped_91 rfl hk1 ?_
      refine z_aload_n (r := l1) hX dX1_isStopped_94 rfl 1 rfl ?_
      refine gf_RX1_51 (r := l1) hX dX1_isStopped_95 ha3 hk4 ?_
      obtain ⟨a9, ha10, h⟩ := h
      obtain ⟨hk11, h⟩ := h
      obtain ⟨hc12, h⟩ := h
      refine y_lald (r := (mR M 67 h0)) hX dX1_isStopped_98 ha10 hk11 hc12 ?_
      refine z_callNJ (As := [.long l3, .long (aJ M a9 ((mI M 323 a2)).toNatClampNeg)]) (rest := [.long (aJ M a5 (l2).toNatClampNeg)]) hX (ct_X10_together h) mw_RX1_77 rfl (by rfl) (by unfold RoomC; decide) (by simp only [List.map_cons, List.map_nil, List.sum_cons, List.sum_nil, cat_rf, cat_i, cat_j]; decide) dX1_isStopped_99 (fun r13 M14 h => ?_)
      refine z_lcmp hX dX1_isStopped_102 ?_
      obtain ⟨h1, h2⟩ := h
      refine z_if_le (tgt := 110) hX dX1_isStopped_103 (by decide) (fun hc => ?_) (fun hc => ?_)
      · have h := h1 ((lg_cmp_le _ _).mp hc)
        refine z_iconst (v := (0 : Int32)) hX dX1_isStopped_110 (by decide) ?_
        refine z_loc [] rfl ?_
        exact zb_X1_isStopped_111 hX hQ hnL h
      · have h := h2 (fun q => hc ((lg_cmp_le _ _).mpr q))
        refine z_iconst (v := (1 : Int32)) hX dX1_isStopped_106 (by decide) ?_
        refine z_goto (tgt := 111) hX dX1_isStopped_107 (by decide) ?_
        refine z_loc [] rfl ?_
        exact zb_X1_isStopped_111 hX hQ hnL h
    · have h := h2 hc
      refine z_aload_n (r := (some h0)) hX dX1_isStopped_38 rfl 0 rfl ?_
      refine gf_RX1_20 (r := (some h0)) hX dX1_isStopped_39 rfl hk1 ?_
      refine z_iload hX dX1_isStopped_42 4 rfl ?_
      obtain ⟨a16, ha17, h⟩ := h
      obtain ⟨hk18, h⟩ := h
      obtain ⟨hc19, h⟩ := h
      refine y_aldq (r := (mR M 66 h0)) hX dX1_isStopped_44 ha17 hk18 hc19 ?_
      obtain ⟨a20, ha21, h⟩ := h
      obtain ⟨hk22, h⟩ := h
      refine gf_RX1_60 (r := (aR M a16 (l5).toNatClampNeg)) hX dX1_isStopped_45 ha21 hk22 ?_
      refine z_astore (r := (mR M 393 a20)) hX [(6, va_rf (mR M 393 a20)), (0, va_rf (some h0)), (1, va_rf l1), (2, .int l2), (3, .long l3), (5, .int l5)] dX1_isStopped_48 (by rw [hnL]; decide) rfl ?_
      refine z_aload (r := (mR M 393 a20)) hX dX1_isStopped_50 0 rfl ?_
      obtain ⟨h1, h2⟩ := h
      refine z_ifnull (r := (mR M 393 a20)) (tgt := 77) hX dX1_isStopped_52 (by decide) (fun hc => ?_) (fun a23 ha24 => ?_)
      · have h := h1 hc
        refine z_loc [1, 2, 3, 4, 5] rfl ?_
        exact zb_X1_isStopped_77 hX hQ hnL hR29 h
      · have h := h2 a23 ha24
        refine z_aload (r := (mR M 393 a20)) hX dX1_isStopped_55 0 rfl ?_
        obtain ⟨hk25, h⟩ := h
        refine gf_RX1_51 (r := (mR M 393 a20)) hX dX1_isStopped_57 ha24 hk25 ?_
        refine z_aload_n (r := l1) hX dX1_isStopped_60 rfl 2 rfl ?_
        obtain ⟨a26, ha27, h⟩ := h
        obtain ⟨hk28, h⟩ := h
        refine gf_RX1_51 (r := l1) hX dX1_isStopped_61 ha27 hk28 ?_
        obtain ⟨h1, h2⟩ := h
        refine z_icmp_ne (tgt := 77) hX dX1_isStopped_64 (by decide) (fun hc => ?_) (fun hc => ?_)
        · have h := h1 hc
          refine z_loc [1, 2, 3, 4, 5] rfl ?_
          exact zb_X1_isStopped_77 hX hQ hnL hR29 h
        · have h := h2 hc
          refine z_lload_n hX dX1_isStopped_67 rfl 4 rfl ?_
          refine z_aload (r := (mR M 393 a20)) hX dX1_isStopped_68 0 rfl ?_
          refine z_callVJ (As := []) (rest := [.long l3]) (ci := 5) hX (ct_X5_leastActive h) mw_RX1_64 rfl (by decide) rfl (by rw [ha24]; rfl) (by unfold RoomC; decide) (by simp only [List.map_cons, List.map_nil, List.sum_cons, List.sum_nil, cat_rf, cat_i, cat_j]; decide) dX1_isStopped_70 hk25 (fun r29 M30 h => ?_)
          refine mw_RX1_68 hX dX1_isStopped_73 (by decide) (by decide) (by decide) (by decide) ?_
          refine z_lstore_n hX [(3, .long (if r29 < l3 then r29 else l3)), (6, va_rf (mR M 393 a20)), (0, va_rf (some h0)), (1, va_rf l1), (2, .int l2), (5, .int l5)] dX1_isStopped_76 rfl (by rw [hnL]; decide) rfl ?_
          refine z_loc [2, 3, 4, 0, 5] rfl ?_
          exact zb_X1_isStopped_77 hX hQ hnL hR29 h
def wp_X1_isStopped (M : Mm) (h0 : Nat) (p1 : Option Nat) (p2 : Int32) (K : Int32 → Mm → Prop) : Prop := ∃ a32, p1 = some a32 ∧ mK M a32 = 6 ∧ ∃ a35, (mR M 324 a32) = some a35 ∧ isA M a35 1 ∧ vp_in p2 (aN M a35) ∧ ((¬ (aI M a35 (p2).toNatClampNeg) = 0 → (bk_X1_isStopped_20 h0 K M)) ∧ ((aI M a35 (p2).toNatClampNeg) = 0 → mK M h0 = 2 ∧ (wp_X1_isAligned M h0 (mI M 323 a32) (fun r39 M40 => ((¬ r39 = 0 → (∃ kk, lp_X1_isStopped_29 h0 K kk p1 p2 (9000000000000000000 : Int64) (0 : Int32) M40)) ∧ (r39 = 0 → (bk_X1_isStopped_20 h0 K M40)))))))
set_option maxRecDepth 100000 in
set_option maxHeartbeats 4000000 in
theorem ct_X1_isStopped {M : Mm} {h0 : Nat} {p1 : Option Nat} {p2 : Int32} {K : Int32 → Mm → Prop} (h : wp_X1_isStopped M h0 p1 p2 K) : CtI yX1_isStopped cX1_isStopped 7 (some .boolean) rm_X1_isStopped [.ref h0, va_rf p1, .int p2] M K := by
  refine ct_any (QI K) (by decide) (by cases p1 <;> exact Nat.le_of_ble_eq_true rfl) (fun X hX hQ hnL hnm => ?_)
  rw [show lv_args 0 [.ref h0, va_rf p1, .int p2] = [(0, va_rf (some h0)), (1, va_rf p1), (2, .int p2)] by cases p1 <;> rfl]
  have hX : Ok X cX1_isStopped RX1 rm_X1_isStopped := hX
  unfold wp_X1_isStopped at h
  refine z_aload_n (r := p1) hX dX1_isStopped_0 rfl 1 rfl ?_
  obtain ⟨a32, ha33, h⟩ := h
  obtain ⟨hk34, h⟩ := h
  refine gf_RX1_45 (r := p1) hX dX1_isStopped_1 ha33 hk34 ?_
  refine z_iload_n hX dX1_isStopped_4 rfl 2 rfl ?_
  obtain ⟨a35, ha36, h⟩ := h
  obtain ⟨hk37, h⟩ := h
  obtain ⟨hc38, h⟩ := h
  refine y_iald (r := (mR M 324 a32)) hX dX1_isStopped_5 ha36 hk37 hc38 ?_
  obtain ⟨h1, h2⟩ := h
  refine z_if_ne (tgt := 20) hX dX1_isStopped_6 (by decide) (fun hc => ?_) (fun hc => ?_)
  · have h := h1 hc
    refine z_loc [] rfl ?_
    exact zb_X1_isStopped_20 hX hQ hnL h
  · have h := h2 hc
    refine z_aload_n (r := (some h0)) hX dX1_isStopped_9 rfl 0 rfl ?_
    refine z_aload_n (r := p1) hX dX1_isStopped_10 rfl 1 rfl ?_
    refine gf_RX1_51 (r := p1) hX dX1_isStopped_11 ha33 hk34 ?_
    obtain ⟨hk41, h⟩ := h
    refine z_callVI (As := [.int (mI M 323 a32)]) (rest := []) (ci := 1) hX (ct_X1_isAligned h) mw_RX1_54 rfl (by decide) rfl (by rfl) (by unfold RoomC; decide) (by decide) dX1_isStopped_14 hk41 (fun r39 M40 h => ?_)
    obtain ⟨h1, h2⟩ := h
    refine z_if_ne (tgt := 22) hX dX1_isStopped_17 (by decide) (fun hc => ?_) (fun hc => ?_)
    · have h := h1 hc
      refine z_ldc2 (v := (9000000000000000000 : Int64)) hX dX1_isStopped_22 kj_RX1_58 ?_
      refine z_lstore_n hX [(3, .long (9000000000000000000 : Int64)), (0, va_rf (some h0)), (1, va_rf p1), (2, .int p2)] dX1_isStopped_25 rfl (by rw [hnL]; decide) rfl ?_
      refine z_iconst (v := (0 : Int32)) hX dX1_isStopped_26 (by decide) ?_
      refine z_istore hX [(5, .int (0 : Int32)), (3, .long (9000000000000000000 : Int64)), (0, va_rf (some h0)), (1, va_rf p1), (2, .int p2)] dX1_isStopped_27 (by rw [hnL]; decide) rfl ?_
      refine z_loc [2, 3, 4, 1, 0] rfl ?_
      obtain ⟨n, h⟩ := h
      exact zl_X1_isStopped_29 hX hQ hnL n _ _ _ _ _ h
    · have h := h2 hc
      refine z_loc [] rfl ?_
      exact zb_X1_isStopped_20 hX hQ hnL h
def rm_X1_refusalOf : Room := { frames := 3, cells := 0, slots := 0, locals := 72 }
def bk_X1_refusalOf_28 (h0 : Nat) (K : Int32 → Mm → Prop) (s0 : Int32) (M : Mm) : Prop := (K s0 M)
set_option maxRecDepth 100000 in
set_option maxHeartbeats 4000000 in
theorem zb_X1_refusalOf_28 {X : Cx} {h0 : Nat} {K : Int32 → Mm → Prop} (hX : Ok X cX1_refusalOf RX1 rm_X1_refusalOf) (hQ : Rq X rm_X1_refusalOf (some .int) (QI K)) (hnL : X.2.2.2.2.2.2.2.2.2.2.2.2.2.2 = 3) {s0 : Int32} {M : Mm} (h : bk_X1_refusalOf_28 h0 K s0 M) : Z X M 0 0 28 [] [.int s0] := by
  unfold bk_X1_refusalOf_28 at h
  exact z_iret hX hQ dX1_refusalOf_28 h
def wp_X1_refusalOf (M : Mm) (h0 : Nat) (p1 : Option Nat) (p2 : Int32) (K : Int32 → Mm → Prop) : Prop := ∃ a1, p1 = some a1 ∧ mK M a1 = 6 ∧ ∃ a4, (mR M 324 a1) = some a4 ∧ isA M a4 1 ∧ vp_in p2 (aN M a4) ∧ ((¬ (aI M a4 (p2).toNatClampNeg) = (2 : Int32) → mK M h0 = 2 ∧ (wp_X1_isStopped M h0 p1 p2 (fun r8 M9 => ((r8 = 0 → (bk_X1_refusalOf_28 h0 K (0 : Int32) M9)) ∧ (¬ r8 = 0 → (bk_X1_refusalOf_28 h0 K (-3 : Int32) M9)))))) ∧ ((aI M a4 (p2).toNatClampNeg) = (2 : Int32) → (K (-2 : Int32) M)))
set_option maxRecDepth 100000 in
set_option maxHeartbeats 4000000 in
theorem ct_X1_refusalOf {M : Mm} {h0 : Nat} {p1 : Option Nat} {p2 : Int32} {K : Int32 → Mm → Prop} (h : wp_X1_refusalOf M h0 p1 p2 K) : CtI yX1_refusalOf cX1_refusalOf 3 (some .int) rm_X1_refusalOf [.ref h0, va_rf p1, .int p2] M K := by
  refine ct_any (QI K) (by decide) (by cases p1 <;> exact Nat.le_of_ble_eq_true rfl) (fun X hX hQ hnL hnm => ?_)
  rw [show lv_args 0 [.ref h0, va_rf p1, .int p2] = [(0, va_rf (some h0)), (1, va_rf p1), (2, .int p2)] by cases p1 <;> rfl]
  have hX : Ok X cX1_refusalOf RX1 rm_X1_refusalOf := hX
  unfold wp_X1_refusalOf at h
  refine z_aload_n (r := p1) hX dX1_refusalOf_0 rfl 1 rfl ?_
  obtain ⟨a1, ha2, h⟩ := h
  obtain ⟨hk3, h⟩ := h
  refine gf_RX1_45 (r := p1) hX dX1_refusalOf_1 ha2 hk3 ?_
  refine z_iload_n hX dX1_refusalOf_4 rfl 2 rfl ?_
  obtain ⟨a4, ha5, h⟩ := h
  obtain ⟨hk6, h⟩ := h
  obtain ⟨hc7, h⟩ := h
  refine y_iald (r := (mR M 324 a1)) hX dX1_refusalOf_5 ha5 hk6 hc7 ?_
  refine z_iconst (v := (2 : Int32)) hX dX1_refusalOf_6 (by decide) ?_
  obtain ⟨h1, h2⟩ := h
  refine z_icmp_ne (tgt := 13) hX dX1_refusalOf_7 (by decide) (fun hc => ?_) (fun hc => ?_)
  · have h := h1 hc
    refine z_aload_n (r := (some h0)) hX dX1_refusalOf_13 rfl 0 rfl ?_
    refine z_aload_n (r := p1) hX dX1_refusalOf_14 rfl 1 rfl ?_
    refine z_iload_n hX dX1_refusalOf_15 rfl 2 rfl ?_
    obtain ⟨hk10, h⟩ := h
    refine z_callVI (As := [va_rf p1, .int p2]) (rest := []) (ci := 1) hX (ct_X1_isStopped h) mw_RX1_80 rfl (by decide) rfl (by rfl) (by unfold RoomC; decide) (by decide) dX1_refusalOf_16 hk10 (fun r8 M9 h => ?_)
    obtain ⟨h1, h2⟩ := h
    refine z_if_eq (tgt := 27) hX dX1_refusalOf_19 (by decide) (fun hc => ?_) (fun hc => ?_)
    · have h := h1 hc
      refine z_iconst (v := (0 : Int32)) hX dX1_refusalOf_27 (by decide) ?_
      refine z_loc [] rfl ?_
      exact zb_X1_refusalOf_28 hX hQ hnL h
    · have h := h2 hc
      refine z_bipush (v := (-3 : Int32)) hX dX1_refusalOf_22 (by decide) ?_
      refine z_goto (tgt := 28) hX dX1_refusalOf_24 (by decide) ?_
      refine z_loc [] rfl ?_
      exact zb_X1_refusalOf_28 hX hQ hnL h
  · have h := h2 hc
    refine z_bipush (v := (-2 : Int32)) hX dX1_refusalOf_10 (by decide) ?_
    exact z_iret hX hQ dX1_refusalOf_12 h
def rm_X1_countIdleParts : Room := { frames := 1, cells := 0, slots := 0, locals := 23 }
def bk_X1_countIdleParts_40 (h0 : Nat) (R4 : Int32 → Int32 → Mm → Prop) (K : Int32 → Mm → Prop) (l1 : Int32) (l2 : Int32) (M : Mm) : Prop := (R4 l1 (l2 + 1) M)
set_option maxRecDepth 100000 in
set_option maxHeartbeats 4000000 in
theorem zb_X1_countIdleParts_40 {X : Cx} {h0 : Nat} {R4 : Int32 → Int32 → Mm → Prop} {K : Int32 → Mm → Prop} (hX : Ok X cX1_countIdleParts RX1 rm_X1_countIdleParts) (hQ : Rq X rm_X1_countIdleParts (some .int) (QI K)) (hnL : X.2.2.2.2.2.2.2.2.2.2.2.2.2.2 = 3) (hR4 : ∀ l1 l2 M, R4 l1 l2 M → Z X M 0 0 4 [(0, va_rf (some h0)), (1, .int l1), (2, .int l2)] []) {l1 : Int32} {l2 : Int32} {M : Mm} (h : bk_X1_countIdleParts_40 h0 R4 K l1 l2 M) : Z X M 0 0 40 [(0, va_rf (some h0)), (1, .int l1), (2, .int l2)] [] := by
  unfold bk_X1_countIdleParts_40 at h
  refine z_iinc (v := (l2 + 1)) hX [(2, .int (l2 + 1)), (0, va_rf (some h0)), (1, .int l1)] dX1_countIdleParts_40 2 rfl rfl (by rw [hnL]; decide) rfl ?_
  refine z_goto (tgt := 4) hX dX1_countIdleParts_43 (by decide) ?_
  refine z_loc [1, 2, 0] rfl ?_
  exact hR4 _ _ _ h
def lp_X1_countIdleParts_4 (h0 : Nat) (K : Int32 → Mm → Prop) : Nat → Int32 → Int32 → Mm → Prop
  | 0, _, _, _ => False
  | n + 1, l1, l2, M => mK M h0 = 2 ∧ (((mI M 69 h0) ≤ l2 → (K l1 M)) ∧ (¬ (mI M 69 h0) ≤ l2 → ∃ a2, (mR M 66 h0) = some a2 ∧ isA M a2 4 ∧ vp_in l2 (aN M a2) ∧ ∃ a6, (aR M a2 (l2).toNatClampNeg) = some a6 ∧ mK M a6 = 7 ∧ (((mR M 393 a6) = none → (bk_X1_countIdleParts_40 h0 (lp_X1_countIdleParts_4 h0 K n) K l1 l2 M)) ∧ (∀ a9, (mR M 393 a6) = some a9 → vp_in l2 (aN M a2) ∧ mK M a9 = 6 ∧ (wp_X5_countIn M a9 (1 : Int32) (fun r12 M13 => (bk_X1_countIdleParts_40 h0 (lp_X1_countIdleParts_4 h0 K n) K (l1 + r12) l2 M13)))))))
set_option maxRecDepth 100000 in
set_option maxHeartbeats 4000000 in
theorem zl_X1_countIdleParts_4 {X : Cx} {h0 : Nat} {K : Int32 → Mm → Prop} (hX : Ok X cX1_countIdleParts RX1 rm_X1_countIdleParts) (hQ : Rq X rm_X1_countIdleParts (some .int) (QI K)) (hnL : X.2.2.2.2.2.2.2.2.2.2.2.2.2.2 = 3) : ∀ (n : Nat) (l1 : Int32) (l2 : Int32) (M : Mm), lp_X1_countIdleParts_4 h0 K n l1 l2 M → Z X M 0 0 4 [(0, va_rf (some h0)), (1, .int l1), (2, .int l2)] [] := by
  intro n
  induction n with
  | zero =>
    intro l1 l2 M h
    exact False.elim h
  | succ n hR4 =>
    intro l1 l2 M h
    refine z_iload_n hX dX1_countIdleParts_4 rfl 2 rfl ?_
    refine z_aload_n (r := (some h0)) hX dX1_countIdleParts_5 rfl 0 rfl ?_
    obtain ⟨hk1, h⟩ := h
    refine gf_RX1_37 (r := (some h0)) hX dX1_countIdleParts_6 rfl hk1 ?_
    obtain ⟨h1, h2⟩ := h
    refine z_icmp_ge (tgt := 46) hX dX1_countIdleParts_9 (by decide) (fun hc => ?_) (fun hc => ?_)
    · have h := h1 hc
      refine z_iload_n hX dX1_countIdleParts_46 rfl 1 rfl ?_
      exact z_iret hX hQ dX1_countIdleParts_47 h
    · have h := h2 hc
      refine z_aload_n (r := (some h0)) hX dX1_countIdleParts_12 rfl 0 rfl ?_
      refine gf_RX1_20 (r := (some h0)) hX dX1_countIdleParts_13 rfl hk1 ?_
      refine z_iload_n hX dX1_countIdleParts_16 rfl 2 rfl ?_
      obtain ⟨a2, ha3, h⟩ := h
      obtain ⟨hk4, h⟩ := h
      obtain ⟨hc5, h⟩ := h
      refine y_aldq (r := (mR M 66 h0)) hX dX1_countIdleParts_17 ha3 hk4 hc5 ?_
      obtain ⟨a6, ha7, h⟩ := h
      obtain ⟨hk8, h⟩ := h
      refine gf_RX1_60 (r := (aR M a2 (l2).toNatClampNeg)) hX dX1_countIdleParts_18 ha7 hk8 ?_
      obtain ⟨h1, h2⟩ := h
      refine z_ifnull (r := (mR M 393 a6)) (tgt := 40) hX dX1_countIdleParts_21 (by decide) (fun hc => ?_) (fun a9 ha10 => ?_)
      · have h := h1 hc
        exact zb_X1_countIdleParts_40 hX hQ hnL hR4 h
      · have h := h2 a9 ha10
        refine z_iload_n hX dX1_countIdleParts_24 rfl 1 rfl ?_
        refine z_aload_n (r := (some h0)) hX dX1_countIdleParts_25 rfl 0 rfl ?_
        refine gf_RX1_20 (r := (some h0)) hX dX1_countIdleParts_26 rfl hk1 ?_
        refine z_iload_n hX dX1_countIdleParts_29 rfl 2 rfl ?_
        obtain ⟨hc11, h⟩ := h
        refine y_aldq (r := (mR M 66 h0)) hX dX1_countIdleParts_30 ha3 hk4 hc11 ?_
        refine gf_RX1_60 (r := (aR M a2 (l2).toNatClampNeg)) hX dX1_countIdleParts_31 ha7 hk8 ?_
        refine z_iconst (v := (1 : Int32)) hX dX1_countIdleParts_34 (by decide) ?_
        obtain ⟨hk14, h⟩ := h
        refine z_callVI (As := [.int (1 : Int32)]) (rest := [.int l1]) (ci := 5) hX (ct_X5_countIn h) mw_RX1_84 rfl (by decide) rfl (by rw [ha10]; rfl) (by unfold RoomC; decide) (by simp only [List.map_cons, List.map_nil, List.sum_cons, List.sum_nil, cat_rf, cat_i, cat_j]; decide) dX1_countIdleParts_35 hk14 (fun r12 M13 h => ?_)
        refine z_iadd hX dX1_countIdleParts_38 ?_
        refine z_istore_n hX [(1, .int (l1 + r12)), (0, va_rf (some h0)), (2, .int l2)] dX1_countIdleParts_39 rfl (by rw [hnL]; decide) rfl ?_
        refine z_loc [1, 0, 2] rfl ?_
        exact zb_X1_countIdleParts_40 hX hQ hnL hR4 h
def wp_X1_countIdleParts (M : Mm) (h0 : Nat) (K : Int32 → Mm → Prop) : Prop := (∃ kk, lp_X1_countIdleParts_4 h0 K kk (0 : Int32) (0 : Int32) M)
set_option maxRecDepth 100000 in
set_option maxHeartbeats 4000000 in
theorem ct_X1_countIdleParts {M : Mm} {h0 : Nat} {K : Int32 → Mm → Prop} (h : wp_X1_countIdleParts M h0 K) : CtI yX1_countIdleParts cX1_countIdleParts 3 (some .int) rm_X1_countIdleParts [.ref h0] M K := by
  refine ct_any (QI K) (by decide) (by exact Nat.le_of_ble_eq_true rfl) (fun X hX hQ hnL hnm => ?_)
  rw [show lv_args 0 [.ref h0] = [(0, va_rf (some h0))] by rfl]
  have hX : Ok X cX1_countIdleParts RX1 rm_X1_countIdleParts := hX
  unfold wp_X1_countIdleParts at h
  refine z_iconst (v := (0 : Int32)) hX dX1_countIdleParts_0 (by decide) ?_
  refine z_istore_n hX [(1, .int (0 : Int32)), (0, va_rf (some h0))] dX1_countIdleParts_1 rfl (by rw [hnL]; decide) rfl ?_
  refine z_iconst (v := (0 : Int32)) hX dX1_countIdleParts_2 (by decide) ?_
  refine z_istore_n hX [(2, .int (0 : Int32)), (1, .int (0 : Int32)), (0, va_rf (some h0))] dX1_countIdleParts_3 rfl (by rw [hnL]; decide) rfl ?_
  refine z_loc [2, 1, 0] rfl ?_
  obtain ⟨n, h⟩ := h
  exact zl_X1_countIdleParts_4 hX hQ hnL n _ _ _ h
def rm_X1_countStoppedParts : Room := { frames := 3, cells := 0, slots := 0, locals := 72 }
def bk_X1_countStoppedParts_57 (h0 : Nat) (R4 : Int32 → Int32 → Mm → Prop) (K : Int32 → Mm → Prop) (l1 : Int32) (l2 : Int32) (M : Mm) : Prop := (R4 l1 (l2 + 1) M)
set_option maxRecDepth 100000 in
set_option maxHeartbeats 4000000 in
theorem zb_X1_countStoppedParts_57 {X : Cx} {h0 : Nat} {R4 : Int32 → Int32 → Mm → Prop} {K : Int32 → Mm → Prop} (hX : Ok X cX1_countStoppedParts RX1 rm_X1_countStoppedParts) (hQ : Rq X rm_X1_countStoppedParts (some .int) (QI K)) (hnL : X.2.2.2.2.2.2.2.2.2.2.2.2.2.2 = 5) (hR4 : ∀ l1 l2 M, R4 l1 l2 M → Z X M 0 0 4 [(0, va_rf (some h0)), (1, .int l1), (2, .int l2)] []) {l1 : Int32} {l2 : Int32} {M : Mm} (h : bk_X1_countStoppedParts_57 h0 R4 K l1 l2 M) : Z X M 0 0 57 [(0, va_rf (some h0)), (1, .int l1), (2, .int l2)] [] := by
  unfold bk_X1_countStoppedParts_57 at h
  refine z_iinc (v := (l2 + 1)) hX [(2, .int (l2 + 1)), (0, va_rf (some h0)), (1, .int l1)] dX1_countStoppedParts_57 2 rfl rfl (by rw [hnL]; decide) rfl ?_
  refine z_goto (tgt := 4) hX dX1_countStoppedParts_60 (by decide) ?_
  refine z_loc [1, 2, 0] rfl ?_
  exact hR4 _ _ _ h
def bk_X1_countStoppedParts_51 (h0 : Nat) (R4 : Int32 → Int32 → Mm → Prop) (R25 : Int32 → Int32 → Option Nat → Int32 → Mm → Prop) (K : Int32 → Mm → Prop) (l1 : Int32) (l2 : Int32) (l3 : Option Nat) (l4 : Int32) (M : Mm) : Prop := (R25 l1 l2 l3 (l4 + 1) M)
set_option maxRecDepth 100000 in
set_option maxHeartbeats 4000000 in
theorem zb_X1_countStoppedParts_51 {X : Cx} {h0 : Nat} {R4 : Int32 → Int32 → Mm → Prop} {R25 : Int32 → Int32 → Option Nat → Int32 → Mm → Prop} {K : Int32 → Mm → Prop} (hX : Ok X cX1_countStoppedParts RX1 rm_X1_countStoppedParts) (hQ : Rq X rm_X1_countStoppedParts (some .int) (QI K)) (hnL : X.2.2.2.2.2.2.2.2.2.2.2.2.2.2 = 5) (hR4 : ∀ l1 l2 M, R4 l1 l2 M → Z X M 0 0 4 [(0, va_rf (some h0)), (1, .int l1), (2, .int l2)] []) (hR25 : ∀ l1 l2 l3 l4 M, R25 l1 l2 l3 l4 M → Z X M 0 0 25 [(0, va_rf (some h0)), (1, .int l1), (2, .int l2), (3, va_rf l3), (4, .int l4)] []) {l1 : Int32} {l2 : Int32} {l3 : Option Nat} {l4 : Int32} {M : Mm} (h : bk_X1_countStoppedParts_51 h0 R4 R25 K l1 l2 l3 l4 M) : Z X M 0 0 51 [(0, va_rf (some h0)), (1, .int l1), (2, .int l2), (3, va_rf l3), (4, .int l4)] [] := by
  unfold bk_X1_countStoppedParts_51 at h
  refine z_iinc (v := (l4 + 1)) hX [(4, .int (l4 + 1)), (0, va_rf (some h0)), (1, .int l1), (2, .int l2), (3, va_rf l3)] dX1_countStoppedParts_51 4 rfl rfl (by rw [hnL]; decide) (by simp [cat_rf]) ?_
  refine z_goto (tgt := 25) hX dX1_countStoppedParts_54 (by decide) ?_
  refine z_loc [1, 2, 3, 4, 0] rfl ?_
  exact hR25 _ _ _ _ _ h
def lp_X1_countStoppedParts_25 (h0 : Nat) (R4 : Int32 → Int32 → Mm → Prop) (K : Int32 → Mm → Prop) : Nat → Int32 → Int32 → Option Nat → Int32 → Mm → Prop
  | 0, _, _, _, _, _ => False
  | n + 1, l1, l2, l3, l4, M => ((l3 = none → (bk_X1_countStoppedParts_57 h0 R4 K l1 l2 M)) ∧ (∀ a1, l3 = some a1 → mK M a1 = 6 ∧ (((mI M 320 a1) ≤ l4 → (bk_X1_countStoppedParts_57 h0 R4 K l1 l2 M)) ∧ (¬ (mI M 320 a1) ≤ l4 → mK M h0 = 2 ∧ (wp_X1_isStopped M h0 l3 l4 (fun r4 M5 => ((r4 = 0 → (bk_X1_countStoppedParts_51 h0 R4 (lp_X1_countStoppedParts_25 h0 R4 K n) K l1 l2 l3 l4 M5)) ∧ (¬ r4 = 0 → (bk_X1_countStoppedParts_51 h0 R4 (lp_X1_countStoppedParts_25 h0 R4 K n) K (l1 + 1) l2 l3 l4 M5)))))))))
set_option maxRecDepth 100000 in
set_option maxHeartbeats 4000000 in
theorem zl_X1_countStoppedParts_25 {X : Cx} {h0 : Nat} {R4 : Int32 → Int32 → Mm → Prop} {K : Int32 → Mm → Prop} (hX : Ok X cX1_countStoppedParts RX1 rm_X1_countStoppedParts) (hQ : Rq X rm_X1_countStoppedParts (some .int) (QI K)) (hnL : X.2.2.2.2.2.2.2.2.2.2.2.2.2.2 = 5) (hR4 : ∀ l1 l2 M, R4 l1 l2 M → Z X M 0 0 4 [(0, va_rf (some h0)), (1, .int l1), (2, .int l2)] []) : ∀ (n : Nat) (l1 : Int32) (l2 : Int32) (l3 : Option Nat) (l4 : Int32) (M : Mm), lp_X1_countStoppedParts_25 h0 R4 K n l1 l2 l3 l4 M → Z X M 0 0 25 [(0, va_rf (some h0)), (1, .int l1), (2, .int l2), (3, va_rf l3), (4, .int l4)] [] := by
  intro n
  induction n with
  | zero =>
    intro l1 l2 l3 l4 M h
    exact False.elim h
  | succ n hR25 =>
    intro l1 l2 l3 l4 M h
    refine z_aload_n (r := l3) hX dX1_countStoppedParts_25 rfl 3 rfl ?_
    obtain ⟨h1, h2⟩ := h
    refine z_ifnull (r := l3) (tgt := 57) hX dX1_countStoppedParts_26 (by decide) (fun hc => ?_) (fun a1 ha2 => ?_)
    · have h := h1 hc
      refine z_loc [0, 1, 2] rfl ?_
      exact zb_X1_countStoppedParts_57 hX hQ hnL hR4 h
    · have h := h2 a1 ha2
      refine z_iload hX dX1_countStoppedParts_29 4 rfl ?_
      refine z_aload_n (r := l3) hX dX1_countStoppedParts_31 rfl 3 rfl ?_
      obtain ⟨hk3, h⟩ := h
      refine gf_RX1_88 (r := l3) hX dX1_countStoppedParts_32 ha2 hk3 ?_
      obtain ⟨h1, h2⟩ := h
      refine z_icmp_ge (tgt := 57) hX dX1_countStoppedParts_35 (by decide) (fun hc => ?_) (fun hc => ?_)
      · have h := h1 hc
        refine z_loc [0, 1, 2] rfl ?_
        exact zb_X1_countStoppedParts_57 hX hQ hnL hR4 h
      · have h := h2 hc
        refine z_aload_n (r := (some h0)) hX dX1_countStoppedParts_38 rfl 0 rfl ?_
        refine z_aload_n (r := l3) hX dX1_countStoppedParts_39 rfl 3 rfl ?_
        refine z_iload hX dX1_countStoppedParts_40 4 rfl ?_
        obtain ⟨hk6, h⟩ := h
        refine z_callVI (As := [va_rf l3, .int l4]) (rest := []) (ci := 1) hX (ct_X1_isStopped h) mw_RX1_80 rfl (by decide) rfl (by rfl) (by unfold RoomC; decide) (by decide) dX1_countStoppedParts_42 hk6 (fun r4 M5 h => ?_)
        obtain ⟨h1, h2⟩ := h
        refine z_if_eq (tgt := 51) hX dX1_countStoppedParts_45 (by decide) (fun hc => ?_) (fun hc => ?_)
        · have h := h1 hc
          exact zb_X1_countStoppedParts_51 hX hQ hnL hR4 hR25 h
        · have h := h2 hc
          refine z_iinc (v := (l1 + 1)) hX [(1, .int (l1 + 1)), (0, va_rf (some h0)), (2, .int l2), (3, va_rf l3), (4, .int l4)] dX1_countStoppedParts_48 1 rfl rfl (by rw [hnL]; decide) rfl ?_
          refine z_loc [1, 0, 2, 3, 4] rfl ?_
          exact zb_X1_countStoppedParts_51 hX hQ hnL hR4 hR25 h
def lp_X1_countStoppedParts_4 (h0 : Nat) (K : Int32 → Mm → Prop) : Nat → Int32 → Int32 → Mm → Prop
  | 0, _, _, _ => False
  | n + 1, l1, l2, M => mK M h0 = 2 ∧ (((mI M 69 h0) ≤ l2 → (K l1 M)) ∧ (¬ (mI M 69 h0) ≤ l2 → ∃ a9, (mR M 66 h0) = some a9 ∧ isA M a9 4 ∧ vp_in l2 (aN M a9) ∧ ∃ a13, (aR M a9 (l2).toNatClampNeg) = some a13 ∧ mK M a13 = 7 ∧ (∃ kk, lp_X1_countStoppedParts_25 h0 (lp_X1_countStoppedParts_4 h0 K n) K kk l1 l2 (mR M 393 a13) (0 : Int32) M)))
set_option maxRecDepth 100000 in
set_option maxHeartbeats 4000000 in
theorem zl_X1_countStoppedParts_4 {X : Cx} {h0 : Nat} {K : Int32 → Mm → Prop} (hX : Ok X cX1_countStoppedParts RX1 rm_X1_countStoppedParts) (hQ : Rq X rm_X1_countStoppedParts (some .int) (QI K)) (hnL : X.2.2.2.2.2.2.2.2.2.2.2.2.2.2 = 5) : ∀ (n : Nat) (l1 : Int32) (l2 : Int32) (M : Mm), lp_X1_countStoppedParts_4 h0 K n l1 l2 M → Z X M 0 0 4 [(0, va_rf (some h0)), (1, .int l1), (2, .int l2)] [] := by
  intro n
  induction n with
  | zero =>
    intro l1 l2 M h
    exact False.elim h
  | succ n hR4 =>
    intro l1 l2 M h
    refine z_iload_n hX dX1_countStoppedParts_4 rfl 2 rfl ?_
    refine z_aload_n (r := (some h0)) hX dX1_countStoppedParts_5 rfl 0 rfl ?_
    obtain ⟨hk8, h⟩ := h
    refine gf_RX1_37 (r := (some h0)) hX dX1_countStoppedParts_6 rfl hk8 ?_
    obtain ⟨h1, h2⟩ := h
    refine z_icmp_ge (tgt := 63) hX dX1_countStoppedParts_9 (by decide) (fun hc => ?_) (fun hc => ?_)
    · have h := h1 hc
      refine z_iload_n hX dX1_countStoppedParts_63 rfl 1 rfl ?_
      exact z_iret hX hQ dX1_countStoppedParts_64 h
    · have h := h2 hc
      refine z_aload_n (r := (some h0)) hX dX1_countStoppedParts_12 rfl 0 rfl ?_
      refine gf_RX1_20 (r := (some h0)) hX dX1_countStoppedParts_13 rfl hk8 ?_
      refine z_iload_n hX dX1_countStoppedParts_16 rfl 2 rfl ?_
      obtain ⟨a9, ha10, h⟩ := h
      obtain ⟨hk11, h⟩ := h
      obtain ⟨hc12, h⟩ := h
      refine y_aldq (r := (mR M 66 h0)) hX dX1_countStoppedParts_17 ha10 hk11 hc12 ?_
      obtain ⟨a13, ha14, h⟩ := h
      obtain ⟨hk15, h⟩ := h
      refine gf_RX1_60 (r := (aR M a9 (l2).toNatClampNeg)) hX dX1_countStoppedParts_18 ha14 hk15 ?_
      refine z_astore_n (r := (mR M 393 a13)) hX [(3, va_rf (mR M 393 a13)), (0, va_rf (some h0)), (1, .int l1), (2, .int l2)] dX1_countStoppedParts_21 rfl (by rw [hnL]; decide) rfl ?_
      refine z_iconst (v := (0 : Int32)) hX dX1_countStoppedParts_22 (by decide) ?_
      refine z_istore (i := 4) hX [(4, .int (0 : Int32)), (3, va_rf (mR M 393 a13)), (0, va_rf (some h0)), (1, .int l1), (2, .int l2)] dX1_countStoppedParts_23 (by rw [hnL]; decide) (by simp [cat_rf]) ?_
      refine z_loc [2, 3, 4, 1, 0] rfl ?_
      obtain ⟨n, h⟩ := h
      exact zl_X1_countStoppedParts_25 hX hQ hnL hR4 n _ _ _ _ _ h
def wp_X1_countStoppedParts (M : Mm) (h0 : Nat) (K : Int32 → Mm → Prop) : Prop := (∃ kk, lp_X1_countStoppedParts_4 h0 K kk (0 : Int32) (0 : Int32) M)
set_option maxRecDepth 100000 in
set_option maxHeartbeats 4000000 in
theorem ct_X1_countStoppedParts {M : Mm} {h0 : Nat} {K : Int32 → Mm → Prop} (h : wp_X1_countStoppedParts M h0 K) : CtI yX1_countStoppedParts cX1_countStoppedParts 5 (some .int) rm_X1_countStoppedParts [.ref h0] M K := by
  refine ct_any (QI K) (by decide) (by exact Nat.le_of_ble_eq_true rfl) (fun X hX hQ hnL hnm => ?_)
  rw [show lv_args 0 [.ref h0] = [(0, va_rf (some h0))] by rfl]
  have hX : Ok X cX1_countStoppedParts RX1 rm_X1_countStoppedParts := hX
  unfold wp_X1_countStoppedParts at h
  refine z_iconst (v := (0 : Int32)) hX dX1_countStoppedParts_0 (by decide) ?_
  refine z_istore_n hX [(1, .int (0 : Int32)), (0, va_rf (some h0))] dX1_countStoppedParts_1 rfl (by rw [hnL]; decide) rfl ?_
  refine z_iconst (v := (0 : Int32)) hX dX1_countStoppedParts_2 (by decide) ?_
  refine z_istore_n hX [(2, .int (0 : Int32)), (1, .int (0 : Int32)), (0, va_rf (some h0))] dX1_countStoppedParts_3 rfl (by rw [hnL]; decide) rfl ?_
  refine z_loc [2, 1, 0] rfl ?_
  obtain ⟨n, h⟩ := h
  exact zl_X1_countStoppedParts_4 hX hQ hnL n _ _ _ h
def rm_X1_goOn : Room := { frames := 3, cells := 0, slots := 0, locals := 72 }
def bk_X1_goOn_163 (h0 : Nat) (R97 : Int32 → Int32 → Mm → Prop) (K : Int32 → Mm → Prop) (l2 : Int32) (l3 : Int32) (M : Mm) : Prop := (R97 l2 (l3 + 1) M)
set_option maxRecDepth 100000 in
set_option maxHeartbeats 4000000 in
theorem zb_X1_goOn_163 {X : Cx} {h0 : Nat} {R97 : Int32 → Int32 → Mm → Prop} {K : Int32 → Mm → Prop} (hX : Ok X cX1_goOn RX1 rm_X1_goOn) (hQ : Rq X rm_X1_goOn (some .int) (QI K)) (hnL : X.2.2.2.2.2.2.2.2.2.2.2.2.2.2 = 6) (hR97 : ∀ l2 l3 M, R97 l2 l3 M → Z X M 0 0 97 [(0, va_rf (some h0)), (2, .int l2), (3, .int l3)] []) {l2 : Int32} {l3 : Int32} {M : Mm} (h : bk_X1_goOn_163 h0 R97 K l2 l3 M) : Z X M 0 0 163 [(0, va_rf (some h0)), (2, .int l2), (3, .int l3)] [] := by
  unfold bk_X1_goOn_163 at h
  refine z_iinc (v := (l3 + 1)) hX [(3, .int (l3 + 1)), (0, va_rf (some h0)), (2, .int l2)] dX1_goOn_163 2 rfl rfl (by rw [hnL]; decide) rfl ?_
  refine z_goto (tgt := 97) hX dX1_goOn_166 (by decide) ?_
  refine z_loc [1, 2, 0] rfl ?_
  exact hR97 _ _ _ h
def bk_X1_goOn_157 (h0 : Nat) (R97 : Int32 → Int32 → Mm → Prop) (R119 : Int32 → Int32 → Option Nat → Int32 → Mm → Prop) (K : Int32 → Mm → Prop) (l2 : Int32) (l3 : Int32) (l4 : Option Nat) (l5 : Int32) (M : Mm) : Prop := (R119 l2 l3 l4 (l5 + 1) M)
set_option maxRecDepth 100000 in
set_option maxHeartbeats 4000000 in
theorem zb_X1_goOn_157 {X : Cx} {h0 : Nat} {R97 : Int32 → Int32 → Mm → Prop} {R119 : Int32 → Int32 → Option Nat → Int32 → Mm → Prop} {K : Int32 → Mm → Prop} (hX : Ok X cX1_goOn RX1 rm_X1_goOn) (hQ : Rq X rm_X1_goOn (some .int) (QI K)) (hnL : X.2.2.2.2.2.2.2.2.2.2.2.2.2.2 = 6) (hR97 : ∀ l2 l3 M, R97 l2 l3 M → Z X M 0 0 97 [(0, va_rf (some h0)), (2, .int l2), (3, .int l3)] []) (hR119 : ∀ l2 l3 l4 l5 M, R119 l2 l3 l4 l5 M → Z X M 0 0 119 [(0, va_rf (some h0)), (2, .int l2), (3, .int l3), (4, va_rf l4), (5, .int l5)] []) {l2 : Int32} {l3 : Int32} {l4 : Option Nat} {l5 : Int32} {M : Mm} (h : bk_X1_goOn_157 h0 R97 R119 K l2 l3 l4 l5 M) : Z X M 0 0 157 [(0, va_rf (some h0)), (2, .int l2), (3, .int l3), (4, va_rf l4), (5, .int l5)] [] := by
  unfold bk_X1_goOn_157 at h
  refine z_iinc (v := (l5 + 1)) hX [(5, .int (l5 + 1)), (0, va_rf (some h0)), (2, .int l2), (3, .int l3), (4, va_rf l4)] dX1_goOn_157 4 rfl rfl (by rw [hnL]; decide) (by simp [cat_rf]) ?_
  refine z_goto (tgt := 119) hX dX1_goOn_160 (by decide) ?_
  refine z_loc [1, 2, 3, 4, 0] rfl ?_
  exact hR119 _ _ _ _ _ h
def lp_X1_goOn_119 (h0 : Nat) (R97 : Int32 → Int32 → Mm → Prop) (K : Int32 → Mm → Prop) : Nat → Int32 → Int32 → Option Nat → Int32 → Mm → Prop
  | 0, _, _, _, _, _ => False
  | n + 1, l2, l3, l4, l5, M => ((l4 = none → (bk_X1_goOn_163 h0 R97 K l2 l3 M)) ∧ (∀ a1, l4 = some a1 → mK M a1 = 6 ∧ (((mI M 320 a1) ≤ l5 → (bk_X1_goOn_163 h0 R97 K l2 l3 M)) ∧ (¬ (mI M 320 a1) ≤ l5 → ∃ a4, (mR M 327 a1) = some a4 ∧ isA M a4 3 ∧ vp_in l5 (aN M a4) ∧ (((aI M a4 (l5).toNatClampNeg) = 0 → (bk_X1_goOn_157 h0 R97 (lp_X1_goOn_119 h0 R97 K n) K l2 l3 l4 l5 M)) ∧ (¬ (aI M a4 (l5).toNatClampNeg) = 0 → ∃ a8, (mR M 324 a1) = some a8 ∧ isA M a8 1 ∧ vp_in l5 (aN M a8) ∧ (bk_X1_goOn_157 h0 R97 (lp_X1_goOn_119 h0 R97 K n) K (l2 + 1) l3 l4 l5 (tI M a8 (l5).toNatClampNeg (1 : Int32)))))))))
set_option maxRecDepth 100000 in
set_option maxHeartbeats 4000000 in
theorem zl_X1_goOn_119 {X : Cx} {h0 : Nat} {R97 : Int32 → Int32 → Mm → Prop} {K : Int32 → Mm → Prop} (hX : Ok X cX1_goOn RX1 rm_X1_goOn) (hQ : Rq X rm_X1_goOn (some .int) (QI K)) (hnL : X.2.2.2.2.2.2.2.2.2.2.2.2.2.2 = 6) (hR97 : ∀ l2 l3 M, R97 l2 l3 M → Z X M 0 0 97 [(0, va_rf (some h0)), (2, .int l2), (3, .int l3)] []) : ∀ (n : Nat) (l2 : Int32) (l3 : Int32) (l4 : Option Nat) (l5 : Int32) (M : Mm), lp_X1_goOn_119 h0 R97 K n l2 l3 l4 l5 M → Z X M 0 0 119 [(0, va_rf (some h0)), (2, .int l2), (3, .int l3), (4, va_rf l4), (5, .int l5)] [] := by
  intro n
  induction n with
  | zero =>
    intro l2 l3 l4 l5 M h
    exact False.elim h
  | succ n hR119 =>
    intro l2 l3 l4 l5 M h
    refine z_aload (r := l4) hX dX1_goOn_119 3 rfl ?_
    obtain ⟨h1, h2⟩ := h
    refine z_ifnull (r := l4) (tgt := 163) hX dX1_goOn_121 (by decide) (fun hc => ?_) (fun a1 ha2 => ?_)
    · have h := h1 hc
      refine z_loc [0, 1, 2] rfl ?_
      exact zb_X1_goOn_163 hX hQ hnL hR97 h
    · have h := h2 a1 ha2
      refine z_iload hX dX1_goOn_124 4 rfl ?_
      refine z_aload (r := l4) hX dX1_goOn_126 3 rfl ?_
      obtain ⟨hk3, h⟩ := h
      refine gf_RX1_88 (r := l4) hX dX1_goOn_128 ha2 hk3 ?_
      obtain ⟨h1, h2⟩ := h
      refine z_icmp_ge (tgt := 163) hX dX1_goOn_131 (by decide) (fun hc => ?_) (fun hc => ?_)
      · have h := h1 hc
        refine z_loc [0, 1, 2] rfl ?_
        exact zb_X1_goOn_163 hX hQ hnL hR97 h
      · have h := h2 hc
        refine z_aload (r := l4) hX dX1_goOn_134 3 rfl ?_
        refine gf_RX1_121 (r := l4) hX dX1_goOn_136 ha2 hk3 ?_
        refine z_iload hX dX1_goOn_139 4 rfl ?_
        obtain ⟨a4, ha5, h⟩ := h
        obtain ⟨hk6, h⟩ := h
        obtain ⟨hc7, h⟩ := h
        refine y_zald (r := (mR M 327 a1)) hX dX1_goOn_141 ha5 hk6 hc7 ?_
        obtain ⟨h1, h2⟩ := h
        refine z_if_eq (tgt := 157) hX dX1_goOn_142 (by decide) (fun hc => ?_) (fun hc => ?_)
        · have h := h1 hc
          exact zb_X1_goOn_157 hX hQ hnL hR97 hR119 h
        · have h := h2 hc
          refine z_aload (r := l4) hX dX1_goOn_145 3 rfl ?_
          refine gf_RX1_45 (r := l4) hX dX1_goOn_147 ha2 hk3 ?_
          refine z_iload hX dX1_goOn_150 4 rfl ?_
          refine z_iconst (v := (1 : Int32)) hX dX1_goOn_152 (by decide) ?_
          obtain ⟨a8, ha9, h⟩ := h
          obtain ⟨hk10, h⟩ := h
          obtain ⟨hc11, h⟩ := h
          refine y_iast (r := (mR M 324 a1)) hX dX1_goOn_153 ha9 hk10 hc11 ?_
          refine z_iinc (v := (l2 + 1)) hX [(2, .int (l2 + 1)), (0, va_rf (some h0)), (3, .int l3), (4, va_rf l4), (5, .int l5)] dX1_goOn_154 1 rfl rfl (by rw [hnL]; decide) rfl ?_
          refine z_loc [1, 0, 2, 3, 4] rfl ?_
          exact zb_X1_goOn_157 hX hQ hnL hR97 hR119 h
def lp_X1_goOn_97 (h0 : Nat) (K : Int32 → Mm → Prop) : Nat → Int32 → Int32 → Mm → Prop
  | 0, _, _, _ => False
  | n + 1, l2, l3, M => mK M h0 = 2 ∧ (((mI M 69 h0) ≤ l3 → (K l2 M)) ∧ (¬ (mI M 69 h0) ≤ l3 → ∃ a13, (mR M 66 h0) = some a13 ∧ isA M a13 4 ∧ vp_in l3 (aN M a13) ∧ ∃ a17, (aR M a13 (l3).toNatClampNeg) = some a17 ∧ mK M a17 = 7 ∧ (∃ kk, lp_X1_goOn_119 h0 (lp_X1_goOn_97 h0 K n) K kk l2 l3 (mR M 393 a17) (0 : Int32) M)))
set_option maxRecDepth 100000 in
set_option maxHeartbeats 4000000 in
theorem zl_X1_goOn_97 {X : Cx} {h0 : Nat} {K : Int32 → Mm → Prop} (hX : Ok X cX1_goOn RX1 rm_X1_goOn) (hQ : Rq X rm_X1_goOn (some .int) (QI K)) (hnL : X.2.2.2.2.2.2.2.2.2.2.2.2.2.2 = 6) : ∀ (n : Nat) (l2 : Int32) (l3 : Int32) (M : Mm), lp_X1_goOn_97 h0 K n l2 l3 M → Z X M 0 0 97 [(0, va_rf (some h0)), (2, .int l2), (3, .int l3)] [] := by
  intro n
  induction n with
  | zero =>
    intro l2 l3 M h
    exact False.elim h
  | succ n hR97 =>
    intro l2 l3 M h
    refine z_iload_n hX dX1_goOn_97 rfl 2 rfl ?_
    refine z_aload_n (r := (some h0)) hX dX1_goOn_98 rfl 0 rfl ?_
    obtain ⟨hk12, h⟩ := h
    refine gf_RX1_37 (r := (some h0)) hX dX1_goOn_99 rfl hk12 ?_
    obtain ⟨h1, h2⟩ := h
    refine z_icmp_ge (tgt := 169) hX dX1_goOn_102 (by decide) (fun hc => ?_) (fun hc => ?_)
    · have h := h1 hc
      refine z_iload_n hX dX1_goOn_169 rfl 1 rfl ?_
      exact z_iret hX hQ dX1_goOn_170 h
    · have h := h2 hc
      refine z_aload_n (r := (some h0)) hX dX1_goOn_105 rfl 0 rfl ?_
      refine gf_RX1_20 (r := (some h0)) hX dX1_goOn_106 rfl hk12 ?_
      refine z_iload_n hX dX1_goOn_109 rfl 2 rfl ?_
      obtain ⟨a13, ha14, h⟩ := h
      obtain ⟨hk15, h⟩ := h
      obtain ⟨hc16, h⟩ := h
      refine y_aldq (r := (mR M 66 h0)) hX dX1_goOn_110 ha14 hk15 hc16 ?_
      obtain ⟨a17, ha18, h⟩ := h
      obtain ⟨hk19, h⟩ := h
      refine gf_RX1_60 (r := (aR M a13 (l3).toNatClampNeg)) hX dX1_goOn_111 ha18 hk19 ?_
      refine z_astore (r := (mR M 393 a17)) hX [(4, va_rf (mR M 393 a17)), (0, va_rf (some h0)), (2, .int l2), (3, .int l3)] dX1_goOn_114 (by rw [hnL]; decide) rfl ?_
      refine z_iconst (v := (0 : Int32)) hX dX1_goOn_116 (by decide) ?_
      refine z_istore (i := 5) hX [(5, .int (0 : Int32)), (4, va_rf (mR M 393 a17)), (0, va_rf (some h0)), (2, .int l2), (3, .int l3)] dX1_goOn_117 (by rw [hnL]; decide) (by simp [cat_rf]) ?_
      refine z_loc [2, 3, 4, 1, 0] rfl ?_
      obtain ⟨n, h⟩ := h
      exact zl_X1_goOn_119 hX hQ hnL hR97 n _ _ _ _ _ h
def bk_X1_goOn_87 (h0 : Nat) (R12 : Int32 → Mm → Prop) (K : Int32 → Mm → Prop) (l2 : Int32) (M : Mm) : Prop := (R12 (l2 + 1) M)
set_option maxRecDepth 100000 in
set_option maxHeartbeats 4000000 in
theorem zb_X1_goOn_87 {X : Cx} {h0 : Nat} {R12 : Int32 → Mm → Prop} {K : Int32 → Mm → Prop} (hX : Ok X cX1_goOn RX1 rm_X1_goOn) (hQ : Rq X rm_X1_goOn (some .int) (QI K)) (hnL : X.2.2.2.2.2.2.2.2.2.2.2.2.2.2 = 6) (hR12 : ∀ l2 M, R12 l2 M → Z X M 0 0 12 [(0, va_rf (some h0)), (2, .int l2)] []) {l2 : Int32} {M : Mm} (h : bk_X1_goOn_87 h0 R12 K l2 M) : Z X M 0 0 87 [(0, va_rf (some h0)), (2, .int l2)] [] := by
  unfold bk_X1_goOn_87 at h
  refine z_iinc (v := (l2 + 1)) hX [(2, .int (l2 + 1)), (0, va_rf (some h0))] dX1_goOn_87 1 rfl rfl (by rw [hnL]; decide) rfl ?_
  refine z_goto (tgt := 12) hX dX1_goOn_90 (by decide) ?_
  refine z_loc [1, 0] rfl ?_
  exact hR12 _ _ h
def bk_X1_goOn_80 (h0 : Nat) (R12 : Int32 → Mm → Prop) (R33 : Int32 → Option Nat → Int32 → Mm → Prop) (K : Int32 → Mm → Prop) (l2 : Int32) (l3 : Option Nat) (l4 : Int32) (s0 : Int32) (s1 : Int32) (s2 : Option Nat) (M : Mm) : Prop := ∃ a20, s2 = some a20 ∧ isA M a20 3 ∧ vp_in s1 (aN M a20) ∧ bz s0 ∧ (R33 l2 l3 (l4 + 1) (tI M a20 (s1).toNatClampNeg s0))
set_option maxRecDepth 100000 in
set_option maxHeartbeats 4000000 in
theorem zb_X1_goOn_80 {X : Cx} {h0 : Nat} {R12 : Int32 → Mm → Prop} {R33 : Int32 → Option Nat → Int32 → Mm → Prop} {K : Int32 → Mm → Prop} (hX : Ok X cX1_goOn RX1 rm_X1_goOn) (hQ : Rq X rm_X1_goOn (some .int) (QI K)) (hnL : X.2.2.2.2.2.2.2.2.2.2.2.2.2.2 = 6) (hR12 : ∀ l2 M, R12 l2 M → Z X M 0 0 12 [(0, va_rf (some h0)), (2, .int l2)] []) (hR33 : ∀ l2 l3 l4 M, R33 l2 l3 l4 M → Z X M 0 0 33 [(0, va_rf (some h0)), (2, .int l2), (3, va_rf l3), (4, .int l4)] []) {l2 : Int32} {l3 : Option Nat} {l4 : Int32} {s0 : Int32} {s1 : Int32} {s2 : Option Nat} {M : Mm} (h : bk_X1_goOn_80 h0 R12 R33 K l2 l3 l4 s0 s1 s2 M) : Z X M 0 0 80 [(0, va_rf (some h0)), (2, .int l2), (3, va_rf l3), (4, .int l4)] [.int s0, .int s1, va_rf s2] := by
  unfold bk_X1_goOn_80 at h
  obtain ⟨a20, ha21, h⟩ := h
  obtain ⟨hk22, h⟩ := h
  obtain ⟨hc23, h⟩ := h
  obtain ⟨hc24, h⟩ := h
  refine y_zast (r := s2) hX dX1_goOn_80 ha21 hk22 hc23 hc24  ?_
  refine z_iinc (v := (l4 + 1)) hX [(4, .int (l4 + 1)), (0, va_rf (some h0)), (2, .int l2), (3, va_rf l3)] dX1_goOn_81 3 rfl rfl (by rw [hnL]; decide) (by simp [cat_rf]) ?_
  refine z_goto (tgt := 33) hX dX1_goOn_84 (by decide) ?_
  refine z_loc [1, 2, 3, 0] rfl ?_
  exact hR33 _ _ _ _ h
def bk_X1_goOn_79 (h0 : Nat) (R12 : Int32 → Mm → Prop) (R33 : Int32 → Option Nat → Int32 → Mm → Prop) (K : Int32 → Mm → Prop) (l2 : Int32) (l3 : Option Nat) (l4 : Int32) (s0 : Int32) (s1 : Option Nat) (M : Mm) : Prop := (bk_X1_goOn_80 h0 R12 R33 K l2 l3 l4 (0 : Int32) s0 s1 M)
set_option maxRecDepth 100000 in
set_option maxHeartbeats 4000000 in
theorem zb_X1_goOn_79 {X : Cx} {h0 : Nat} {R12 : Int32 → Mm → Prop} {R33 : Int32 → Option Nat → Int32 → Mm → Prop} {K : Int32 → Mm → Prop} (hX : Ok X cX1_goOn RX1 rm_X1_goOn) (hQ : Rq X rm_X1_goOn (some .int) (QI K)) (hnL : X.2.2.2.2.2.2.2.2.2.2.2.2.2.2 = 6) (hR12 : ∀ l2 M, R12 l2 M → Z X M 0 0 12 [(0, va_rf (some h0)), (2, .int l2)] []) (hR33 : ∀ l2 l3 l4 M, R33 l2 l3 l4 M → Z X M 0 0 33 [(0, va_rf (some h0)), (2, .int l2), (3, va_rf l3), (4, .int l4)] []) {l2 : Int32} {l3 : Option Nat} {l4 : Int32} {s0 : Int32} {s1 : Option Nat} {M : Mm} (h : bk_X1_goOn_79 h0 R12 R33 K l2 l3 l4 s0 s1 M) : Z X M 0 0 79 [(0, va_rf (some h0)), (2, .int l2), (3, va_rf l3), (4, .int l4)] [.int s0, va_rf s1] := by
  unfold bk_X1_goOn_79 at h
  refine z_iconst (v := (0 : Int32)) hX dX1_goOn_79 (by decide) ?_
  exact zb_X1_goOn_80 hX hQ hnL hR12 hR33 h
def lp_X1_goOn_33 (h0 : Nat) (R12 : Int32 → Mm → Prop) (K : Int32 → Mm → Prop) : Nat → Int32 → Option Nat → Int32 → Mm → Prop
  | 0, _, _, _, _ => False
  | n + 1, l2, l3, l4, M => ((l3 = none → (bk_X1_goOn_87 h0 R12 K l2 M)) ∧ (∀ a25, l3 = some a25 → mK M a25 = 6 ∧ (((mI M 320 a25) ≤ l4 → (bk_X1_goOn_87 h0 R12 K l2 M)) ∧ (¬ (mI M 320 a25) ≤ l4 → mK M h0 = 2 ∧ (wp_X5_isSilent M a25 l4 (mI M 70 h0) (fun r29 M30 => ((r29 = 0 → (bk_X1_goOn_79 h0 R12 (lp_X1_goOn_33 h0 R12 K n) K l2 l3 l4 l4 (mR M 327 a25) M30)) ∧ (¬ r29 = 0 → mK M30 h0 = 2 ∧ (wp_X1_isStopped M30 h0 l3 l4 (fun r32 M33 => ((¬ r32 = 0 → (bk_X1_goOn_79 h0 R12 (lp_X1_goOn_33 h0 R12 K n) K l2 l3 l4 l4 (mR M 327 a25) M33)) ∧ (r32 = 0 → (bk_X1_goOn_80 h0 R12 (lp_X1_goOn_33 h0 R12 K n) K l2 l3 l4 (1 : Int32) l4 (mR M 327 a25) M33)))))))))))))
set_option maxRecDepth 100000 in
set_option maxHeartbeats 4000000 in
theorem zl_X1_goOn_33 {X : Cx} {h0 : Nat} {R12 : Int32 → Mm → Prop} {K : Int32 → Mm → Prop} (hX : Ok X cX1_goOn RX1 rm_X1_goOn) (hQ : Rq X rm_X1_goOn (some .int) (QI K)) (hnL : X.2.2.2.2.2.2.2.2.2.2.2.2.2.2 = 6) (hR12 : ∀ l2 M, R12 l2 M → Z X M 0 0 12 [(0, va_rf (some h0)), (2, .int l2)] []) : ∀ (n : Nat) (l2 : Int32) (l3 : Option Nat) (l4 : Int32) (M : Mm), lp_X1_goOn_33 h0 R12 K n l2 l3 l4 M → Z X M 0 0 33 [(0, va_rf (some h0)), (2, .int l2), (3, va_rf l3), (4, .int l4)] [] := by
  intro n
  induction n with
  | zero =>
    intro l2 l3 l4 M h
    exact False.elim h
  | succ n hR33 =>
    intro l2 l3 l4 M h
    refine z_aload_n (r := l3) hX dX1_goOn_33 rfl 2 rfl ?_
    obtain ⟨h1, h2⟩ := h
    refine z_ifnull (r := l3) (tgt := 87) hX dX1_goOn_34 (by decide) (fun hc => ?_) (fun a25 ha26 => ?_)
    · have h := h1 hc
      refine z_loc [0, 1] rfl ?_
      exact zb_X1_goOn_87 hX hQ hnL hR12 h
    · have h := h2 a25 ha26
      refine z_iload hX dX1_goOn_37 3 rfl ?_
      refine z_aload_n (r := l3) hX dX1_goOn_39 rfl 2 rfl ?_
      obtain ⟨hk27, h⟩ := h
      refine gf_RX1_88 (r := l3) hX dX1_goOn_40 ha26 hk27 ?_
      obtain ⟨h1, h2⟩ := h
      refine z_icmp_ge (tgt := 87) hX dX1_goOn_43 (by decide) (fun hc => ?_) (fun hc => ?_)
      · have h := h1 hc
        refine z_loc [0, 1] rfl ?_
        exact zb_X1_goOn_87 hX hQ hnL hR12 h
      · have h := h2 hc
        refine z_aload_n (r := l3) hX dX1_goOn_46 rfl 2 rfl ?_
        refine gf_RX1_121 (r := l3) hX dX1_goOn_47 ha26 hk27 ?_
        refine z_iload hX dX1_goOn_50 3 rfl ?_
        refine z_aload_n (r := l3) hX dX1_goOn_52 rfl 2 rfl ?_
        refine z_iload hX dX1_goOn_53 3 rfl ?_
        refine z_aload_n (r := (some h0)) hX dX1_goOn_55 rfl 0 rfl ?_
        obtain ⟨hk28, h⟩ := h
        refine gf_RX1_91 (r := (some h0)) hX dX1_goOn_56 rfl hk28 ?_
        refine z_callVI (As := [.int l4, .int (mI M 70 h0)]) (rest := [.int l4, va_rf (mR M 327 a25)]) (ci := 5) hX (ct_X5_isSilent h) mw_RX1_125 rfl (by decide) rfl (by rw [ha26]; rfl) (by unfold RoomC; decide) (by simp only [List.map_cons, List.map_nil, List.sum_cons, List.sum_nil, cat_rf, cat_i, cat_j]; decide) dX1_goOn_59 hk27 (fun r29 M30 h => ?_)
        obtain ⟨h1, h2⟩ := h
        refine z_if_eq (tgt := 79) hX dX1_goOn_62 (by decide) (fun hc => ?_) (fun hc => ?_)
        · have h := h1 hc
          exact zb_X1_goOn_79 hX hQ hnL hR12 hR33 h
        · have h := h2 hc
          refine z_aload_n (r := (some h0)) hX dX1_goOn_65 rfl 0 rfl ?_
          refine z_aload_n (r := l3) hX dX1_goOn_66 rfl 2 rfl ?_
          refine z_iload hX dX1_goOn_67 3 rfl ?_
          obtain ⟨hk34, h⟩ := h
          refine z_callVI (As := [va_rf l3, .int l4]) (rest := [.int l4, va_rf (mR M 327 a25)]) (ci := 1) hX (ct_X1_isStopped h) mw_RX1_80 rfl (by decide) rfl (by rfl) (by unfold RoomC; decide) (by simp only [List.map_cons, List.map_nil, List.sum_cons, List.sum_nil, cat_rf, cat_i, cat_j]; decide) dX1_goOn_69 hk34 (fun r32 M33 h => ?_)
          obtain ⟨h1, h2⟩ := h
          refine z_if_ne (tgt := 79) hX dX1_goOn_72 (by decide) (fun hc => ?_) (fun hc => ?_)
          · have h := h1 hc
            exact zb_X1_goOn_79 hX hQ hnL hR12 hR33 h
          · have h := h2 hc
            refine z_iconst (v := (1 : Int32)) hX dX1_goOn_75 (by decide) ?_
            refine z_goto (tgt := 80) hX dX1_goOn_76 (by decide) ?_
            exact zb_X1_goOn_80 hX hQ hnL hR12 hR33 h
def lp_X1_goOn_12 (h0 : Nat) (K : Int32 → Mm → Prop) : Nat → Int32 → Mm → Prop
  | 0, _, _ => False
  | n + 1, l2, M => mK M h0 = 2 ∧ (((mI M 69 h0) ≤ l2 → (∃ kk, lp_X1_goOn_97 h0 K kk (0 : Int32) (0 : Int32) M)) ∧ (¬ (mI M 69 h0) ≤ l2 → ∃ a37, (mR M 66 h0) = some a37 ∧ isA M a37 4 ∧ vp_in l2 (aN M a37) ∧ ∃ a41, (aR M a37 (l2).toNatClampNeg) = some a41 ∧ mK M a41 = 7 ∧ (∃ kk, lp_X1_goOn_33 h0 (lp_X1_goOn_12 h0 K n) K kk l2 (mR M 393 a41) (0 : Int32) M)))
set_option maxRecDepth 100000 in
set_option maxHeartbeats 4000000 in
theorem zl_X1_goOn_12 {X : Cx} {h0 : Nat} {K : Int32 → Mm → Prop} (hX : Ok X cX1_goOn RX1 rm_X1_goOn) (hQ : Rq X rm_X1_goOn (some .int) (QI K)) (hnL : X.2.2.2.2.2.2.2.2.2.2.2.2.2.2 = 6) : ∀ (n : Nat) (l2 : Int32) (M : Mm), lp_X1_goOn_12 h0 K n l2 M → Z X M 0 0 12 [(0, va_rf (some h0)), (2, .int l2)] [] := by
  intro n
  induction n with
  | zero =>
    intro l2 M h
    exact False.elim h
  | succ n hR12 =>
    intro l2 M h
    refine z_iload_n hX dX1_goOn_12 rfl 1 rfl ?_
    refine z_aload_n (r := (some h0)) hX dX1_goOn_13 rfl 0 rfl ?_
    obtain ⟨hk36, h⟩ := h
    refine gf_RX1_37 (r := (some h0)) hX dX1_goOn_14 rfl hk36 ?_
    obtain ⟨h1, h2⟩ := h
    refine z_icmp_ge (tgt := 93) hX dX1_goOn_17 (by decide) (fun hc => ?_) (fun hc => ?_)
    · have h := h1 hc
      refine z_iconst (v := (0 : Int32)) hX dX1_goOn_93 (by decide) ?_
      refine z_istore_n hX [(2, .int (0 : Int32)), (0, va_rf (some h0))] dX1_goOn_94 rfl (by rw [hnL]; decide) rfl ?_
      refine z_iconst (v := (0 : Int32)) hX dX1_goOn_95 (by decide) ?_
      refine z_istore_n hX [(3, .int (0 : Int32)), (2, .int (0 : Int32)), (0, va_rf (some h0))] dX1_goOn_96 rfl (by rw [hnL]; decide) rfl ?_
      refine z_loc [2, 1, 0] rfl ?_
      obtain ⟨n, h⟩ := h
      exact zl_X1_goOn_97 hX hQ hnL n _ _ _ h
    · have h := h2 hc
      refine z_aload_n (r := (some h0)) hX dX1_goOn_20 rfl 0 rfl ?_
      refine gf_RX1_20 (r := (some h0)) hX dX1_goOn_21 rfl hk36 ?_
      refine z_iload_n hX dX1_goOn_24 rfl 1 rfl ?_
      obtain ⟨a37, ha38, h⟩ := h
      obtain ⟨hk39, h⟩ := h
      obtain ⟨hc40, h⟩ := h
      refine y_aldq (r := (mR M 66 h0)) hX dX1_goOn_25 ha38 hk39 hc40 ?_
      obtain ⟨a41, ha42, h⟩ := h
      obtain ⟨hk43, h⟩ := h
      refine gf_RX1_60 (r := (aR M a37 (l2).toNatClampNeg)) hX dX1_goOn_26 ha42 hk43 ?_
      refine z_astore_n (r := (mR M 393 a41)) hX [(3, va_rf (mR M 393 a41)), (0, va_rf (some h0)), (2, .int l2)] dX1_goOn_29 rfl (by rw [hnL]; decide) rfl ?_
      refine z_iconst (v := (0 : Int32)) hX dX1_goOn_30 (by decide) ?_
      refine z_istore (i := 4) hX [(4, .int (0 : Int32)), (3, va_rf (mR M 393 a41)), (0, va_rf (some h0)), (2, .int l2)] dX1_goOn_31 (by rw [hnL]; decide) (by simp [cat_rf]) ?_
      refine z_loc [2, 3, 1, 0] rfl ?_
      obtain ⟨n, h⟩ := h
      exact zl_X1_goOn_33 hX hQ hnL hR12 n _ _ _ _ h
def wp_X1_goOn (M : Mm) (h0 : Nat) (p1 : Int32) (K : Int32 → Mm → Prop) : Prop := mK M h0 = 2 ∧ (∃ kk, lp_X1_goOn_12 h0 K kk (0 : Int32) (sI M 70 h0 ((mI M 70 h0) + p1)))
set_option maxRecDepth 100000 in
set_option maxHeartbeats 4000000 in
theorem ct_X1_goOn {M : Mm} {h0 : Nat} {p1 : Int32} {K : Int32 → Mm → Prop} (h : wp_X1_goOn M h0 p1 K) : CtI yX1_goOn cX1_goOn 6 (some .int) rm_X1_goOn [.ref h0, .int p1] M K := by
  refine ct_any (QI K) (by decide) (by exact Nat.le_of_ble_eq_true rfl) (fun X hX hQ hnL hnm => ?_)
  rw [show lv_args 0 [.ref h0, .int p1] = [(0, va_rf (some h0)), (1, .int p1)] by rfl]
  have hX : Ok X cX1_goOn RX1 rm_X1_goOn := hX
  unfold wp_X1_goOn at h
  refine z_aload_n (r := (some h0)) hX dX1_goOn_0 rfl 0 rfl ?_
  refine z_dup hX dX1_goOn_1 (cat_rf _) ?_
  obtain ⟨hk44, h⟩ := h
  refine gf_RX1_91 (r := (some h0)) hX dX1_goOn_2 rfl hk44 ?_
  refine z_iload_n hX dX1_goOn_5 rfl 1 rfl ?_
  refine z_iadd hX dX1_goOn_6 ?_
  refine pf_RX1_91 (r := (some h0)) (v := ((mI M 70 h0) + p1)) hX dX1_goOn_7 rfl hk44 ?_
  refine z_iconst (v := (0 : Int32)) hX dX1_goOn_10 (by decide) ?_
  refine z_istore_n hX [(2, .int (0 : Int32)), (0, va_rf (some h0)), (1, .int p1)] dX1_goOn_11 rfl (by rw [hnL]; decide) rfl ?_
  refine z_loc [1, 0] rfl ?_
  obtain ⟨n, h⟩ := h
  exact zl_X1_goOn_12 hX hQ hnL n _ _ h
def rm_X1_goalOf : Room := { frames := 3, cells := 0, slots := 0, locals := 66 }
def bk_X1_goalOf_37 (h0 : Nat) (K : Int64 → Mm → Prop) (l1 : Option Nat) (M : Mm) : Prop := ∃ a3, l1 = some a3 ∧ mK M a3 = 7 ∧ (wp_X6_leastOfInputs M a3 (fun r1 M2 => (K r1 M2)))
set_option maxRecDepth 100000 in
set_option maxHeartbeats 4000000 in
theorem zb_X1_goalOf_37 {X : Cx} {h0 : Nat} {K : Int64 → Mm → Prop} (hX : Ok X cX1_goalOf RX1 rm_X1_goalOf) (hQ : Rq X rm_X1_goalOf (some .long) (QJ K)) (hnL : X.2.2.2.2.2.2.2.2.2.2.2.2.2.2 = 5) {l1 : Option Nat} {M : Mm} (h : bk_X1_goalOf_37 h0 K l1 M) : Z X M 0 0 37 [(1, va_rf l1)] [] := by
  unfold bk_X1_goalOf_37 at h
  refine z_aload_n (r := l1) hX dX1_goalOf_37 rfl 0 rfl ?_
  obtain ⟨a3, ha4, h⟩ := h
  obtain ⟨hk5, h⟩ := h
  refine z_callVJ (As := []) (rest := []) (ci := 6) hX (ct_X6_leastOfInputs h) mw_RX1_219 rfl (by decide) rfl (by rw [ha4]; rfl) (by unfold RoomC; decide) (by decide) dX1_goalOf_38 hk5 (fun r1 M2 h => ?_)
  exact z_lret hX hQ dX1_goalOf_41 h
def bk_X1_goalOf_135 (h0 : Nat) (K : Int64 → Mm → Prop) (s0 : Int64) (M : Mm) : Prop := (K s0 M)
set_option maxRecDepth 100000 in
set_option maxHeartbeats 4000000 in
theorem zb_X1_goalOf_135 {X : Cx} {h0 : Nat} {K : Int64 → Mm → Prop} (hX : Ok X cX1_goalOf RX1 rm_X1_goalOf) (hQ : Rq X rm_X1_goalOf (some .long) (QJ K)) (hnL : X.2.2.2.2.2.2.2.2.2.2.2.2.2.2 = 5) {s0 : Int64} {M : Mm} (h : bk_X1_goalOf_135 h0 K s0 M) : Z X M 0 0 135 [] [.long s0] := by
  unfold bk_X1_goalOf_135 at h
  exact z_lret hX hQ dX1_goalOf_135 h
def bk_X1_goalOf_111 (h0 : Nat) (K : Int64 → Mm → Prop) (l1 : Option Nat) (l2 : Option Nat) (M : Mm) : Prop := ∃ a7, l2 = some a7 ∧ mK M a7 = 7 ∧ (((mI M 391 a7) = 0 → ∃ a10, l1 = some a10 ∧ mK M a10 = 7 ∧ (wp_X10_together M (mJ M 390 a7) (mJ M 392 a10) (fun r13 M14 => (bk_X1_goalOf_135 h0 K r13 M14)))) ∧ (¬ (mI M 391 a7) = 0 → (bk_X1_goalOf_135 h0 K (-9000000000000000001 : Int64) M)))
set_option maxRecDepth 100000 in
set_option maxHeartbeats 4000000 in
theorem zb_X1_goalOf_111 {X : Cx} {h0 : Nat} {K : Int64 → Mm → Prop} (hX : Ok X cX1_goalOf RX1 rm_X1_goalOf) (hQ : Rq X rm_X1_goalOf (some .long) (QJ K)) (hnL : X.2.2.2.2.2.2.2.2.2.2.2.2.2.2 = 5) {l1 : Option Nat} {l2 : Option Nat} {M : Mm} (h : bk_X1_goalOf_111 h0 K l1 l2 M) : Z X M 0 0 111 [(1, va_rf l1), (2, va_rf l2)] [] := by
  unfold bk_X1_goalOf_111 at h
  refine z_aload_n (r := l2) hX dX1_goalOf_111 rfl 1 rfl ?_
  obtain ⟨a7, ha8, h⟩ := h
  obtain ⟨hk9, h⟩ := h
  refine gf_RX1_198 (r := l2) hX dX1_goalOf_112 ha8 hk9 ?_
  obtain ⟨h1, h2⟩ := h
  refine z_if_eq (tgt := 124) hX dX1_goalOf_115 (by decide) (fun hc => ?_) (fun hc => ?_)
  · have h := h1 hc
    refine z_aload_n (r := l2) hX dX1_goalOf_124 rfl 1 rfl ?_
    refine gf_RX1_98 (r := l2) hX dX1_goalOf_125 ha8 hk9 ?_
    refine z_aload_n (r := l1) hX dX1_goalOf_128 rfl 0 rfl ?_
    obtain ⟨a10, ha11, h⟩ := h
    obtain ⟨hk12, h⟩ := h
    refine gf_RX1_139 (r := l1) hX dX1_goalOf_129 ha11 hk12 ?_
    refine z_callNJ (As := [.long (mJ M 390 a7), .long (mJ M 392 a10)]) (rest := []) hX (ct_X10_together h) mw_RX1_77 rfl (by rfl) (by unfold RoomC; decide) (by decide) dX1_goalOf_132 (fun r13 M14 h => ?_)
    refine z_loc [] rfl ?_
    exact zb_X1_goalOf_135 hX hQ hnL h
  · have h := h2 hc
    refine z_ldc2 (v := (-9000000000000000001 : Int64)) hX dX1_goalOf_118 kj_RX1_196 ?_
    refine z_goto (tgt := 135) hX dX1_goalOf_121 (by decide) ?_
    refine z_loc [] rfl ?_
    exact zb_X1_goalOf_135 hX hQ hnL h
def bk_X1_goalOf_92 (h0 : Nat) (K : Int64 → Mm → Prop) (l1 : Option Nat) (s0 : Int64) (M : Mm) : Prop := mK M h0 = 2 ∧ ∃ a17, l1 = some a17 ∧ mK M a17 = 7 ∧ ∃ a22, (mR M 68 h0) = some a22 ∧ mK M a22 = 9 ∧ (wp_X8_leastIn M a22 (mI M 384 a17) (fun r20 M21 => (K (if (r20 - (1 : Int64)) < s0 then (r20 - (1 : Int64)) else s0) M21)))
set_option maxRecDepth 100000 in
set_option maxHeartbeats 4000000 in
theorem zb_X1_goalOf_92 {X : Cx} {h0 : Nat} {K : Int64 → Mm → Prop} (hX : Ok X cX1_goalOf RX1 rm_X1_goalOf) (hQ : Rq X rm_X1_goalOf (some .long) (QJ K)) (hnL : X.2.2.2.2.2.2.2.2.2.2.2.2.2.2 = 5) {l1 : Option Nat} {s0 : Int64} {M : Mm} (h : bk_X1_goalOf_92 h0 K l1 s0 M) : Z X M 0 0 92 [(0, va_rf (some h0)), (1, va_rf l1)] [.long s0] := by
  unfold bk_X1_goalOf_92 at h
  refine z_lstore_n hX [(3, .long s0), (0, va_rf (some h0)), (1, va_rf l1)] dX1_goalOf_92 rfl (by rw [hnL]; decide) rfl ?_
  refine z_lload_n hX dX1_goalOf_93 rfl 0 rfl ?_
  refine z_aload_n (r := (some h0)) hX dX1_goalOf_94 rfl 1 rfl ?_
  obtain ⟨hk16, h⟩ := h
  refine gf_RX1_33 (r := (some h0)) hX dX1_goalOf_95 rfl hk16 ?_
  refine z_aload_n (r := l1) hX dX1_goalOf_98 rfl 2 rfl ?_
  obtain ⟨a17, ha18, h⟩ := h
  obtain ⟨hk19, h⟩ := h
  refine gf_RX1_101 (r := l1) hX dX1_goalOf_99 ha18 hk19 ?_
  obtain ⟨a22, ha23, h⟩ := h
  obtain ⟨hk24, h⟩ := h
  refine z_callVJ (As := [.int (mI M 384 a17)]) (rest := [.long s0]) (ci := 8) hX (ct_X8_leastIn h) mw_RX1_225 rfl (by decide) rfl (by rw [ha23]; rfl) (by unfold RoomC; decide) (by simp only [List.map_cons, List.map_nil, List.sum_cons, List.sum_nil, cat_rf, cat_i, cat_j]; decide) dX1_goalOf_102 hk24 (fun r20 M21 h => ?_)
  refine z_lconst (v := (1 : Int64)) hX dX1_goalOf_105 (by decide) ?_
  refine z_lsub hX dX1_goalOf_106 ?_
  refine mw_RX1_68 hX dX1_goalOf_107 (by decide) (by decide) (by decide) (by decide) ?_
  exact z_lret hX hQ dX1_goalOf_110 h
def wp_X1_goalOf (M : Mm) (h0 : Nat) (p1 : Option Nat) (K : Int64 → Mm → Prop) : Prop := ∃ a26, p1 = some a26 ∧ mK M a26 = 7 ∧ (((mR M 393 a26) = none → (((mJ M 386 a26) = (504363577198 : Int64) → (bk_X1_goalOf_37 h0 K p1 M)) ∧ (¬ (mJ M 386 a26) = (504363577198 : Int64) → ((¬ (mJ M 386 a26) = (1785686382 : Int64) → ∃ a31, (mR M 387 a26) = some a31 ∧ isA M a31 4 ∧ vp_in (0 : Int32) (aN M a31) ∧ ((¬ (mJ M 386 a26) = (1752132708 : Int64) → (bk_X1_goalOf_111 h0 K p1 (aR M a31 ((0 : Int32)).toNatClampNeg) M)) ∧ ((mJ M 386 a26) = (1752132708 : Int64) → mK M h0 = 2 ∧ ∃ a38, (mR M 68 h0) = some a38 ∧ mK M a38 = 9 ∧ (wp_X8_countIn M a38 (mI M 384 a26) (fun r36 M37 => ((r36 ≤ 0 → (bk_X1_goalOf_111 h0 K p1 (aR M a31 ((0 : Int32)).toNatClampNeg) M37)) ∧ (¬ r36 ≤ 0 → ∃ a42, (aR M a31 ((0 : Int32)).toNatClampNeg) = some a42 ∧ mK M37 a42 = 7 ∧ (((mI M37 391 a42) = 0 → (bk_X1_goalOf_92 h0 K p1 (mJ M37 390 a42) M37)) ∧ (¬ (mI M37 391 a42) = 0 → mK M37 a26 = 7 ∧ (bk_X1_goalOf_92 h0 K p1 (mJ M37 390 a26) M37)))))))))) ∧ ((mJ M 386 a26) = (1785686382 : Int64) → (bk_X1_goalOf_37 h0 K p1 M)))))) ∧ (∀ a29, (mR M 393 a26) = some a29 → mK M a29 = 6 ∧ (wp_X5_goal M a29 (fun r46 M47 => (K r46 M47)))))
set_option maxRecDepth 100000 in
set_option maxHeartbeats 4000000 in
theorem ct_X1_goalOf {M : Mm} {h0 : Nat} {p1 : Option Nat} {K : Int64 → Mm → Prop} (h : wp_X1_goalOf M h0 p1 K) : CtJ yX1_goalOf cX1_goalOf 5 (some .long) rm_X1_goalOf [.ref h0, va_rf p1] M K := by
  refine ct_any (QJ K) (by decide) (by cases p1 <;> exact Nat.le_of_ble_eq_true rfl) (fun X hX hQ hnL hnm => ?_)
  rw [show lv_args 0 [.ref h0, va_rf p1] = [(0, va_rf (some h0)), (1, va_rf p1)] by cases p1 <;> rfl]
  have hX : Ok X cX1_goalOf RX1 rm_X1_goalOf := hX
  unfold wp_X1_goalOf at h
  refine z_aload_n (r := p1) hX dX1_goalOf_0 rfl 1 rfl ?_
  obtain ⟨a26, ha27, h⟩ := h
  obtain ⟨hk28, h⟩ := h
  refine gf_RX1_60 (r := p1) hX dX1_goalOf_1 ha27 hk28 ?_
  obtain ⟨h1, h2⟩ := h
  refine z_ifnull (r := (mR M 393 a26)) (tgt := 15) hX dX1_goalOf_4 (by decide) (fun hc => ?_) (fun a29 ha30 => ?_)
  · have h := h1 hc
    refine z_aload_n (r := p1) hX dX1_goalOf_15 rfl 1 rfl ?_
    refine gf_RX1_212 (r := p1) hX dX1_goalOf_16 ha27 hk28 ?_
    refine z_ldc2 (v := (504363577198 : Int64)) hX dX1_goalOf_19 kj_RX1_215 ?_
    refine z_lcmp hX dX1_goalOf_22 ?_
    obtain ⟨h1, h2⟩ := h
    refine z_if_eq (tgt := 37) hX dX1_goalOf_23 (by decide) (fun hc => ?_) (fun hc => ?_)
    · have h := h1 ((lg_cmp_eq _ _).mp hc)
      refine z_loc [1] rfl ?_
      exact zb_X1_goalOf_37 hX hQ hnL h
    · have h := h2 (fun q => hc ((lg_cmp_eq _ _).mpr q))
      refine z_aload_n (r := p1) hX dX1_goalOf_26 rfl 1 rfl ?_
      refine gf_RX1_212 (r := p1) hX dX1_goalOf_27 ha27 hk28 ?_
      refine z_ldc2 (v := (1785686382 : Int64)) hX dX1_goalOf_30 kj_RX1_217 ?_
      refine z_lcmp hX dX1_goalOf_33 ?_
      obtain ⟨h1, h2⟩ := h
      refine z_if_ne (tgt := 42) hX dX1_goalOf_34 (by decide) (fun hc => ?_) (fun hc => ?_)
      · have h := h1 (fun q => hc ((lg_cmp_eq _ _).mpr q))
        refine z_aload_n (r := p1) hX dX1_goalOf_42 rfl 1 rfl ?_
        refine gf_RX1_159 (r := p1) hX dX1_goalOf_43 ha27 hk28 ?_
        refine z_iconst (v := (0 : Int32)) hX dX1_goalOf_46 (by decide) ?_
        obtain ⟨a31, ha32, h⟩ := h
        obtain ⟨hk33, h⟩ := h
        obtain ⟨hc34, h⟩ := h
        refine y_aldq (r := (mR M 387 a26)) hX dX1_goalOf_47 ha32 hk33 hc34 ?_
        refine z_astore_n (r := (aR M a31 ((0 : Int32)).toNatClampNeg)) (i := 2) hX [(2, va_rf (aR M a31 ((0 : Int32)).toNatClampNeg)), (0, va_rf (some h0)), (1, va_rf p1)] dX1_goalOf_48 rfl (by rw [hnL]; decide) (by simp [cat_rf]) ?_
        refine z_aload_n (r := p1) hX dX1_goalOf_49 rfl 2 rfl ?_
        refine gf_RX1_212 (r := p1) hX dX1_goalOf_50 ha27 hk28 ?_
        refine z_ldc2 (v := (1752132708 : Int64)) hX dX1_goalOf_53 kj_RX1_222 ?_
        refine z_lcmp hX dX1_goalOf_56 ?_
        obtain ⟨h1, h2⟩ := h
        refine z_if_ne (tgt := 111) hX dX1_goalOf_57 (by decide) (fun hc => ?_) (fun hc => ?_)
        · have h := h1 (fun q => hc ((lg_cmp_eq _ _).mpr q))
          refine z_loc [2, 0] rfl ?_
          exact zb_X1_goalOf_111 hX hQ hnL h
        · have h := h2 ((lg_cmp_eq _ _).mp hc)
          refine z_aload_n (r := (some h0)) hX dX1_goalOf_60 rfl 1 rfl ?_
          obtain ⟨hk35, h⟩ := h
          refine gf_RX1_33 (r := (some h0)) hX dX1_goalOf_61 rfl hk35 ?_
          refine z_aload_n (r := p1) hX dX1_goalOf_64 rfl 2 rfl ?_
          refine gf_RX1_101 (r := p1) hX dX1_goalOf_65 ha27 hk28 ?_
          obtain ⟨a38, ha39, h⟩ := h
          obtain ⟨hk40, h⟩ := h
          refine z_callVI (As := [.int (mI M 384 a26)]) (rest := []) (ci := 8) hX (ct_X8_countIn h) mw_RX1_224 rfl (by decide) rfl (by rw [ha39]; rfl) (by unfold RoomC; decide) (by decide) dX1_goalOf_68 hk40 (fun r36 M37 h => ?_)
          obtain ⟨h1, h2⟩ := h
          refine z_if_le (tgt := 111) hX dX1_goalOf_71 (by decide) (fun hc => ?_) (fun hc => ?_)
          · have h := h1 hc
            refine z_loc [2, 0] rfl ?_
            exact zb_X1_goalOf_111 hX hQ hnL h
          · have h := h2 hc
            refine z_aload_n (r := (aR M a31 ((0 : Int32)).toNatClampNeg)) hX dX1_goalOf_74 rfl 0 rfl ?_
            obtain ⟨a42, ha43, h⟩ := h
            obtain ⟨hk44, h⟩ := h
            refine gf_RX1_198 (r := (aR M a31 ((0 : Int32)).toNatClampNeg)) hX dX1_goalOf_75 ha43 hk44 ?_
            obtain ⟨h1, h2⟩ := h
            refine z_if_eq (tgt := 88) hX dX1_goalOf_78 (by decide) (fun hc => ?_) (fun hc => ?_)
            · have h := h1 hc
              refine z_aload_n (r := (aR M a31 ((0 : Int32)).toNatClampNeg)) hX dX1_goalOf_88 rfl 0 rfl ?_
              refine gf_RX1_98 (r := (aR M a31 ((0 : Int32)).toNatClampNeg)) hX dX1_goalOf_89 ha43 hk44 ?_
              refine z_loc [1, 2] rfl ?_
              exact zb_X1_goalOf_92 hX hQ hnL h
            · have h := h2 hc
              refine z_aload_n (r := p1) hX dX1_goalOf_81 rfl 2 rfl ?_
              obtain ⟨hk45, h⟩ := h
              refine gf_RX1_98 (r := p1) hX dX1_goalOf_82 ha27 hk45 ?_
              refine z_goto (tgt := 92) hX dX1_goalOf_85 (by decide) ?_
              refine z_loc [1, 2] rfl ?_
              exact zb_X1_goalOf_92 hX hQ hnL h
      · have h := h2 ((lg_cmp_eq _ _).mp hc)
        refine z_loc [1] rfl ?_
        exact zb_X1_goalOf_37 hX hQ hnL h
  · have h := h2 a29 ha30
    refine z_aload_n (r := p1) hX dX1_goalOf_7 rfl 1 rfl ?_
    refine gf_RX1_60 (r := p1) hX dX1_goalOf_8 ha27 hk28 ?_
    obtain ⟨hk48, h⟩ := h
    refine z_callVJ (As := []) (rest := []) (ci := 5) hX (ct_X5_goal h) mw_RX1_209 rfl (by decide) rfl (by rw [ha30]; rfl) (by unfold RoomC; decide) (by decide) dX1_goalOf_11 hk48 (fun r46 M47 h => ?_)
    exact z_lret hX hQ dX1_goalOf_14 h
def rm_X1_write : Room := { frames := 4, cells := 0, slots := 0, locals := 92 }
def lp_X1_write_2 (h0 : Nat) (K : Mm → Prop) : Nat → Option Nat → Int32 → Mm → Prop
  | 0, _, _, _ => False
  | n + 1, l1, l2, M => mK M h0 = 2 ∧ (((mI M 69 h0) ≤ l2 → (K M)) ∧ (¬ (mI M 69 h0) ≤ l2 → ∃ a2, (mR M 66 h0) = some a2 ∧ isA M a2 4 ∧ vp_in l2 (aN M a2) ∧ ∃ a8, (aR M a2 (l2).toNatClampNeg) = some a8 ∧ mK M a8 = 7 ∧ (wp_X6_write M a8 l1 (fun M7 => ((lp_X1_write_2 h0 K n) l1 (l2 + 1) M7)))))
set_option maxRecDepth 100000 in
set_option maxHeartbeats 4000000 in
theorem zl_X1_write_2 {X : Cx} {h0 : Nat} {K : Mm → Prop} (hX : Ok X cX1_write RX1 rm_X1_write) (hQ : Rq X rm_X1_write none (QV K)) (hnL : X.2.2.2.2.2.2.2.2.2.2.2.2.2.2 = 3) : ∀ (n : Nat) (l1 : Option Nat) (l2 : Int32) (M : Mm), lp_X1_write_2 h0 K n l1 l2 M → Z X M 0 0 2 [(0, va_rf (some h0)), (1, va_rf l1), (2, .int l2)] [] := by
  intro n
  induction n with
  | zero =>
    intro l1 l2 M h
    exact False.elim h
  | succ n hR2 =>
    intro l1 l2 M h
    refine z_iload_n hX dX1_write_2 rfl 2 rfl ?_
    refine z_aload_n (r := (some h0)) hX dX1_write_3 rfl 0 rfl ?_
    obtain ⟨hk1, h⟩ := h
    refine gf_RX1_37 (r := (some h0)) hX dX1_write_4 rfl hk1 ?_
    obtain ⟨h1, h2⟩ := h
    refine z_icmp_ge (tgt := 26) hX dX1_write_7 (by decide) (fun hc => ?_) (fun hc => ?_)
    · have h := h1 hc
      exact z_vret hX hQ dX1_write_26 h
    · have h := h2 hc
      refine z_aload_n (r := (some h0)) hX dX1_write_10 rfl 0 rfl ?_
      refine gf_RX1_20 (r := (some h0)) hX dX1_write_11 rfl hk1 ?_
      refine z_iload_n hX dX1_write_14 rfl 2 rfl ?_
      obtain ⟨a2, ha3, h⟩ := h
      obtain ⟨hk4, h⟩ := h
      obtain ⟨hc5, h⟩ := h
      refine y_aldq (r := (mR M 66 h0)) hX dX1_write_15 ha3 hk4 hc5 ?_
      refine z_aload_n (r := l1) hX dX1_write_16 rfl 1 rfl ?_
      obtain ⟨a8, ha9, h⟩ := h
      obtain ⟨hk10, h⟩ := h
      refine z_callVV (As := [va_rf l1]) (rest := []) (ci := 6) hX (ct_X6_write h) mw_RX1_242 rfl (by decide) rfl (by rw [ha9]; rfl) (by unfold RoomC; decide) (by decide) dX1_write_17 hk10 (fun M7 h => ?_)
      refine z_iinc (v := (l2 + 1)) hX [(2, .int (l2 + 1)), (0, va_rf (some h0)), (1, va_rf l1)] dX1_write_20 2 rfl rfl (by rw [hnL]; decide) (by simp [cat_rf]) ?_
      refine z_goto (tgt := 2) hX dX1_write_23 (by decide) ?_
      refine z_loc [1, 2, 0] rfl ?_
      exact hR2 _ _ _ h
def wp_X1_write (M : Mm) (h0 : Nat) (p1 : Option Nat) (K : Mm → Prop) : Prop := (∃ kk, lp_X1_write_2 h0 K kk p1 (0 : Int32) M)
set_option maxRecDepth 100000 in
set_option maxHeartbeats 4000000 in
theorem ct_X1_write {M : Mm} {h0 : Nat} {p1 : Option Nat} {K : Mm → Prop} (h : wp_X1_write M h0 p1 K) : CtV yX1_write cX1_write 3 none rm_X1_write [.ref h0, va_rf p1] M K := by
  refine ct_any (QV K) (by decide) (by cases p1 <;> exact Nat.le_of_ble_eq_true rfl) (fun X hX hQ hnL hnm => ?_)
  rw [show lv_args 0 [.ref h0, va_rf p1] = [(0, va_rf (some h0)), (1, va_rf p1)] by cases p1 <;> rfl]
  have hX : Ok X cX1_write RX1 rm_X1_write := hX
  unfold wp_X1_write at h
  refine z_iconst (v := (0 : Int32)) hX dX1_write_0 (by decide) ?_
  refine z_istore_n (i := 2) hX [(2, .int (0 : Int32)), (0, va_rf (some h0)), (1, va_rf p1)] dX1_write_1 rfl (by rw [hnL]; decide) (by simp [cat_rf]) ?_
  refine z_loc [1, 2, 0] rfl ?_
  obtain ⟨n, h⟩ := h
  exact zl_X1_write_2 hX hQ hnL n _ _ _ h
def rm_X2_meets : Room := { frames := 2, cells := 0, slots := 0, locals := 46 }
def bk_X2_meets_97 (h0 : Nat) (K : Int32 → Mm → Prop) (s0 : Int32) (M : Mm) : Prop := (bz s0 ∧ K s0 M)
set_option maxRecDepth 100000 in
set_option maxHeartbeats 4000000 in
theorem zb_X2_meets_97 {X : Cx} {h0 : Nat} {K : Int32 → Mm → Prop} (hX : Ok X cX2_meets RX2 rm_X2_meets) (hQ : Rq X rm_X2_meets (some .boolean) (QI K)) (hnL : X.2.2.2.2.2.2.2.2.2.2.2.2.2.2 = 11) {s0 : Int32} {M : Mm} (h : bk_X2_meets_97 h0 K s0 M) : Z X M 0 0 97 [] [.int s0] := by
  unfold bk_X2_meets_97 at h
  exact y_zret hX hQ dX2_meets_97 h.1 h.2
def bk_X2_meets_96 (h0 : Nat) (K : Int32 → Mm → Prop) (M : Mm) : Prop := (bk_X2_meets_97 h0 K (0 : Int32) M)
set_option maxRecDepth 100000 in
set_option maxHeartbeats 4000000 in
theorem zb_X2_meets_96 {X : Cx} {h0 : Nat} {K : Int32 → Mm → Prop} (hX : Ok X cX2_meets RX2 rm_X2_meets) (hQ : Rq X rm_X2_meets (some .boolean) (QI K)) (hnL : X.2.2.2.2.2.2.2.2.2.2.2.2.2.2 = 11) {M : Mm} (h : bk_X2_meets_96 h0 K M) : Z X M 0 0 96 [] [] := by
  unfold bk_X2_meets_96 at h
  refine z_iconst (v := (0 : Int32)) hX dX2_meets_96 (by decide) ?_
  exact zb_X2_meets_97 hX hQ hnL h
def bk_X2_meets_60 (h0 : Nat) (K : Int32 → Mm → Prop) (l7 : Int64) (s0 : Int64) (M : Mm) : Prop := mK M h0 = 3 ∧ (wp_X10_together M l7 (mJ M 130 h0) (fun r2 M3 => ((s0 < r2 → (bk_X2_meets_96 h0 K M3)) ∧ (¬ s0 < r2 → mK M3 h0 = 3 ∧ (wp_X10_together M3 l7 (mJ M3 131 h0) (fun r6 M7 => ((r6 < s0 → (bk_X2_meets_96 h0 K M7)) ∧ (¬ r6 < s0 → (bk_X2_meets_97 h0 K (1 : Int32) M7)))))))))
set_option maxRecDepth 100000 in
set_option maxHeartbeats 4000000 in
theorem zb_X2_meets_60 {X : Cx} {h0 : Nat} {K : Int32 → Mm → Prop} (hX : Ok X cX2_meets RX2 rm_X2_meets) (hQ : Rq X rm_X2_meets (some .boolean) (QI K)) (hnL : X.2.2.2.2.2.2.2.2.2.2.2.2.2.2 = 11) {l7 : Int64} {s0 : Int64} {M : Mm} (h : bk_X2_meets_60 h0 K l7 s0 M) : Z X M 0 0 60 [(0, va_rf (some h0)), (7, .long l7)] [.long s0] := by
  unfold bk_X2_meets_60 at h
  refine z_lstore hX [(9, .long s0), (0, va_rf (some h0)), (7, .long l7)] dX2_meets_60 (by rw [hnL]; decide) rfl ?_
  refine z_lload hX dX2_meets_62 2 rfl ?_
  refine z_aload_n (r := (some h0)) hX dX2_meets_64 rfl 1 rfl ?_
  obtain ⟨hk1, h⟩ := h
  refine gf_RX2_18 (r := (some h0)) hX dX2_meets_65 rfl hk1 ?_
  refine z_callNJ (As := [.long l7, .long (mJ M 130 h0)]) (rest := []) hX (ct_X10_together h) mw_RX2_42 rfl (by rfl) (by unfold RoomC; decide) (by decide) dX2_meets_68 (fun r2 M3 h => ?_)
  refine z_lload hX dX2_meets_71 0 rfl ?_
  refine z_lcmp hX dX2_meets_73 ?_
  obtain ⟨h1, h2⟩ := h
  refine z_if_gt (tgt := 96) hX dX2_meets_74 (by decide) (fun hc => ?_) (fun hc => ?_)
  · have h := h1 ((lg_cmp_gt _ _).mp hc)
    refine z_loc [] rfl ?_
    exact zb_X2_meets_96 hX hQ hnL h
  · have h := h2 (fun q => hc ((lg_cmp_gt _ _).mpr q))
    refine z_lload hX dX2_meets_77 0 rfl ?_
    refine z_lload hX dX2_meets_79 2 rfl ?_
    refine z_aload_n (r := (some h0)) hX dX2_meets_81 rfl 1 rfl ?_
    obtain ⟨hk5, h⟩ := h
    refine gf_RX2_22 (r := (some h0)) hX dX2_meets_82 rfl hk5 ?_
    refine z_callNJ (As := [.long l7, .long (mJ M3 131 h0)]) (rest := [.long s0]) hX (ct_X10_together h) mw_RX2_42 rfl (by rfl) (by unfold RoomC; decide) (by simp only [List.map_cons, List.map_nil, List.sum_cons, List.sum_nil, cat_rf, cat_i, cat_j]; decide) dX2_meets_85 (fun r6 M7 h => ?_)
    refine z_lcmp hX dX2_meets_88 ?_
    obtain ⟨h1, h2⟩ := h
    refine z_if_gt (tgt := 96) hX dX2_meets_89 (by decide) (fun hc => ?_) (fun hc => ?_)
    · have h := h1 ((lg_cmp_gt _ _).mp hc)
      refine z_loc [] rfl ?_
      exact zb_X2_meets_96 hX hQ hnL h
    · have h := h2 (fun q => hc ((lg_cmp_gt _ _).mpr q))
      refine z_iconst (v := (1 : Int32)) hX dX2_meets_92 (by decide) ?_
      refine z_goto (tgt := 97) hX dX2_meets_93 (by decide) ?_
      refine z_loc [] rfl ?_
      exact zb_X2_meets_97 hX hQ hnL h
def bk_X2_meets_40 (h0 : Nat) (K : Int32 → Mm → Prop) (l1 : Int32) (l2 : Int64) (l5 : Int32) (l6 : Int32) (s0 : Int64) (M : Mm) : Prop := ((¬ l1 = 0 → (bk_X2_meets_60 h0 K s0 l2 M)) ∧ (l1 = 0 → mK M h0 = 3 ∧ ∃ a10, (mR M 133 h0) = some a10 ∧ isA M a10 6 ∧ vp_in l6 (aN M a10) ∧ ∃ a14, (aR M a10 (l6).toNatClampNeg) = some a14 ∧ isA M a14 2 ∧ vp_in l5 (aN M a14) ∧ (bk_X2_meets_60 h0 K s0 (aJ M a14 (l5).toNatClampNeg) M)))
set_option maxRecDepth 100000 in
set_option maxHeartbeats 4000000 in
theorem zb_X2_meets_40 {X : Cx} {h0 : Nat} {K : Int32 → Mm → Prop} (hX : Ok X cX2_meets RX2 rm_X2_meets) (hQ : Rq X rm_X2_meets (some .boolean) (QI K)) (hnL : X.2.2.2.2.2.2.2.2.2.2.2.2.2.2 = 11) {l1 : Int32} {l2 : Int64} {l5 : Int32} {l6 : Int32} {s0 : Int64} {M : Mm} (h : bk_X2_meets_40 h0 K l1 l2 l5 l6 s0 M) : Z X M 0 0 40 [(0, va_rf (some h0)), (1, .int l1), (2, .long l2), (5, .int l5), (6, .int l6)] [.long s0] := by
  unfold bk_X2_meets_40 at h
  refine z_lstore hX [(7, .long s0), (0, va_rf (some h0)), (1, .int l1), (2, .long l2), (5, .int l5), (6, .int l6)] dX2_meets_40 (by rw [hnL]; decide) rfl ?_
  refine z_iload_n hX dX2_meets_42 rfl 2 rfl ?_
  obtain ⟨h1, h2⟩ := h
  refine z_if_ne (tgt := 59) hX dX2_meets_43 (by decide) (fun hc => ?_) (fun hc => ?_)
  · have h := h1 hc
    refine z_lload_n hX dX2_meets_59 rfl 3 rfl ?_
    refine z_loc [1, 0] rfl ?_
    exact zb_X2_meets_60 hX hQ hnL h
  · have h := h2 hc
    refine z_aload_n (r := (some h0)) hX dX2_meets_46 rfl 1 rfl ?_
    obtain ⟨hk9, h⟩ := h
    refine gf_RX2_31 (r := (some h0)) hX dX2_meets_47 rfl hk9 ?_
    refine z_iload hX dX2_meets_50 5 rfl ?_
    obtain ⟨a10, ha11, h⟩ := h
    obtain ⟨hk12, h⟩ := h
    obtain ⟨hc13, h⟩ := h
    refine y_ald2 (r := (mR M 133 h0)) hX dX2_meets_52 ha11 hk12 (Or.inr rfl) hc13 ?_
    refine z_iload hX dX2_meets_53 4 rfl ?_
    obtain ⟨a14, ha15, h⟩ := h
    obtain ⟨hk16, h⟩ := h
    obtain ⟨hc17, h⟩ := h
    refine y_lald (r := (aR M a10 (l6).toNatClampNeg)) hX dX2_meets_55 ha15 hk16 hc17 ?_
    refine z_goto (tgt := 60) hX dX2_meets_56 (by decide) ?_
    refine z_loc [1, 0] rfl ?_
    exact zb_X2_meets_60 hX hQ hnL h
def wp_X2_meets (M : Mm) (h0 : Nat) (p1 : Int32) (p2 : Int64) (p3 : Int32) (p4 : Int32) (K : Int32 → Mm → Prop) : Prop := mK M h0 = 3 ∧ ∃ a19, (mR M 134 h0) = some a19 ∧ isA M a19 5 ∧ vp_in ((1 : Int32) - p1) (aN M a19) ∧ ∃ a23, (aR M a19 (((1 : Int32) - p1)).toNatClampNeg) = some a23 ∧ isA M a23 1 ∧ vp_in p4 (aN M a23) ∧ (((aI M a23 (p4).toNatClampNeg) = p3 → ((¬ p1 = 0 → ∃ a27, (mR M 133 h0) = some a27 ∧ isA M a27 6 ∧ vp_in ((1 : Int32) - p1) (aN M a27) ∧ ∃ a31, (aR M a27 (((1 : Int32) - p1)).toNatClampNeg) = some a31 ∧ isA M a31 2 ∧ vp_in p4 (aN M a31) ∧ (bk_X2_meets_40 h0 K p1 p2 p4 ((1 : Int32) - p1) (aJ M a31 (p4).toNatClampNeg) M)) ∧ (p1 = 0 → (bk_X2_meets_40 h0 K p1 p2 p4 ((1 : Int32) - p1) p2 M)))) ∧ (¬ (aI M a23 (p4).toNatClampNeg) = p3 → (K (0 : Int32) M)))
set_option maxRecDepth 100000 in
set_option maxHeartbeats 4000000 in
theorem ct_X2_meets {M : Mm} {h0 : Nat} {p1 : Int32} {p2 : Int64} {p3 : Int32} {p4 : Int32} {K : Int32 → Mm → Prop} (h : wp_X2_meets M h0 p1 p2 p3 p4 K) : CtI yX2_meets cX2_meets 11 (some .boolean) rm_X2_meets [.ref h0, .int p1, .long p2, .int p3, .int p4] M K := by
  refine ct_any (QI K) (by decide) (by exact Nat.le_of_ble_eq_true rfl) (fun X hX hQ hnL hnm => ?_)
  rw [show lv_args 0 [.ref h0, .int p1, .long p2, .int p3, .int p4] = [(0, va_rf (some h0)), (1, .int p1), (2, .long p2), (4, .int p3), (5, .int p4)] by rfl]
  have hX : Ok X cX2_meets RX2 rm_X2_meets := hX
  unfold wp_X2_meets at h
  refine z_iconst (v := (1 : Int32)) hX dX2_meets_0 (by decide) ?_
  refine z_iload_n hX dX2_meets_1 rfl 1 rfl ?_
  refine z_isub hX dX2_meets_2 ?_
  refine z_istore hX [(6, .int ((1 : Int32) - p1)), (0, va_rf (some h0)), (1, .int p1), (2, .long p2), (4, .int p3), (5, .int p4)] dX2_meets_3 (by rw [hnL]; decide) rfl ?_
  refine z_aload_n (r := (some h0)) hX dX2_meets_5 rfl 1 rfl ?_
  obtain ⟨hk18, h⟩ := h
  refine gf_RX2_36 (r := (some h0)) hX dX2_meets_6 rfl hk18 ?_
  refine z_iload hX dX2_meets_9 0 rfl ?_
  obtain ⟨a19, ha20, h⟩ := h
  obtain ⟨hk21, h⟩ := h
  obtain ⟨hc22, h⟩ := h
  refine y_ald2 (r := (mR M 134 h0)) hX dX2_meets_11 ha20 hk21 (Or.inl rfl) hc22 ?_
  refine z_iload hX dX2_meets_12 5 rfl ?_
  obtain ⟨a23, ha24, h⟩ := h
  obtain ⟨hk25, h⟩ := h
  obtain ⟨hc26, h⟩ := h
  refine y_iald (r := (aR M a19 (((1 : Int32) - p1)).toNatClampNeg)) hX dX2_meets_14 ha24 hk25 hc26 ?_
  refine z_iload hX dX2_meets_15 4 rfl ?_
  obtain ⟨h1, h2⟩ := h
  refine z_icmp_eq (tgt := 22) hX dX2_meets_17 (by decide) (fun hc => ?_) (fun hc => ?_)
  · have h := h1 hc
    refine z_iload_n hX dX2_meets_22 rfl 2 rfl ?_
    obtain ⟨h1, h2⟩ := h
    refine z_if_ne (tgt := 30) hX dX2_meets_23 (by decide) (fun hc => ?_) (fun hc => ?_)
    · have h := h1 hc
      refine z_aload_n (r := (some h0)) hX dX2_meets_30 rfl 1 rfl ?_
      refine gf_RX2_31 (r := (some h0)) hX dX2_meets_31 rfl hk18 ?_
      refine z_iload hX dX2_meets_34 0 rfl ?_
      obtain ⟨a27, ha28, h⟩ := h
      obtain ⟨hk29, h⟩ := h
      obtain ⟨hc30, h⟩ := h
      refine y_ald2 (r := (mR M 133 h0)) hX dX2_meets_36 ha28 hk29 (Or.inr rfl) hc30 ?_
      refine z_iload hX dX2_meets_37 5 rfl ?_
      obtain ⟨a31, ha32, h⟩ := h
      obtain ⟨hk33, h⟩ := h
      obtain ⟨hc34, h⟩ := h
      refine y_lald (r := (aR M a27 (((1 : Int32) - p1)).toNatClampNeg)) hX dX2_meets_39 ha32 hk33 hc34 ?_
      refine z_loc [1, 2, 3, 5, 0] rfl ?_
      exact zb_X2_meets_40 hX hQ hnL h
    · have h := h2 hc
      refine z_lload_n hX dX2_meets_26 rfl 3 rfl ?_
      refine z_goto (tgt := 40) hX dX2_meets_27 (by decide) ?_
      refine z_loc [1, 2, 3, 5, 0] rfl ?_
      exact zb_X2_meets_40 hX hQ hnL h
  · have h := h2 hc
    refine z_iconst (v := (0 : Int32)) hX dX2_meets_20 (by decide) ?_
    exact y_zret hX hQ dX2_meets_21 (Or.inl rfl) h
def rm_X2_isFar : Room := { frames := 2, cells := 0, slots := 0, locals := 46 }
def bk_X2_isFar_54 (h0 : Nat) (K : Int32 → Mm → Prop) (s0 : Int32) (M : Mm) : Prop := (bz s0 ∧ K s0 M)
set_option maxRecDepth 100000 in
set_option maxHeartbeats 4000000 in
theorem zb_X2_isFar_54 {X : Cx} {h0 : Nat} {K : Int32 → Mm → Prop} (hX : Ok X cX2_isFar RX2 rm_X2_isFar) (hQ : Rq X rm_X2_isFar (some .boolean) (QI K)) (hnL : X.2.2.2.2.2.2.2.2.2.2.2.2.2.2 = 4) {s0 : Int32} {M : Mm} (h : bk_X2_isFar_54 h0 K s0 M) : Z X M 0 0 54 [] [.int s0] := by
  unfold bk_X2_isFar_54 at h
  exact y_zret hX hQ dX2_isFar_54 h.1 h.2
def bk_X2_isFar_28 (h0 : Nat) (K : Int32 → Mm → Prop) (s0 : Int32) (M : Mm) : Prop := (bz s0 ∧ K s0 M)
set_option maxRecDepth 100000 in
set_option maxHeartbeats 4000000 in
theorem zb_X2_isFar_28 {X : Cx} {h0 : Nat} {K : Int32 → Mm → Prop} (hX : Ok X cX2_isFar RX2 rm_X2_isFar) (hQ : Rq X rm_X2_isFar (some .boolean) (QI K)) (hnL : X.2.2.2.2.2.2.2.2.2.2.2.2.2.2 = 4) {s0 : Int32} {M : Mm} (h : bk_X2_isFar_28 h0 K s0 M) : Z X M 0 0 28 [] [.int s0] := by
  unfold bk_X2_isFar_28 at h
  exact y_zret hX hQ dX2_isFar_28 h.1 h.2
def wp_X2_isFar (M : Mm) (h0 : Nat) (p1 : Int32) (p2 : Int64) (K : Int32 → Mm → Prop) : Prop := ((¬ p1 = 0 → mK M h0 = 3 ∧ (wp_X10_together M p2 (-(mJ M 130 h0)) (fun r2 M3 => mK M3 h0 = 3 ∧ ∃ a6, (mR M3 128 h0) = some a6 ∧ mK M3 a6 = 7 ∧ (((mJ M3 390 a6) < r2 → (bk_X2_isFar_54 h0 K (0 : Int32) M3)) ∧ (¬ (mJ M3 390 a6) < r2 → (bk_X2_isFar_54 h0 K (1 : Int32) M3)))))) ∧ (p1 = 0 → mK M h0 = 3 ∧ (wp_X10_together M p2 (mJ M 131 h0) (fun r10 M11 => mK M11 h0 = 3 ∧ ∃ a14, (mR M11 129 h0) = some a14 ∧ mK M11 a14 = 7 ∧ (((mJ M11 390 a14) < r10 → (bk_X2_isFar_28 h0 K (0 : Int32) M11)) ∧ (¬ (mJ M11 390 a14) < r10 → (bk_X2_isFar_28 h0 K (1 : Int32) M11)))))))
set_option maxRecDepth 100000 in
set_option maxHeartbeats 4000000 in
theorem ct_X2_isFar {M : Mm} {h0 : Nat} {p1 : Int32} {p2 : Int64} {K : Int32 → Mm → Prop} (h : wp_X2_isFar M h0 p1 p2 K) : CtI yX2_isFar cX2_isFar 4 (some .boolean) rm_X2_isFar [.ref h0, .int p1, .long p2] M K := by
  refine ct_any (QI K) (by decide) (by exact Nat.le_of_ble_eq_true rfl) (fun X hX hQ hnL hnm => ?_)
  rw [show lv_args 0 [.ref h0, .int p1, .long p2] = [(0, va_rf (some h0)), (1, .int p1), (2, .long p2)] by rfl]
  have hX : Ok X cX2_isFar RX2 rm_X2_isFar := hX
  unfold wp_X2_isFar at h
  refine z_iload_n hX dX2_isFar_0 rfl 1 rfl ?_
  obtain ⟨h1, h2⟩ := h
  refine z_if_ne (tgt := 29) hX dX2_isFar_1 (by decide) (fun hc => ?_) (fun hc => ?_)
  · have h := h1 hc
    refine z_lload_n hX dX2_isFar_29 rfl 2 rfl ?_
    refine z_aload_n (r := (some h0)) hX dX2_isFar_30 rfl 0 rfl ?_
    obtain ⟨hk1, h⟩ := h
    refine gf_RX2_18 (r := (some h0)) hX dX2_isFar_31 rfl hk1 ?_
    refine z_lneg hX dX2_isFar_34 ?_
    refine z_callNJ (As := [.long p2, .long (-(mJ M 130 h0))]) (rest := []) hX (ct_X10_together h) mw_RX2_42 rfl (by rfl) (by unfold RoomC; decide) (by decide) dX2_isFar_35 (fun r2 M3 h => ?_)
    refine z_aload_n (r := (some h0)) hX dX2_isFar_38 rfl 0 rfl ?_
    obtain ⟨hk5, h⟩ := h
    refine gf_RX2_9 (r := (some h0)) hX dX2_isFar_39 rfl hk5 ?_
    obtain ⟨a6, ha7, h⟩ := h
    obtain ⟨hk8, h⟩ := h
    refine gf_RX2_46 (r := (mR M3 128 h0)) hX dX2_isFar_42 ha7 hk8 ?_
    refine z_lcmp hX dX2_isFar_45 ?_
    obtain ⟨h1, h2⟩ := h
    refine z_if_gt (tgt := 53) hX dX2_isFar_46 (by decide) (fun hc => ?_) (fun hc => ?_)
    · have h := h1 ((lg_cmp_gt _ _).mp hc)
      refine z_iconst (v := (0 : Int32)) hX dX2_isFar_53 (by decide) ?_
      refine z_loc [] rfl ?_
      exact zb_X2_isFar_54 hX hQ hnL h
    · have h := h2 (fun q => hc ((lg_cmp_gt _ _).mpr q))
      refine z_iconst (v := (1 : Int32)) hX dX2_isFar_49 (by decide) ?_
      refine z_goto (tgt := 54) hX dX2_isFar_50 (by decide) ?_
      refine z_loc [] rfl ?_
      exact zb_X2_isFar_54 hX hQ hnL h
  · have h := h2 hc
    refine z_lload_n hX dX2_isFar_4 rfl 2 rfl ?_
    refine z_aload_n (r := (some h0)) hX dX2_isFar_5 rfl 0 rfl ?_
    obtain ⟨hk9, h⟩ := h
    refine gf_RX2_22 (r := (some h0)) hX dX2_isFar_6 rfl hk9 ?_
    refine z_callNJ (As := [.long p2, .long (mJ M 131 h0)]) (rest := []) hX (ct_X10_together h) mw_RX2_42 rfl (by rfl) (by unfold RoomC; decide) (by decide) dX2_isFar_9 (fun r10 M11 h => ?_)
    refine z_aload_n (r := (some h0)) hX dX2_isFar_12 rfl 0 rfl ?_
    obtain ⟨hk13, h⟩ := h
    refine gf_RX2_15 (r := (some h0)) hX dX2_isFar_13 rfl hk13 ?_
    obtain ⟨a14, ha15, h⟩ := h
    obtain ⟨hk16, h⟩ := h
    refine gf_RX2_46 (r := (mR M11 129 h0)) hX dX2_isFar_16 ha15 hk16 ?_
    refine z_lcmp hX dX2_isFar_19 ?_
    obtain ⟨h1, h2⟩ := h
    refine z_if_gt (tgt := 27) hX dX2_isFar_20 (by decide) (fun hc => ?_) (fun hc => ?_)
    · have h := h1 ((lg_cmp_gt _ _).mp hc)
      refine z_iconst (v := (0 : Int32)) hX dX2_isFar_27 (by decide) ?_
      refine z_loc [] rfl ?_
      exact zb_X2_isFar_28 hX hQ hnL h
    · have h := h2 (fun q => hc ((lg_cmp_gt _ _).mpr q))
      refine z_iconst (v := (1 : Int32)) hX dX2_isFar_23 (by decide) ?_
      refine z_goto (tgt := 28) hX dX2_isFar_24 (by decide) ?_
      refine z_loc [] rfl ?_
      exact zb_X2_isFar_28 hX hQ hnL h
def rm_X2_dropFirst : Room := { frames := 1, cells := 0, slots := 0, locals := 26 }
def lp_X2_dropFirst_2 (h0 : Nat) (K : Mm → Prop) : Nat → Int32 → Int32 → Mm → Prop
  | 0, _, _, _ => False
  | n + 1, l1, l2, M => mK M h0 = 3 ∧ ∃ a2, (mR M 132 h0) = some a2 ∧ isA M a2 1 ∧ vp_in l1 (aN M a2) ∧ (((aI M a2 (l1).toNatClampNeg) ≤ l2 → vp_in l1 (aN M a2) ∧ vp_in l1 (aN M a2) ∧ (K (tI M a2 (l1).toNatClampNeg ((aI M a2 (l1).toNatClampNeg) - (1 : Int32))))) ∧ (¬ (aI M a2 (l1).toNatClampNeg) ≤ l2 → ∃ a8, (mR M 133 h0) = some a8 ∧ isA M a8 6 ∧ vp_in l1 (aN M a8) ∧ ∃ a12, (aR M a8 (l1).toNatClampNeg) = some a12 ∧ isA M a12 2 ∧ vp_in l2 (aN M a12) ∧ ∃ a16, (mR M 134 h0) = some a16 ∧ isA M a16 5 ∧ vp_in l1 (aN M a16) ∧ ∃ a20, (aR M a16 (l1).toNatClampNeg) = some a20 ∧ isA M a20 1 ∧ vp_in l2 (aN M a20) ∧ ∃ a24, (mR M 135 h0) = some a24 ∧ isA M a24 5 ∧ vp_in l1 (aN M a24) ∧ ∃ a28, (aR M a24 (l1).toNatClampNeg) = some a28 ∧ isA M a28 1 ∧ vp_in l2 (aN M a28) ∧ (wp_X2_put M h0 l1 (l2 - (1 : Int32)) (aJ M a12 (l2).toNatClampNeg) (aI M a20 (l2).toNatClampNeg) (aI M a28 (l2).toNatClampNeg) (fun M33 => ((lp_X2_dropFirst_2 h0 K n) l1 (l2 + 1) M33)))))
set_option maxRecDepth 100000 in
set_option maxHeartbeats 4000000 in
theorem zl_X2_dropFirst_2 {X : Cx} {h0 : Nat} {K : Mm → Prop} (hX : Ok X cX2_dropFirst RX2 rm_X2_dropFirst) (hQ : Rq X rm_X2_dropFirst none (QV K)) (hnL : X.2.2.2.2.2.2.2.2.2.2.2.2.2.2 = 3) : ∀ (n : Nat) (l1 : Int32) (l2 : Int32) (M : Mm), lp_X2_dropFirst_2 h0 K n l1 l2 M → Z X M 0 0 2 [(0, va_rf (some h0)), (1, .int l1), (2, .int l2)] [] := by
  intro n
  induction n with
  | zero =>
    intro l1 l2 M h
    exact False.elim h
  | succ n hR2 =>
    intro l1 l2 M h
    refine z_iload_n hX dX2_dropFirst_2 rfl 2 rfl ?_
    refine z_aload_n (r := (some h0)) hX dX2_dropFirst_3 rfl 0 rfl ?_
    obtain ⟨hk1, h⟩ := h
    refine gf_RX2_25 (r := (some h0)) hX dX2_dropFirst_4 rfl hk1 ?_
    refine z_iload_n hX dX2_dropFirst_7 rfl 1 rfl ?_
    obtain ⟨a2, ha3, h⟩ := h
    obtain ⟨hk4, h⟩ := h
    obtain ⟨hc5, h⟩ := h
    refine y_iald (r := (mR M 132 h0)) hX dX2_dropFirst_8 ha3 hk4 hc5 ?_
    obtain ⟨h1, h2⟩ := h
    refine z_icmp_ge (tgt := 50) hX dX2_dropFirst_9 (by decide) (fun hc => ?_) (fun hc => ?_)
    · have h := h1 hc
      refine z_aload_n (r := (some h0)) hX dX2_dropFirst_50 rfl 0 rfl ?_
      refine gf_RX2_25 (r := (some h0)) hX dX2_dropFirst_51 rfl hk1 ?_
      refine z_iload_n hX dX2_dropFirst_54 rfl 1 rfl ?_
      refine z_dup2_11 hX dX2_dropFirst_55 rfl (cat_rf _) ?_
      obtain ⟨hc6, h⟩ := h
      refine y_iald (r := (mR M 132 h0)) hX dX2_dropFirst_56 ha3 hk4 hc6 ?_
      refine z_iconst (v := (1 : Int32)) hX dX2_dropFirst_57 (by decide) ?_
      refine z_isub hX dX2_dropFirst_58 ?_
      obtain ⟨hc7, h⟩ := h
      refine y_iast (r := (mR M 132 h0)) hX dX2_dropFirst_59 ha3 hk4 hc7 ?_
      exact z_vret hX hQ dX2_dropFirst_60 h
    · have h := h2 hc
      refine z_aload_n (r := (some h0)) hX dX2_dropFirst_12 rfl 0 rfl ?_
      refine z_iload_n hX dX2_dropFirst_13 rfl 1 rfl ?_
      refine z_iload_n hX dX2_dropFirst_14 rfl 2 rfl ?_
      refine z_iconst (v := (1 : Int32)) hX dX2_dropFirst_15 (by decide) ?_
      refine z_isub hX dX2_dropFirst_16 ?_
      refine z_aload_n (r := (some h0)) hX dX2_dropFirst_17 rfl 0 rfl ?_
      refine gf_RX2_31 (r := (some h0)) hX dX2_dropFirst_18 rfl hk1 ?_
      refine z_iload_n hX dX2_dropFirst_21 rfl 1 rfl ?_
      obtain ⟨a8, ha9, h⟩ := h
      obtain ⟨hk10, h⟩ := h
      obtain ⟨hc11, h⟩ := h
      refine y_ald2 (r := (mR M 133 h0)) hX dX2_dropFirst_22 ha9 hk10 (Or.inr rfl) hc11 ?_
      refine z_iload_n hX dX2_dropFirst_23 rfl 2 rfl ?_
      obtain ⟨a12, ha13, h⟩ := h
      obtain ⟨hk14, h⟩ := h
      obtain ⟨hc15, h⟩ := h
      refine y_lald (r := (aR M a8 (l1).toNatClampNeg)) hX dX2_dropFirst_24 ha13 hk14 hc15 ?_
      refine z_aload_n (r := (some h0)) hX dX2_dropFirst_25 rfl 0 rfl ?_
      refine gf_RX2_36 (r := (some h0)) hX dX2_dropFirst_26 rfl hk1 ?_
      refine z_iload_n hX dX2_dropFirst_29 rfl 1 rfl ?_
      obtain ⟨a16, ha17, h⟩ := h
      obtain ⟨hk18, h⟩ := h
      obtain ⟨hc19, h⟩ := h
      refine y_ald2 (r := (mR M 134 h0)) hX dX2_dropFirst_30 ha17 hk18 (Or.inl rfl) hc19 ?_
      refine z_iload_n hX dX2_dropFirst_31 rfl 2 rfl ?_
      obtain ⟨a20, ha21, h⟩ := h
      obtain ⟨hk22, h⟩ := h
      obtain ⟨hc23, h⟩ := h
      refine y_iald (r := (aR M a16 (l1).toNatClampNeg)) hX dX2_dropFirst_32 ha21 hk22 hc23 ?_
      refine z_aload_n (r := (some h0)) hX dX2_dropFirst_33 rfl 0 rfl ?_
      refine gf_RX2_39 (r := (some h0)) hX dX2_dropFirst_34 rfl hk1 ?_
      refine z_iload_n hX dX2_dropFirst_37 rfl 1 rfl ?_
      obtain ⟨a24, ha25, h⟩ := h
      obtain ⟨hk26, h⟩ := h
      obtain ⟨hc27, h⟩ := h
      refine y_ald2 (r := (mR M 135 h0)) hX dX2_dropFirst_38 ha25 hk26 (Or.inl rfl) hc27 ?_
      refine z_iload_n hX dX2_dropFirst_39 rfl 2 rfl ?_
      obtain ⟨a28, ha29, h⟩ := h
      obtain ⟨hk30, h⟩ := h
      obtain ⟨hc31, h⟩ := h
      refine y_iald (r := (aR M a24 (l1).toNatClampNeg)) hX dX2_dropFirst_40 ha29 hk30 hc31 ?_
      refine z_callVV (As := [.int l1, .int (l2 - (1 : Int32)), .long (aJ M a12 (l2).toNatClampNeg), .int (aI M a20 (l2).toNatClampNeg), .int (aI M a28 (l2).toNatClampNeg)]) (rest := []) (ci := 2) hX (ct_X2_put h) mw_RX2_55 rfl (by decide) rfl (by rfl) (by unfold RoomC; decide) (by decide) dX2_dropFirst_41 hk1 (fun M33 h => ?_)
      refine z_iinc (v := (l2 + 1)) hX [(2, .int (l2 + 1)), (0, va_rf (some h0)), (1, .int l1)] dX2_dropFirst_44 2 rfl rfl (by rw [hnL]; decide) rfl ?_
      refine z_goto (tgt := 2) hX dX2_dropFirst_47 (by decide) ?_
      refine z_loc [1, 2, 0] rfl ?_
      exact hR2 _ _ _ h
def wp_X2_dropFirst (M : Mm) (h0 : Nat) (p1 : Int32) (K : Mm → Prop) : Prop := (∃ kk, lp_X2_dropFirst_2 h0 K kk p1 (1 : Int32) M)
set_option maxRecDepth 100000 in
set_option maxHeartbeats 4000000 in
theorem ct_X2_dropFirst {M : Mm} {h0 : Nat} {p1 : Int32} {K : Mm → Prop} (h : wp_X2_dropFirst M h0 p1 K) : CtV yX2_dropFirst cX2_dropFirst 3 none rm_X2_dropFirst [.ref h0, .int p1] M K := by
  refine ct_any (QV K) (by decide) (by exact Nat.le_of_ble_eq_true rfl) (fun X hX hQ hnL hnm => ?_)
  rw [show lv_args 0 [.ref h0, .int p1] = [(0, va_rf (some h0)), (1, .int p1)] by rfl]
  have hX : Ok X cX2_dropFirst RX2 rm_X2_dropFirst := hX
  unfold wp_X2_dropFirst at h
  refine z_iconst (v := (1 : Int32)) hX dX2_dropFirst_0 (by decide) ?_
  refine z_istore_n hX [(2, .int (1 : Int32)), (0, va_rf (some h0)), (1, .int p1)] dX2_dropFirst_1 rfl (by rw [hnL]; decide) rfl ?_
  refine z_loc [1, 2, 0] rfl ?_
  obtain ⟨n, h⟩ := h
  exact zl_X2_dropFirst_2 hX hQ hnL n _ _ _ h
def rm_X2_dropFar : Room := { frames := 3, cells := 0, slots := 0, locals := 69 }
def bk_X2_dropFar_70 (h0 : Nat) (R2 : Int32 → Mm → Prop) (R11 : Int32 → Int32 → Int32 → Mm → Prop) (K : Mm → Prop) (l1 : Int32) (l2 : Int32) (l3 : Int32) (M : Mm) : Prop := (R11 l1 l2 (l3 + 1) M)
set_option maxRecDepth 100000 in
set_option maxHeartbeats 4000000 in
theorem zb_X2_dropFar_70 {X : Cx} {h0 : Nat} {R2 : Int32 → Mm → Prop} {R11 : Int32 → Int32 → Int32 → Mm → Prop} {K : Mm → Prop} (hX : Ok X cX2_dropFar RX2 rm_X2_dropFar) (hQ : Rq X rm_X2_dropFar none (QV K)) (hnL : X.2.2.2.2.2.2.2.2.2.2.2.2.2.2 = 4) (hR2 : ∀ l1 M, R2 l1 M → Z X M 0 0 2 [(0, va_rf (some h0)), (1, .int l1)] []) (hR11 : ∀ l1 l2 l3 M, R11 l1 l2 l3 M → Z X M 0 0 11 [(0, va_rf (some h0)), (1, .int l1), (2, .int l2), (3, .int l3)] []) {l1 : Int32} {l2 : Int32} {l3 : Int32} {M : Mm} (h : bk_X2_dropFar_70 h0 R2 R11 K l1 l2 l3 M) : Z X M 0 0 70 [(0, va_rf (some h0)), (1, .int l1), (2, .int l2), (3, .int l3)] [] := by
  unfold bk_X2_dropFar_70 at h
  refine z_iinc (v := (l3 + 1)) hX [(3, .int (l3 + 1)), (0, va_rf (some h0)), (1, .int l1), (2, .int l2)] dX2_dropFar_70 3 rfl rfl (by rw [hnL]; decide) rfl ?_
  refine z_goto (tgt := 11) hX dX2_dropFar_73 (by decide) ?_
  refine z_loc [1, 2, 3, 0] rfl ?_
  exact hR11 _ _ _ _ h
def lp_X2_dropFar_11 (h0 : Nat) (R2 : Int32 → Mm → Prop) (K : Mm → Prop) : Nat → Int32 → Int32 → Int32 → Mm → Prop
  | 0, _, _, _, _ => False
  | n + 1, l1, l2, l3, M => mK M h0 = 3 ∧ ∃ a2, (mR M 132 h0) = some a2 ∧ isA M a2 1 ∧ vp_in l1 (aN M a2) ∧ (((aI M a2 (l1).toNatClampNeg) ≤ l3 → vp_in l1 (aN M a2) ∧ (R2 (l1 + 1) (tI M a2 (l1).toNatClampNeg l2))) ∧ (¬ (aI M a2 (l1).toNatClampNeg) ≤ l3 → ∃ a7, (mR M 133 h0) = some a7 ∧ isA M a7 6 ∧ vp_in l1 (aN M a7) ∧ ∃ a11, (aR M a7 (l1).toNatClampNeg) = some a11 ∧ isA M a11 2 ∧ vp_in l3 (aN M a11) ∧ (wp_X2_isFar M h0 l1 (aJ M a11 (l3).toNatClampNeg) (fun r15 M16 => ((¬ r15 = 0 → (bk_X2_dropFar_70 h0 R2 (lp_X2_dropFar_11 h0 R2 K n) K l1 l2 l3 M16)) ∧ (r15 = 0 → mK M16 h0 = 3 ∧ ∃ a19, (mR M16 133 h0) = some a19 ∧ isA M16 a19 6 ∧ vp_in l1 (aN M16 a19) ∧ ∃ a23, (aR M16 a19 (l1).toNatClampNeg) = some a23 ∧ isA M16 a23 2 ∧ vp_in l3 (aN M16 a23) ∧ ∃ a27, (mR M16 134 h0) = some a27 ∧ isA M16 a27 5 ∧ vp_in l1 (aN M16 a27) ∧ ∃ a31, (aR M16 a27 (l1).toNatClampNeg) = some a31 ∧ isA M16 a31 1 ∧ vp_in l3 (aN M16 a31) ∧ ∃ a35, (mR M16 135 h0) = some a35 ∧ isA M16 a35 5 ∧ vp_in l1 (aN M16 a35) ∧ ∃ a39, (aR M16 a35 (l1).toNatClampNeg) = some a39 ∧ isA M16 a39 1 ∧ vp_in l3 (aN M16 a39) ∧ (wp_X2_put M16 h0 l1 l2 (aJ M16 a23 (l3).toNatClampNeg) (aI M16 a31 (l3).toNatClampNeg) (aI M16 a39 (l3).toNatClampNeg) (fun M44 => (bk_X2_dropFar_70 h0 R2 (lp_X2_dropFar_11 h0 R2 K n) K l1 (l2 + 1) l3 M44)))))))))
set_option maxRecDepth 100000 in
set_option maxHeartbeats 4000000 in
theorem zl_X2_dropFar_11 {X : Cx} {h0 : Nat} {R2 : Int32 → Mm → Prop} {K : Mm → Prop} (hX : Ok X cX2_dropFar RX2 rm_X2_dropFar) (hQ : Rq X rm_X2_dropFar none (QV K)) (hnL : X.2.2.2.2.2.2.2.2.2.2.2.2.2.2 = 4) (hR2 : ∀ l1 M, R2 l1 M → Z X M 0 0 2 [(0, va_rf (some h0)), (1, .int l1)] []) : ∀ (n : Nat) (l1 : Int32) (l2 : Int32) (l3 : Int32) (M : Mm), lp_X2_dropFar_11 h0 R2 K n l1 l2 l3 M → Z X M 0 0 11 [(0, va_rf (some h0)), (1, .int l1), (2, .int l2), (3, .int l3)] [] := by
  intro n
  induction n with
  | zero =>
    intro l1 l2 l3 M h
    exact False.elim h
  | succ n hR11 =>
    intro l1 l2 l3 M h
    refine z_iload_n hX dX2_dropFar_11 rfl 3 rfl ?_
    refine z_aload_n (r := (some h0)) hX dX2_dropFar_12 rfl 0 rfl ?_
    obtain ⟨hk1, h⟩ := h
    refine gf_RX2_25 (r := (some h0)) hX dX2_dropFar_13 rfl hk1 ?_
    refine z_iload_n hX dX2_dropFar_16 rfl 1 rfl ?_
    obtain ⟨a2, ha3, h⟩ := h
    obtain ⟨hk4, h⟩ := h
    obtain ⟨hc5, h⟩ := h
    refine y_iald (r := (mR M 132 h0)) hX dX2_dropFar_17 ha3 hk4 hc5 ?_
    obtain ⟨h1, h2⟩ := h
    refine z_icmp_ge (tgt := 76) hX dX2_dropFar_18 (by decide) (fun hc => ?_) (fun hc => ?_)
    · have h := h1 hc
      refine z_aload_n (r := (some h0)) hX dX2_dropFar_76 rfl 0 rfl ?_
      refine gf_RX2_25 (r := (some h0)) hX dX2_dropFar_77 rfl hk1 ?_
      refine z_iload_n hX dX2_dropFar_80 rfl 1 rfl ?_
      refine z_iload_n hX dX2_dropFar_81 rfl 2 rfl ?_
      obtain ⟨hc6, h⟩ := h
      refine y_iast (r := (mR M 132 h0)) hX dX2_dropFar_82 ha3 hk4 hc6 ?_
      refine z_iinc (v := (l1 + 1)) hX [(1, .int (l1 + 1)), (0, va_rf (some h0)), (2, .int l2), (3, .int l3)] dX2_dropFar_83 1 rfl rfl (by rw [hnL]; decide) rfl ?_
      refine z_goto (tgt := 2) hX dX2_dropFar_86 (by decide) ?_
      refine z_loc [1, 0] rfl ?_
      exact hR2 _ _ h
    · have h := h2 hc
      refine z_aload_n (r := (some h0)) hX dX2_dropFar_21 rfl 0 rfl ?_
      refine z_iload_n hX dX2_dropFar_22 rfl 1 rfl ?_
      refine z_aload_n (r := (some h0)) hX dX2_dropFar_23 rfl 0 rfl ?_
      refine gf_RX2_31 (r := (some h0)) hX dX2_dropFar_24 rfl hk1 ?_
      refine z_iload_n hX dX2_dropFar_27 rfl 1 rfl ?_
      obtain ⟨a7, ha8, h⟩ := h
      obtain ⟨hk9, h⟩ := h
      obtain ⟨hc10, h⟩ := h
      refine y_ald2 (r := (mR M 133 h0)) hX dX2_dropFar_28 ha8 hk9 (Or.inr rfl) hc10 ?_
      refine z_iload_n hX dX2_dropFar_29 rfl 3 rfl ?_
      obtain ⟨a11, ha12, h⟩ := h
      obtain ⟨hk13, h⟩ := h
      obtain ⟨hc14, h⟩ := h
      refine y_lald (r := (aR M a7 (l1).toNatClampNeg)) hX dX2_dropFar_30 ha12 hk13 hc14 ?_
      refine z_callVI (As := [.int l1, .long (aJ M a11 (l3).toNatClampNeg)]) (rest := []) (ci := 2) hX (ct_X2_isFar h) mw_RX2_59 rfl (by decide) rfl (by rfl) (by unfold RoomC; decide) (by decide) dX2_dropFar_31 hk1 (fun r15 M16 h => ?_)
      obtain ⟨h1, h2⟩ := h
      refine z_if_ne (tgt := 70) hX dX2_dropFar_34 (by decide) (fun hc => ?_) (fun hc => ?_)
      · have h := h1 hc
        exact zb_X2_dropFar_70 hX hQ hnL hR2 hR11 h
      · have h := h2 hc
        refine z_aload_n (r := (some h0)) hX dX2_dropFar_37 rfl 0 rfl ?_
        refine z_iload_n hX dX2_dropFar_38 rfl 1 rfl ?_
        refine z_iload_n hX dX2_dropFar_39 rfl 2 rfl ?_
        refine z_aload_n (r := (some h0)) hX dX2_dropFar_40 rfl 0 rfl ?_
        obtain ⟨hk18, h⟩ := h
        refine gf_RX2_31 (r := (some h0)) hX dX2_dropFar_41 rfl hk18 ?_
        refine z_iload_n hX dX2_dropFar_44 rfl 1 rfl ?_
        obtain ⟨a19, ha20, h⟩ := h
        obtain ⟨hk21, h⟩ := h
        obtain ⟨hc22, h⟩ := h
        refine y_ald2 (r := (mR M16 133 h0)) hX dX2_dropFar_45 ha20 hk21 (Or.inr rfl) hc22 ?_
        refine z_iload_n hX dX2_dropFar_46 rfl 3 rfl ?_
        obtain ⟨a23, ha24, h⟩ := h
        obtain ⟨hk25, h⟩ := h
        obtain ⟨hc26, h⟩ := h
        refine y_lald (r := (aR M16 a19 (l1).toNatClampNeg)) hX dX2_dropFar_47 ha24 hk25 hc26 ?_
        refine z_aload_n (r := (some h0)) hX dX2_dropFar_48 rfl 0 rfl ?_
        refine gf_RX2_36 (r := (some h0)) hX dX2_dropFar_49 rfl hk18 ?_
        refine z_iload_n hX dX2_dropFar_52 rfl 1 rfl ?_
        obtain ⟨a27, ha28, h⟩ := h
        obtain ⟨hk29, h⟩ := h
        obtain ⟨hc30, h⟩ := h
        refine y_ald2 (r := (mR M16 134 h0)) hX dX2_dropFar_53 ha28 hk29 (Or.inl rfl) hc30 ?_
        refine z_iload_n hX dX2_dropFar_54 rfl 3 rfl ?_
        obtain ⟨a31, ha32, h⟩ := h
        obtain ⟨hk33, h⟩ := h
        obtain ⟨hc34, h⟩ := h
        refine y_iald (r := (aR M16 a27 (l1).toNatClampNeg)) hX dX2_dropFar_55 ha32 hk33 hc34 ?_
        refine z_aload_n (r := (some h0)) hX dX2_dropFar_56 rfl 0 rfl ?_
        refine gf_RX2_39 (r := (some h0)) hX dX2_dropFar_57 rfl hk18 ?_
        refine z_iload_n hX dX2_dropFar_60 rfl 1 rfl ?_
        obtain ⟨a35, ha36, h⟩ := h
        obtain ⟨hk37, h⟩ := h
        obtain ⟨hc38, h⟩ := h
        refine y_ald2 (r := (mR M16 135 h0)) hX dX2_dropFar_61 ha36 hk37 (Or.inl rfl) hc38 ?_
        refine z_iload_n hX dX2_dropFar_62 rfl 3 rfl ?_
        obtain ⟨a39, ha40, h⟩ := h
        obtain ⟨hk41, h⟩ := h
        obtain ⟨hc42, h⟩ := h
        refine y_iald (r := (aR M16 a35 (l1).toNatClampNeg)) hX dX2_dropFar_63 ha40 hk41 hc42 ?_
        refine z_callVV (As := [.int l1, .int l2, .long (aJ M16 a23 (l3).toNatClampNeg), .int (aI M16 a31 (l3).toNatClampNeg), .int (aI M16 a39 (l3).toNatClampNeg)]) (rest := []) (ci := 2) hX (ct_X2_put h) mw_RX2_55 rfl (by decide) rfl (by rfl) (by unfold RoomC; decide) (by decide) dX2_dropFar_64 hk18 (fun M44 h => ?_)
        refine z_iinc (v := (l2 + 1)) hX [(2, .int (l2 + 1)), (0, va_rf (some h0)), (1, .int l1), (3, .int l3)] dX2_dropFar_67 2 rfl rfl (by rw [hnL]; decide) rfl ?_
        refine z_loc [1, 2, 0, 3] rfl ?_
        exact zb_X2_dropFar_70 hX hQ hnL hR2 hR11 h
def lp_X2_dropFar_2 (h0 : Nat) (K : Mm → Prop) : Nat → Int32 → Mm → Prop
  | 0, _, _ => False
  | n + 1, l1, M => (((2 : Int32) ≤ l1 → (K M)) ∧ (¬ (2 : Int32) ≤ l1 → (∃ kk, lp_X2_dropFar_11 h0 (lp_X2_dropFar_2 h0 K n) K kk l1 (0 : Int32) (0 : Int32) M)))
set_option maxRecDepth 100000 in
set_option maxHeartbeats 4000000 in
theorem zl_X2_dropFar_2 {X : Cx} {h0 : Nat} {K : Mm → Prop} (hX : Ok X cX2_dropFar RX2 rm_X2_dropFar) (hQ : Rq X rm_X2_dropFar none (QV K)) (hnL : X.2.2.2.2.2.2.2.2.2.2.2.2.2.2 = 4) : ∀ (n : Nat) (l1 : Int32) (M : Mm), lp_X2_dropFar_2 h0 K n l1 M → Z X M 0 0 2 [(0, va_rf (some h0)), (1, .int l1)] [] := by
  intro n
  induction n with
  | zero =>
    intro l1 M h
    exact False.elim h
  | succ n hR2 =>
    intro l1 M h
    refine z_iload_n hX dX2_dropFar_2 rfl 1 rfl ?_
    refine z_iconst (v := (2 : Int32)) hX dX2_dropFar_3 (by decide) ?_
    obtain ⟨h1, h2⟩ := h
    refine z_icmp_ge (tgt := 89) hX dX2_dropFar_4 (by decide) (fun hc => ?_) (fun hc => ?_)
    · have h := h1 hc
      exact z_vret hX hQ dX2_dropFar_89 h
    · have h := h2 hc
      refine z_iconst (v := (0 : Int32)) hX dX2_dropFar_7 (by decide) ?_
      refine z_istore_n hX [(2, .int (0 : Int32)), (0, va_rf (some h0)), (1, .int l1)] dX2_dropFar_8 rfl (by rw [hnL]; decide) rfl ?_
      refine z_iconst (v := (0 : Int32)) hX dX2_dropFar_9 (by decide) ?_
      refine z_istore_n hX [(3, .int (0 : Int32)), (2, .int (0 : Int32)), (0, va_rf (some h0)), (1, .int l1)] dX2_dropFar_10 rfl (by rw [hnL]; decide) rfl ?_
      refine z_loc [2, 3, 1, 0] rfl ?_
      obtain ⟨n, h⟩ := h
      exact zl_X2_dropFar_11 hX hQ hnL hR2 n _ _ _ _ h
def wp_X2_dropFar (M : Mm) (h0 : Nat) (K : Mm → Prop) : Prop := (∃ kk, lp_X2_dropFar_2 h0 K kk (0 : Int32) M)
set_option maxRecDepth 100000 in
set_option maxHeartbeats 4000000 in
theorem ct_X2_dropFar {M : Mm} {h0 : Nat} {K : Mm → Prop} (h : wp_X2_dropFar M h0 K) : CtV yX2_dropFar cX2_dropFar 4 none rm_X2_dropFar [.ref h0] M K := by
  refine ct_any (QV K) (by decide) (by exact Nat.le_of_ble_eq_true rfl) (fun X hX hQ hnL hnm => ?_)
  rw [show lv_args 0 [.ref h0] = [(0, va_rf (some h0))] by rfl]
  have hX : Ok X cX2_dropFar RX2 rm_X2_dropFar := hX
  unfold wp_X2_dropFar at h
  refine z_iconst (v := (0 : Int32)) hX dX2_dropFar_0 (by decide) ?_
  refine z_istore_n hX [(1, .int (0 : Int32)), (0, va_rf (some h0))] dX2_dropFar_1 rfl (by rw [hnL]; decide) rfl ?_
  refine z_loc [1, 0] rfl ?_
  obtain ⟨n, h⟩ := h
  exact zl_X2_dropFar_2 hX hQ hnL n _ _ h
def rm_X4_advance : Room := { frames := 2, cells := 0, slots := 0, locals := 44 }
def bk_X4_advance_204 (h0 : Nat) (K : Mm → Prop) (M : Mm) : Prop := (K M)
set_option maxRecDepth 100000 in
set_option maxHeartbeats 4000000 in
theorem zb_X4_advance_204 {X : Cx} {h0 : Nat} {K : Mm → Prop} (hX : Ok X cX4_advance RX4 rm_X4_advance) (hQ : Rq X rm_X4_advance none (QV K)) (hnL : X.2.2.2.2.2.2.2.2.2.2.2.2.2.2 = 2) {M : Mm} (h : bk_X4_advance_204 h0 K M) : Z X M 0 0 204 [] [] := by
  unfold bk_X4_advance_204 at h
  exact z_vret hX hQ dX4_advance_204 h
def bk_X4_advance_185 (h0 : Nat) (K : Mm → Prop) (l1 : Int32) (s0 : Int32) (s1 : Option Nat) (M : Mm) : Prop := ∃ a1, s1 = some a1 ∧ mK M a1 = 5 ∧ mK (sI M 258 a1 s0) h0 = 5 ∧ (bk_X4_advance_204 h0 K (sI (sJ (sI M 258 a1 s0) 260 h0 ((l1).toInt64)) 257 h0 ((mI (sJ (sI M 258 a1 s0) 260 h0 ((l1).toInt64)) 257 h0) + (1 : Int32))))
set_option maxRecDepth 100000 in
set_option maxHeartbeats 4000000 in
theorem zb_X4_advance_185 {X : Cx} {h0 : Nat} {K : Mm → Prop} (hX : Ok X cX4_advance RX4 rm_X4_advance) (hQ : Rq X rm_X4_advance none (QV K)) (hnL : X.2.2.2.2.2.2.2.2.2.2.2.2.2.2 = 2) {l1 : Int32} {s0 : Int32} {s1 : Option Nat} {M : Mm} (h : bk_X4_advance_185 h0 K l1 s0 s1 M) : Z X M 0 0 185 [(0, va_rf (some h0)), (1, .int l1)] [.int s0, va_rf s1] := by
  unfold bk_X4_advance_185 at h
  obtain ⟨a1, ha2, h⟩ := h
  obtain ⟨hk3, h⟩ := h
  refine pf_RX4_35 (r := s1) (v := s0) hX dX4_advance_185 ha2 hk3 ?_
  refine z_aload_n (r := (some h0)) hX dX4_advance_188 rfl 0 rfl ?_
  refine z_iload_n hX dX4_advance_189 rfl 1 rfl ?_
  refine z_i2l hX dX4_advance_190 ?_
  obtain ⟨hk5, h⟩ := h
  refine pf_RX4_46 (r := (some h0)) (v := ((l1).toInt64)) hX dX4_advance_191 rfl hk5 ?_
  refine z_aload_n (r := (some h0)) hX dX4_advance_194 rfl 0 rfl ?_
  refine z_dup hX dX4_advance_195 (cat_rf _) ?_
  refine gf_RX4_15 (r := (some h0)) hX dX4_advance_196 rfl hk5 ?_
  refine z_iconst (v := (1 : Int32)) hX dX4_advance_199 (by decide) ?_
  refine z_iadd hX dX4_advance_200 ?_
  refine pf_RX4_15 (r := (some h0)) (v := ((mI (sJ (sI M 258 a1 s0) 260 h0 ((l1).toInt64)) 257 h0) + (1 : Int32))) hX dX4_advance_201 rfl hk5 ?_
  refine z_loc [] rfl ?_
  exact zb_X4_advance_204 hX hQ hnL h
def bk_X4_advance_180 (h0 : Nat) (K : Mm → Prop) (l1 : Int32) (s0 : Option Nat) (M : Mm) : Prop := (bk_X4_advance_185 h0 K l1 (5 : Int32) s0 M)
set_option maxRecDepth 100000 in
set_option maxHeartbeats 4000000 in
theorem zb_X4_advance_180 {X : Cx} {h0 : Nat} {K : Mm → Prop} (hX : Ok X cX4_advance RX4 rm_X4_advance) (hQ : Rq X rm_X4_advance none (QV K)) (hnL : X.2.2.2.2.2.2.2.2.2.2.2.2.2.2 = 2) {l1 : Int32} {s0 : Option Nat} {M : Mm} (h : bk_X4_advance_180 h0 K l1 s0 M) : Z X M 0 0 180 [(0, va_rf (some h0)), (1, .int l1)] [va_rf s0] := by
  unfold bk_X4_advance_180 at h
  refine z_iconst (v := (5 : Int32)) hX dX4_advance_180 (by decide) ?_
  refine z_goto (tgt := 185) hX dX4_advance_181 (by decide) ?_
  exact zb_X4_advance_185 hX hQ hnL h
def bk_X4_advance_161 (h0 : Nat) (K : Mm → Prop) (l1 : Int32) (M : Mm) : Prop := ((l1 = (61 : Int32) → (bk_X4_advance_180 h0 K l1 (some h0) M)) ∧ (¬ l1 = (61 : Int32) → ((l1 = (59 : Int32) → (bk_X4_advance_180 h0 K l1 (some h0) M)) ∧ (¬ l1 = (59 : Int32) → ((¬ l1 = (45 : Int32) → (bk_X4_advance_185 h0 K l1 (1 : Int32) (some h0) M)) ∧ (l1 = (45 : Int32) → (bk_X4_advance_180 h0 K l1 (some h0) M)))))))
set_option maxRecDepth 100000 in
set_option maxHeartbeats 4000000 in
theorem zb_X4_advance_161 {X : Cx} {h0 : Nat} {K : Mm → Prop} (hX : Ok X cX4_advance RX4 rm_X4_advance) (hQ : Rq X rm_X4_advance none (QV K)) (hnL : X.2.2.2.2.2.2.2.2.2.2.2.2.2.2 = 2) {l1 : Int32} {M : Mm} (h : bk_X4_advance_161 h0 K l1 M) : Z X M 0 0 161 [(0, va_rf (some h0)), (1, .int l1)] [] := by
  unfold bk_X4_advance_161 at h
  refine z_aload_n (r := (some h0)) hX dX4_advance_161 rfl 0 rfl ?_
  refine z_iload_n hX dX4_advance_162 rfl 1 rfl ?_
  refine z_bipush (v := (61 : Int32)) hX dX4_advance_163 (by decide) ?_
  obtain ⟨h1, h2⟩ := h
  refine z_icmp_eq (tgt := 180) hX dX4_advance_165 (by decide) (fun hc => ?_) (fun hc => ?_)
  · have h := h1 hc
    exact zb_X4_advance_180 hX hQ hnL h
  · have h := h2 hc
    refine z_iload_n hX dX4_advance_168 rfl 1 rfl ?_
    refine z_bipush (v := (59 : Int32)) hX dX4_advance_169 (by decide) ?_
    obtain ⟨h1, h2⟩ := h
    refine z_icmp_eq (tgt := 180) hX dX4_advance_171 (by decide) (fun hc => ?_) (fun hc => ?_)
    · have h := h1 hc
      exact zb_X4_advance_180 hX hQ hnL h
    · have h := h2 hc
      refine z_iload_n hX dX4_advance_174 rfl 1 rfl ?_
      refine z_bipush (v := (45 : Int32)) hX dX4_advance_175 (by decide) ?_
      obtain ⟨h1, h2⟩ := h
      refine z_icmp_ne (tgt := 184) hX dX4_advance_177 (by decide) (fun hc => ?_) (fun hc => ?_)
      · have h := h1 hc
        refine z_iconst (v := (1 : Int32)) hX dX4_advance_184 (by decide) ?_
        exact zb_X4_advance_185 hX hQ hnL h
      · have h := h2 hc
        exact zb_X4_advance_180 hX hQ hnL h
def bk_X4_advance_155 (h0 : Nat) (K : Mm → Prop) (s0 : Int32) (s1 : Option Nat) (M : Mm) : Prop := ∃ a8, s1 = some a8 ∧ mK M a8 = 5 ∧ (bk_X4_advance_204 h0 K (sI M 258 a8 s0))
set_option maxRecDepth 100000 in
set_option maxHeartbeats 4000000 in
theorem zb_X4_advance_155 {X : Cx} {h0 : Nat} {K : Mm → Prop} (hX : Ok X cX4_advance RX4 rm_X4_advance) (hQ : Rq X rm_X4_advance none (QV K)) (hnL : X.2.2.2.2.2.2.2.2.2.2.2.2.2.2 = 2) {s0 : Int32} {s1 : Option Nat} {M : Mm} (h : bk_X4_advance_155 h0 K s0 s1 M) : Z X M 0 0 155 [] [.int s0, va_rf s1] := by
  unfold bk_X4_advance_155 at h
  obtain ⟨a8, ha9, h⟩ := h
  obtain ⟨hk10, h⟩ := h
  refine pf_RX4_35 (r := s1) (v := s0) hX dX4_advance_155 ha9 hk10 ?_
  refine z_goto (tgt := 204) hX dX4_advance_158 (by decide) ?_
  exact zb_X4_advance_204 hX hQ hnL h
def bk_X4_advance_124 (h0 : Nat) (K : Mm → Prop) (l1 : Int32) (M : Mm) : Prop := ((l1 < (48 : Int32) → (bk_X4_advance_161 h0 K l1 M)) ∧ (¬ l1 < (48 : Int32) → (((57 : Int32) < l1 → (bk_X4_advance_161 h0 K l1 M)) ∧ (¬ (57 : Int32) < l1 → mK M h0 = 5 ∧ (wp_X4_scanRun M h0 (48 : Int32) (57 : Int32) (fun r12 M13 => ((r12 ≤ (18 : Int32) → (bk_X4_advance_155 h0 K (4 : Int32) (some h0) M13)) ∧ (¬ r12 ≤ (18 : Int32) → (bk_X4_advance_155 h0 K (1 : Int32) (some h0) M13)))))))))
set_option maxRecDepth 100000 in
set_option maxHeartbeats 4000000 in
theorem zb_X4_advance_124 {X : Cx} {h0 : Nat} {K : Mm → Prop} (hX : Ok X cX4_advance RX4 rm_X4_advance) (hQ : Rq X rm_X4_advance none (QV K)) (hnL : X.2.2.2.2.2.2.2.2.2.2.2.2.2.2 = 2) {l1 : Int32} {M : Mm} (h : bk_X4_advance_124 h0 K l1 M) : Z X M 0 0 124 [(0, va_rf (some h0)), (1, .int l1)] [] := by
  unfold bk_X4_advance_124 at h
  refine z_iload_n hX dX4_advance_124 rfl 1 rfl ?_
  refine z_bipush (v := (48 : Int32)) hX dX4_advance_125 (by decide) ?_
  obtain ⟨h1, h2⟩ := h
  refine z_icmp_lt (tgt := 161) hX dX4_advance_127 (by decide) (fun hc => ?_) (fun hc => ?_)
  · have h := h1 hc
    exact zb_X4_advance_161 hX hQ hnL h
  · have h := h2 hc
    refine z_iload_n hX dX4_advance_130 rfl 1 rfl ?_
    refine z_bipush (v := (57 : Int32)) hX dX4_advance_131 (by decide) ?_
    obtain ⟨h1, h2⟩ := h
    refine z_icmp_gt (tgt := 161) hX dX4_advance_133 (by decide) (fun hc => ?_) (fun hc => ?_)
    · have h := h1 hc
      exact zb_X4_advance_161 hX hQ hnL h
    · have h := h2 hc
      refine z_aload_n (r := (some h0)) hX dX4_advance_136 rfl 0 rfl ?_
      refine z_aload_n (r := (some h0)) hX dX4_advance_137 rfl 0 rfl ?_
      refine z_bipush (v := (48 : Int32)) hX dX4_advance_138 (by decide) ?_
      refine z_bipush (v := (57 : Int32)) hX dX4_advance_140 (by decide) ?_
      obtain ⟨hk14, h⟩ := h
      refine z_callVI (As := [.int (48 : Int32), .int (57 : Int32)]) (rest := [va_rf (some h0)]) (ci := 4) hX (ct_X4_scanRun h) mw_RX4_38 rfl (by decide) rfl (by rfl) (by unfold RoomC; decide) (by simp only [List.map_cons, List.map_nil, List.sum_cons, List.sum_nil, cat_rf, cat_i, cat_j]; decide) dX4_advance_142 hk14 (fun r12 M13 h => ?_)
      refine z_bipush (v := (18 : Int32)) hX dX4_advance_145 (by decide) ?_
      obtain ⟨h1, h2⟩ := h
      refine z_icmp_le (tgt := 154) hX dX4_advance_147 (by decide) (fun hc => ?_) (fun hc => ?_)
      · have h := h1 hc
        refine z_iconst (v := (4 : Int32)) hX dX4_advance_154 (by decide) ?_
        refine z_loc [] rfl ?_
        exact zb_X4_advance_155 hX hQ hnL h
      · have h := h2 hc
        refine z_iconst (v := (1 : Int32)) hX dX4_advance_150 (by decide) ?_
        refine z_goto (tgt := 155) hX dX4_advance_151 (by decide) ?_
        refine z_loc [] rfl ?_
        exact zb_X4_advance_155 hX hQ hnL h
def bk_X4_advance_118 (h0 : Nat) (K : Mm → Prop) (s0 : Int32) (s1 : Option Nat) (M : Mm) : Prop := ∃ a16, s1 = some a16 ∧ mK M a16 = 5 ∧ (bk_X4_advance_204 h0 K (sI M 258 a16 s0))
set_option maxRecDepth 100000 in
set_option maxHeartbeats 4000000 in
theorem zb_X4_advance_118 {X : Cx} {h0 : Nat} {K : Mm → Prop} (hX : Ok X cX4_advance RX4 rm_X4_advance) (hQ : Rq X rm_X4_advance none (QV K)) (hnL : X.2.2.2.2.2.2.2.2.2.2.2.2.2.2 = 2) {s0 : Int32} {s1 : Option Nat} {M : Mm} (h : bk_X4_advance_118 h0 K s0 s1 M) : Z X M 0 0 118 [] [.int s0, va_rf s1] := by
  unfold bk_X4_advance_118 at h
  obtain ⟨a16, ha17, h⟩ := h
  obtain ⟨hk18, h⟩ := h
  refine pf_RX4_35 (r := s1) (v := s0) hX dX4_advance_118 ha17 hk18 ?_
  refine z_goto (tgt := 204) hX dX4_advance_121 (by decide) ?_
  exact zb_X4_advance_204 hX hQ hnL h
def bk_X4_advance_44 (h0 : Nat) (K : Mm → Prop) (M : Mm) : Prop := mK M h0 = 5 ∧ ∃ a24, (mR (sI M 259 h0 (mI M 257 h0)) 256 h0) = some a24 ∧ mK (sI M 259 h0 (mI M 257 h0)) a24 = 1 ∧ (wp_X0_at (sI M 259 h0 (mI M 257 h0)) a24 (mI (sI M 259 h0 (mI M 257 h0)) 257 h0) (fun r22 M23 => ((0 ≤ r22 → ((r22 < (97 : Int32) → (bk_X4_advance_124 h0 K r22 M23)) ∧ (¬ r22 < (97 : Int32) → (((122 : Int32) < r22 → (bk_X4_advance_124 h0 K r22 M23)) ∧ (¬ (122 : Int32) < r22 → mK M23 h0 = 5 ∧ (wp_X4_scanRun M23 h0 (97 : Int32) (122 : Int32) (fun r28 M29 => ((r28 ≤ (8 : Int32) → mK M29 h0 = 5 ∧ (wp_X4_isKeyword M29 h0 (fun r32 M33 => ((r32 = 0 → (bk_X4_advance_118 h0 K (3 : Int32) (some h0) M33)) ∧ (¬ r32 = 0 → (bk_X4_advance_118 h0 K (2 : Int32) (some h0) M33)))))) ∧ (¬ r28 ≤ (8 : Int32) → (bk_X4_advance_118 h0 K (1 : Int32) (some h0) M29)))))))))) ∧ (¬ 0 ≤ r22 → mK M23 h0 = 5 ∧ (bk_X4_advance_204 h0 K (sI M23 258 h0 (0 : Int32)))))))
set_option maxRecDepth 100000 in
set_option maxHeartbeats 4000000 in
theorem zb_X4_advance_44 {X : Cx} {h0 : Nat} {K : Mm → Prop} (hX : Ok X cX4_advance RX4 rm_X4_advance) (hQ : Rq X rm_X4_advance none (QV K)) (hnL : X.2.2.2.2.2.2.2.2.2.2.2.2.2.2 = 2) {M : Mm} (h : bk_X4_advance_44 h0 K M) : Z X M 0 0 44 [(0, va_rf (some h0))] [] := by
  unfold bk_X4_advance_44 at h
  refine z_aload_n (r := (some h0)) hX dX4_advance_44 rfl 0 rfl ?_
  refine z_aload_n (r := (some h0)) hX dX4_advance_45 rfl 0 rfl ?_
  obtain ⟨hk20, h⟩ := h
  refine gf_RX4_15 (r := (some h0)) hX dX4_advance_46 rfl hk20 ?_
  refine pf_RX4_32 (r := (some h0)) (v := (mI M 257 h0)) hX dX4_advance_49 rfl hk20 ?_
  refine z_aload_n (r := (some h0)) hX dX4_advance_52 rfl 0 rfl ?_
  refine gf_RX4_9 (r := (some h0)) hX dX4_advance_53 rfl hk20 ?_
  refine z_aload_n (r := (some h0)) hX dX4_advance_56 rfl 0 rfl ?_
  refine gf_RX4_15 (r := (some h0)) hX dX4_advance_57 rfl hk20 ?_
  obtain ⟨a24, ha25, h⟩ := h
  obtain ⟨hk26, h⟩ := h
  refine z_callVI (As := [.int (mI (sI M 259 h0 (mI M 257 h0)) 257 h0)]) (rest := []) (ci := 0) hX (ct_X0_at h) mw_RX4_24 rfl (by decide) rfl (by rw [ha25]; rfl) (by unfold RoomC; decide) (by decide) dX4_advance_60 hk26 (fun r22 M23 h => ?_)
  refine z_istore_n hX [(1, .int r22), (0, va_rf (some h0))] dX4_advance_63 rfl (by rw [hnL]; decide) rfl ?_
  refine z_iload_n hX dX4_advance_64 rfl 0 rfl ?_
  obtain ⟨h1, h2⟩ := h
  refine z_if_ge (tgt := 76) hX dX4_advance_65 (by decide) (fun hc => ?_) (fun hc => ?_)
  · have h := h1 hc
    refine z_iload_n hX dX4_advance_76 rfl 0 rfl ?_
    refine z_bipush (v := (97 : Int32)) hX dX4_advance_77 (by decide) ?_
    obtain ⟨h1, h2⟩ := h
    refine z_icmp_lt (tgt := 124) hX dX4_advance_79 (by decide) (fun hc => ?_) (fun hc => ?_)
    · have h := h1 hc
      refine z_loc [1, 0] rfl ?_
      exact zb_X4_advance_124 hX hQ hnL h
    · have h := h2 hc
      refine z_iload_n hX dX4_advance_82 rfl 0 rfl ?_
      refine z_bipush (v := (122 : Int32)) hX dX4_advance_83 (by decide) ?_
      obtain ⟨h1, h2⟩ := h
      refine z_icmp_gt (tgt := 124) hX dX4_advance_85 (by decide) (fun hc => ?_) (fun hc => ?_)
      · have h := h1 hc
        refine z_loc [1, 0] rfl ?_
        exact zb_X4_advance_124 hX hQ hnL h
      · have h := h2 hc
        refine z_aload_n (r := (some h0)) hX dX4_advance_88 rfl 1 rfl ?_
        refine z_aload_n (r := (some h0)) hX dX4_advance_89 rfl 1 rfl ?_
        refine z_bipush (v := (97 : Int32)) hX dX4_advance_90 (by decide) ?_
        refine z_bipush (v := (122 : Int32)) hX dX4_advance_92 (by decide) ?_
        obtain ⟨hk30, h⟩ := h
        refine z_callVI (As := [.int (97 : Int32), .int (122 : Int32)]) (rest := [va_rf (some h0)]) (ci := 4) hX (ct_X4_scanRun h) mw_RX4_38 rfl (by decide) rfl (by rfl) (by unfold RoomC; decide) (by simp only [List.map_cons, List.map_nil, List.sum_cons, List.sum_nil, cat_rf, cat_i, cat_j]; decide) dX4_advance_94 hk30 (fun r28 M29 h => ?_)
        refine z_bipush (v := (8 : Int32)) hX dX4_advance_97 (by decide) ?_
        obtain ⟨h1, h2⟩ := h
        refine z_icmp_le (tgt := 106) hX dX4_advance_99 (by decide) (fun hc => ?_) (fun hc => ?_)
        · have h := h1 hc
          refine z_aload_n (r := (some h0)) hX dX4_advance_106 rfl 1 rfl ?_
          obtain ⟨hk34, h⟩ := h
          refine z_callVI (As := []) (rest := [va_rf (some h0)]) (ci := 4) hX (ct_X4_isKeyword h) mw_RX4_42 rfl (by decide) rfl (by rfl) (by unfold RoomC; decide) (by simp only [List.map_cons, List.map_nil, List.sum_cons, List.sum_nil, cat_rf, cat_i, cat_j]; decide) dX4_advance_107 hk34 (fun r32 M33 h => ?_)
          obtain ⟨h1, h2⟩ := h
          refine z_if_eq (tgt := 117) hX dX4_advance_110 (by decide) (fun hc => ?_) (fun hc => ?_)
          · have h := h1 hc
            refine z_iconst (v := (3 : Int32)) hX dX4_advance_117 (by decide) ?_
            refine z_loc [] rfl ?_
            exact zb_X4_advance_118 hX hQ hnL h
          · have h := h2 hc
            refine z_iconst (v := (2 : Int32)) hX dX4_advance_113 (by decide) ?_
            refine z_goto (tgt := 118) hX dX4_advance_114 (by decide) ?_
            refine z_loc [] rfl ?_
            exact zb_X4_advance_118 hX hQ hnL h
        · have h := h2 hc
          refine z_iconst (v := (1 : Int32)) hX dX4_advance_102 (by decide) ?_
          refine z_goto (tgt := 118) hX dX4_advance_103 (by decide) ?_
          refine z_loc [] rfl ?_
          exact zb_X4_advance_118 hX hQ hnL h
  · have h := h2 hc
    refine z_aload_n (r := (some h0)) hX dX4_advance_68 rfl 1 rfl ?_
    refine z_iconst (v := (0 : Int32)) hX dX4_advance_69 (by decide) ?_
    obtain ⟨hk36, h⟩ := h
    refine pf_RX4_35 (r := (some h0)) (v := (0 : Int32)) hX dX4_advance_70 rfl hk36 ?_
    refine z_goto (tgt := 204) hX dX4_advance_73 (by decide) ?_
    refine z_loc [] rfl ?_
    exact zb_X4_advance_204 hX hQ hnL h
def lp_X4_advance_0 (h0 : Nat) (K : Mm → Prop) : Nat → Mm → Prop
  | 0, _ => False
  | n + 1, M => mK M h0 = 5 ∧ ∃ a39, (mR M 256 h0) = some a39 ∧ mK M a39 = 1 ∧ (((mI M 1 a39) ≤ (mI M 257 h0) → (bk_X4_advance_44 h0 K M)) ∧ (¬ (mI M 1 a39) ≤ (mI M 257 h0) → (wp_X0_at M a39 (mI M 257 h0) (fun r42 M43 => (wp_X4_isBlank M43 r42 (fun r45 M46 => ((r45 = 0 → (bk_X4_advance_44 h0 K M46)) ∧ (¬ r45 = 0 → mK M46 h0 = 5 ∧ ((lp_X4_advance_0 h0 K n) (sI M46 257 h0 ((mI M46 257 h0) + (1 : Int32))))))))))))
set_option maxRecDepth 100000 in
set_option maxHeartbeats 4000000 in
theorem zl_X4_advance_0 {X : Cx} {h0 : Nat} {K : Mm → Prop} (hX : Ok X cX4_advance RX4 rm_X4_advance) (hQ : Rq X rm_X4_advance none (QV K)) (hnL : X.2.2.2.2.2.2.2.2.2.2.2.2.2.2 = 2) : ∀ (n : Nat) (M : Mm), lp_X4_advance_0 h0 K n  M → Z X M 0 0 0 [(0, va_rf (some h0))] [] := by
  intro n
  induction n with
  | zero =>
    intro  M h
    exact False.elim h
  | succ n hR0 =>
    intro  M h
    refine z_aload_n (r := (some h0)) hX dX4_advance_0 rfl 0 rfl ?_
    obtain ⟨hk38, h⟩ := h
    refine gf_RX4_15 (r := (some h0)) hX dX4_advance_1 rfl hk38 ?_
    refine z_aload_n (r := (some h0)) hX dX4_advance_4 rfl 0 rfl ?_
    refine gf_RX4_9 (r := (some h0)) hX dX4_advance_5 rfl hk38 ?_
    obtain ⟨a39, ha40, h⟩ := h
    obtain ⟨hk41, h⟩ := h
    refine gf_RX4_19 (r := (mR M 256 h0)) hX dX4_advance_8 ha40 hk41 ?_
    obtain ⟨h1, h2⟩ := h
    refine z_icmp_ge (tgt := 44) hX dX4_advance_11 (by decide) (fun hc => ?_) (fun hc => ?_)
    · have h := h1 hc
      exact zb_X4_advance_44 hX hQ hnL h
    · have h := h2 hc
      refine z_aload_n (r := (some h0)) hX dX4_advance_14 rfl 0 rfl ?_
      refine gf_RX4_9 (r := (some h0)) hX dX4_advance_15 rfl hk38 ?_
      refine z_aload_n (r := (some h0)) hX dX4_advance_18 rfl 0 rfl ?_
      refine gf_RX4_15 (r := (some h0)) hX dX4_advance_19 rfl hk38 ?_
      refine z_callVI (As := [.int (mI M 257 h0)]) (rest := []) (ci := 0) hX (ct_X0_at h) mw_RX4_24 rfl (by decide) rfl (by rw [ha40]; rfl) (by unfold RoomC; decide) (by decide) dX4_advance_22 hk41 (fun r42 M43 h => ?_)
      refine z_callSI (As := [.int r42]) (rest := []) hX (ct_X4_isBlank h) mw_RX4_28 rfl (by rfl) (by unfold RoomC; decide) (by decide) dX4_advance_25 (fun r45 M46 h => ?_)
      obtain ⟨h1, h2⟩ := h
      refine z_if_eq (tgt := 44) hX dX4_advance_28 (by decide) (fun hc => ?_) (fun hc => ?_)
      · have h := h1 hc
        exact zb_X4_advance_44 hX hQ hnL h
      · have h := h2 hc
        refine z_aload_n (r := (some h0)) hX dX4_advance_31 rfl 0 rfl ?_
        refine z_dup hX dX4_advance_32 (cat_rf _) ?_
        obtain ⟨hk48, h⟩ := h
        refine gf_RX4_15 (r := (some h0)) hX dX4_advance_33 rfl hk48 ?_
        refine z_iconst (v := (1 : Int32)) hX dX4_advance_36 (by decide) ?_
        refine z_iadd hX dX4_advance_37 ?_
        refine pf_RX4_15 (r := (some h0)) (v := ((mI M46 257 h0) + (1 : Int32))) hX dX4_advance_38 rfl hk48 ?_
        refine z_goto (tgt := 0) hX dX4_advance_41 (by decide) ?_
        exact hR0 _ h
def wp_X4_advance (M : Mm) (h0 : Nat) (K : Mm → Prop) : Prop := (∃ kk, lp_X4_advance_0 h0 K kk M)
set_option maxRecDepth 100000 in
set_option maxHeartbeats 4000000 in
theorem ct_X4_advance {M : Mm} {h0 : Nat} {K : Mm → Prop} (h : wp_X4_advance M h0 K) : CtV yX4_advance cX4_advance 2 none rm_X4_advance [.ref h0] M K := by
  refine ct_any (QV K) (by decide) (by exact Nat.le_of_ble_eq_true rfl) (fun X hX hQ hnL hnm => ?_)
  rw [show lv_args 0 [.ref h0] = [(0, va_rf (some h0))] by rfl]
  have hX : Ok X cX4_advance RX4 rm_X4_advance := hX
  unfold wp_X4_advance at h
  obtain ⟨n, h⟩ := h
  exact zl_X4_advance_0 hX hQ hnL n _ h
def rm_X7_refuseToken : Room := { frames := 1, cells := 0, slots := 0, locals := 21 }
def bk_X7_refuseToken_17 (h0 : Nat) (K : Int32 → Mm → Prop) (s0 : Int32) (s1 : Option Nat) (M : Mm) : Prop := ∃ a3, s1 = some a3 ∧ mK M a3 = 8 ∧ (wp_X7_refuse M a3 s0 (fun r1 M2 => (bz r1 ∧ K r1 M2)))
set_option maxRecDepth 100000 in
set_option maxHeartbeats 4000000 in
theorem zb_X7_refuseToken_17 {X : Cx} {h0 : Nat} {K : Int32 → Mm → Prop} (hX : Ok X cX7_refuseToken RX7 rm_X7_refuseToken) (hQ : Rq X rm_X7_refuseToken (some .boolean) (QI K)) (hnL : X.2.2.2.2.2.2.2.2.2.2.2.2.2.2 = 1) {s0 : Int32} {s1 : Option Nat} {M : Mm} (h : bk_X7_refuseToken_17 h0 K s0 s1 M) : Z X M 0 0 17 [] [.int s0, va_rf s1] := by
  unfold bk_X7_refuseToken_17 at h
  obtain ⟨a3, ha4, h⟩ := h
  obtain ⟨hk5, h⟩ := h
  refine z_callVI (As := [.int s0]) (rest := []) (ci := 7) hX (ct_X7_refuse h) mw_RX7_34 rfl (by decide) rfl (by rw [ha4]; rfl) (by unfold RoomC; decide) (by decide) dX7_refuseToken_17 hk5 (fun r1 M2 h => ?_)
  exact y_zret hX hQ dX7_refuseToken_20 h.1 h.2
def wp_X7_refuseToken (M : Mm) (h0 : Nat) (K : Int32 → Mm → Prop) : Prop := mK M h0 = 8 ∧ ∃ a8, (mR M 448 h0) = some a8 ∧ mK M a8 = 5 ∧ ((¬ (mI M 258 a8) = (1 : Int32) → (bk_X7_refuseToken_17 h0 K (2 : Int32) (some h0) M)) ∧ ((mI M 258 a8) = (1 : Int32) → (bk_X7_refuseToken_17 h0 K (1 : Int32) (some h0) M)))
set_option maxRecDepth 100000 in
set_option maxHeartbeats 4000000 in
theorem ct_X7_refuseToken {M : Mm} {h0 : Nat} {K : Int32 → Mm → Prop} (h : wp_X7_refuseToken M h0 K) : CtI yX7_refuseToken cX7_refuseToken 1 (some .boolean) rm_X7_refuseToken [.ref h0] M K := by
  refine ct_any (QI K) (by decide) (by exact Nat.le_of_ble_eq_true rfl) (fun X hX hQ hnL hnm => ?_)
  rw [show lv_args 0 [.ref h0] = [(0, va_rf (some h0))] by rfl]
  have hX : Ok X cX7_refuseToken RX7 rm_X7_refuseToken := hX
  unfold wp_X7_refuseToken at h
  refine z_aload_n (r := (some h0)) hX dX7_refuseToken_0 rfl 0 rfl ?_
  refine z_aload_n (r := (some h0)) hX dX7_refuseToken_1 rfl 0 rfl ?_
  obtain ⟨hk7, h⟩ := h
  refine gf_RX7_9 (r := (some h0)) hX dX7_refuseToken_2 rfl hk7 ?_
  obtain ⟨a8, ha9, h⟩ := h
  obtain ⟨hk10, h⟩ := h
  refine gf_RX7_24 (r := (mR M 448 h0)) hX dX7_refuseToken_5 ha9 hk10 ?_
  refine z_iconst (v := (1 : Int32)) hX dX7_refuseToken_8 (by decide) ?_
  obtain ⟨h1, h2⟩ := h
  refine z_icmp_ne (tgt := 16) hX dX7_refuseToken_9 (by decide) (fun hc => ?_) (fun hc => ?_)
  · have h := h1 hc
    refine z_iconst (v := (2 : Int32)) hX dX7_refuseToken_16 (by decide) ?_
    refine z_loc [] rfl ?_
    exact zb_X7_refuseToken_17 hX hQ hnL h
  · have h := h2 hc
    refine z_iconst (v := (1 : Int32)) hX dX7_refuseToken_12 (by decide) ?_
    refine z_goto (tgt := 17) hX dX7_refuseToken_13 (by decide) ?_
    refine z_loc [] rfl ?_
    exact zb_X7_refuseToken_17 hX hQ hnL h
def rm_X9_addTo : Room := { frames := 1, cells := 0, slots := 0, locals := 25 }
def lp_X9_addTo_92 (h0 : Nat) (K : Int32 → Mm → Prop) : Nat → Int64 → Int32 → Int32 → Int32 → Int32 → Mm → Prop
  | 0, _, _, _, _, _, _ => False
  | n + 1, l1, l3, l4, l5, l6, M => ((l6 ≤ l5 → mK M h0 = 10 ∧ (wp_X9_put M h0 l5 l1 l3 l4 (fun M2 => mK M2 h0 = 10 ∧ (K (1 : Int32) (sI M2 581 h0 ((mI M2 581 h0) + (1 : Int32))))))) ∧ (¬ l6 ≤ l5 → mK M h0 = 10 ∧ ∃ a8, (mR M 578 h0) = some a8 ∧ isA M a8 2 ∧ vp_in (l6 - (1 : Int32)) (aN M a8) ∧ ∃ a12, (mR M 579 h0) = some a12 ∧ isA M a12 1 ∧ vp_in (l6 - (1 : Int32)) (aN M a12) ∧ ∃ a16, (mR M 580 h0) = some a16 ∧ isA M a16 1 ∧ vp_in (l6 - (1 : Int32)) (aN M a16) ∧ (wp_X9_put M h0 l6 (aJ M a8 ((l6 - (1 : Int32))).toNatClampNeg) (aI M a12 ((l6 - (1 : Int32))).toNatClampNeg) (aI M a16 ((l6 - (1 : Int32))).toNatClampNeg) (fun M21 => ((lp_X9_addTo_92 h0 K n) l1 l3 l4 l5 (l6 + (-1)) M21)))))
set_option maxRecDepth 100000 in
set_option maxHeartbeats 4000000 in
theorem zl_X9_addTo_92 {X : Cx} {h0 : Nat} {K : Int32 → Mm → Prop} (hX : Ok X cX9_addTo RX9 rm_X9_addTo) (hQ : Rq X rm_X9_addTo (some .boolean) (QI K)) (hnL : X.2.2.2.2.2.2.2.2.2.2.2.2.2.2 = 7) : ∀ (n : Nat) (l1 : Int64) (l3 : Int32) (l4 : Int32) (l5 : Int32) (l6 : Int32) (M : Mm), lp_X9_addTo_92 h0 K n l1 l3 l4 l5 l6 M → Z X M 0 0 92 [(0, va_rf (some h0)), (1, .long l1), (3, .int l3), (4, .int l4), (5, .int l5), (6, .int l6)] [] := by
  intro n
  induction n with
  | zero =>
    intro l1 l3 l4 l5 l6 M h
    exact False.elim h
  | succ n hR92 =>
    intro l1 l3 l4 l5 l6 M h
    refine z_iload hX dX9_addTo_92 5 rfl ?_
    refine z_iload hX dX9_addTo_94 4 rfl ?_
    obtain ⟨h1, h2⟩ := h
    refine z_icmp_le (tgt := 138) hX dX9_addTo_96 (by decide) (fun hc => ?_) (fun hc => ?_)
    · have h := h1 hc
      refine z_aload_n (r := (some h0)) hX dX9_addTo_138 rfl 0 rfl ?_
      refine z_iload hX dX9_addTo_139 4 rfl ?_
      refine z_lload_n hX dX9_addTo_141 rfl 1 rfl ?_
      refine z_iload_n hX dX9_addTo_142 rfl 2 rfl ?_
      refine z_iload hX dX9_addTo_143 3 rfl ?_
      obtain ⟨hk3, h⟩ := h
      refine z_callVV (As := [.int l5, .long l1, .int l3, .int l4]) (rest := []) (ci := 9) hX (ct_X9_put h) mw_RX9_47 rfl (by decide) rfl (by rfl) (by unfold RoomC; decide) (by decide) dX9_addTo_145 hk3 (fun M2 h => ?_)
      refine z_aload_n (r := (some h0)) hX dX9_addTo_148 rfl 0 rfl ?_
      refine z_dup hX dX9_addTo_149 (cat_rf _) ?_
      obtain ⟨hk5, h⟩ := h
      refine gf_RX9_39 (r := (some h0)) hX dX9_addTo_150 rfl hk5 ?_
      refine z_iconst (v := (1 : Int32)) hX dX9_addTo_153 (by decide) ?_
      refine z_iadd hX dX9_addTo_154 ?_
      refine pf_RX9_39 (r := (some h0)) (v := ((mI M2 581 h0) + (1 : Int32))) hX dX9_addTo_155 rfl hk5 ?_
      refine z_iconst (v := (1 : Int32)) hX dX9_addTo_158 (by decide) ?_
      exact y_zret hX hQ dX9_addTo_159 (Or.inr rfl) h
    · have h := h2 hc
      refine z_aload_n (r := (some h0)) hX dX9_addTo_99 rfl 0 rfl ?_
      refine z_iload hX dX9_addTo_100 5 rfl ?_
      refine z_aload_n (r := (some h0)) hX dX9_addTo_102 rfl 0 rfl ?_
      obtain ⟨hk7, h⟩ := h
      refine gf_RX9_18 (r := (some h0)) hX dX9_addTo_103 rfl hk7 ?_
      refine z_iload hX dX9_addTo_106 5 rfl ?_
      refine z_iconst (v := (1 : Int32)) hX dX9_addTo_108 (by decide) ?_
      refine z_isub hX dX9_addTo_109 ?_
      obtain ⟨a8, ha9, h⟩ := h
      obtain ⟨hk10, h⟩ := h
      obtain ⟨hc11, h⟩ := h
      refine y_lald (r := (mR M 578 h0)) hX dX9_addTo_110 ha9 hk10 hc11 ?_
      refine z_aload_n (r := (some h0)) hX dX9_addTo_111 rfl 0 rfl ?_
      refine gf_RX9_22 (r := (some h0)) hX dX9_addTo_112 rfl hk7 ?_
      refine z_iload hX dX9_addTo_115 5 rfl ?_
      refine z_iconst (v := (1 : Int32)) hX dX9_addTo_117 (by decide) ?_
      refine z_isub hX dX9_addTo_118 ?_
      obtain ⟨a12, ha13, h⟩ := h
      obtain ⟨hk14, h⟩ := h
      obtain ⟨hc15, h⟩ := h
      refine y_iald (r := (mR M 579 h0)) hX dX9_addTo_119 ha13 hk14 hc15 ?_
      refine z_aload_n (r := (some h0)) hX dX9_addTo_120 rfl 0 rfl ?_
      refine gf_RX9_26 (r := (some h0)) hX dX9_addTo_121 rfl hk7 ?_
      refine z_iload hX dX9_addTo_124 5 rfl ?_
      refine z_iconst (v := (1 : Int32)) hX dX9_addTo_126 (by decide) ?_
      refine z_isub hX dX9_addTo_127 ?_
      obtain ⟨a16, ha17, h⟩ := h
      obtain ⟨hk18, h⟩ := h
      obtain ⟨hc19, h⟩ := h
      refine y_iald (r := (mR M 580 h0)) hX dX9_addTo_128 ha17 hk18 hc19 ?_
      refine z_callVV (As := [.int l6, .long (aJ M a8 ((l6 - (1 : Int32))).toNatClampNeg), .int (aI M a12 ((l6 - (1 : Int32))).toNatClampNeg), .int (aI M a16 ((l6 - (1 : Int32))).toNatClampNeg)]) (rest := []) (ci := 9) hX (ct_X9_put h) mw_RX9_47 rfl (by decide) rfl (by rfl) (by unfold RoomC; decide) (by decide) dX9_addTo_129 hk7 (fun M21 h => ?_)
      refine z_iinc (v := (l6 + (-1))) hX [(6, .int (l6 + (-1))), (0, va_rf (some h0)), (1, .long l1), (3, .int l3), (4, .int l4), (5, .int l5)] dX9_addTo_132 5 rfl rfl (by rw [hnL]; decide) rfl ?_
      refine z_goto (tgt := 92) hX dX9_addTo_135 (by decide) ?_
      refine z_loc [1, 2, 3, 4, 5, 0] rfl ?_
      exact hR92 _ _ _ _ _ _ h
def bk_X9_addTo_75 (h0 : Nat) (K : Int32 → Mm → Prop) (l1 : Int64) (l3 : Int32) (l4 : Int32) (l5 : Int32) (M : Mm) : Prop := mK M h0 = 10 ∧ (((mI M 581 h0) < (24 : Int32) → (∃ kk, lp_X9_addTo_92 h0 K kk l1 l3 l4 l5 (mI M 581 h0) M)) ∧ (¬ (mI M 581 h0) < (24 : Int32) → (K (0 : Int32) M)))
set_option maxRecDepth 100000 in
set_option maxHeartbeats 4000000 in
theorem zb_X9_addTo_75 {X : Cx} {h0 : Nat} {K : Int32 → Mm → Prop} (hX : Ok X cX9_addTo RX9 rm_X9_addTo) (hQ : Rq X rm_X9_addTo (some .boolean) (QI K)) (hnL : X.2.2.2.2.2.2.2.2.2.2.2.2.2.2 = 7) {l1 : Int64} {l3 : Int32} {l4 : Int32} {l5 : Int32} {M : Mm} (h : bk_X9_addTo_75 h0 K l1 l3 l4 l5 M) : Z X M 0 0 75 [(0, va_rf (some h0)), (1, .long l1), (3, .int l3), (4, .int l4), (5, .int l5)] [] := by
  unfold bk_X9_addTo_75 at h
  refine z_aload_n (r := (some h0)) hX dX9_addTo_75 rfl 0 rfl ?_
  obtain ⟨hk23, h⟩ := h
  refine gf_RX9_39 (r := (some h0)) hX dX9_addTo_76 rfl hk23 ?_
  refine z_bipush (v := (24 : Int32)) hX dX9_addTo_79 (by decide) ?_
  obtain ⟨h1, h2⟩ := h
  refine z_icmp_lt (tgt := 86) hX dX9_addTo_81 (by decide) (fun hc => ?_) (fun hc => ?_)
  · have h := h1 hc
    refine z_aload_n (r := (some h0)) hX dX9_addTo_86 rfl 0 rfl ?_
    refine gf_RX9_39 (r := (some h0)) hX dX9_addTo_87 rfl hk23 ?_
    refine z_istore hX [(6, .int (mI M 581 h0)), (0, va_rf (some h0)), (1, .long l1), (3, .int l3), (4, .int l4), (5, .int l5)] dX9_addTo_90 (by rw [hnL]; decide) rfl ?_
    refine z_loc [1, 2, 3, 4, 5, 0] rfl ?_
    obtain ⟨n, h⟩ := h
    exact zl_X9_addTo_92 hX hQ hnL n _ _ _ _ _ _ h
  · have h := h2 hc
    refine z_iconst (v := (0 : Int32)) hX dX9_addTo_84 (by decide) ?_
    exact y_zret hX hQ dX9_addTo_85 (Or.inl rfl) h
def bk_X9_addTo_29 (h0 : Nat) (K : Int32 → Mm → Prop) (l1 : Int64) (l3 : Int32) (l4 : Int32) (l5 : Int32) (M : Mm) : Prop := mK M h0 = 10 ∧ (((mI M 581 h0) ≤ l5 → (bk_X9_addTo_75 h0 K l1 l3 l4 l5 M)) ∧ (¬ (mI M 581 h0) ≤ l5 → ∃ a25, (mR M 578 h0) = some a25 ∧ isA M a25 2 ∧ vp_in l5 (aN M a25) ∧ ((¬ (aJ M a25 (l5).toNatClampNeg) = l1 → (bk_X9_addTo_75 h0 K l1 l3 l4 l5 M)) ∧ ((aJ M a25 (l5).toNatClampNeg) = l1 → ∃ a29, (mR M 579 h0) = some a29 ∧ isA M a29 1 ∧ vp_in l5 (aN M a29) ∧ ((¬ (aI M a29 (l5).toNatClampNeg) = l3 → (bk_X9_addTo_75 h0 K l1 l3 l4 l5 M)) ∧ ((aI M a29 (l5).toNatClampNeg) = l3 → ∃ a33, (mR M 580 h0) = some a33 ∧ isA M a33 1 ∧ vp_in l5 (aN M a33) ∧ vp_in l5 (aN M a33) ∧ (K (1 : Int32) (tI M a33 (l5).toNatClampNeg ((aI M a33 (l5).toNatClampNeg) + l4)))))))))
set_option maxRecDepth 100000 in
set_option maxHeartbeats 4000000 in
theorem zb_X9_addTo_29 {X : Cx} {h0 : Nat} {K : Int32 → Mm → Prop} (hX : Ok X cX9_addTo RX9 rm_X9_addTo) (hQ : Rq X rm_X9_addTo (some .boolean) (QI K)) (hnL : X.2.2.2.2.2.2.2.2.2.2.2.2.2.2 = 7) {l1 : Int64} {l3 : Int32} {l4 : Int32} {l5 : Int32} {M : Mm} (h : bk_X9_addTo_29 h0 K l1 l3 l4 l5 M) : Z X M 0 0 29 [(0, va_rf (some h0)), (1, .long l1), (3, .int l3), (4, .int l4), (5, .int l5)] [] := by
  unfold bk_X9_addTo_29 at h
  refine z_iload hX dX9_addTo_29 4 rfl ?_
  refine z_aload_n (r := (some h0)) hX dX9_addTo_31 rfl 0 rfl ?_
  obtain ⟨hk24, h⟩ := h
  refine gf_RX9_39 (r := (some h0)) hX dX9_addTo_32 rfl hk24 ?_
  obtain ⟨h1, h2⟩ := h
  refine z_icmp_ge (tgt := 75) hX dX9_addTo_35 (by decide) (fun hc => ?_) (fun hc => ?_)
  · have h := h1 hc
    exact zb_X9_addTo_75 hX hQ hnL h
  · have h := h2 hc
    refine z_aload_n (r := (some h0)) hX dX9_addTo_38 rfl 0 rfl ?_
    refine gf_RX9_18 (r := (some h0)) hX dX9_addTo_39 rfl hk24 ?_
    refine z_iload hX dX9_addTo_42 4 rfl ?_
    obtain ⟨a25, ha26, h⟩ := h
    obtain ⟨hk27, h⟩ := h
    obtain ⟨hc28, h⟩ := h
    refine y_lald (r := (mR M 578 h0)) hX dX9_addTo_44 ha26 hk27 hc28 ?_
    refine z_lload_n hX dX9_addTo_45 rfl 1 rfl ?_
    refine z_lcmp hX dX9_addTo_46 ?_
    obtain ⟨h1, h2⟩ := h
    refine z_if_ne (tgt := 75) hX dX9_addTo_47 (by decide) (fun hc => ?_) (fun hc => ?_)
    · have h := h1 (fun q => hc ((lg_cmp_eq _ _).mpr q))
      exact zb_X9_addTo_75 hX hQ hnL h
    · have h := h2 ((lg_cmp_eq _ _).mp hc)
      refine z_aload_n (r := (some h0)) hX dX9_addTo_50 rfl 0 rfl ?_
      refine gf_RX9_22 (r := (some h0)) hX dX9_addTo_51 rfl hk24 ?_
      refine z_iload hX dX9_addTo_54 4 rfl ?_
      obtain ⟨a29, ha30, h⟩ := h
      obtain ⟨hk31, h⟩ := h
      obtain ⟨hc32, h⟩ := h
      refine y_iald (r := (mR M 579 h0)) hX dX9_addTo_56 ha30 hk31 hc32 ?_
      refine z_iload_n hX dX9_addTo_57 rfl 2 rfl ?_
      obtain ⟨h1, h2⟩ := h
      refine z_icmp_ne (tgt := 75) hX dX9_addTo_58 (by decide) (fun hc => ?_) (fun hc => ?_)
      · have h := h1 hc
        exact zb_X9_addTo_75 hX hQ hnL h
      · have h := h2 hc
        refine z_aload_n (r := (some h0)) hX dX9_addTo_61 rfl 0 rfl ?_
        refine gf_RX9_26 (r := (some h0)) hX dX9_addTo_62 rfl hk24 ?_
        refine z_iload hX dX9_addTo_65 4 rfl ?_
        refine z_dup2_11 hX dX9_addTo_67 rfl (cat_rf _) ?_
        obtain ⟨a33, ha34, h⟩ := h
        obtain ⟨hk35, h⟩ := h
        obtain ⟨hc36, h⟩ := h
        refine y_iald (r := (mR M 580 h0)) hX dX9_addTo_68 ha34 hk35 hc36 ?_
        refine z_iload hX dX9_addTo_69 3 rfl ?_
        refine z_iadd hX dX9_addTo_71 ?_
        obtain ⟨hc37, h⟩ := h
        refine y_iast (r := (mR M 580 h0)) hX dX9_addTo_72 ha34 hk35 hc37 ?_
        refine z_iconst (v := (1 : Int32)) hX dX9_addTo_73 (by decide) ?_
        exact y_zret hX hQ dX9_addTo_74 (Or.inr rfl) h
def lp_X9_addTo_3 (h0 : Nat) (K : Int32 → Mm → Prop) : Nat → Int64 → Int32 → Int32 → Int32 → Mm → Prop
  | 0, _, _, _, _, _ => False
  | n + 1, l1, l3, l4, l5, M => mK M h0 = 10 ∧ (((mI M 581 h0) ≤ l5 → (bk_X9_addTo_29 h0 K l1 l3 l4 l5 M)) ∧ (¬ (mI M 581 h0) ≤ l5 → (wp_X9_isAhead M h0 l5 l1 l3 (fun r39 M40 => ((r39 = 0 → (bk_X9_addTo_29 h0 K l1 l3 l4 l5 M40)) ∧ (¬ r39 = 0 → ((lp_X9_addTo_3 h0 K n) l1 l3 l4 (l5 + 1) M40)))))))
set_option maxRecDepth 100000 in
set_option maxHeartbeats 4000000 in
theorem zl_X9_addTo_3 {X : Cx} {h0 : Nat} {K : Int32 → Mm → Prop} (hX : Ok X cX9_addTo RX9 rm_X9_addTo) (hQ : Rq X rm_X9_addTo (some .boolean) (QI K)) (hnL : X.2.2.2.2.2.2.2.2.2.2.2.2.2.2 = 7) : ∀ (n : Nat) (l1 : Int64) (l3 : Int32) (l4 : Int32) (l5 : Int32) (M : Mm), lp_X9_addTo_3 h0 K n l1 l3 l4 l5 M → Z X M 0 0 3 [(0, va_rf (some h0)), (1, .long l1), (3, .int l3), (4, .int l4), (5, .int l5)] [] := by
  intro n
  induction n with
  | zero =>
    intro l1 l3 l4 l5 M h
    exact False.elim h
  | succ n hR3 =>
    intro l1 l3 l4 l5 M h
    refine z_iload hX dX9_addTo_3 4 rfl ?_
    refine z_aload_n (r := (some h0)) hX dX9_addTo_5 rfl 0 rfl ?_
    obtain ⟨hk38, h⟩ := h
    refine gf_RX9_39 (r := (some h0)) hX dX9_addTo_6 rfl hk38 ?_
    obtain ⟨h1, h2⟩ := h
    refine z_icmp_ge (tgt := 29) hX dX9_addTo_9 (by decide) (fun hc => ?_) (fun hc => ?_)
    · have h := h1 hc
      exact zb_X9_addTo_29 hX hQ hnL h
    · have h := h2 hc
      refine z_aload_n (r := (some h0)) hX dX9_addTo_12 rfl 0 rfl ?_
      refine z_iload hX dX9_addTo_13 4 rfl ?_
      refine z_lload_n hX dX9_addTo_15 rfl 1 rfl ?_
      refine z_iload_n hX dX9_addTo_16 rfl 2 rfl ?_
      refine z_callVI (As := [.int l5, .long l1, .int l3]) (rest := []) (ci := 9) hX (ct_X9_isAhead h) mw_RX9_43 rfl (by decide) rfl (by rfl) (by unfold RoomC; decide) (by decide) dX9_addTo_17 hk38 (fun r39 M40 h => ?_)
      obtain ⟨h1, h2⟩ := h
      refine z_if_eq (tgt := 29) hX dX9_addTo_20 (by decide) (fun hc => ?_) (fun hc => ?_)
      · have h := h1 hc
        exact zb_X9_addTo_29 hX hQ hnL h
      · have h := h2 hc
        refine z_iinc (v := (l5 + 1)) hX [(5, .int (l5 + 1)), (0, va_rf (some h0)), (1, .long l1), (3, .int l3), (4, .int l4)] dX9_addTo_23 4 rfl rfl (by rw [hnL]; decide) rfl ?_
        refine z_goto (tgt := 3) hX dX9_addTo_26 (by decide) ?_
        refine z_loc [1, 2, 3, 4, 0] rfl ?_
        exact hR3 _ _ _ _ _ h
def wp_X9_addTo (M : Mm) (h0 : Nat) (p1 : Int64) (p2 : Int32) (p3 : Int32) (K : Int32 → Mm → Prop) : Prop := (∃ kk, lp_X9_addTo_3 h0 K kk p1 p2 p3 (0 : Int32) M)
set_option maxRecDepth 100000 in
set_option maxHeartbeats 4000000 in
theorem ct_X9_addTo {M : Mm} {h0 : Nat} {p1 : Int64} {p2 : Int32} {p3 : Int32} {K : Int32 → Mm → Prop} (h : wp_X9_addTo M h0 p1 p2 p3 K) : CtI yX9_addTo cX9_addTo 7 (some .boolean) rm_X9_addTo [.ref h0, .long p1, .int p2, .int p3] M K := by
  refine ct_any (QI K) (by decide) (by exact Nat.le_of_ble_eq_true rfl) (fun X hX hQ hnL hnm => ?_)
  rw [show lv_args 0 [.ref h0, .long p1, .int p2, .int p3] = [(0, va_rf (some h0)), (1, .long p1), (3, .int p2), (4, .int p3)] by rfl]
  have hX : Ok X cX9_addTo RX9 rm_X9_addTo := hX
  unfold wp_X9_addTo at h
  refine z_iconst (v := (0 : Int32)) hX dX9_addTo_0 (by decide) ?_
  refine z_istore hX [(5, .int (0 : Int32)), (0, va_rf (some h0)), (1, .long p1), (3, .int p2), (4, .int p3)] dX9_addTo_1 (by rw [hnL]; decide) rfl ?_
  refine z_loc [1, 2, 3, 4, 0] rfl ?_
  obtain ⟨n, h⟩ := h
  exact zl_X9_addTo_3 hX hQ hnL n _ _ _ _ _ h
def rm_X9_lastTime : Room := { frames := 2, cells := 0, slots := 0, locals := 46 }
def wp_X9_lastTime (M : Mm) (h0 : Nat) (p1 : Int32) (K : Int64 → Mm → Prop) : Prop := mK M h0 = 10 ∧ ∃ a2, (mR M 578 h0) = some a2 ∧ isA M a2 2 ∧ vp_in p1 (aN M a2) ∧ (wp_X10_together M (aJ M a2 (p1).toNatClampNeg) ((mJ M 576 h0) - (1 : Int64)) (fun r6 M7 => (K r6 M7)))
set_option maxRecDepth 100000 in
set_option maxHeartbeats 4000000 in
theorem ct_X9_lastTime {M : Mm} {h0 : Nat} {p1 : Int32} {K : Int64 → Mm → Prop} (h : wp_X9_lastTime M h0 p1 K) : CtJ yX9_lastTime cX9_lastTime 2 (some .long) rm_X9_lastTime [.ref h0, .int p1] M K := by
  refine ct_any (QJ K) (by decide) (by exact Nat.le_of_ble_eq_true rfl) (fun X hX hQ hnL hnm => ?_)
  rw [show lv_args 0 [.ref h0, .int p1] = [(0, va_rf (some h0)), (1, .int p1)] by rfl]
  have hX : Ok X cX9_lastTime RX9 rm_X9_lastTime := hX
  unfold wp_X9_lastTime at h
  refine z_aload_n (r := (some h0)) hX dX9_lastTime_0 rfl 0 rfl ?_
  obtain ⟨hk1, h⟩ := h
  refine gf_RX9_18 (r := (some h0)) hX dX9_lastTime_1 rfl hk1 ?_
  refine z_iload_n hX dX9_lastTime_4 rfl 1 rfl ?_
  obtain ⟨a2, ha3, h⟩ := h
  obtain ⟨hk4, h⟩ := h
  obtain ⟨hc5, h⟩ := h
  refine y_lald (r := (mR M 578 h0)) hX dX9_lastTime_5 ha3 hk4 hc5 ?_
  refine z_aload_n (r := (some h0)) hX dX9_lastTime_6 rfl 0 rfl ?_
  refine gf_RX9_9 (r := (some h0)) hX dX9_lastTime_7 rfl hk1 ?_
  refine z_lconst (v := (1 : Int64)) hX dX9_lastTime_10 (by decide) ?_
  refine z_lsub hX dX9_lastTime_11 ?_
  refine z_callNJ (As := [.long (aJ M a2 (p1).toNatClampNeg), .long ((mJ M 576 h0) - (1 : Int64))]) (rest := []) hX (ct_X10_together h) mw_RX9_51 rfl (by rfl) (by unfold RoomC; decide) (by decide) dX9_lastTime_12 (fun r6 M7 h => ?_)
  exact z_lret hX hQ dX9_lastTime_15 h
def rm_X10_part : Room := { frames := 3, cells := 0, slots := 0, locals := 72 }
def bk_X10_part_41 (h0 : Nat) (K : Int32 → Mm → Prop) (s0 : Int32) (M : Mm) : Prop := (K s0 M)
set_option maxRecDepth 100000 in
set_option maxHeartbeats 4000000 in
theorem zb_X10_part_41 {X : Cx} {h0 : Nat} {K : Int32 → Mm → Prop} (hX : Ok X cX10_part RX10 rm_X10_part) (hQ : Rq X rm_X10_part (some .int) (QI K)) (hnL : X.2.2.2.2.2.2.2.2.2.2.2.2.2.2 = 4) {s0 : Int32} {M : Mm} (h : bk_X10_part_41 h0 K s0 M) : Z X M 0 0 41 [] [.int s0] := by
  unfold bk_X10_part_41 at h
  exact z_iret hX hQ dX10_part_41 h
def wp_X10_part (M : Mm) (h0 : Nat) (p1 : Int32) (p2 : Int32) (K : Int32 → Mm → Prop) : Prop := mK M h0 = 11 ∧ (wp_X10_sourceWith M h0 p1 p2 (fun r1 M2 => ((r1 = none → (K (-1 : Int32) M2)) ∧ (∀ a5, r1 = some a5 → mK M2 h0 = 11 ∧ mK M2 a5 = 7 ∧ ∃ a11, (mR M2 644 h0) = some a11 ∧ mK M2 a11 = 2 ∧ (wp_X1_isStopped M2 a11 (mR M2 393 a5) p2 (fun r9 M10 => ((r9 = 0 → mK M10 a5 = 7 ∧ ∃ a16, (mR M10 393 a5) = some a16 ∧ mK M10 a16 = 6 ∧ ∃ a19, (mR M10 324 a16) = some a19 ∧ isA M10 a19 1 ∧ vp_in p2 (aN M10 a19) ∧ (bk_X10_part_41 h0 K (aI M10 a19 (p2).toNatClampNeg) M10)) ∧ (¬ r9 = 0 → (bk_X10_part_41 h0 K (3 : Int32) M10)))))))))
set_option maxRecDepth 100000 in
set_option maxHeartbeats 4000000 in
theorem ct_X10_part {M : Mm} {h0 : Nat} {p1 : Int32} {p2 : Int32} {K : Int32 → Mm → Prop} (h : wp_X10_part M h0 p1 p2 K) : CtI yX10_part cX10_part 4 (some .int) rm_X10_part [.ref h0, .int p1, .int p2] M K := by
  refine ct_any (QI K) (by decide) (by exact Nat.le_of_ble_eq_true rfl) (fun X hX hQ hnL hnm => ?_)
  rw [show lv_args 0 [.ref h0, .int p1, .int p2] = [(0, va_rf (some h0)), (1, .int p1), (2, .int p2)] by rfl]
  have hX : Ok X cX10_part RX10 rm_X10_part := hX
  unfold wp_X10_part at h
  refine z_aload_n (r := (some h0)) hX dX10_part_0 rfl 0 rfl ?_
  refine z_iload_n hX dX10_part_1 rfl 1 rfl ?_
  refine z_iload_n hX dX10_part_2 rfl 2 rfl ?_
  obtain ⟨hk3, h⟩ := h
  refine z_callVR (As := [.int p1, .int p2]) (rest := []) (ci := 10) hX (ct_X10_sourceWith h) mw_RX10_76 rfl (by decide) rfl (by rfl) (by unfold RoomC; decide) (by decide) dX10_part_3 hk3 (fun r1 M2 h => ?_)
  refine z_astore_n (r := r1) hX [(3, va_rf r1), (0, va_rf (some h0)), (1, .int p1), (2, .int p2)] dX10_part_6 rfl (by rw [hnL]; decide) rfl ?_
  refine z_aload_n (r := r1) hX dX10_part_7 rfl 0 rfl ?_
  obtain ⟨h1, h2⟩ := h
  refine z_ifnonnull (r := r1) (tgt := 13) hX dX10_part_8 (by decide) (fun a5 ha6 => ?_) (fun hc => ?_)
  · have h := h2 a5 ha6
    refine z_aload_n (r := (some h0)) hX dX10_part_13 rfl 1 rfl ?_
    obtain ⟨hk7, h⟩ := h
    refine gf_RX10_31 (r := (some h0)) hX dX10_part_14 rfl hk7 ?_
    refine z_aload_n (r := r1) hX dX10_part_17 rfl 0 rfl ?_
    obtain ⟨hk8, h⟩ := h
    refine gf_RX10_88 (r := r1) hX dX10_part_18 ha6 hk8 ?_
    refine z_iload_n hX dX10_part_21 rfl 3 rfl ?_
    obtain ⟨a11, ha12, h⟩ := h
    obtain ⟨hk13, h⟩ := h
    refine z_callVI (As := [va_rf (mR M2 393 a5), .int p2]) (rest := []) (ci := 1) hX (ct_X1_isStopped h) mw_RX10_188 rfl (by decide) rfl (by rw [ha12]; rfl) (by unfold RoomC; decide) (by decide) dX10_part_22 hk13 (fun r9 M10 h => ?_)
    obtain ⟨h1, h2⟩ := h
    refine z_if_eq (tgt := 32) hX dX10_part_25 (by decide) (fun hc => ?_) (fun hc => ?_)
    · have h := h1 hc
      refine z_aload_n (r := r1) hX dX10_part_32 rfl 0 rfl ?_
      obtain ⟨hk15, h⟩ := h
      refine gf_RX10_88 (r := r1) hX dX10_part_33 ha6 hk15 ?_
      obtain ⟨a16, ha17, h⟩ := h
      obtain ⟨hk18, h⟩ := h
      refine gf_RX10_118 (r := (mR M10 393 a5)) hX dX10_part_36 ha17 hk18 ?_
      refine z_iload_n hX dX10_part_39 rfl 3 rfl ?_
      obtain ⟨a19, ha20, h⟩ := h
      obtain ⟨hk21, h⟩ := h
      obtain ⟨hc22, h⟩ := h
      refine y_iald (r := (mR M10 324 a16)) hX dX10_part_40 ha20 hk21 hc22 ?_
      refine z_loc [] rfl ?_
      exact zb_X10_part_41 hX hQ hnL h
    · have h := h2 hc
      refine z_iconst (v := (3 : Int32)) hX dX10_part_28 (by decide) ?_
      refine z_goto (tgt := 41) hX dX10_part_29 (by decide) ?_
      refine z_loc [] rfl ?_
      exact zb_X10_part_41 hX hQ hnL h
  · have h := h1 hc
    refine z_iconst (v := (-1 : Int32)) hX dX10_part_11 (by decide) ?_
    exact z_iret hX hQ dX10_part_12 h
