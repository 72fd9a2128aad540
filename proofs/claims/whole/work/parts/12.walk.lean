def rm_X11_findKeyword : Room := { frames := 4, cells := 0, slots := 0, locals := 111 }
def bk_X11_findKeyword_102 (h0 : Nat) (R4 : Int32 → Int32 → Int32 → Mm → Prop) (K : Mm → Prop) (l1 : Int32) (l2 : Int32) (l4 : Int32) (s0 : Int32) (s1 : Option Nat) (M : Mm) : Prop := ∃ a1, s1 = some a1 ∧ mK M a1 = 12 ∧ (R4 l1 (l2 + 1) (l4 + (1 : Int32)) (sI M 711 a1 s0))
set_option maxRecDepth 100000 in
set_option maxHeartbeats 4000000 in
theorem zb_X11_findKeyword_102 {X : Cx} {h0 : Nat} {R4 : Int32 → Int32 → Int32 → Mm → Prop} {K : Mm → Prop} (hX : Ok X cX11_findKeyword RX11 rm_X11_findKeyword) (hQ : Rq X rm_X11_findKeyword none (QV K)) (hnL : X.2.2.2.2.2.2.2.2.2.2.2.2.2.2 = 7) (hR4 : ∀ l1 l2 l3 M, R4 l1 l2 l3 M → Z X M 0 0 4 [(0, va_rf (some h0)), (1, .int l1), (2, .int l2), (3, .int l3)] []) {l1 : Int32} {l2 : Int32} {l4 : Int32} {s0 : Int32} {s1 : Option Nat} {M : Mm} (h : bk_X11_findKeyword_102 h0 R4 K l1 l2 l4 s0 s1 M) : Z X M 0 0 102 [(0, va_rf (some h0)), (1, .int l1), (2, .int l2), (4, .int l4)] [.int s0, va_rf s1] := by
  unfold bk_X11_findKeyword_102 at h
  obtain ⟨a1, ha2, h⟩ := h
  obtain ⟨hk3, h⟩ := h
  refine pf_RX11_144 (r := s1) (v := s0) hX dX11_findKeyword_102 ha2 hk3 ?_
  refine z_iinc (v := (l2 + 1)) hX [(2, .int (l2 + 1)), (0, va_rf (some h0)), (1, .int l1), (4, .int l4)] dX11_findKeyword_105 2 rfl rfl (by rw [hnL]; decide) rfl ?_
  refine z_iload hX dX11_findKeyword_108 3 rfl ?_
  refine z_iconst (v := (1 : Int32)) hX dX11_findKeyword_110 (by decide) ?_
  refine z_iadd hX dX11_findKeyword_111 ?_
  refine z_istore_n hX [(3, .int (l4 + (1 : Int32))), (2, .int (l2 + 1)), (0, va_rf (some h0)), (1, .int l1), (4, .int l4)] dX11_findKeyword_112 rfl (by rw [hnL]; decide) rfl ?_
  refine z_goto (tgt := 4) hX dX11_findKeyword_113 (by decide) ?_
  refine z_loc [2, 3, 1, 0] rfl ?_
  exact hR4 _ _ _ _ h
def bk_X11_findKeyword_88 (h0 : Nat) (R4 : Int32 → Int32 → Int32 → Mm → Prop) (K : Mm → Prop) (l1 : Int32) (l2 : Int32) (l4 : Int32) (l5 : Int32) (M : Mm) : Prop := ((l5 = 0 → mK M h0 = 12 ∧ (bk_X11_findKeyword_102 h0 R4 K l1 l2 l4 (mI M 711 h0) (some h0) M)) ∧ (¬ l5 = 0 → (bk_X11_findKeyword_102 h0 R4 K l1 l2 l4 l2 (some h0) M)))
set_option maxRecDepth 100000 in
set_option maxHeartbeats 4000000 in
theorem zb_X11_findKeyword_88 {X : Cx} {h0 : Nat} {R4 : Int32 → Int32 → Int32 → Mm → Prop} {K : Mm → Prop} (hX : Ok X cX11_findKeyword RX11 rm_X11_findKeyword) (hQ : Rq X rm_X11_findKeyword none (QV K)) (hnL : X.2.2.2.2.2.2.2.2.2.2.2.2.2.2 = 7) (hR4 : ∀ l1 l2 l3 M, R4 l1 l2 l3 M → Z X M 0 0 4 [(0, va_rf (some h0)), (1, .int l1), (2, .int l2), (3, .int l3)] []) {l1 : Int32} {l2 : Int32} {l4 : Int32} {l5 : Int32} {M : Mm} (h : bk_X11_findKeyword_88 h0 R4 K l1 l2 l4 l5 M) : Z X M 0 0 88 [(0, va_rf (some h0)), (1, .int l1), (2, .int l2), (4, .int l4), (5, .int l5)] [] := by
  unfold bk_X11_findKeyword_88 at h
  refine z_aload_n (r := (some h0)) hX dX11_findKeyword_88 rfl 0 rfl ?_
  refine z_iload hX dX11_findKeyword_89 4 rfl ?_
  obtain ⟨h1, h2⟩ := h
  refine z_if_eq (tgt := 98) hX dX11_findKeyword_91 (by decide) (fun hc => ?_) (fun hc => ?_)
  · have h := h1 hc
    refine z_aload_n (r := (some h0)) hX dX11_findKeyword_98 rfl 0 rfl ?_
    obtain ⟨hk5, h⟩ := h
    refine gf_RX11_144 (r := (some h0)) hX dX11_findKeyword_99 rfl hk5 ?_
    refine z_loc [0, 1, 2, 3] rfl ?_
    exact zb_X11_findKeyword_102 hX hQ hnL hR4 h
  · have h := h2 hc
    refine z_iload_n hX dX11_findKeyword_94 rfl 2 rfl ?_
    refine z_goto (tgt := 102) hX dX11_findKeyword_95 (by decide) ?_
    refine z_loc [0, 1, 2, 3] rfl ?_
    exact zb_X11_findKeyword_102 hX hQ hnL hR4 h
def bk_X11_findKeyword_80 (h0 : Nat) (R4 : Int32 → Int32 → Int32 → Mm → Prop) (R41 : Int32 → Int32 → Int32 → Int32 → Int32 → Int32 → Mm → Prop) (K : Mm → Prop) (l1 : Int32) (l2 : Int32) (l3 : Int32) (l4 : Int32) (l6 : Int32) (s0 : Int32) (M : Mm) : Prop := (R41 l1 l2 l3 l4 s0 (l6 + 1) M)
set_option maxRecDepth 100000 in
set_option maxHeartbeats 4000000 in
theorem zb_X11_findKeyword_80 {X : Cx} {h0 : Nat} {R4 : Int32 → Int32 → Int32 → Mm → Prop} {R41 : Int32 → Int32 → Int32 → Int32 → Int32 → Int32 → Mm → Prop} {K : Mm → Prop} (hX : Ok X cX11_findKeyword RX11 rm_X11_findKeyword) (hQ : Rq X rm_X11_findKeyword none (QV K)) (hnL : X.2.2.2.2.2.2.2.2.2.2.2.2.2.2 = 7) (hR4 : ∀ l1 l2 l3 M, R4 l1 l2 l3 M → Z X M 0 0 4 [(0, va_rf (some h0)), (1, .int l1), (2, .int l2), (3, .int l3)] []) (hR41 : ∀ l1 l2 l3 l4 l5 l6 M, R41 l1 l2 l3 l4 l5 l6 M → Z X M 0 0 41 [(0, va_rf (some h0)), (1, .int l1), (2, .int l2), (3, .int l3), (4, .int l4), (5, .int l5), (6, .int l6)] []) {l1 : Int32} {l2 : Int32} {l3 : Int32} {l4 : Int32} {l6 : Int32} {s0 : Int32} {M : Mm} (h : bk_X11_findKeyword_80 h0 R4 R41 K l1 l2 l3 l4 l6 s0 M) : Z X M 0 0 80 [(0, va_rf (some h0)), (1, .int l1), (2, .int l2), (3, .int l3), (4, .int l4), (6, .int l6)] [.int s0] := by
  unfold bk_X11_findKeyword_80 at h
  refine z_istore hX [(5, .int s0), (0, va_rf (some h0)), (1, .int l1), (2, .int l2), (3, .int l3), (4, .int l4), (6, .int l6)] dX11_findKeyword_80 (by rw [hnL]; decide) rfl ?_
  refine z_iinc (v := (l6 + 1)) hX [(6, .int (l6 + 1)), (5, .int s0), (0, va_rf (some h0)), (1, .int l1), (2, .int l2), (3, .int l3), (4, .int l4)] dX11_findKeyword_82 6 rfl rfl (by rw [hnL]; decide) rfl ?_
  refine z_goto (tgt := 41) hX dX11_findKeyword_85 (by decide) ?_
  refine z_loc [2, 3, 4, 5, 6, 1, 0] rfl ?_
  exact hR41 _ _ _ _ _ _ _ h
def lp_X11_findKeyword_41 (h0 : Nat) (R4 : Int32 → Int32 → Int32 → Mm → Prop) (K : Mm → Prop) : Nat → Int32 → Int32 → Int32 → Int32 → Int32 → Int32 → Mm → Prop
  | 0, _, _, _, _, _, _, _ => False
  | n + 1, l1, l2, l3, l4, l5, l6, M => ((l1 ≤ l6 → (bk_X11_findKeyword_88 h0 R4 K l1 l2 l4 l5 M)) ∧ (¬ l1 ≤ l6 → ((l5 = 0 → (bk_X11_findKeyword_88 h0 R4 K l1 l2 l4 l5 M)) ∧ (¬ l5 = 0 → vp_in (l3 + l6) (slen 0) ∧ mK M h0 = 12 ∧ (wp_X11_byteAt M h0 ((mI M 709 h0) + l6) (fun r8 M9 => ((¬ (sby 0 ((l3 + l6)).toNatClampNeg) = r8 → (bk_X11_findKeyword_80 h0 R4 (lp_X11_findKeyword_41 h0 R4 K n) K l1 l2 l3 l4 l6 (0 : Int32) M9)) ∧ ((sby 0 ((l3 + l6)).toNatClampNeg) = r8 → (bk_X11_findKeyword_80 h0 R4 (lp_X11_findKeyword_41 h0 R4 K n) K l1 l2 l3 l4 l6 (1 : Int32) M9)))))))))
set_option maxRecDepth 100000 in
set_option maxHeartbeats 4000000 in
theorem zl_X11_findKeyword_41 {X : Cx} {h0 : Nat} {R4 : Int32 → Int32 → Int32 → Mm → Prop} {K : Mm → Prop} (hX : Ok X cX11_findKeyword RX11 rm_X11_findKeyword) (hQ : Rq X rm_X11_findKeyword none (QV K)) (hnL : X.2.2.2.2.2.2.2.2.2.2.2.2.2.2 = 7) (hR4 : ∀ l1 l2 l3 M, R4 l1 l2 l3 M → Z X M 0 0 4 [(0, va_rf (some h0)), (1, .int l1), (2, .int l2), (3, .int l3)] []) : ∀ (n : Nat) (l1 : Int32) (l2 : Int32) (l3 : Int32) (l4 : Int32) (l5 : Int32) (l6 : Int32) (M : Mm), lp_X11_findKeyword_41 h0 R4 K n l1 l2 l3 l4 l5 l6 M → Z X M 0 0 41 [(0, va_rf (some h0)), (1, .int l1), (2, .int l2), (3, .int l3), (4, .int l4), (5, .int l5), (6, .int l6)] [] := by
  intro n
  induction n with
  | zero =>
    intro l1 l2 l3 l4 l5 l6 M h
    exact False.elim h
  | succ n hR41 =>
    intro l1 l2 l3 l4 l5 l6 M h
    refine z_iload hX dX11_findKeyword_41 6 rfl ?_
    refine z_iload_n hX dX11_findKeyword_43 rfl 1 rfl ?_
    obtain ⟨h1, h2⟩ := h
    refine z_icmp_ge (tgt := 88) hX dX11_findKeyword_44 (by decide) (fun hc => ?_) (fun hc => ?_)
    · have h := h1 hc
      refine z_loc [0, 1, 2, 4, 5] rfl ?_
      exact zb_X11_findKeyword_88 hX hQ hnL hR4 h
    · have h := h2 hc
      refine z_iload hX dX11_findKeyword_47 5 rfl ?_
      obtain ⟨h1, h2⟩ := h
      refine z_if_eq (tgt := 88) hX dX11_findKeyword_49 (by decide) (fun hc => ?_) (fun hc => ?_)
      · have h := h1 hc
        refine z_loc [0, 1, 2, 4, 5] rfl ?_
        exact zb_X11_findKeyword_88 hX hQ hnL hR4 h
      · have h := h2 hc
        refine z_ldcS (i := 0) hX (by decide) rfl dX11_findKeyword_52 ?_
        refine z_iload_n hX dX11_findKeyword_54 rfl 3 rfl ?_
        refine z_iload hX dX11_findKeyword_55 6 rfl ?_
        refine z_iadd hX dX11_findKeyword_57 ?_
        obtain ⟨hc6, h⟩ := h
        refine z_schar (i := 0) (x := (l3 + l6)) (rest := []) hX (by decide) hc6 (by unfold RoomC; decide) (by decide) dX11_findKeyword_58 ?_
        refine z_aload_n (r := (some h0)) hX dX11_findKeyword_61 rfl 0 rfl ?_
        refine z_aload_n (r := (some h0)) hX dX11_findKeyword_62 rfl 0 rfl ?_
        obtain ⟨hk7, h⟩ := h
        refine gf_RX11_137 (r := (some h0)) hX dX11_findKeyword_63 rfl hk7 ?_
        refine z_iload hX dX11_findKeyword_66 6 rfl ?_
        refine z_iadd hX dX11_findKeyword_68 ?_
        refine z_callVI (As := [.int ((mI M 709 h0) + l6)]) (rest := [.int (sby 0 ((l3 + l6)).toNatClampNeg)]) (ci := 11) hX (ct_X11_byteAt h) mw_RX11_133 rfl (by decide) rfl (by rfl) (by unfold RoomC; decide) (by simp only [List.map_cons, List.map_nil, List.sum_cons, List.sum_nil, cat_rf, cat_i, cat_j]; decide) dX11_findKeyword_69 hk7 (fun r8 M9 h => ?_)
        obtain ⟨h1, h2⟩ := h
        refine z_icmp_ne (tgt := 79) hX dX11_findKeyword_72 (by decide) (fun hc => ?_) (fun hc => ?_)
        · have h := h1 hc
          refine z_iconst (v := (0 : Int32)) hX dX11_findKeyword_79 (by decide) ?_
          refine z_loc [0, 1, 2, 3, 4, 6] rfl ?_
          exact zb_X11_findKeyword_80 hX hQ hnL hR4 hR41 h
        · have h := h2 hc
          refine z_iconst (v := (1 : Int32)) hX dX11_findKeyword_75 (by decide) ?_
          refine z_goto (tgt := 80) hX dX11_findKeyword_76 (by decide) ?_
          refine z_loc [0, 1, 2, 3, 4, 6] rfl ?_
          exact zb_X11_findKeyword_80 hX hQ hnL hR4 hR41 h
def bk_X11_findKeyword_36 (h0 : Nat) (R4 : Int32 → Int32 → Int32 → Mm → Prop) (K : Mm → Prop) (l1 : Int32) (l2 : Int32) (l3 : Int32) (l4 : Int32) (s0 : Int32) (M : Mm) : Prop := (∃ kk, lp_X11_findKeyword_41 h0 R4 K kk l1 l2 l3 l4 s0 (0 : Int32) M)
set_option maxRecDepth 100000 in
set_option maxHeartbeats 4000000 in
theorem zb_X11_findKeyword_36 {X : Cx} {h0 : Nat} {R4 : Int32 → Int32 → Int32 → Mm → Prop} {K : Mm → Prop} (hX : Ok X cX11_findKeyword RX11 rm_X11_findKeyword) (hQ : Rq X rm_X11_findKeyword none (QV K)) (hnL : X.2.2.2.2.2.2.2.2.2.2.2.2.2.2 = 7) (hR4 : ∀ l1 l2 l3 M, R4 l1 l2 l3 M → Z X M 0 0 4 [(0, va_rf (some h0)), (1, .int l1), (2, .int l2), (3, .int l3)] []) {l1 : Int32} {l2 : Int32} {l3 : Int32} {l4 : Int32} {s0 : Int32} {M : Mm} (h : bk_X11_findKeyword_36 h0 R4 K l1 l2 l3 l4 s0 M) : Z X M 0 0 36 [(0, va_rf (some h0)), (1, .int l1), (2, .int l2), (3, .int l3), (4, .int l4)] [.int s0] := by
  unfold bk_X11_findKeyword_36 at h
  refine z_istore hX [(5, .int s0), (0, va_rf (some h0)), (1, .int l1), (2, .int l2), (3, .int l3), (4, .int l4)] dX11_findKeyword_36 (by rw [hnL]; decide) rfl ?_
  refine z_iconst (v := (0 : Int32)) hX dX11_findKeyword_38 (by decide) ?_
  refine z_istore hX [(6, .int (0 : Int32)), (5, .int s0), (0, va_rf (some h0)), (1, .int l1), (2, .int l2), (3, .int l3), (4, .int l4)] dX11_findKeyword_39 (by rw [hnL]; decide) rfl ?_
  refine z_loc [2, 3, 4, 5, 6, 1, 0] rfl ?_
  obtain ⟨n, h⟩ := h
  exact zl_X11_findKeyword_41 hX hQ hnL hR4 n _ _ _ _ _ _ _ h
def lp_X11_findKeyword_4 (h0 : Nat) (K : Mm → Prop) : Nat → Int32 → Int32 → Int32 → Mm → Prop
  | 0, _, _, _, _ => False
  | n + 1, l1, l2, l3, M => (((nI (slen 0)) ≤ l3 → (K M)) ∧ (¬ (nI (slen 0)) ≤ l3 → ¬ l3 < 0 ∧ ((¬ ((six 0 (32 : Int32) l3) - l3) = l1 → (bk_X11_findKeyword_36 h0 (lp_X11_findKeyword_4 h0 K n) K l1 l2 l3 (six 0 (32 : Int32) l3) (0 : Int32) M)) ∧ (((six 0 (32 : Int32) l3) - l3) = l1 → (bk_X11_findKeyword_36 h0 (lp_X11_findKeyword_4 h0 K n) K l1 l2 l3 (six 0 (32 : Int32) l3) (1 : Int32) M)))))
set_option maxRecDepth 100000 in
set_option maxHeartbeats 4000000 in
theorem zl_X11_findKeyword_4 {X : Cx} {h0 : Nat} {K : Mm → Prop} (hX : Ok X cX11_findKeyword RX11 rm_X11_findKeyword) (hQ : Rq X rm_X11_findKeyword none (QV K)) (hnL : X.2.2.2.2.2.2.2.2.2.2.2.2.2.2 = 7) : ∀ (n : Nat) (l1 : Int32) (l2 : Int32) (l3 : Int32) (M : Mm), lp_X11_findKeyword_4 h0 K n l1 l2 l3 M → Z X M 0 0 4 [(0, va_rf (some h0)), (1, .int l1), (2, .int l2), (3, .int l3)] [] := by
  intro n
  induction n with
  | zero =>
    intro l1 l2 l3 M h
    exact False.elim h
  | succ n hR4 =>
    intro l1 l2 l3 M h
    refine z_iload_n hX dX11_findKeyword_4 rfl 3 rfl ?_
    refine z_ldcS (i := 0) hX (by decide) rfl dX11_findKeyword_5 ?_
    refine z_strlen (i := 0) (rest := [.int l3]) hX (by decide) (by unfold RoomC; decide) (by simp only [List.map_cons, List.map_nil, List.sum_cons, List.sum_nil, cat_rf, cat_i, cat_j]; decide) dX11_findKeyword_7 ?_
    obtain ⟨h1, h2⟩ := h
    refine z_icmp_ge (tgt := 116) hX dX11_findKeyword_10 (by decide) (fun hc => ?_) (fun hc => ?_)
    · have h := h1 hc
      exact z_vret hX hQ dX11_findKeyword_116 h
    · have h := h2 hc
      refine z_ldcS (i := 0) hX (by decide) rfl dX11_findKeyword_13 ?_
      refine z_bipush (v := (32 : Int32)) hX dX11_findKeyword_15 (by decide) ?_
      refine z_iload_n hX dX11_findKeyword_17 rfl 3 rfl ?_
      obtain ⟨hc11, h⟩ := h
      refine z_sind (i := 0) (c := (32 : Int32)) (f := l3) (rest := []) hX (by decide) (by decide) (by decide) (by decide) hc11 (by unfold RoomC; decide) (by decide) dX11_findKeyword_18 ?_
      refine z_istore hX [(4, .int (six 0 (32 : Int32) l3)), (0, va_rf (some h0)), (1, .int l1), (2, .int l2), (3, .int l3)] dX11_findKeyword_21 (by rw [hnL]; decide) rfl ?_
      refine z_iload hX dX11_findKeyword_23 0 rfl ?_
      refine z_iload_n hX dX11_findKeyword_25 rfl 4 rfl ?_
      refine z_isub hX dX11_findKeyword_26 ?_
      refine z_iload_n hX dX11_findKeyword_27 rfl 2 rfl ?_
      obtain ⟨h1, h2⟩ := h
      refine z_icmp_ne (tgt := 35) hX dX11_findKeyword_28 (by decide) (fun hc => ?_) (fun hc => ?_)
      · have h := h1 hc
        refine z_iconst (v := (0 : Int32)) hX dX11_findKeyword_35 (by decide) ?_
        refine z_loc [1, 2, 3, 4, 0] rfl ?_
        exact zb_X11_findKeyword_36 hX hQ hnL hR4 h
      · have h := h2 hc
        refine z_iconst (v := (1 : Int32)) hX dX11_findKeyword_31 (by decide) ?_
        refine z_goto (tgt := 36) hX dX11_findKeyword_32 (by decide) ?_
        refine z_loc [1, 2, 3, 4, 0] rfl ?_
        exact zb_X11_findKeyword_36 hX hQ hnL hR4 h
def wp_X11_findKeyword (M : Mm) (h0 : Nat) (p1 : Int32) (K : Mm → Prop) : Prop := (∃ kk, lp_X11_findKeyword_4 h0 K kk p1 (0 : Int32) (0 : Int32) M)
set_option maxRecDepth 100000 in
set_option maxHeartbeats 4000000 in
theorem ct_X11_findKeyword {M : Mm} {h0 : Nat} {p1 : Int32} {K : Mm → Prop} (h : wp_X11_findKeyword M h0 p1 K) : CtV yX11_findKeyword cX11_findKeyword 7 none rm_X11_findKeyword [.ref h0, .int p1] M K := by
  refine ct_any (QV K) (by decide) (by exact Nat.le_of_ble_eq_true rfl) (fun X hX hQ hnL hnm => ?_)
  rw [show lv_args 0 [.ref h0, .int p1] = [(0, va_rf (some h0)), (1, .int p1)] by rfl]
  have hX : Ok X cX11_findKeyword RX11 rm_X11_findKeyword := hX
  unfold wp_X11_findKeyword at h
  refine z_iconst (v := (0 : Int32)) hX dX11_findKeyword_0 (by decide) ?_
  refine z_istore_n hX [(2, .int (0 : Int32)), (0, va_rf (some h0)), (1, .int p1)] dX11_findKeyword_1 rfl (by rw [hnL]; decide) rfl ?_
  refine z_iconst (v := (0 : Int32)) hX dX11_findKeyword_2 (by decide) ?_
  refine z_istore_n hX [(3, .int (0 : Int32)), (2, .int (0 : Int32)), (0, va_rf (some h0)), (1, .int p1)] dX11_findKeyword_3 rfl (by rw [hnL]; decide) rfl ?_
  refine z_loc [2, 3, 1, 0] rfl ?_
  obtain ⟨n, h⟩ := h
  exact zl_X11_findKeyword_4 hX hQ hnL n _ _ _ _ h
def rm_X11_fault : Room := { frames := 0, cells := 0, slots := 0, locals := 0 }
def bk_X11_fault_20 (h0 : Nat) (K : Mm → Prop) (M : Mm) : Prop := (K M)
set_option maxRecDepth 100000 in
set_option maxHeartbeats 4000000 in
theorem zb_X11_fault_20 {X : Cx} {h0 : Nat} {K : Mm → Prop} (hX : Ok X cX11_fault RX11 rm_X11_fault) (hQ : Rq X rm_X11_fault none (QV K)) (hnL : X.2.2.2.2.2.2.2.2.2.2.2.2.2.2 = 2) {M : Mm} (h : bk_X11_fault_20 h0 K M) : Z X M 0 0 20 [] [] := by
  unfold bk_X11_fault_20 at h
  exact z_vret hX hQ dX11_fault_20 h
def wp_X11_fault (M : Mm) (h0 : Nat) (p1 : Int32) (K : Mm → Prop) : Prop := mK M h0 = 12 ∧ ((¬ (mI M 712 h0) = 0 → (bk_X11_fault_20 h0 K M)) ∧ ((mI M 712 h0) = 0 → (bk_X11_fault_20 h0 K (sI (sI M 712 h0 p1) 713 h0 (mI (sI M 712 h0 p1) 709 h0)))))
set_option maxRecDepth 100000 in
set_option maxHeartbeats 4000000 in
theorem ct_X11_fault {M : Mm} {h0 : Nat} {p1 : Int32} {K : Mm → Prop} (h : wp_X11_fault M h0 p1 K) : CtV yX11_fault cX11_fault 2 none rm_X11_fault [.ref h0, .int p1] M K := by
  refine ct_any (QV K) (by decide) (by exact Nat.le_of_ble_eq_true rfl) (fun X hX hQ hnL hnm => ?_)
  rw [show lv_args 0 [.ref h0, .int p1] = [(0, va_rf (some h0)), (1, .int p1)] by rfl]
  have hX : Ok X cX11_fault RX11 rm_X11_fault := hX
  unfold wp_X11_fault at h
  refine z_aload_n (r := (some h0)) hX dX11_fault_0 rfl 0 rfl ?_
  obtain ⟨hk1, h⟩ := h
  refine gf_RX11_181 (r := (some h0)) hX dX11_fault_1 rfl hk1 ?_
  obtain ⟨h1, h2⟩ := h
  refine z_if_ne (tgt := 20) hX dX11_fault_4 (by decide) (fun hc => ?_) (fun hc => ?_)
  · have h := h1 hc
    refine z_loc [] rfl ?_
    exact zb_X11_fault_20 hX hQ hnL h
  · have h := h2 hc
    refine z_aload_n (r := (some h0)) hX dX11_fault_7 rfl 0 rfl ?_
    refine z_iload_n hX dX11_fault_8 rfl 1 rfl ?_
    refine pf_RX11_181 (r := (some h0)) (v := p1) hX dX11_fault_9 rfl hk1 ?_
    refine z_aload_n (r := (some h0)) hX dX11_fault_12 rfl 0 rfl ?_
    refine z_aload_n (r := (some h0)) hX dX11_fault_13 rfl 0 rfl ?_
    refine gf_RX11_137 (r := (some h0)) hX dX11_fault_14 rfl hk1 ?_
    refine pf_RX11_184 (r := (some h0)) (v := (mI (sI M 712 h0 p1) 709 h0)) hX dX11_fault_17 rfl hk1 ?_
    refine z_loc [] rfl ?_
    exact zb_X11_fault_20 hX hQ hnL h
def rm_X11_misplaced : Room := { frames := 1, cells := 0, slots := 0, locals := 21 }
def bk_X11_misplaced_14 (h0 : Nat) (K : Mm → Prop) (s0 : Int32) (s1 : Option Nat) (M : Mm) : Prop := ∃ a3, s1 = some a3 ∧ mK M a3 = 12 ∧ (wp_X11_fault M a3 s0 (fun M2 => (K M2)))
set_option maxRecDepth 100000 in
set_option maxHeartbeats 4000000 in
theorem zb_X11_misplaced_14 {X : Cx} {h0 : Nat} {K : Mm → Prop} (hX : Ok X cX11_misplaced RX11 rm_X11_misplaced) (hQ : Rq X rm_X11_misplaced none (QV K)) (hnL : X.2.2.2.2.2.2.2.2.2.2.2.2.2.2 = 1) {s0 : Int32} {s1 : Option Nat} {M : Mm} (h : bk_X11_misplaced_14 h0 K s0 s1 M) : Z X M 0 0 14 [] [.int s0, va_rf s1] := by
  unfold bk_X11_misplaced_14 at h
  obtain ⟨a3, ha4, h⟩ := h
  obtain ⟨hk5, h⟩ := h
  refine z_callVV (As := [.int s0]) (rest := []) (ci := 11) hX (ct_X11_fault h) mw_RX11_187 rfl (by decide) rfl (by rw [ha4]; rfl) (by unfold RoomC; decide) (by decide) dX11_misplaced_14 hk5 (fun M2 h => ?_)
  exact z_vret hX hQ dX11_misplaced_17 h
def wp_X11_misplaced (M : Mm) (h0 : Nat) (K : Mm → Prop) : Prop := mK M h0 = 12 ∧ ((¬ (mI M 708 h0) = (4 : Int32) → (bk_X11_misplaced_14 h0 K (2 : Int32) (some h0) M)) ∧ ((mI M 708 h0) = (4 : Int32) → (bk_X11_misplaced_14 h0 K (1 : Int32) (some h0) M)))
set_option maxRecDepth 100000 in
set_option maxHeartbeats 4000000 in
theorem ct_X11_misplaced {M : Mm} {h0 : Nat} {K : Mm → Prop} (h : wp_X11_misplaced M h0 K) : CtV yX11_misplaced cX11_misplaced 1 none rm_X11_misplaced [.ref h0] M K := by
  refine ct_any (QV K) (by decide) (by exact Nat.le_of_ble_eq_true rfl) (fun X hX hQ hnL hnm => ?_)
  rw [show lv_args 0 [.ref h0] = [(0, va_rf (some h0))] by rfl]
  have hX : Ok X cX11_misplaced RX11 rm_X11_misplaced := hX
  unfold wp_X11_misplaced at h
  refine z_aload_n (r := (some h0)) hX dX11_misplaced_0 rfl 0 rfl ?_
  refine z_aload_n (r := (some h0)) hX dX11_misplaced_1 rfl 0 rfl ?_
  obtain ⟨hk7, h⟩ := h
  refine gf_RX11_147 (r := (some h0)) hX dX11_misplaced_2 rfl hk7 ?_
  refine z_iconst (v := (4 : Int32)) hX dX11_misplaced_5 (by decide) ?_
  obtain ⟨h1, h2⟩ := h
  refine z_icmp_ne (tgt := 13) hX dX11_misplaced_6 (by decide) (fun hc => ?_) (fun hc => ?_)
  · have h := h1 hc
    refine z_iconst (v := (2 : Int32)) hX dX11_misplaced_13 (by decide) ?_
    refine z_loc [] rfl ?_
    exact zb_X11_misplaced_14 hX hQ hnL h
  · have h := h2 hc
    refine z_iconst (v := (1 : Int32)) hX dX11_misplaced_9 (by decide) ?_
    refine z_goto (tgt := 14) hX dX11_misplaced_10 (by decide) ?_
    refine z_loc [] rfl ?_
    exact zb_X11_misplaced_14 hX hQ hnL h
def rm_X11_good : Room := { frames := 0, cells := 0, slots := 0, locals := 0 }
def bk_X11_good_12 (h0 : Nat) (K : Int32 → Mm → Prop) (s0 : Int32) (M : Mm) : Prop := (bz s0 ∧ K s0 M)
set_option maxRecDepth 100000 in
set_option maxHeartbeats 4000000 in
theorem zb_X11_good_12 {X : Cx} {h0 : Nat} {K : Int32 → Mm → Prop} (hX : Ok X cX11_good RX11 rm_X11_good) (hQ : Rq X rm_X11_good (some .boolean) (QI K)) (hnL : X.2.2.2.2.2.2.2.2.2.2.2.2.2.2 = 1) {s0 : Int32} {M : Mm} (h : bk_X11_good_12 h0 K s0 M) : Z X M 0 0 12 [] [.int s0] := by
  unfold bk_X11_good_12 at h
  exact y_zret hX hQ dX11_good_12 h.1 h.2
def wp_X11_good (M : Mm) (h0 : Nat) (K : Int32 → Mm → Prop) : Prop := mK M h0 = 12 ∧ ((¬ (mI M 712 h0) = 0 → (bk_X11_good_12 h0 K (0 : Int32) M)) ∧ ((mI M 712 h0) = 0 → (bk_X11_good_12 h0 K (1 : Int32) M)))
set_option maxRecDepth 100000 in
set_option maxHeartbeats 4000000 in
theorem ct_X11_good {M : Mm} {h0 : Nat} {K : Int32 → Mm → Prop} (h : wp_X11_good M h0 K) : CtI yX11_good cX11_good 1 (some .boolean) rm_X11_good [.ref h0] M K := by
  refine ct_any (QI K) (by decide) (by exact Nat.le_of_ble_eq_true rfl) (fun X hX hQ hnL hnm => ?_)
  rw [show lv_args 0 [.ref h0] = [(0, va_rf (some h0))] by rfl]
  have hX : Ok X cX11_good RX11 rm_X11_good := hX
  unfold wp_X11_good at h
  refine z_aload_n (r := (some h0)) hX dX11_good_0 rfl 0 rfl ?_
  obtain ⟨hk1, h⟩ := h
  refine gf_RX11_181 (r := (some h0)) hX dX11_good_1 rfl hk1 ?_
  obtain ⟨h1, h2⟩ := h
  refine z_if_ne (tgt := 11) hX dX11_good_4 (by decide) (fun hc => ?_) (fun hc => ?_)
  · have h := h1 hc
    refine z_iconst (v := (0 : Int32)) hX dX11_good_11 (by decide) ?_
    refine z_loc [] rfl ?_
    exact zb_X11_good_12 hX hQ hnL h
  · have h := h2 hc
    refine z_iconst (v := (1 : Int32)) hX dX11_good_7 (by decide) ?_
    refine z_goto (tgt := 12) hX dX11_good_8 (by decide) ?_
    refine z_loc [] rfl ?_
    exact zb_X11_good_12 hX hQ hnL h
def rm_X11_isName : Room := { frames := 0, cells := 0, slots := 0, locals := 0 }
def bk_X11_isName_20 (h0 : Nat) (K : Int32 → Mm → Prop) (s0 : Int32) (M : Mm) : Prop := (bz s0 ∧ K s0 M)
set_option maxRecDepth 100000 in
set_option maxHeartbeats 4000000 in
theorem zb_X11_isName_20 {X : Cx} {h0 : Nat} {K : Int32 → Mm → Prop} (hX : Ok X cX11_isName RX11 rm_X11_isName) (hQ : Rq X rm_X11_isName (some .boolean) (QI K)) (hnL : X.2.2.2.2.2.2.2.2.2.2.2.2.2.2 = 1) {s0 : Int32} {M : Mm} (h : bk_X11_isName_20 h0 K s0 M) : Z X M 0 0 20 [] [.int s0] := by
  unfold bk_X11_isName_20 at h
  exact y_zret hX hQ dX11_isName_20 h.1 h.2
def bk_X11_isName_19 (h0 : Nat) (K : Int32 → Mm → Prop) (M : Mm) : Prop := (bk_X11_isName_20 h0 K (0 : Int32) M)
set_option maxRecDepth 100000 in
set_option maxHeartbeats 4000000 in
theorem zb_X11_isName_19 {X : Cx} {h0 : Nat} {K : Int32 → Mm → Prop} (hX : Ok X cX11_isName RX11 rm_X11_isName) (hQ : Rq X rm_X11_isName (some .boolean) (QI K)) (hnL : X.2.2.2.2.2.2.2.2.2.2.2.2.2.2 = 1) {M : Mm} (h : bk_X11_isName_19 h0 K M) : Z X M 0 0 19 [] [] := by
  unfold bk_X11_isName_19 at h
  refine z_iconst (v := (0 : Int32)) hX dX11_isName_19 (by decide) ?_
  exact zb_X11_isName_20 hX hQ hnL h
def wp_X11_isName (M : Mm) (h0 : Nat) (K : Int32 → Mm → Prop) : Prop := mK M h0 = 12 ∧ ((¬ (mI M 708 h0) = (1 : Int32) → (bk_X11_isName_19 h0 K M)) ∧ ((mI M 708 h0) = (1 : Int32) → ((0 ≤ (mI M 711 h0) → (bk_X11_isName_19 h0 K M)) ∧ (¬ 0 ≤ (mI M 711 h0) → (bk_X11_isName_20 h0 K (1 : Int32) M)))))
set_option maxRecDepth 100000 in
set_option maxHeartbeats 4000000 in
theorem ct_X11_isName {M : Mm} {h0 : Nat} {K : Int32 → Mm → Prop} (h : wp_X11_isName M h0 K) : CtI yX11_isName cX11_isName 1 (some .boolean) rm_X11_isName [.ref h0] M K := by
  refine ct_any (QI K) (by decide) (by exact Nat.le_of_ble_eq_true rfl) (fun X hX hQ hnL hnm => ?_)
  rw [show lv_args 0 [.ref h0] = [(0, va_rf (some h0))] by rfl]
  have hX : Ok X cX11_isName RX11 rm_X11_isName := hX
  unfold wp_X11_isName at h
  refine z_aload_n (r := (some h0)) hX dX11_isName_0 rfl 0 rfl ?_
  obtain ⟨hk1, h⟩ := h
  refine gf_RX11_147 (r := (some h0)) hX dX11_isName_1 rfl hk1 ?_
  refine z_iconst (v := (1 : Int32)) hX dX11_isName_4 (by decide) ?_
  obtain ⟨h1, h2⟩ := h
  refine z_icmp_ne (tgt := 19) hX dX11_isName_5 (by decide) (fun hc => ?_) (fun hc => ?_)
  · have h := h1 hc
    refine z_loc [] rfl ?_
    exact zb_X11_isName_19 hX hQ hnL h
  · have h := h2 hc
    refine z_aload_n (r := (some h0)) hX dX11_isName_8 rfl 0 rfl ?_
    refine gf_RX11_144 (r := (some h0)) hX dX11_isName_9 rfl hk1 ?_
    obtain ⟨h1, h2⟩ := h
    refine z_if_ge (tgt := 19) hX dX11_isName_12 (by decide) (fun hc => ?_) (fun hc => ?_)
    · have h := h1 hc
      refine z_loc [] rfl ?_
      exact zb_X11_isName_19 hX hQ hnL h
    · have h := h2 hc
      refine z_iconst (v := (1 : Int32)) hX dX11_isName_15 (by decide) ?_
      refine z_goto (tgt := 20) hX dX11_isName_16 (by decide) ?_
      refine z_loc [] rfl ?_
      exact zb_X11_isName_20 hX hQ hnL h
def rm_X11_isKeyword : Room := { frames := 0, cells := 0, slots := 0, locals := 0 }
def bk_X11_isKeyword_21 (h0 : Nat) (K : Int32 → Mm → Prop) (s0 : Int32) (M : Mm) : Prop := (bz s0 ∧ K s0 M)
set_option maxRecDepth 100000 in
set_option maxHeartbeats 4000000 in
theorem zb_X11_isKeyword_21 {X : Cx} {h0 : Nat} {K : Int32 → Mm → Prop} (hX : Ok X cX11_isKeyword RX11 rm_X11_isKeyword) (hQ : Rq X rm_X11_isKeyword (some .boolean) (QI K)) (hnL : X.2.2.2.2.2.2.2.2.2.2.2.2.2.2 = 2) {s0 : Int32} {M : Mm} (h : bk_X11_isKeyword_21 h0 K s0 M) : Z X M 0 0 21 [] [.int s0] := by
  unfold bk_X11_isKeyword_21 at h
  exact y_zret hX hQ dX11_isKeyword_21 h.1 h.2
def bk_X11_isKeyword_20 (h0 : Nat) (K : Int32 → Mm → Prop) (M : Mm) : Prop := (bk_X11_isKeyword_21 h0 K (0 : Int32) M)
set_option maxRecDepth 100000 in
set_option maxHeartbeats 4000000 in
theorem zb_X11_isKeyword_20 {X : Cx} {h0 : Nat} {K : Int32 → Mm → Prop} (hX : Ok X cX11_isKeyword RX11 rm_X11_isKeyword) (hQ : Rq X rm_X11_isKeyword (some .boolean) (QI K)) (hnL : X.2.2.2.2.2.2.2.2.2.2.2.2.2.2 = 2) {M : Mm} (h : bk_X11_isKeyword_20 h0 K M) : Z X M 0 0 20 [] [] := by
  unfold bk_X11_isKeyword_20 at h
  refine z_iconst (v := (0 : Int32)) hX dX11_isKeyword_20 (by decide) ?_
  exact zb_X11_isKeyword_21 hX hQ hnL h
def wp_X11_isKeyword (M : Mm) (h0 : Nat) (p1 : Int32) (K : Int32 → Mm → Prop) : Prop := mK M h0 = 12 ∧ ((¬ (mI M 708 h0) = (1 : Int32) → (bk_X11_isKeyword_20 h0 K M)) ∧ ((mI M 708 h0) = (1 : Int32) → ((¬ (mI M 711 h0) = p1 → (bk_X11_isKeyword_20 h0 K M)) ∧ ((mI M 711 h0) = p1 → (bk_X11_isKeyword_21 h0 K (1 : Int32) M)))))
set_option maxRecDepth 100000 in
set_option maxHeartbeats 4000000 in
theorem ct_X11_isKeyword {M : Mm} {h0 : Nat} {p1 : Int32} {K : Int32 → Mm → Prop} (h : wp_X11_isKeyword M h0 p1 K) : CtI yX11_isKeyword cX11_isKeyword 2 (some .boolean) rm_X11_isKeyword [.ref h0, .int p1] M K := by
  refine ct_any (QI K) (by decide) (by exact Nat.le_of_ble_eq_true rfl) (fun X hX hQ hnL hnm => ?_)
  rw [show lv_args 0 [.ref h0, .int p1] = [(0, va_rf (some h0)), (1, .int p1)] by rfl]
  have hX : Ok X cX11_isKeyword RX11 rm_X11_isKeyword := hX
  unfold wp_X11_isKeyword at h
  refine z_aload_n (r := (some h0)) hX dX11_isKeyword_0 rfl 0 rfl ?_
  obtain ⟨hk1, h⟩ := h
  refine gf_RX11_147 (r := (some h0)) hX dX11_isKeyword_1 rfl hk1 ?_
  refine z_iconst (v := (1 : Int32)) hX dX11_isKeyword_4 (by decide) ?_
  obtain ⟨h1, h2⟩ := h
  refine z_icmp_ne (tgt := 20) hX dX11_isKeyword_5 (by decide) (fun hc => ?_) (fun hc => ?_)
  · have h := h1 hc
    refine z_loc [] rfl ?_
    exact zb_X11_isKeyword_20 hX hQ hnL h
  · have h := h2 hc
    refine z_aload_n (r := (some h0)) hX dX11_isKeyword_8 rfl 0 rfl ?_
    refine gf_RX11_144 (r := (some h0)) hX dX11_isKeyword_9 rfl hk1 ?_
    refine z_iload_n hX dX11_isKeyword_12 rfl 1 rfl ?_
    obtain ⟨h1, h2⟩ := h
    refine z_icmp_ne (tgt := 20) hX dX11_isKeyword_13 (by decide) (fun hc => ?_) (fun hc => ?_)
    · have h := h1 hc
      refine z_loc [] rfl ?_
      exact zb_X11_isKeyword_20 hX hQ hnL h
    · have h := h2 hc
      refine z_iconst (v := (1 : Int32)) hX dX11_isKeyword_16 (by decide) ?_
      refine z_goto (tgt := 21) hX dX11_isKeyword_17 (by decide) ?_
      refine z_loc [] rfl ?_
      exact zb_X11_isKeyword_21 hX hQ hnL h
def rm_X11_findName : Room := { frames := 0, cells := 0, slots := 0, locals := 0 }
def bk_X11_findName_44 (h0 : Nat) (K : Int32 → Mm → Prop) (s0 : Int32) (M : Mm) : Prop := (K s0 M)
set_option maxRecDepth 100000 in
set_option maxHeartbeats 4000000 in
theorem zb_X11_findName_44 {X : Cx} {h0 : Nat} {K : Int32 → Mm → Prop} (hX : Ok X cX11_findName RX11 rm_X11_findName) (hQ : Rq X rm_X11_findName (some .int) (QI K)) (hnL : X.2.2.2.2.2.2.2.2.2.2.2.2.2.2 = 4) {s0 : Int32} {M : Mm} (h : bk_X11_findName_44 h0 K s0 M) : Z X M 0 0 44 [] [.int s0] := by
  unfold bk_X11_findName_44 at h
  exact z_iret hX hQ dX11_findName_44 h
def bk_X11_findName_29 (h0 : Nat) (K : Int32 → Mm → Prop) (l3 : Int32) (M : Mm) : Prop := mK M h0 = 12 ∧ ∃ a2, (mR M 729 h0) = some a2 ∧ isA M a2 1 ∧ vp_in (0 : Int32) (aN M a2) ∧ (((aI M a2 ((0 : Int32)).toNatClampNeg) ≤ l3 → (bk_X11_findName_44 h0 K (-1 : Int32) M)) ∧ (¬ (aI M a2 ((0 : Int32)).toNatClampNeg) ≤ l3 → (bk_X11_findName_44 h0 K l3 M)))
set_option maxRecDepth 100000 in
set_option maxHeartbeats 4000000 in
theorem zb_X11_findName_29 {X : Cx} {h0 : Nat} {K : Int32 → Mm → Prop} (hX : Ok X cX11_findName RX11 rm_X11_findName) (hQ : Rq X rm_X11_findName (some .int) (QI K)) (hnL : X.2.2.2.2.2.2.2.2.2.2.2.2.2.2 = 4) {l3 : Int32} {M : Mm} (h : bk_X11_findName_29 h0 K l3 M) : Z X M 0 0 29 [(0, va_rf (some h0)), (3, .int l3)] [] := by
  unfold bk_X11_findName_29 at h
  refine z_iload_n hX dX11_findName_29 rfl 1 rfl ?_
  refine z_aload_n (r := (some h0)) hX dX11_findName_30 rfl 0 rfl ?_
  obtain ⟨hk1, h⟩ := h
  refine gf_RX11_60 (r := (some h0)) hX dX11_findName_31 rfl hk1 ?_
  refine z_iconst (v := (0 : Int32)) hX dX11_findName_34 (by decide) ?_
  obtain ⟨a2, ha3, h⟩ := h
  obtain ⟨hk4, h⟩ := h
  obtain ⟨hc5, h⟩ := h
  refine y_iald (r := (mR M 729 h0)) hX dX11_findName_35 ha3 hk4 hc5 ?_
  obtain ⟨h1, h2⟩ := h
  refine z_icmp_ge (tgt := 43) hX dX11_findName_36 (by decide) (fun hc => ?_) (fun hc => ?_)
  · have h := h1 hc
    refine z_iconst (v := (-1 : Int32)) hX dX11_findName_43 (by decide) ?_
    refine z_loc [] rfl ?_
    exact zb_X11_findName_44 hX hQ hnL h
  · have h := h2 hc
    refine z_iload_n hX dX11_findName_39 rfl 1 rfl ?_
    refine z_goto (tgt := 44) hX dX11_findName_40 (by decide) ?_
    refine z_loc [] rfl ?_
    exact zb_X11_findName_44 hX hQ hnL h
def lp_X11_findName_2 (h0 : Nat) (K : Int32 → Mm → Prop) : Nat → Int64 → Int32 → Mm → Prop
  | 0, _, _, _ => False
  | n + 1, l1, l3, M => mK M h0 = 12 ∧ ∃ a7, (mR M 729 h0) = some a7 ∧ isA M a7 1 ∧ vp_in (0 : Int32) (aN M a7) ∧ (((aI M a7 ((0 : Int32)).toNatClampNeg) ≤ l3 → (bk_X11_findName_29 h0 K l3 M)) ∧ (¬ (aI M a7 ((0 : Int32)).toNatClampNeg) ≤ l3 → ∃ a11, (mR M 716 h0) = some a11 ∧ isA M a11 2 ∧ vp_in l3 (aN M a11) ∧ (((aJ M a11 (l3).toNatClampNeg) = l1 → (bk_X11_findName_29 h0 K l3 M)) ∧ (¬ (aJ M a11 (l3).toNatClampNeg) = l1 → ((lp_X11_findName_2 h0 K n) l1 (l3 + 1) M)))))
set_option maxRecDepth 100000 in
set_option maxHeartbeats 4000000 in
theorem zl_X11_findName_2 {X : Cx} {h0 : Nat} {K : Int32 → Mm → Prop} (hX : Ok X cX11_findName RX11 rm_X11_findName) (hQ : Rq X rm_X11_findName (some .int) (QI K)) (hnL : X.2.2.2.2.2.2.2.2.2.2.2.2.2.2 = 4) : ∀ (n : Nat) (l1 : Int64) (l3 : Int32) (M : Mm), lp_X11_findName_2 h0 K n l1 l3 M → Z X M 0 0 2 [(0, va_rf (some h0)), (1, .long l1), (3, .int l3)] [] := by
  intro n
  induction n with
  | zero =>
    intro l1 l3 M h
    exact False.elim h
  | succ n hR2 =>
    intro l1 l3 M h
    refine z_iload_n hX dX11_findName_2 rfl 2 rfl ?_
    refine z_aload_n (r := (some h0)) hX dX11_findName_3 rfl 0 rfl ?_
    obtain ⟨hk6, h⟩ := h
    refine gf_RX11_60 (r := (some h0)) hX dX11_findName_4 rfl hk6 ?_
    refine z_iconst (v := (0 : Int32)) hX dX11_findName_7 (by decide) ?_
    obtain ⟨a7, ha8, h⟩ := h
    obtain ⟨hk9, h⟩ := h
    obtain ⟨hc10, h⟩ := h
    refine y_iald (r := (mR M 729 h0)) hX dX11_findName_8 ha8 hk9 hc10 ?_
    obtain ⟨h1, h2⟩ := h
    refine z_icmp_ge (tgt := 29) hX dX11_findName_9 (by decide) (fun hc => ?_) (fun hc => ?_)
    · have h := h1 hc
      refine z_loc [0, 2] rfl ?_
      exact zb_X11_findName_29 hX hQ hnL h
    · have h := h2 hc
      refine z_aload_n (r := (some h0)) hX dX11_findName_12 rfl 0 rfl ?_
      refine gf_RX11_19 (r := (some h0)) hX dX11_findName_13 rfl hk6 ?_
      refine z_iload_n hX dX11_findName_16 rfl 2 rfl ?_
      obtain ⟨a11, ha12, h⟩ := h
      obtain ⟨hk13, h⟩ := h
      obtain ⟨hc14, h⟩ := h
      refine y_lald (r := (mR M 716 h0)) hX dX11_findName_17 ha12 hk13 hc14 ?_
      refine z_lload_n hX dX11_findName_18 rfl 1 rfl ?_
      refine z_lcmp hX dX11_findName_19 ?_
      obtain ⟨h1, h2⟩ := h
      refine z_if_eq (tgt := 29) hX dX11_findName_20 (by decide) (fun hc => ?_) (fun hc => ?_)
      · have h := h1 ((lg_cmp_eq _ _).mp hc)
        refine z_loc [0, 2] rfl ?_
        exact zb_X11_findName_29 hX hQ hnL h
      · have h := h2 (fun q => hc ((lg_cmp_eq _ _).mpr q))
        refine z_iinc (v := (l3 + 1)) hX [(3, .int (l3 + 1)), (0, va_rf (some h0)), (1, .long l1)] dX11_findName_23 2 rfl rfl (by rw [hnL]; decide) rfl ?_
        refine z_goto (tgt := 2) hX dX11_findName_26 (by decide) ?_
        refine z_loc [1, 2, 0] rfl ?_
        exact hR2 _ _ _ h
def wp_X11_findName (M : Mm) (h0 : Nat) (p1 : Int64) (K : Int32 → Mm → Prop) : Prop := (∃ kk, lp_X11_findName_2 h0 K kk p1 (0 : Int32) M)
set_option maxRecDepth 100000 in
set_option maxHeartbeats 4000000 in
theorem ct_X11_findName {M : Mm} {h0 : Nat} {p1 : Int64} {K : Int32 → Mm → Prop} (h : wp_X11_findName M h0 p1 K) : CtI yX11_findName cX11_findName 4 (some .int) rm_X11_findName [.ref h0, .long p1] M K := by
  refine ct_any (QI K) (by decide) (by exact Nat.le_of_ble_eq_true rfl) (fun X hX hQ hnL hnm => ?_)
  rw [show lv_args 0 [.ref h0, .long p1] = [(0, va_rf (some h0)), (1, .long p1)] by rfl]
  have hX : Ok X cX11_findName RX11 rm_X11_findName := hX
  unfold wp_X11_findName at h
  refine z_iconst (v := (0 : Int32)) hX dX11_findName_0 (by decide) ?_
  refine z_istore_n hX [(3, .int (0 : Int32)), (0, va_rf (some h0)), (1, .long p1)] dX11_findName_1 rfl (by rw [hnL]; decide) rfl ?_
  refine z_loc [1, 2, 0] rfl ?_
  obtain ⟨n, h⟩ := h
  exact zl_X11_findName_2 hX hQ hnL n _ _ _ h
def rm_X11_stand : Room := { frames := 1, cells := 0, slots := 0, locals := 100 }
def lp_X11_stand_290 (h0 : Nat) (R239 : Int32 → Mm → Prop) (K : Mm → Prop) : Nat → Int32 → Int32 → Mm → Prop
  | 0, _, _, _ => False
  | n + 1, l1, l2, M => (((4 : Int32) ≤ l2 → (R239 (l1 + 1) M)) ∧ (¬ (4 : Int32) ≤ l2 → mK M h0 = 12 ∧ ∃ a2, (mR M 735 h0) = some a2 ∧ isA M a2 1 ∧ vp_in (((4 : Int32) * l1) + l2) (aN M a2) ∧ ∃ a6, (mR (tI M a2 ((((4 : Int32) * l1) + l2)).toNatClampNeg (0 : Int32)) 736 h0) = some a6 ∧ isA (tI M a2 ((((4 : Int32) * l1) + l2)).toNatClampNeg (0 : Int32)) a6 2 ∧ vp_in (((4 : Int32) * l1) + l2) (aN (tI M a2 ((((4 : Int32) * l1) + l2)).toNatClampNeg (0 : Int32)) a6) ∧ ∃ a10, (mR (tJ (tI M a2 ((((4 : Int32) * l1) + l2)).toNatClampNeg (0 : Int32)) a6 ((((4 : Int32) * l1) + l2)).toNatClampNeg (-9000000000000000000 : Int64)) 737 h0) = some a10 ∧ isA (tJ (tI M a2 ((((4 : Int32) * l1) + l2)).toNatClampNeg (0 : Int32)) a6 ((((4 : Int32) * l1) + l2)).toNatClampNeg (-9000000000000000000 : Int64)) a10 1 ∧ vp_in (((4 : Int32) * l1) + l2) (aN (tJ (tI M a2 ((((4 : Int32) * l1) + l2)).toNatClampNeg (0 : Int32)) a6 ((((4 : Int32) * l1) + l2)).toNatClampNeg (-9000000000000000000 : Int64)) a10) ∧ ((lp_X11_stand_290 h0 R239 K n) l1 (l2 + 1) (tI (tJ (tI M a2 ((((4 : Int32) * l1) + l2)).toNatClampNeg (0 : Int32)) a6 ((((4 : Int32) * l1) + l2)).toNatClampNeg (-9000000000000000000 : Int64)) a10 ((((4 : Int32) * l1) + l2)).toNatClampNeg (0 : Int32)))))
set_option maxRecDepth 100000 in
set_option maxHeartbeats 4000000 in
theorem zl_X11_stand_290 {X : Cx} {h0 : Nat} {R239 : Int32 → Mm → Prop} {K : Mm → Prop} (hX : Ok X cX11_stand RX11 rm_X11_stand) (hQ : Rq X rm_X11_stand none (QV K)) (hnL : X.2.2.2.2.2.2.2.2.2.2.2.2.2.2 = 3) (hR239 : ∀ l1 M, R239 l1 M → Z X M 0 0 239 [(0, va_rf (some h0)), (1, .int l1)] []) : ∀ (n : Nat) (l1 : Int32) (l2 : Int32) (M : Mm), lp_X11_stand_290 h0 R239 K n l1 l2 M → Z X M 0 0 290 [(0, va_rf (some h0)), (1, .int l1), (2, .int l2)] [] := by
  intro n
  induction n with
  | zero =>
    intro l1 l2 M h
    exact False.elim h
  | succ n hR290 =>
    intro l1 l2 M h
    refine z_iload_n hX dX11_stand_290 rfl 2 rfl ?_
    refine z_iconst (v := (4 : Int32)) hX dX11_stand_291 (by decide) ?_
    obtain ⟨h1, h2⟩ := h
    refine z_icmp_ge (tgt := 336) hX dX11_stand_292 (by decide) (fun hc => ?_) (fun hc => ?_)
    · have h := h1 hc
      refine z_iinc (v := (l1 + 1)) hX [(1, .int (l1 + 1)), (0, va_rf (some h0)), (2, .int l2)] dX11_stand_336 1 rfl rfl (by rw [hnL]; decide) rfl ?_
      refine z_goto (tgt := 239) hX dX11_stand_339 (by decide) ?_
      refine z_loc [1, 0] rfl ?_
      exact hR239 _ _ h
    · have h := h2 hc
      refine z_aload_n (r := (some h0)) hX dX11_stand_295 rfl 0 rfl ?_
      obtain ⟨hk1, h⟩ := h
      refine gf_RX11_69 (r := (some h0)) hX dX11_stand_296 rfl hk1 ?_
      refine z_iconst (v := (4 : Int32)) hX dX11_stand_299 (by decide) ?_
      refine z_iload_n hX dX11_stand_300 rfl 1 rfl ?_
      refine z_imul hX dX11_stand_301 ?_
      refine z_iload_n hX dX11_stand_302 rfl 2 rfl ?_
      refine z_iadd hX dX11_stand_303 ?_
      refine z_iconst (v := (0 : Int32)) hX dX11_stand_304 (by decide) ?_
      obtain ⟨a2, ha3, h⟩ := h
      obtain ⟨hk4, h⟩ := h
      obtain ⟨hc5, h⟩ := h
      refine y_iast (r := (mR M 735 h0)) hX dX11_stand_305 ha3 hk4 hc5 ?_
      refine z_aload_n (r := (some h0)) hX dX11_stand_306 rfl 0 rfl ?_
      refine gf_RX11_72 (r := (some h0)) hX dX11_stand_307 rfl hk1 ?_
      refine z_iconst (v := (4 : Int32)) hX dX11_stand_310 (by decide) ?_
      refine z_iload_n hX dX11_stand_311 rfl 1 rfl ?_
      refine z_imul hX dX11_stand_312 ?_
      refine z_iload_n hX dX11_stand_313 rfl 2 rfl ?_
      refine z_iadd hX dX11_stand_314 ?_
      refine z_ldc2 (v := (-9000000000000000000 : Int64)) hX dX11_stand_315 kj_RX11_281 ?_
      obtain ⟨a6, ha7, h⟩ := h
      obtain ⟨hk8, h⟩ := h
      obtain ⟨hc9, h⟩ := h
      refine y_last (r := (mR (tI M a2 ((((4 : Int32) * l1) + l2)).toNatClampNeg (0 : Int32)) 736 h0)) hX dX11_stand_318 ha7 hk8 hc9 ?_
      refine z_aload_n (r := (some h0)) hX dX11_stand_319 rfl 0 rfl ?_
      refine gf_RX11_75 (r := (some h0)) hX dX11_stand_320 rfl hk1 ?_
      refine z_iconst (v := (4 : Int32)) hX dX11_stand_323 (by decide) ?_
      refine z_iload_n hX dX11_stand_324 rfl 1 rfl ?_
      refine z_imul hX dX11_stand_325 ?_
      refine z_iload_n hX dX11_stand_326 rfl 2 rfl ?_
      refine z_iadd hX dX11_stand_327 ?_
      refine z_iconst (v := (0 : Int32)) hX dX11_stand_328 (by decide) ?_
      obtain ⟨a10, ha11, h⟩ := h
      obtain ⟨hk12, h⟩ := h
      obtain ⟨hc13, h⟩ := h
      refine y_iast (r := (mR (tJ (tI M a2 ((((4 : Int32) * l1) + l2)).toNatClampNeg (0 : Int32)) a6 ((((4 : Int32) * l1) + l2)).toNatClampNeg (-9000000000000000000 : Int64)) 737 h0)) hX dX11_stand_329 ha11 hk12 hc13 ?_
      refine z_iinc (v := (l2 + 1)) hX [(2, .int (l2 + 1)), (0, va_rf (some h0)), (1, .int l1)] dX11_stand_330 2 rfl rfl (by rw [hnL]; decide) rfl ?_
      refine z_goto (tgt := 290) hX dX11_stand_333 (by decide) ?_
      refine z_loc [1, 2, 0] rfl ?_
      exact hR290 _ _ _ h
def lp_X11_stand_239 (h0 : Nat) (K : Mm → Prop) : Nat → Int32 → Mm → Prop
  | 0, _, _ => False
  | n + 1, l1, M => (((12 : Int32) ≤ l1 → mK M h0 = 12 ∧ (K (sI (sI (sI (sI (sI M 739 h0 (0 : Int32)) 741 h0 (0 : Int32)) 743 h0 (0 : Int32)) 738 h0 (0 : Int32)) 752 h0 (0 : Int32)))) ∧ (¬ (12 : Int32) ≤ l1 → mK M h0 = 12 ∧ ∃ a21, (mR M 733 h0) = some a21 ∧ isA M a21 2 ∧ vp_in l1 (aN M a21) ∧ ∃ a25, (mR (tJ M a21 (l1).toNatClampNeg (-9000000000000000000 : Int64)) 734 h0) = some a25 ∧ isA (tJ M a21 (l1).toNatClampNeg (-9000000000000000000 : Int64)) a25 3 ∧ vp_in l1 (aN (tJ M a21 (l1).toNatClampNeg (-9000000000000000000 : Int64)) a25) ∧ ∃ a29, (mR (tI (tJ M a21 (l1).toNatClampNeg (-9000000000000000000 : Int64)) a25 (l1).toNatClampNeg (0 : Int32)) 744 h0) = some a29 ∧ isA (tI (tJ M a21 (l1).toNatClampNeg (-9000000000000000000 : Int64)) a25 (l1).toNatClampNeg (0 : Int32)) a29 1 ∧ vp_in l1 (aN (tI (tJ M a21 (l1).toNatClampNeg (-9000000000000000000 : Int64)) a25 (l1).toNatClampNeg (0 : Int32)) a29) ∧ ∃ a33, (mR (tI (tI (tJ M a21 (l1).toNatClampNeg (-9000000000000000000 : Int64)) a25 (l1).toNatClampNeg (0 : Int32)) a29 (l1).toNatClampNeg (0 : Int32)) 748 h0) = some a33 ∧ isA (tI (tI (tJ M a21 (l1).toNatClampNeg (-9000000000000000000 : Int64)) a25 (l1).toNatClampNeg (0 : Int32)) a29 (l1).toNatClampNeg (0 : Int32)) a33 1 ∧ vp_in ((2 : Int32) * l1) (aN (tI (tI (tJ M a21 (l1).toNatClampNeg (-9000000000000000000 : Int64)) a25 (l1).toNatClampNeg (0 : Int32)) a29 (l1).toNatClampNeg (0 : Int32)) a33) ∧ ∃ a37, (mR (tI (tI (tI (tJ M a21 (l1).toNatClampNeg (-9000000000000000000 : Int64)) a25 (l1).toNatClampNeg (0 : Int32)) a29 (l1).toNatClampNeg (0 : Int32)) a33 (((2 : Int32) * l1)).toNatClampNeg (0 : Int32)) 748 h0) = some a37 ∧ isA (tI (tI (tI (tJ M a21 (l1).toNatClampNeg (-9000000000000000000 : Int64)) a25 (l1).toNatClampNeg (0 : Int32)) a29 (l1).toNatClampNeg (0 : Int32)) a33 (((2 : Int32) * l1)).toNatClampNeg (0 : Int32)) a37 1 ∧ vp_in (((2 : Int32) * l1) + (1 : Int32)) (aN (tI (tI (tI (tJ M a21 (l1).toNatClampNeg (-9000000000000000000 : Int64)) a25 (l1).toNatClampNeg (0 : Int32)) a29 (l1).toNatClampNeg (0 : Int32)) a33 (((2 : Int32) * l1)).toNatClampNeg (0 : Int32)) a37) ∧ (∃ kk, lp_X11_stand_290 h0 (lp_X11_stand_239 h0 K n) K kk l1 (0 : Int32) (tI (tI (tI (tI (tJ M a21 (l1).toNatClampNeg (-9000000000000000000 : Int64)) a25 (l1).toNatClampNeg (0 : Int32)) a29 (l1).toNatClampNeg (0 : Int32)) a33 (((2 : Int32) * l1)).toNatClampNeg (0 : Int32)) a37 ((((2 : Int32) * l1) + (1 : Int32))).toNatClampNeg (0 : Int32)))))
set_option maxRecDepth 100000 in
set_option maxHeartbeats 4000000 in
theorem zl_X11_stand_239 {X : Cx} {h0 : Nat} {K : Mm → Prop} (hX : Ok X cX11_stand RX11 rm_X11_stand) (hQ : Rq X rm_X11_stand none (QV K)) (hnL : X.2.2.2.2.2.2.2.2.2.2.2.2.2.2 = 3) : ∀ (n : Nat) (l1 : Int32) (M : Mm), lp_X11_stand_239 h0 K n l1 M → Z X M 0 0 239 [(0, va_rf (some h0)), (1, .int l1)] [] := by
  intro n
  induction n with
  | zero =>
    intro l1 M h
    exact False.elim h
  | succ n hR239 =>
    intro l1 M h
    refine z_iload_n hX dX11_stand_239 rfl 1 rfl ?_
    refine z_bipush (v := (12 : Int32)) hX dX11_stand_240 (by decide) ?_
    obtain ⟨h1, h2⟩ := h
    refine z_icmp_ge (tgt := 342) hX dX11_stand_242 (by decide) (fun hc => ?_) (fun hc => ?_)
    · have h := h1 hc
      refine z_aload_n (r := (some h0)) hX dX11_stand_342 rfl 0 rfl ?_
      refine z_iconst (v := (0 : Int32)) hX dX11_stand_343 (by decide) ?_
      obtain ⟨hk14, h⟩ := h
      refine pf_RX11_283 (r := (some h0)) (v := (0 : Int32)) hX dX11_stand_344 rfl hk14 ?_
      refine z_aload_n (r := (some h0)) hX dX11_stand_347 rfl 0 rfl ?_
      refine z_iconst (v := (0 : Int32)) hX dX11_stand_348 (by decide) ?_
      refine pf_RX11_286 (r := (some h0)) (v := (0 : Int32)) hX dX11_stand_349 rfl hk14 ?_
      refine z_aload_n (r := (some h0)) hX dX11_stand_352 rfl 0 rfl ?_
      refine z_iconst (v := (0 : Int32)) hX dX11_stand_353 (by decide) ?_
      refine pf_RX11_289 (r := (some h0)) (v := (0 : Int32)) hX dX11_stand_354 rfl hk14 ?_
      refine z_aload_n (r := (some h0)) hX dX11_stand_357 rfl 0 rfl ?_
      refine z_iconst (v := (0 : Int32)) hX dX11_stand_358 (by decide) ?_
      refine pf_RX11_292 (r := (some h0)) (v := (0 : Int32)) hX dX11_stand_359 rfl hk14 ?_
      refine z_aload_n (r := (some h0)) hX dX11_stand_362 rfl 0 rfl ?_
      refine z_iconst (v := (0 : Int32)) hX dX11_stand_363 (by decide) ?_
      refine pf_RX11_295 (r := (some h0)) (v := (0 : Int32)) hX dX11_stand_364 rfl hk14 ?_
      exact z_vret hX hQ dX11_stand_367 h
    · have h := h2 hc
      refine z_aload_n (r := (some h0)) hX dX11_stand_245 rfl 0 rfl ?_
      obtain ⟨hk20, h⟩ := h
      refine gf_RX11_63 (r := (some h0)) hX dX11_stand_246 rfl hk20 ?_
      refine z_iload_n hX dX11_stand_249 rfl 1 rfl ?_
      refine z_ldc2 (v := (-9000000000000000000 : Int64)) hX dX11_stand_250 kj_RX11_281 ?_
      obtain ⟨a21, ha22, h⟩ := h
      obtain ⟨hk23, h⟩ := h
      obtain ⟨hc24, h⟩ := h
      refine y_last (r := (mR M 733 h0)) hX dX11_stand_253 ha22 hk23 hc24 ?_
      refine z_aload_n (r := (some h0)) hX dX11_stand_254 rfl 0 rfl ?_
      refine gf_RX11_66 (r := (some h0)) hX dX11_stand_255 rfl hk20 ?_
      refine z_iload_n hX dX11_stand_258 rfl 1 rfl ?_
      refine z_iconst (v := (0 : Int32)) hX dX11_stand_259 (by decide) ?_
      obtain ⟨a25, ha26, h⟩ := h
      obtain ⟨hk27, h⟩ := h
      obtain ⟨hc28, h⟩ := h
      refine y_zast (r := (mR (tJ M a21 (l1).toNatClampNeg (-9000000000000000000 : Int64)) 734 h0)) hX dX11_stand_260 ha26 hk27 hc28 (Or.inl rfl)  ?_
      refine z_aload_n (r := (some h0)) hX dX11_stand_261 rfl 0 rfl ?_
      refine gf_RX11_84 (r := (some h0)) hX dX11_stand_262 rfl hk20 ?_
      refine z_iload_n hX dX11_stand_265 rfl 1 rfl ?_
      refine z_iconst (v := (0 : Int32)) hX dX11_stand_266 (by decide) ?_
      obtain ⟨a29, ha30, h⟩ := h
      obtain ⟨hk31, h⟩ := h
      obtain ⟨hc32, h⟩ := h
      refine y_iast (r := (mR (tI (tJ M a21 (l1).toNatClampNeg (-9000000000000000000 : Int64)) a25 (l1).toNatClampNeg (0 : Int32)) 744 h0)) hX dX11_stand_267 ha30 hk31 hc32 ?_
      refine z_aload_n (r := (some h0)) hX dX11_stand_268 rfl 0 rfl ?_
      refine gf_RX11_96 (r := (some h0)) hX dX11_stand_269 rfl hk20 ?_
      refine z_iconst (v := (2 : Int32)) hX dX11_stand_272 (by decide) ?_
      refine z_iload_n hX dX11_stand_273 rfl 1 rfl ?_
      refine z_imul hX dX11_stand_274 ?_
      refine z_iconst (v := (0 : Int32)) hX dX11_stand_275 (by decide) ?_
      obtain ⟨a33, ha34, h⟩ := h
      obtain ⟨hk35, h⟩ := h
      obtain ⟨hc36, h⟩ := h
      refine y_iast (r := (mR (tI (tI (tJ M a21 (l1).toNatClampNeg (-9000000000000000000 : Int64)) a25 (l1).toNatClampNeg (0 : Int32)) a29 (l1).toNatClampNeg (0 : Int32)) 748 h0)) hX dX11_stand_276 ha34 hk35 hc36 ?_
      refine z_aload_n (r := (some h0)) hX dX11_stand_277 rfl 0 rfl ?_
      refine gf_RX11_96 (r := (some h0)) hX dX11_stand_278 rfl hk20 ?_
      refine z_iconst (v := (2 : Int32)) hX dX11_stand_281 (by decide) ?_
      refine z_iload_n hX dX11_stand_282 rfl 1 rfl ?_
      refine z_imul hX dX11_stand_283 ?_
      refine z_iconst (v := (1 : Int32)) hX dX11_stand_284 (by decide) ?_
      refine z_iadd hX dX11_stand_285 ?_
      refine z_iconst (v := (0 : Int32)) hX dX11_stand_286 (by decide) ?_
      obtain ⟨a37, ha38, h⟩ := h
      obtain ⟨hk39, h⟩ := h
      obtain ⟨hc40, h⟩ := h
      refine y_iast (r := (mR (tI (tI (tI (tJ M a21 (l1).toNatClampNeg (-9000000000000000000 : Int64)) a25 (l1).toNatClampNeg (0 : Int32)) a29 (l1).toNatClampNeg (0 : Int32)) a33 (((2 : Int32) * l1)).toNatClampNeg (0 : Int32)) 748 h0)) hX dX11_stand_287 ha38 hk39 hc40 ?_
      refine z_iconst (v := (0 : Int32)) hX dX11_stand_288 (by decide) ?_
      refine z_istore_n hX [(2, .int (0 : Int32)), (0, va_rf (some h0)), (1, .int l1)] dX11_stand_289 rfl (by rw [hnL]; decide) rfl ?_
      refine z_loc [1, 2, 0] rfl ?_
      obtain ⟨n, h⟩ := h
      exact zl_X11_stand_290 hX hQ hnL hR239 n _ _ _ h
def bk_X11_stand_220 (h0 : Nat) (K : Mm → Prop) (M : Mm) : Prop := mK M h0 = 12 ∧ ∃ a42, (mR M 729 h0) = some a42 ∧ isA M a42 1 ∧ vp_in (0 : Int32) (aN M a42) ∧ vp_in (1 : Int32) (aN M a42) ∧ (∃ kk, lp_X11_stand_239 h0 K kk (0 : Int32) (sI (tI M a42 ((1 : Int32)).toNatClampNeg (aI M a42 ((0 : Int32)).toNatClampNeg)) 732 h0 (1 : Int32)))
set_option maxRecDepth 100000 in
set_option maxHeartbeats 4000000 in
theorem zb_X11_stand_220 {X : Cx} {h0 : Nat} {K : Mm → Prop} (hX : Ok X cX11_stand RX11 rm_X11_stand) (hQ : Rq X rm_X11_stand none (QV K)) (hnL : X.2.2.2.2.2.2.2.2.2.2.2.2.2.2 = 3) {M : Mm} (h : bk_X11_stand_220 h0 K M) : Z X M 0 0 220 [(0, va_rf (some h0))] [] := by
  unfold bk_X11_stand_220 at h
  refine z_aload_n (r := (some h0)) hX dX11_stand_220 rfl 0 rfl ?_
  obtain ⟨hk41, h⟩ := h
  refine gf_RX11_60 (r := (some h0)) hX dX11_stand_221 rfl hk41 ?_
  refine z_iconst (v := (1 : Int32)) hX dX11_stand_224 (by decide) ?_
  refine z_aload_n (r := (some h0)) hX dX11_stand_225 rfl 0 rfl ?_
  refine gf_RX11_60 (r := (some h0)) hX dX11_stand_226 rfl hk41 ?_
  refine z_iconst (v := (0 : Int32)) hX dX11_stand_229 (by decide) ?_
  obtain ⟨a42, ha43, h⟩ := h
  obtain ⟨hk44, h⟩ := h
  obtain ⟨hc45, h⟩ := h
  refine y_iald (r := (mR M 729 h0)) hX dX11_stand_230 ha43 hk44 hc45 ?_
  obtain ⟨hc46, h⟩ := h
  refine y_iast (r := (mR M 729 h0)) hX dX11_stand_231 ha43 hk44 hc46 ?_
  refine z_aload_n (r := (some h0)) hX dX11_stand_232 rfl 0 rfl ?_
  refine z_iconst (v := (1 : Int32)) hX dX11_stand_233 (by decide) ?_
  refine pf_RX11_277 (r := (some h0)) (v := (1 : Int32)) hX dX11_stand_234 rfl (Or.inr rfl) hk41 ?_
  refine z_iconst (v := (0 : Int32)) hX dX11_stand_237 (by decide) ?_
  refine z_istore_n hX [(1, .int (0 : Int32)), (0, va_rf (some h0))] dX11_stand_238 rfl (by rw [hnL]; decide) rfl ?_
  refine z_loc [1, 0] rfl ?_
  obtain ⟨n, h⟩ := h
  exact zl_X11_stand_239 hX hQ hnL n _ _ h
def bk_X11_stand_206 (h0 : Nat) (K : Mm → Prop) (M : Mm) : Prop := mK M h0 = 12 ∧ ∃ a49, (mR M 728 h0) = some a49 ∧ isA M a49 2 ∧ ((0 : Int32)).toNatClampNeg + ((4 : Int32)).toNatClampNeg ≤ aN M a49 ∧ ((4 : Int32)).toNatClampNeg + ((4 : Int32)).toNatClampNeg ≤ aN M a49 ∧ (bk_X11_stand_220 h0 K (cpJ M a49 a49 ((0 : Int32)).toNatClampNeg ((4 : Int32)).toNatClampNeg ((4 : Int32)).toNatClampNeg))
set_option maxRecDepth 100000 in
set_option maxHeartbeats 4000000 in
theorem zb_X11_stand_206 {X : Cx} {h0 : Nat} {K : Mm → Prop} (hX : Ok X cX11_stand RX11 rm_X11_stand) (hQ : Rq X rm_X11_stand none (QV K)) (hnL : X.2.2.2.2.2.2.2.2.2.2.2.2.2.2 = 3) {M : Mm} (h : bk_X11_stand_206 h0 K M) : Z X M 0 0 206 [(0, va_rf (some h0))] [] := by
  unfold bk_X11_stand_206 at h
  refine z_aload_n (r := (some h0)) hX dX11_stand_206 rfl 0 rfl ?_
  obtain ⟨hk48, h⟩ := h
  refine gf_RX11_57 (r := (some h0)) hX dX11_stand_207 rfl hk48 ?_
  refine z_iconst (v := (0 : Int32)) hX dX11_stand_210 (by decide) ?_
  refine z_aload_n (r := (some h0)) hX dX11_stand_211 rfl 0 rfl ?_
  refine gf_RX11_57 (r := (some h0)) hX dX11_stand_212 rfl hk48 ?_
  refine z_iconst (v := (4 : Int32)) hX dX11_stand_215 (by decide) ?_
  refine z_iconst (v := (4 : Int32)) hX dX11_stand_216 (by decide) ?_
  obtain ⟨a49, ha50, h⟩ := h
  obtain ⟨hk51, h⟩ := h
  obtain ⟨hc52, h⟩ := h
  obtain ⟨hc53, h⟩ := h
  refine z_copyJ (ra := (mR M 728 h0)) (rb := (mR M 728 h0)) hX ac_RX11_271.1 ac_RX11_271.2.1 ac_RX11_271.2.2.1 ac_RX11_271.2.2.2 dX11_stand_217 ha50 ha50 hk51 hk51 (by decide) (by decide) (by decide) hc52 hc53 (by decide) (by decide) ?_
  exact zb_X11_stand_220 hX hQ hnL h
def bk_X11_stand_192 (h0 : Nat) (K : Mm → Prop) (M : Mm) : Prop := mK M h0 = 12 ∧ ∃ a55, (mR M 727 h0) = some a55 ∧ isA M a55 3 ∧ ((0 : Int32)).toNatClampNeg + ((4 : Int32)).toNatClampNeg ≤ aN M a55 ∧ ((4 : Int32)).toNatClampNeg + ((4 : Int32)).toNatClampNeg ≤ aN M a55 ∧ (∀ i, i < ((4 : Int32)).toNatClampNeg → bz (aI M a55 (((0 : Int32)).toNatClampNeg + i))) ∧ (bk_X11_stand_206 h0 K (cpI M a55 a55 ((0 : Int32)).toNatClampNeg ((4 : Int32)).toNatClampNeg ((4 : Int32)).toNatClampNeg))
set_option maxRecDepth 100000 in
set_option maxHeartbeats 4000000 in
theorem zb_X11_stand_192 {X : Cx} {h0 : Nat} {K : Mm → Prop} (hX : Ok X cX11_stand RX11 rm_X11_stand) (hQ : Rq X rm_X11_stand none (QV K)) (hnL : X.2.2.2.2.2.2.2.2.2.2.2.2.2.2 = 3) {M : Mm} (h : bk_X11_stand_192 h0 K M) : Z X M 0 0 192 [(0, va_rf (some h0))] [] := by
  unfold bk_X11_stand_192 at h
  refine z_aload_n (r := (some h0)) hX dX11_stand_192 rfl 0 rfl ?_
  obtain ⟨hk54, h⟩ := h
  refine gf_RX11_54 (r := (some h0)) hX dX11_stand_193 rfl hk54 ?_
  refine z_iconst (v := (0 : Int32)) hX dX11_stand_196 (by decide) ?_
  refine z_aload_n (r := (some h0)) hX dX11_stand_197 rfl 0 rfl ?_
  refine gf_RX11_54 (r := (some h0)) hX dX11_stand_198 rfl hk54 ?_
  refine z_iconst (v := (4 : Int32)) hX dX11_stand_201 (by decide) ?_
  refine z_iconst (v := (4 : Int32)) hX dX11_stand_202 (by decide) ?_
  obtain ⟨a55, ha56, h⟩ := h
  obtain ⟨hk57, h⟩ := h
  obtain ⟨hc58, h⟩ := h
  obtain ⟨hc59, h⟩ := h
  obtain ⟨hc60, h⟩ := h
  refine z_copyI (ra := (mR M 727 h0)) (rb := (mR M 727 h0)) hX (Or.inr ⟨rfl, rfl⟩) ac_RX11_271.1 ac_RX11_271.2.1 ac_RX11_271.2.2.1 ac_RX11_271.2.2.2 dX11_stand_203 ha56 ha56 hk57 hk57 (by decide) (by decide) (by decide) hc58 hc59 (fun i hi => bz_f (hc60 i hi)) (by decide) (by decide) ?_
  exact zb_X11_stand_206 hX hQ hnL h
def bk_X11_stand_176 (h0 : Nat) (K : Mm → Prop) (M : Mm) : Prop := mK M h0 = 12 ∧ ∃ a62, (mR M 726 h0) = some a62 ∧ isA M a62 1 ∧ ((0 : Int32)).toNatClampNeg + ((12 : Int32)).toNatClampNeg ≤ aN M a62 ∧ ((12 : Int32)).toNatClampNeg + ((12 : Int32)).toNatClampNeg ≤ aN M a62 ∧ (bk_X11_stand_192 h0 K (cpI M a62 a62 ((0 : Int32)).toNatClampNeg ((12 : Int32)).toNatClampNeg ((12 : Int32)).toNatClampNeg))
set_option maxRecDepth 100000 in
set_option maxHeartbeats 4000000 in
theorem zb_X11_stand_176 {X : Cx} {h0 : Nat} {K : Mm → Prop} (hX : Ok X cX11_stand RX11 rm_X11_stand) (hQ : Rq X rm_X11_stand none (QV K)) (hnL : X.2.2.2.2.2.2.2.2.2.2.2.2.2.2 = 3) {M : Mm} (h : bk_X11_stand_176 h0 K M) : Z X M 0 0 176 [(0, va_rf (some h0))] [] := by
  unfold bk_X11_stand_176 at h
  refine z_aload_n (r := (some h0)) hX dX11_stand_176 rfl 0 rfl ?_
  obtain ⟨hk61, h⟩ := h
  refine gf_RX11_51 (r := (some h0)) hX dX11_stand_177 rfl hk61 ?_
  refine z_iconst (v := (0 : Int32)) hX dX11_stand_180 (by decide) ?_
  refine z_aload_n (r := (some h0)) hX dX11_stand_181 rfl 0 rfl ?_
  refine gf_RX11_51 (r := (some h0)) hX dX11_stand_182 rfl hk61 ?_
  refine z_bipush (v := (12 : Int32)) hX dX11_stand_185 (by decide) ?_
  refine z_bipush (v := (12 : Int32)) hX dX11_stand_187 (by decide) ?_
  obtain ⟨a62, ha63, h⟩ := h
  obtain ⟨hk64, h⟩ := h
  obtain ⟨hc65, h⟩ := h
  obtain ⟨hc66, h⟩ := h
  refine z_copyI (ra := (mR M 726 h0)) (rb := (mR M 726 h0)) hX (Or.inl ⟨rfl, rfl⟩) ac_RX11_271.1 ac_RX11_271.2.1 ac_RX11_271.2.2.1 ac_RX11_271.2.2.2 dX11_stand_189 ha63 ha63 hk64 hk64 (by decide) (by decide) (by decide) hc65 hc66 (fun _ _ => rfl) (by decide) (by decide) ?_
  exact zb_X11_stand_192 hX hQ hnL h
def bk_X11_stand_160 (h0 : Nat) (K : Mm → Prop) (M : Mm) : Prop := mK M h0 = 12 ∧ ∃ a68, (mR M 725 h0) = some a68 ∧ isA M a68 1 ∧ ((0 : Int32)).toNatClampNeg + ((48 : Int32)).toNatClampNeg ≤ aN M a68 ∧ ((48 : Int32)).toNatClampNeg + ((48 : Int32)).toNatClampNeg ≤ aN M a68 ∧ (bk_X11_stand_176 h0 K (cpI M a68 a68 ((0 : Int32)).toNatClampNeg ((48 : Int32)).toNatClampNeg ((48 : Int32)).toNatClampNeg))
set_option maxRecDepth 100000 in
set_option maxHeartbeats 4000000 in
theorem zb_X11_stand_160 {X : Cx} {h0 : Nat} {K : Mm → Prop} (hX : Ok X cX11_stand RX11 rm_X11_stand) (hQ : Rq X rm_X11_stand none (QV K)) (hnL : X.2.2.2.2.2.2.2.2.2.2.2.2.2.2 = 3) {M : Mm} (h : bk_X11_stand_160 h0 K M) : Z X M 0 0 160 [(0, va_rf (some h0))] [] := by
  unfold bk_X11_stand_160 at h
  refine z_aload_n (r := (some h0)) hX dX11_stand_160 rfl 0 rfl ?_
  obtain ⟨hk67, h⟩ := h
  refine gf_RX11_48 (r := (some h0)) hX dX11_stand_161 rfl hk67 ?_
  refine z_iconst (v := (0 : Int32)) hX dX11_stand_164 (by decide) ?_
  refine z_aload_n (r := (some h0)) hX dX11_stand_165 rfl 0 rfl ?_
  refine gf_RX11_48 (r := (some h0)) hX dX11_stand_166 rfl hk67 ?_
  refine z_bipush (v := (48 : Int32)) hX dX11_stand_169 (by decide) ?_
  refine z_bipush (v := (48 : Int32)) hX dX11_stand_171 (by decide) ?_
  obtain ⟨a68, ha69, h⟩ := h
  obtain ⟨hk70, h⟩ := h
  obtain ⟨hc71, h⟩ := h
  obtain ⟨hc72, h⟩ := h
  refine z_copyI (ra := (mR M 725 h0)) (rb := (mR M 725 h0)) hX (Or.inl ⟨rfl, rfl⟩) ac_RX11_271.1 ac_RX11_271.2.1 ac_RX11_271.2.2.1 ac_RX11_271.2.2.2 dX11_stand_173 ha69 ha69 hk70 hk70 (by decide) (by decide) (by decide) hc71 hc72 (fun _ _ => rfl) (by decide) (by decide) ?_
  exact zb_X11_stand_176 hX hQ hnL h
def bk_X11_stand_144 (h0 : Nat) (K : Mm → Prop) (M : Mm) : Prop := mK M h0 = 12 ∧ ∃ a74, (mR M 724 h0) = some a74 ∧ isA M a74 1 ∧ ((0 : Int32)).toNatClampNeg + ((12 : Int32)).toNatClampNeg ≤ aN M a74 ∧ ((12 : Int32)).toNatClampNeg + ((12 : Int32)).toNatClampNeg ≤ aN M a74 ∧ (bk_X11_stand_160 h0 K (cpI M a74 a74 ((0 : Int32)).toNatClampNeg ((12 : Int32)).toNatClampNeg ((12 : Int32)).toNatClampNeg))
set_option maxRecDepth 100000 in
set_option maxHeartbeats 4000000 in
theorem zb_X11_stand_144 {X : Cx} {h0 : Nat} {K : Mm → Prop} (hX : Ok X cX11_stand RX11 rm_X11_stand) (hQ : Rq X rm_X11_stand none (QV K)) (hnL : X.2.2.2.2.2.2.2.2.2.2.2.2.2.2 = 3) {M : Mm} (h : bk_X11_stand_144 h0 K M) : Z X M 0 0 144 [(0, va_rf (some h0))] [] := by
  unfold bk_X11_stand_144 at h
  refine z_aload_n (r := (some h0)) hX dX11_stand_144 rfl 0 rfl ?_
  obtain ⟨hk73, h⟩ := h
  refine gf_RX11_45 (r := (some h0)) hX dX11_stand_145 rfl hk73 ?_
  refine z_iconst (v := (0 : Int32)) hX dX11_stand_148 (by decide) ?_
  refine z_aload_n (r := (some h0)) hX dX11_stand_149 rfl 0 rfl ?_
  refine gf_RX11_45 (r := (some h0)) hX dX11_stand_150 rfl hk73 ?_
  refine z_bipush (v := (12 : Int32)) hX dX11_stand_153 (by decide) ?_
  refine z_bipush (v := (12 : Int32)) hX dX11_stand_155 (by decide) ?_
  obtain ⟨a74, ha75, h⟩ := h
  obtain ⟨hk76, h⟩ := h
  obtain ⟨hc77, h⟩ := h
  obtain ⟨hc78, h⟩ := h
  refine z_copyI (ra := (mR M 724 h0)) (rb := (mR M 724 h0)) hX (Or.inl ⟨rfl, rfl⟩) ac_RX11_271.1 ac_RX11_271.2.1 ac_RX11_271.2.2.1 ac_RX11_271.2.2.2 dX11_stand_157 ha75 ha75 hk76 hk76 (by decide) (by decide) (by decide) hc77 hc78 (fun _ _ => rfl) (by decide) (by decide) ?_
  exact zb_X11_stand_160 hX hQ hnL h
def bk_X11_stand_128 (h0 : Nat) (K : Mm → Prop) (M : Mm) : Prop := mK M h0 = 12 ∧ ∃ a80, (mR M 723 h0) = some a80 ∧ isA M a80 1 ∧ ((0 : Int32)).toNatClampNeg + ((12 : Int32)).toNatClampNeg ≤ aN M a80 ∧ ((12 : Int32)).toNatClampNeg + ((12 : Int32)).toNatClampNeg ≤ aN M a80 ∧ (bk_X11_stand_144 h0 K (cpI M a80 a80 ((0 : Int32)).toNatClampNeg ((12 : Int32)).toNatClampNeg ((12 : Int32)).toNatClampNeg))
set_option maxRecDepth 100000 in
set_option maxHeartbeats 4000000 in
theorem zb_X11_stand_128 {X : Cx} {h0 : Nat} {K : Mm → Prop} (hX : Ok X cX11_stand RX11 rm_X11_stand) (hQ : Rq X rm_X11_stand none (QV K)) (hnL : X.2.2.2.2.2.2.2.2.2.2.2.2.2.2 = 3) {M : Mm} (h : bk_X11_stand_128 h0 K M) : Z X M 0 0 128 [(0, va_rf (some h0))] [] := by
  unfold bk_X11_stand_128 at h
  refine z_aload_n (r := (some h0)) hX dX11_stand_128 rfl 0 rfl ?_
  obtain ⟨hk79, h⟩ := h
  refine gf_RX11_42 (r := (some h0)) hX dX11_stand_129 rfl hk79 ?_
  refine z_iconst (v := (0 : Int32)) hX dX11_stand_132 (by decide) ?_
  refine z_aload_n (r := (some h0)) hX dX11_stand_133 rfl 0 rfl ?_
  refine gf_RX11_42 (r := (some h0)) hX dX11_stand_134 rfl hk79 ?_
  refine z_bipush (v := (12 : Int32)) hX dX11_stand_137 (by decide) ?_
  refine z_bipush (v := (12 : Int32)) hX dX11_stand_139 (by decide) ?_
  obtain ⟨a80, ha81, h⟩ := h
  obtain ⟨hk82, h⟩ := h
  obtain ⟨hc83, h⟩ := h
  obtain ⟨hc84, h⟩ := h
  refine z_copyI (ra := (mR M 723 h0)) (rb := (mR M 723 h0)) hX (Or.inl ⟨rfl, rfl⟩) ac_RX11_271.1 ac_RX11_271.2.1 ac_RX11_271.2.2.1 ac_RX11_271.2.2.2 dX11_stand_141 ha81 ha81 hk82 hk82 (by decide) (by decide) (by decide) hc83 hc84 (fun _ _ => rfl) (by decide) (by decide) ?_
  exact zb_X11_stand_144 hX hQ hnL h
def bk_X11_stand_112 (h0 : Nat) (K : Mm → Prop) (M : Mm) : Prop := mK M h0 = 12 ∧ ∃ a86, (mR M 722 h0) = some a86 ∧ isA M a86 1 ∧ ((0 : Int32)).toNatClampNeg + ((12 : Int32)).toNatClampNeg ≤ aN M a86 ∧ ((12 : Int32)).toNatClampNeg + ((12 : Int32)).toNatClampNeg ≤ aN M a86 ∧ (bk_X11_stand_128 h0 K (cpI M a86 a86 ((0 : Int32)).toNatClampNeg ((12 : Int32)).toNatClampNeg ((12 : Int32)).toNatClampNeg))
set_option maxRecDepth 100000 in
set_option maxHeartbeats 4000000 in
theorem zb_X11_stand_112 {X : Cx} {h0 : Nat} {K : Mm → Prop} (hX : Ok X cX11_stand RX11 rm_X11_stand) (hQ : Rq X rm_X11_stand none (QV K)) (hnL : X.2.2.2.2.2.2.2.2.2.2.2.2.2.2 = 3) {M : Mm} (h : bk_X11_stand_112 h0 K M) : Z X M 0 0 112 [(0, va_rf (some h0))] [] := by
  unfold bk_X11_stand_112 at h
  refine z_aload_n (r := (some h0)) hX dX11_stand_112 rfl 0 rfl ?_
  obtain ⟨hk85, h⟩ := h
  refine gf_RX11_39 (r := (some h0)) hX dX11_stand_113 rfl hk85 ?_
  refine z_iconst (v := (0 : Int32)) hX dX11_stand_116 (by decide) ?_
  refine z_aload_n (r := (some h0)) hX dX11_stand_117 rfl 0 rfl ?_
  refine gf_RX11_39 (r := (some h0)) hX dX11_stand_118 rfl hk85 ?_
  refine z_bipush (v := (12 : Int32)) hX dX11_stand_121 (by decide) ?_
  refine z_bipush (v := (12 : Int32)) hX dX11_stand_123 (by decide) ?_
  obtain ⟨a86, ha87, h⟩ := h
  obtain ⟨hk88, h⟩ := h
  obtain ⟨hc89, h⟩ := h
  obtain ⟨hc90, h⟩ := h
  refine z_copyI (ra := (mR M 722 h0)) (rb := (mR M 722 h0)) hX (Or.inl ⟨rfl, rfl⟩) ac_RX11_271.1 ac_RX11_271.2.1 ac_RX11_271.2.2.1 ac_RX11_271.2.2.2 dX11_stand_125 ha87 ha87 hk88 hk88 (by decide) (by decide) (by decide) hc89 hc90 (fun _ _ => rfl) (by decide) (by decide) ?_
  exact zb_X11_stand_128 hX hQ hnL h
def bk_X11_stand_96 (h0 : Nat) (K : Mm → Prop) (M : Mm) : Prop := mK M h0 = 12 ∧ ∃ a92, (mR M 721 h0) = some a92 ∧ isA M a92 2 ∧ ((0 : Int32)).toNatClampNeg + ((12 : Int32)).toNatClampNeg ≤ aN M a92 ∧ ((12 : Int32)).toNatClampNeg + ((12 : Int32)).toNatClampNeg ≤ aN M a92 ∧ (bk_X11_stand_112 h0 K (cpJ M a92 a92 ((0 : Int32)).toNatClampNeg ((12 : Int32)).toNatClampNeg ((12 : Int32)).toNatClampNeg))
set_option maxRecDepth 100000 in
set_option maxHeartbeats 4000000 in
theorem zb_X11_stand_96 {X : Cx} {h0 : Nat} {K : Mm → Prop} (hX : Ok X cX11_stand RX11 rm_X11_stand) (hQ : Rq X rm_X11_stand none (QV K)) (hnL : X.2.2.2.2.2.2.2.2.2.2.2.2.2.2 = 3) {M : Mm} (h : bk_X11_stand_96 h0 K M) : Z X M 0 0 96 [(0, va_rf (some h0))] [] := by
  unfold bk_X11_stand_96 at h
  refine z_aload_n (r := (some h0)) hX dX11_stand_96 rfl 0 rfl ?_
  obtain ⟨hk91, h⟩ := h
  refine gf_RX11_36 (r := (some h0)) hX dX11_stand_97 rfl hk91 ?_
  refine z_iconst (v := (0 : Int32)) hX dX11_stand_100 (by decide) ?_
  refine z_aload_n (r := (some h0)) hX dX11_stand_101 rfl 0 rfl ?_
  refine gf_RX11_36 (r := (some h0)) hX dX11_stand_102 rfl hk91 ?_
  refine z_bipush (v := (12 : Int32)) hX dX11_stand_105 (by decide) ?_
  refine z_bipush (v := (12 : Int32)) hX dX11_stand_107 (by decide) ?_
  obtain ⟨a92, ha93, h⟩ := h
  obtain ⟨hk94, h⟩ := h
  obtain ⟨hc95, h⟩ := h
  obtain ⟨hc96, h⟩ := h
  refine z_copyJ (ra := (mR M 721 h0)) (rb := (mR M 721 h0)) hX ac_RX11_271.1 ac_RX11_271.2.1 ac_RX11_271.2.2.1 ac_RX11_271.2.2.2 dX11_stand_109 ha93 ha93 hk94 hk94 (by decide) (by decide) (by decide) hc95 hc96 (by decide) (by decide) ?_
  exact zb_X11_stand_112 hX hQ hnL h
def bk_X11_stand_80 (h0 : Nat) (K : Mm → Prop) (M : Mm) : Prop := mK M h0 = 12 ∧ ∃ a98, (mR M 720 h0) = some a98 ∧ isA M a98 2 ∧ ((0 : Int32)).toNatClampNeg + ((12 : Int32)).toNatClampNeg ≤ aN M a98 ∧ ((12 : Int32)).toNatClampNeg + ((12 : Int32)).toNatClampNeg ≤ aN M a98 ∧ (bk_X11_stand_96 h0 K (cpJ M a98 a98 ((0 : Int32)).toNatClampNeg ((12 : Int32)).toNatClampNeg ((12 : Int32)).toNatClampNeg))
set_option maxRecDepth 100000 in
set_option maxHeartbeats 4000000 in
theorem zb_X11_stand_80 {X : Cx} {h0 : Nat} {K : Mm → Prop} (hX : Ok X cX11_stand RX11 rm_X11_stand) (hQ : Rq X rm_X11_stand none (QV K)) (hnL : X.2.2.2.2.2.2.2.2.2.2.2.2.2.2 = 3) {M : Mm} (h : bk_X11_stand_80 h0 K M) : Z X M 0 0 80 [(0, va_rf (some h0))] [] := by
  unfold bk_X11_stand_80 at h
  refine z_aload_n (r := (some h0)) hX dX11_stand_80 rfl 0 rfl ?_
  obtain ⟨hk97, h⟩ := h
  refine gf_RX11_33 (r := (some h0)) hX dX11_stand_81 rfl hk97 ?_
  refine z_iconst (v := (0 : Int32)) hX dX11_stand_84 (by decide) ?_
  refine z_aload_n (r := (some h0)) hX dX11_stand_85 rfl 0 rfl ?_
  refine gf_RX11_33 (r := (some h0)) hX dX11_stand_86 rfl hk97 ?_
  refine z_bipush (v := (12 : Int32)) hX dX11_stand_89 (by decide) ?_
  refine z_bipush (v := (12 : Int32)) hX dX11_stand_91 (by decide) ?_
  obtain ⟨a98, ha99, h⟩ := h
  obtain ⟨hk100, h⟩ := h
  obtain ⟨hc101, h⟩ := h
  obtain ⟨hc102, h⟩ := h
  refine z_copyJ (ra := (mR M 720 h0)) (rb := (mR M 720 h0)) hX ac_RX11_271.1 ac_RX11_271.2.1 ac_RX11_271.2.2.1 ac_RX11_271.2.2.2 dX11_stand_93 ha99 ha99 hk100 hk100 (by decide) (by decide) (by decide) hc101 hc102 (by decide) (by decide) ?_
  exact zb_X11_stand_96 hX hQ hnL h
def bk_X11_stand_64 (h0 : Nat) (K : Mm → Prop) (M : Mm) : Prop := mK M h0 = 12 ∧ ∃ a104, (mR M 719 h0) = some a104 ∧ isA M a104 3 ∧ ((0 : Int32)).toNatClampNeg + ((12 : Int32)).toNatClampNeg ≤ aN M a104 ∧ ((12 : Int32)).toNatClampNeg + ((12 : Int32)).toNatClampNeg ≤ aN M a104 ∧ (∀ i, i < ((12 : Int32)).toNatClampNeg → bz (aI M a104 (((0 : Int32)).toNatClampNeg + i))) ∧ (bk_X11_stand_80 h0 K (cpI M a104 a104 ((0 : Int32)).toNatClampNeg ((12 : Int32)).toNatClampNeg ((12 : Int32)).toNatClampNeg))
set_option maxRecDepth 100000 in
set_option maxHeartbeats 4000000 in
theorem zb_X11_stand_64 {X : Cx} {h0 : Nat} {K : Mm → Prop} (hX : Ok X cX11_stand RX11 rm_X11_stand) (hQ : Rq X rm_X11_stand none (QV K)) (hnL : X.2.2.2.2.2.2.2.2.2.2.2.2.2.2 = 3) {M : Mm} (h : bk_X11_stand_64 h0 K M) : Z X M 0 0 64 [(0, va_rf (some h0))] [] := by
  unfold bk_X11_stand_64 at h
  refine z_aload_n (r := (some h0)) hX dX11_stand_64 rfl 0 rfl ?_
  obtain ⟨hk103, h⟩ := h
  refine gf_RX11_29 (r := (some h0)) hX dX11_stand_65 rfl hk103 ?_
  refine z_iconst (v := (0 : Int32)) hX dX11_stand_68 (by decide) ?_
  refine z_aload_n (r := (some h0)) hX dX11_stand_69 rfl 0 rfl ?_
  refine gf_RX11_29 (r := (some h0)) hX dX11_stand_70 rfl hk103 ?_
  refine z_bipush (v := (12 : Int32)) hX dX11_stand_73 (by decide) ?_
  refine z_bipush (v := (12 : Int32)) hX dX11_stand_75 (by decide) ?_
  obtain ⟨a104, ha105, h⟩ := h
  obtain ⟨hk106, h⟩ := h
  obtain ⟨hc107, h⟩ := h
  obtain ⟨hc108, h⟩ := h
  obtain ⟨hc109, h⟩ := h
  refine z_copyI (ra := (mR M 719 h0)) (rb := (mR M 719 h0)) hX (Or.inr ⟨rfl, rfl⟩) ac_RX11_271.1 ac_RX11_271.2.1 ac_RX11_271.2.2.1 ac_RX11_271.2.2.2 dX11_stand_77 ha105 ha105 hk106 hk106 (by decide) (by decide) (by decide) hc107 hc108 (fun i hi => bz_f (hc109 i hi)) (by decide) (by decide) ?_
  exact zb_X11_stand_80 hX hQ hnL h
def bk_X11_stand_48 (h0 : Nat) (K : Mm → Prop) (M : Mm) : Prop := mK M h0 = 12 ∧ ∃ a111, (mR M 718 h0) = some a111 ∧ isA M a111 1 ∧ ((0 : Int32)).toNatClampNeg + ((12 : Int32)).toNatClampNeg ≤ aN M a111 ∧ ((12 : Int32)).toNatClampNeg + ((12 : Int32)).toNatClampNeg ≤ aN M a111 ∧ (bk_X11_stand_64 h0 K (cpI M a111 a111 ((0 : Int32)).toNatClampNeg ((12 : Int32)).toNatClampNeg ((12 : Int32)).toNatClampNeg))
set_option maxRecDepth 100000 in
set_option maxHeartbeats 4000000 in
theorem zb_X11_stand_48 {X : Cx} {h0 : Nat} {K : Mm → Prop} (hX : Ok X cX11_stand RX11 rm_X11_stand) (hQ : Rq X rm_X11_stand none (QV K)) (hnL : X.2.2.2.2.2.2.2.2.2.2.2.2.2.2 = 3) {M : Mm} (h : bk_X11_stand_48 h0 K M) : Z X M 0 0 48 [(0, va_rf (some h0))] [] := by
  unfold bk_X11_stand_48 at h
  refine z_aload_n (r := (some h0)) hX dX11_stand_48 rfl 0 rfl ?_
  obtain ⟨hk110, h⟩ := h
  refine gf_RX11_26 (r := (some h0)) hX dX11_stand_49 rfl hk110 ?_
  refine z_iconst (v := (0 : Int32)) hX dX11_stand_52 (by decide) ?_
  refine z_aload_n (r := (some h0)) hX dX11_stand_53 rfl 0 rfl ?_
  refine gf_RX11_26 (r := (some h0)) hX dX11_stand_54 rfl hk110 ?_
  refine z_bipush (v := (12 : Int32)) hX dX11_stand_57 (by decide) ?_
  refine z_bipush (v := (12 : Int32)) hX dX11_stand_59 (by decide) ?_
  obtain ⟨a111, ha112, h⟩ := h
  obtain ⟨hk113, h⟩ := h
  obtain ⟨hc114, h⟩ := h
  obtain ⟨hc115, h⟩ := h
  refine z_copyI (ra := (mR M 718 h0)) (rb := (mR M 718 h0)) hX (Or.inl ⟨rfl, rfl⟩) ac_RX11_271.1 ac_RX11_271.2.1 ac_RX11_271.2.2.1 ac_RX11_271.2.2.2 dX11_stand_61 ha112 ha112 hk113 hk113 (by decide) (by decide) (by decide) hc114 hc115 (fun _ _ => rfl) (by decide) (by decide) ?_
  exact zb_X11_stand_64 hX hQ hnL h
def bk_X11_stand_32 (h0 : Nat) (K : Mm → Prop) (M : Mm) : Prop := mK M h0 = 12 ∧ ∃ a117, (mR M 717 h0) = some a117 ∧ isA M a117 1 ∧ ((0 : Int32)).toNatClampNeg + ((12 : Int32)).toNatClampNeg ≤ aN M a117 ∧ ((12 : Int32)).toNatClampNeg + ((12 : Int32)).toNatClampNeg ≤ aN M a117 ∧ (bk_X11_stand_48 h0 K (cpI M a117 a117 ((0 : Int32)).toNatClampNeg ((12 : Int32)).toNatClampNeg ((12 : Int32)).toNatClampNeg))
set_option maxRecDepth 100000 in
set_option maxHeartbeats 4000000 in
theorem zb_X11_stand_32 {X : Cx} {h0 : Nat} {K : Mm → Prop} (hX : Ok X cX11_stand RX11 rm_X11_stand) (hQ : Rq X rm_X11_stand none (QV K)) (hnL : X.2.2.2.2.2.2.2.2.2.2.2.2.2.2 = 3) {M : Mm} (h : bk_X11_stand_32 h0 K M) : Z X M 0 0 32 [(0, va_rf (some h0))] [] := by
  unfold bk_X11_stand_32 at h
  refine z_aload_n (r := (some h0)) hX dX11_stand_32 rfl 0 rfl ?_
  obtain ⟨hk116, h⟩ := h
  refine gf_RX11_23 (r := (some h0)) hX dX11_stand_33 rfl hk116 ?_
  refine z_iconst (v := (0 : Int32)) hX dX11_stand_36 (by decide) ?_
  refine z_aload_n (r := (some h0)) hX dX11_stand_37 rfl 0 rfl ?_
  refine gf_RX11_23 (r := (some h0)) hX dX11_stand_38 rfl hk116 ?_
  refine z_bipush (v := (12 : Int32)) hX dX11_stand_41 (by decide) ?_
  refine z_bipush (v := (12 : Int32)) hX dX11_stand_43 (by decide) ?_
  obtain ⟨a117, ha118, h⟩ := h
  obtain ⟨hk119, h⟩ := h
  obtain ⟨hc120, h⟩ := h
  obtain ⟨hc121, h⟩ := h
  refine z_copyI (ra := (mR M 717 h0)) (rb := (mR M 717 h0)) hX (Or.inl ⟨rfl, rfl⟩) ac_RX11_271.1 ac_RX11_271.2.1 ac_RX11_271.2.2.1 ac_RX11_271.2.2.2 dX11_stand_45 ha118 ha118 hk119 hk119 (by decide) (by decide) (by decide) hc120 hc121 (fun _ _ => rfl) (by decide) (by decide) ?_
  exact zb_X11_stand_48 hX hQ hnL h
def bk_X11_stand_16 (h0 : Nat) (K : Mm → Prop) (M : Mm) : Prop := mK M h0 = 12 ∧ ∃ a123, (mR M 716 h0) = some a123 ∧ isA M a123 2 ∧ ((0 : Int32)).toNatClampNeg + ((12 : Int32)).toNatClampNeg ≤ aN M a123 ∧ ((12 : Int32)).toNatClampNeg + ((12 : Int32)).toNatClampNeg ≤ aN M a123 ∧ (bk_X11_stand_32 h0 K (cpJ M a123 a123 ((0 : Int32)).toNatClampNeg ((12 : Int32)).toNatClampNeg ((12 : Int32)).toNatClampNeg))
set_option maxRecDepth 100000 in
set_option maxHeartbeats 4000000 in
theorem zb_X11_stand_16 {X : Cx} {h0 : Nat} {K : Mm → Prop} (hX : Ok X cX11_stand RX11 rm_X11_stand) (hQ : Rq X rm_X11_stand none (QV K)) (hnL : X.2.2.2.2.2.2.2.2.2.2.2.2.2.2 = 3) {M : Mm} (h : bk_X11_stand_16 h0 K M) : Z X M 0 0 16 [(0, va_rf (some h0))] [] := by
  unfold bk_X11_stand_16 at h
  refine z_aload_n (r := (some h0)) hX dX11_stand_16 rfl 0 rfl ?_
  obtain ⟨hk122, h⟩ := h
  refine gf_RX11_19 (r := (some h0)) hX dX11_stand_17 rfl hk122 ?_
  refine z_iconst (v := (0 : Int32)) hX dX11_stand_20 (by decide) ?_
  refine z_aload_n (r := (some h0)) hX dX11_stand_21 rfl 0 rfl ?_
  refine gf_RX11_19 (r := (some h0)) hX dX11_stand_22 rfl hk122 ?_
  refine z_bipush (v := (12 : Int32)) hX dX11_stand_25 (by decide) ?_
  refine z_bipush (v := (12 : Int32)) hX dX11_stand_27 (by decide) ?_
  obtain ⟨a123, ha124, h⟩ := h
  obtain ⟨hk125, h⟩ := h
  obtain ⟨hc126, h⟩ := h
  obtain ⟨hc127, h⟩ := h
  refine z_copyJ (ra := (mR M 716 h0)) (rb := (mR M 716 h0)) hX ac_RX11_271.1 ac_RX11_271.2.1 ac_RX11_271.2.2.1 ac_RX11_271.2.2.2 dX11_stand_29 ha124 ha124 hk125 hk125 (by decide) (by decide) (by decide) hc126 hc127 (by decide) (by decide) ?_
  exact zb_X11_stand_32 hX hQ hnL h
def wp_X11_stand (M : Mm) (h0 : Nat) (K : Mm → Prop) : Prop := mK M h0 = 12 ∧ ∃ a129, (mR M 715 h0) = some a129 ∧ isA M a129 1 ∧ ((0 : Int32)).toNatClampNeg + ((12 : Int32)).toNatClampNeg ≤ aN M a129 ∧ ((12 : Int32)).toNatClampNeg + ((12 : Int32)).toNatClampNeg ≤ aN M a129 ∧ (bk_X11_stand_16 h0 K (cpI M a129 a129 ((0 : Int32)).toNatClampNeg ((12 : Int32)).toNatClampNeg ((12 : Int32)).toNatClampNeg))
set_option maxRecDepth 100000 in
set_option maxHeartbeats 4000000 in
theorem ct_X11_stand {M : Mm} {h0 : Nat} {K : Mm → Prop} (h : wp_X11_stand M h0 K) : CtV yX11_stand cX11_stand 3 none rm_X11_stand [.ref h0] M K := by
  refine ct_any (QV K) (by decide) (by exact Nat.le_of_ble_eq_true rfl) (fun X hX hQ hnL hnm => ?_)
  rw [show lv_args 0 [.ref h0] = [(0, va_rf (some h0))] by rfl]
  have hX : Ok X cX11_stand RX11 rm_X11_stand := hX
  unfold wp_X11_stand at h
  refine z_aload_n (r := (some h0)) hX dX11_stand_0 rfl 0 rfl ?_
  obtain ⟨hk128, h⟩ := h
  refine gf_RX11_15 (r := (some h0)) hX dX11_stand_1 rfl hk128 ?_
  refine z_iconst (v := (0 : Int32)) hX dX11_stand_4 (by decide) ?_
  refine z_aload_n (r := (some h0)) hX dX11_stand_5 rfl 0 rfl ?_
  refine gf_RX11_15 (r := (some h0)) hX dX11_stand_6 rfl hk128 ?_
  refine z_bipush (v := (12 : Int32)) hX dX11_stand_9 (by decide) ?_
  refine z_bipush (v := (12 : Int32)) hX dX11_stand_11 (by decide) ?_
  obtain ⟨a129, ha130, h⟩ := h
  obtain ⟨hk131, h⟩ := h
  obtain ⟨hc132, h⟩ := h
  obtain ⟨hc133, h⟩ := h
  refine z_copyI (ra := (mR M 715 h0)) (rb := (mR M 715 h0)) hX (Or.inl ⟨rfl, rfl⟩) ac_RX11_271.1 ac_RX11_271.2.1 ac_RX11_271.2.2.1 ac_RX11_271.2.2.2 dX11_stand_13 ha130 ha130 hk131 hk131 (by decide) (by decide) (by decide) hc132 hc133 (fun _ _ => rfl) (by decide) (by decide) ?_
  exact zb_X11_stand_16 hX hQ hnL h
def rm_X11_fault_ : Room := { frames := 0, cells := 0, slots := 0, locals := 0 }
def wp_X11_fault_ (M : Mm) (h0 : Nat) (K : Int32 → Mm → Prop) : Prop := mK M h0 = 12 ∧ (K (mI (sI M 704 h0 (0 : Int32)) 714 h0) (sI M 704 h0 (0 : Int32)))
set_option maxRecDepth 100000 in
set_option maxHeartbeats 4000000 in
theorem ct_X11_fault_ {M : Mm} {h0 : Nat} {K : Int32 → Mm → Prop} (h : wp_X11_fault_ M h0 K) : CtI yX11_fault_ cX11_fault_ 1 (some .int) rm_X11_fault_ [.ref h0] M K := by
  refine ct_any (QI K) (by decide) (by exact Nat.le_of_ble_eq_true rfl) (fun X hX hQ hnL hnm => ?_)
  rw [show lv_args 0 [.ref h0] = [(0, va_rf (some h0))] by rfl]
  have hX : Ok X cX11_fault_ RX11 rm_X11_fault_ := hX
  unfold wp_X11_fault_ at h
  refine z_aload_n (r := (some h0)) hX dX11_fault__0 rfl 0 rfl ?_
  refine z_iconst (v := (0 : Int32)) hX dX11_fault__1 (by decide) ?_
  obtain ⟨hk1, h⟩ := h
  refine pf_RX11_123 (r := (some h0)) (v := (0 : Int32)) hX dX11_fault__2 rfl hk1 ?_
  refine z_aload_n (r := (some h0)) hX dX11_fault__5 rfl 0 rfl ?_
  refine gf_RX11_265 (r := (some h0)) hX dX11_fault__6 rfl hk1 ?_
  exact z_iret hX hQ dX11_fault__9 h
def rm_X11_plus : Room := { frames := 0, cells := 0, slots := 0, locals := 0 }
def bk_X11_plus_16 (K : Int64 → Mm → Prop) (l0 : Int64) (M : Mm) : Prop := (K l0 M)
set_option maxRecDepth 100000 in
set_option maxHeartbeats 4000000 in
theorem zb_X11_plus_16 {X : Cx} {K : Int64 → Mm → Prop} (hX : Ok X cX11_plus RX11 rm_X11_plus) (hQ : Rq X rm_X11_plus (some .long) (QJ K)) (hnL : X.2.2.2.2.2.2.2.2.2.2.2.2.2.2 = 6) {l0 : Int64} {M : Mm} (h : bk_X11_plus_16 K l0 M) : Z X M 0 0 16 [(0, .long l0)] [] := by
  unfold bk_X11_plus_16 at h
  refine z_lload_n hX dX11_plus_16 rfl 0 rfl ?_
  exact z_lret hX hQ dX11_plus_17 h
def bk_X11_plus_55 (K : Int64 → Mm → Prop) (s0 : Int64) (M : Mm) : Prop := (K s0 M)
set_option maxRecDepth 100000 in
set_option maxHeartbeats 4000000 in
theorem zb_X11_plus_55 {X : Cx} {K : Int64 → Mm → Prop} (hX : Ok X cX11_plus RX11 rm_X11_plus) (hQ : Rq X rm_X11_plus (some .long) (QJ K)) (hnL : X.2.2.2.2.2.2.2.2.2.2.2.2.2.2 = 6) {s0 : Int64} {M : Mm} (h : bk_X11_plus_55 K s0 M) : Z X M 0 0 55 [] [.long s0] := by
  unfold bk_X11_plus_55 at h
  exact z_lret hX hQ dX11_plus_55 h
def wp_X11_plus (M : Mm) (p1 : Int64) (p2 : Int64) (K : Int64 → Mm → Prop) : Prop := ((p1 = (-9000000000000000000 : Int64) → (bk_X11_plus_16 K p1 M)) ∧ (¬ p1 = (-9000000000000000000 : Int64) → ((¬ p1 = (9000000000000000000 : Int64) → (((p1 + p2) ≤ (8000000000000000000 : Int64) → (((-8000000000000000000 : Int64) ≤ (p1 + p2) → (bk_X11_plus_55 K (p1 + p2) M)) ∧ (¬ (-8000000000000000000 : Int64) ≤ (p1 + p2) → (bk_X11_plus_55 K (-8000000000000000000 : Int64) M)))) ∧ (¬ (p1 + p2) ≤ (8000000000000000000 : Int64) → (bk_X11_plus_55 K (8000000000000000000 : Int64) M)))) ∧ (p1 = (9000000000000000000 : Int64) → (bk_X11_plus_16 K p1 M)))))
set_option maxRecDepth 100000 in
set_option maxHeartbeats 4000000 in
theorem ct_X11_plus {M : Mm} {p1 : Int64} {p2 : Int64} {K : Int64 → Mm → Prop} (h : wp_X11_plus M p1 p2 K) : CtJ yX11_plus cX11_plus 6 (some .long) rm_X11_plus [.long p1, .long p2] M K := by
  refine ct_any (QJ K) (by decide) (by exact Nat.le_of_ble_eq_true rfl) (fun X hX hQ hnL hnm => ?_)
  rw [show lv_args 0 [.long p1, .long p2] = [(0, .long p1), (2, .long p2)] by rfl]
  have hX : Ok X cX11_plus RX11 rm_X11_plus := hX
  unfold wp_X11_plus at h
  refine z_lload_n hX dX11_plus_0 rfl 0 rfl ?_
  refine z_ldc2 (v := (-9000000000000000000 : Int64)) hX dX11_plus_1 kj_RX11_281 ?_
  refine z_lcmp hX dX11_plus_4 ?_
  obtain ⟨h1, h2⟩ := h
  refine z_if_eq (tgt := 16) hX dX11_plus_5 (by decide) (fun hc => ?_) (fun hc => ?_)
  · have h := h1 ((lg_cmp_eq _ _).mp hc)
    refine z_loc [0] rfl ?_
    exact zb_X11_plus_16 hX hQ hnL h
  · have h := h2 (fun q => hc ((lg_cmp_eq _ _).mpr q))
    refine z_lload_n hX dX11_plus_8 rfl 0 rfl ?_
    refine z_ldc2 (v := (9000000000000000000 : Int64)) hX dX11_plus_9 kj_RX11_298 ?_
    refine z_lcmp hX dX11_plus_12 ?_
    obtain ⟨h1, h2⟩ := h
    refine z_if_ne (tgt := 18) hX dX11_plus_13 (by decide) (fun hc => ?_) (fun hc => ?_)
    · have h := h1 (fun q => hc ((lg_cmp_eq _ _).mpr q))
      refine z_lload_n hX dX11_plus_18 rfl 0 rfl ?_
      refine z_lload_n hX dX11_plus_19 rfl 1 rfl ?_
      refine z_ladd hX dX11_plus_20 ?_
      refine z_lstore hX [(4, .long (p1 + p2)), (0, .long p1), (2, .long p2)] dX11_plus_21 (by rw [hnL]; decide) rfl ?_
      refine z_lload hX dX11_plus_23 0 rfl ?_
      refine z_ldc2 (v := (8000000000000000000 : Int64)) hX dX11_plus_25 kj_RX11_300 ?_
      refine z_lcmp hX dX11_plus_28 ?_
      obtain ⟨h1, h2⟩ := h
      refine z_if_le (tgt := 38) hX dX11_plus_29 (by decide) (fun hc => ?_) (fun hc => ?_)
      · have h := h1 ((lg_cmp_le _ _).mp hc)
        refine z_lload hX dX11_plus_38 0 rfl ?_
        refine z_ldc2 (v := (-8000000000000000000 : Int64)) hX dX11_plus_40 kj_RX11_302 ?_
        refine z_lcmp hX dX11_plus_43 ?_
        obtain ⟨h1, h2⟩ := h
        refine z_if_ge (tgt := 53) hX dX11_plus_44 (by decide) (fun hc => ?_) (fun hc => ?_)
        · have h := h1 ((lg_cmp_ge _ _).mp hc)
          refine z_lload hX dX11_plus_53 0 rfl ?_
          refine z_loc [] rfl ?_
          exact zb_X11_plus_55 hX hQ hnL h
        · have h := h2 (fun q => hc ((lg_cmp_ge _ _).mpr q))
          refine z_ldc2 (v := (-8000000000000000000 : Int64)) hX dX11_plus_47 kj_RX11_302 ?_
          refine z_goto (tgt := 55) hX dX11_plus_50 (by decide) ?_
          refine z_loc [] rfl ?_
          exact zb_X11_plus_55 hX hQ hnL h
      · have h := h2 (fun q => hc ((lg_cmp_le _ _).mpr q))
        refine z_ldc2 (v := (8000000000000000000 : Int64)) hX dX11_plus_32 kj_RX11_300 ?_
        refine z_goto (tgt := 55) hX dX11_plus_35 (by decide) ?_
        refine z_loc [] rfl ?_
        exact zb_X11_plus_55 hX hQ hnL h
    · have h := h2 ((lg_cmp_eq _ _).mp hc)
      refine z_loc [0] rfl ?_
      exact zb_X11_plus_16 hX hQ hnL h
def rm_X11_kindOf : Room := { frames := 0, cells := 0, slots := 0, locals := 0 }
def wp_X11_kindOf (M : Mm) (h0 : Nat) (p1 : Int32) (K : Int32 → Mm → Prop) : Prop := mK M h0 = 12 ∧ ∃ a2, (mR M 715 h0) = some a2 ∧ isA M a2 1 ∧ vp_in ((12 : Int32) + p1) (aN M a2) ∧ (K (aI M a2 (((12 : Int32) + p1)).toNatClampNeg) M)
set_option maxRecDepth 100000 in
set_option maxHeartbeats 4000000 in
theorem ct_X11_kindOf {M : Mm} {h0 : Nat} {p1 : Int32} {K : Int32 → Mm → Prop} (h : wp_X11_kindOf M h0 p1 K) : CtI yX11_kindOf cX11_kindOf 2 (some .int) rm_X11_kindOf [.ref h0, .int p1] M K := by
  refine ct_any (QI K) (by decide) (by exact Nat.le_of_ble_eq_true rfl) (fun X hX hQ hnL hnm => ?_)
  rw [show lv_args 0 [.ref h0, .int p1] = [(0, va_rf (some h0)), (1, .int p1)] by rfl]
  have hX : Ok X cX11_kindOf RX11 rm_X11_kindOf := hX
  unfold wp_X11_kindOf at h
  refine z_aload_n (r := (some h0)) hX dX11_kindOf_0 rfl 0 rfl ?_
  obtain ⟨hk1, h⟩ := h
  refine gf_RX11_15 (r := (some h0)) hX dX11_kindOf_1 rfl hk1 ?_
  refine z_bipush (v := (12 : Int32)) hX dX11_kindOf_4 (by decide) ?_
  refine z_iload_n hX dX11_kindOf_6 rfl 1 rfl ?_
  refine z_iadd hX dX11_kindOf_7 ?_
  obtain ⟨a2, ha3, h⟩ := h
  obtain ⟨hk4, h⟩ := h
  obtain ⟨hc5, h⟩ := h
  refine y_iald (r := (mR M 715 h0)) hX dX11_kindOf_8 ha3 hk4 hc5 ?_
  exact z_iret hX hQ dX11_kindOf_9 h
def rm_X11_inputOf : Room := { frames := 0, cells := 0, slots := 0, locals := 0 }
def wp_X11_inputOf (M : Mm) (h0 : Nat) (p1 : Int32) (p2 : Int32) (K : Int32 → Mm → Prop) : Prop := mK M h0 = 12 ∧ ∃ a2, (mR M 725 h0) = some a2 ∧ isA M a2 1 ∧ vp_in (((4 : Int32) * ((12 : Int32) + p1)) + p2) (aN M a2) ∧ (K (aI M a2 ((((4 : Int32) * ((12 : Int32) + p1)) + p2)).toNatClampNeg) M)
set_option maxRecDepth 100000 in
set_option maxHeartbeats 4000000 in
theorem ct_X11_inputOf {M : Mm} {h0 : Nat} {p1 : Int32} {p2 : Int32} {K : Int32 → Mm → Prop} (h : wp_X11_inputOf M h0 p1 p2 K) : CtI yX11_inputOf cX11_inputOf 3 (some .int) rm_X11_inputOf [.ref h0, .int p1, .int p2] M K := by
  refine ct_any (QI K) (by decide) (by exact Nat.le_of_ble_eq_true rfl) (fun X hX hQ hnL hnm => ?_)
  rw [show lv_args 0 [.ref h0, .int p1, .int p2] = [(0, va_rf (some h0)), (1, .int p1), (2, .int p2)] by rfl]
  have hX : Ok X cX11_inputOf RX11 rm_X11_inputOf := hX
  unfold wp_X11_inputOf at h
  refine z_aload_n (r := (some h0)) hX dX11_inputOf_0 rfl 0 rfl ?_
  obtain ⟨hk1, h⟩ := h
  refine gf_RX11_48 (r := (some h0)) hX dX11_inputOf_1 rfl hk1 ?_
  refine z_iconst (v := (4 : Int32)) hX dX11_inputOf_4 (by decide) ?_
  refine z_bipush (v := (12 : Int32)) hX dX11_inputOf_5 (by decide) ?_
  refine z_iload_n hX dX11_inputOf_7 rfl 1 rfl ?_
  refine z_iadd hX dX11_inputOf_8 ?_
  refine z_imul hX dX11_inputOf_9 ?_
  refine z_iload_n hX dX11_inputOf_10 rfl 2 rfl ?_
  refine z_iadd hX dX11_inputOf_11 ?_
  obtain ⟨a2, ha3, h⟩ := h
  obtain ⟨hk4, h⟩ := h
  obtain ⟨hc5, h⟩ := h
  refine y_iald (r := (mR M 725 h0)) hX dX11_inputOf_12 ha3 hk4 hc5 ?_
  exact z_iret hX hQ dX11_inputOf_13 h
def rm_X11_note : Room := { frames := 0, cells := 0, slots := 0, locals := 0 }
def bk_X11_note_42 (h0 : Nat) (K : Mm → Prop) (M : Mm) : Prop := (K M)
set_option maxRecDepth 100000 in
set_option maxHeartbeats 4000000 in
theorem zb_X11_note_42 {X : Cx} {h0 : Nat} {K : Mm → Prop} (hX : Ok X cX11_note RX11 rm_X11_note) (hQ : Rq X rm_X11_note none (QV K)) (hnL : X.2.2.2.2.2.2.2.2.2.2.2.2.2.2 = 9) {M : Mm} (h : bk_X11_note_42 h0 K M) : Z X M 0 0 42 [] [] := by
  unfold bk_X11_note_42 at h
  exact z_vret hX hQ dX11_note_42 h
def wp_X11_note (M : Mm) (h0 : Nat) (p1 : Option Nat) (p2 : Int32) (p3 : Int32) (p4 : Int32) (p5 : Int64) (p6 : Int32) (p7 : Int32) (K : Mm → Prop) : Prop := ((p3 ≤ p2 → (bk_X11_note_42 h0 K M)) ∧ (¬ p3 ≤ p2 → ∃ a1, p1 = some a1 ∧ isA M a1 2 ∧ vp_in ((4 : Int32) * p2) (aN M a1) ∧ vp_in (((4 : Int32) * p2) + (1 : Int32)) (aN (tJ M a1 (((4 : Int32) * p2)).toNatClampNeg ((p4).toInt64)) a1) ∧ vp_in (((4 : Int32) * p2) + (2 : Int32)) (aN (tJ (tJ M a1 (((4 : Int32) * p2)).toNatClampNeg ((p4).toInt64)) a1 ((((4 : Int32) * p2) + (1 : Int32))).toNatClampNeg p5) a1) ∧ vp_in (((4 : Int32) * p2) + (3 : Int32)) (aN (tJ (tJ (tJ M a1 (((4 : Int32) * p2)).toNatClampNeg ((p4).toInt64)) a1 ((((4 : Int32) * p2) + (1 : Int32))).toNatClampNeg p5) a1 ((((4 : Int32) * p2) + (2 : Int32))).toNatClampNeg ((p6).toInt64)) a1) ∧ (bk_X11_note_42 h0 K (tJ (tJ (tJ (tJ M a1 (((4 : Int32) * p2)).toNatClampNeg ((p4).toInt64)) a1 ((((4 : Int32) * p2) + (1 : Int32))).toNatClampNeg p5) a1 ((((4 : Int32) * p2) + (2 : Int32))).toNatClampNeg ((p6).toInt64)) a1 ((((4 : Int32) * p2) + (3 : Int32))).toNatClampNeg ((p7).toInt64)))))
set_option maxRecDepth 100000 in
set_option maxHeartbeats 4000000 in
theorem ct_X11_note {M : Mm} {h0 : Nat} {p1 : Option Nat} {p2 : Int32} {p3 : Int32} {p4 : Int32} {p5 : Int64} {p6 : Int32} {p7 : Int32} {K : Mm → Prop} (h : wp_X11_note M h0 p1 p2 p3 p4 p5 p6 p7 K) : CtV yX11_note cX11_note 9 none rm_X11_note [.ref h0, va_rf p1, .int p2, .int p3, .int p4, .long p5, .int p6, .int p7] M K := by
  refine ct_any (QV K) (by decide) (by cases p1 <;> exact Nat.le_of_ble_eq_true rfl) (fun X hX hQ hnL hnm => ?_)
  rw [show lv_args 0 [.ref h0, va_rf p1, .int p2, .int p3, .int p4, .long p5, .int p6, .int p7] = [(0, va_rf (some h0)), (1, va_rf p1), (2, .int p2), (3, .int p3), (4, .int p4), (5, .long p5), (7, .int p6), (8, .int p7)] by cases p1 <;> rfl]
  have hX : Ok X cX11_note RX11 rm_X11_note := hX
  unfold wp_X11_note at h
  refine z_iload_n hX dX11_note_0 rfl 2 rfl ?_
  refine z_iload_n hX dX11_note_1 rfl 3 rfl ?_
  obtain ⟨h1, h2⟩ := h
  refine z_icmp_ge (tgt := 42) hX dX11_note_2 (by decide) (fun hc => ?_) (fun hc => ?_)
  · have h := h1 hc
    refine z_loc [] rfl ?_
    exact zb_X11_note_42 hX hQ hnL h
  · have h := h2 hc
    refine z_aload_n (r := p1) hX dX11_note_5 rfl 1 rfl ?_
    refine z_iconst (v := (4 : Int32)) hX dX11_note_6 (by decide) ?_
    refine z_iload_n hX dX11_note_7 rfl 2 rfl ?_
    refine z_imul hX dX11_note_8 ?_
    refine z_iload hX dX11_note_9 4 rfl ?_
    refine z_i2l hX dX11_note_11 ?_
    obtain ⟨a1, ha2, h⟩ := h
    obtain ⟨hk3, h⟩ := h
    obtain ⟨hc4, h⟩ := h
    refine y_last (r := p1) hX dX11_note_12 ha2 hk3 hc4 ?_
    refine z_aload_n (r := p1) hX dX11_note_13 rfl 1 rfl ?_
    refine z_iconst (v := (4 : Int32)) hX dX11_note_14 (by decide) ?_
    refine z_iload_n hX dX11_note_15 rfl 2 rfl ?_
    refine z_imul hX dX11_note_16 ?_
    refine z_iconst (v := (1 : Int32)) hX dX11_note_17 (by decide) ?_
    refine z_iadd hX dX11_note_18 ?_
    refine z_lload hX dX11_note_19 5 rfl ?_
    obtain ⟨hc5, h⟩ := h
    refine y_last (r := p1) hX dX11_note_21 ha2 hk3 hc5 ?_
    refine z_aload_n (r := p1) hX dX11_note_22 rfl 1 rfl ?_
    refine z_iconst (v := (4 : Int32)) hX dX11_note_23 (by decide) ?_
    refine z_iload_n hX dX11_note_24 rfl 2 rfl ?_
    refine z_imul hX dX11_note_25 ?_
    refine z_iconst (v := (2 : Int32)) hX dX11_note_26 (by decide) ?_
    refine z_iadd hX dX11_note_27 ?_
    refine z_iload hX dX11_note_28 6 rfl ?_
    refine z_i2l hX dX11_note_30 ?_
    obtain ⟨hc6, h⟩ := h
    refine y_last (r := p1) hX dX11_note_31 ha2 hk3 hc6 ?_
    refine z_aload_n (r := p1) hX dX11_note_32 rfl 1 rfl ?_
    refine z_iconst (v := (4 : Int32)) hX dX11_note_33 (by decide) ?_
    refine z_iload_n hX dX11_note_34 rfl 2 rfl ?_
    refine z_imul hX dX11_note_35 ?_
    refine z_iconst (v := (3 : Int32)) hX dX11_note_36 (by decide) ?_
    refine z_iadd hX dX11_note_37 ?_
    refine z_iload hX dX11_note_38 7 rfl ?_
    refine z_i2l hX dX11_note_40 ?_
    obtain ⟨hc7, h⟩ := h
    refine y_last (r := p1) hX dX11_note_41 ha2 hk3 hc7 ?_
    refine z_loc [] rfl ?_
    exact zb_X11_note_42 hX hQ hnL h
def rm_X11_late : Room := { frames := 1, cells := 0, slots := 0, locals := 28 }
def wp_X11_late (M : Mm) (h0 : Nat) (p1 : Int32) (p2 : Int64) (p3 : Int32) (p4 : Int32) (K : Mm → Prop) : Prop := mK M h0 = 12 ∧ (wp_X11_note M h0 (mR M 742 h0) (mI M 741 h0) (200 : Int32) p1 p2 p3 p4 (fun M3 => mK M3 h0 = 12 ∧ (K (sI M3 741 h0 ((mI M3 741 h0) + (1 : Int32))))))
set_option maxRecDepth 100000 in
set_option maxHeartbeats 4000000 in
theorem ct_X11_late {M : Mm} {h0 : Nat} {p1 : Int32} {p2 : Int64} {p3 : Int32} {p4 : Int32} {K : Mm → Prop} (h : wp_X11_late M h0 p1 p2 p3 p4 K) : CtV yX11_late cX11_late 6 none rm_X11_late [.ref h0, .int p1, .long p2, .int p3, .int p4] M K := by
  refine ct_any (QV K) (by decide) (by exact Nat.le_of_ble_eq_true rfl) (fun X hX hQ hnL hnm => ?_)
  rw [show lv_args 0 [.ref h0, .int p1, .long p2, .int p3, .int p4] = [(0, va_rf (some h0)), (1, .int p1), (2, .long p2), (4, .int p3), (5, .int p4)] by rfl]
  have hX : Ok X cX11_late RX11 rm_X11_late := hX
  unfold wp_X11_late at h
  refine z_aload_n (r := (some h0)) hX dX11_late_0 rfl 0 rfl ?_
  refine z_aload_n (r := (some h0)) hX dX11_late_1 rfl 0 rfl ?_
  obtain ⟨hk1, h⟩ := h
  refine gf_RX11_81 (r := (some h0)) hX dX11_late_2 rfl hk1 ?_
  refine z_aload_n (r := (some h0)) hX dX11_late_5 rfl 0 rfl ?_
  refine gf_RX11_286 (r := (some h0)) hX dX11_late_6 rfl hk1 ?_
  refine z_sipush (v := (200 : Int32)) hX dX11_late_9 (by decide) ?_
  refine z_iload_n hX dX11_late_12 rfl 1 rfl ?_
  refine z_lload_n hX dX11_late_13 rfl 2 rfl ?_
  refine z_iload hX dX11_late_14 3 rfl ?_
  refine z_iload hX dX11_late_16 4 rfl ?_
  refine z_callVV (As := [va_rf (mR M 742 h0), .int (mI M 741 h0), .int (200 : Int32), .int p1, .long p2, .int p3, .int p4]) (rest := []) (ci := 11) hX (ct_X11_note h) mw_RX11_304 rfl (by decide) rfl (by rfl) (by unfold RoomC; decide) (by decide) dX11_late_18 hk1 (fun M3 h => ?_)
  refine z_aload_n (r := (some h0)) hX dX11_late_21 rfl 0 rfl ?_
  refine z_dup hX dX11_late_22 (cat_rf _) ?_
  obtain ⟨hk5, h⟩ := h
  refine gf_RX11_286 (r := (some h0)) hX dX11_late_23 rfl hk5 ?_
  refine z_iconst (v := (1 : Int32)) hX dX11_late_26 (by decide) ?_
  refine z_iadd hX dX11_late_27 ?_
  refine pf_RX11_286 (r := (some h0)) (v := ((mI M3 741 h0) + (1 : Int32))) hX dX11_late_28 rfl hk5 ?_
  exact z_vret hX hQ dX11_late_31 h
def rm_X11_isFar : Room := { frames := 1, cells := 0, slots := 0, locals := 25 }
def bk_X11_isFar_74 (h0 : Nat) (K : Int32 → Mm → Prop) (s0 : Int32) (M : Mm) : Prop := (bz s0 ∧ K s0 M)
set_option maxRecDepth 100000 in
set_option maxHeartbeats 4000000 in
theorem zb_X11_isFar_74 {X : Cx} {h0 : Nat} {K : Int32 → Mm → Prop} (hX : Ok X cX11_isFar RX11 rm_X11_isFar) (hQ : Rq X rm_X11_isFar (some .boolean) (QI K)) (hnL : X.2.2.2.2.2.2.2.2.2.2.2.2.2.2 = 5) {s0 : Int32} {M : Mm} (h : bk_X11_isFar_74 h0 K s0 M) : Z X M 0 0 74 [] [.int s0] := by
  unfold bk_X11_isFar_74 at h
  exact y_zret hX hQ dX11_isFar_74 h.1 h.2
def wp_X11_isFar (M : Mm) (h0 : Nat) (p1 : Int32) (p2 : Int32) (p3 : Int64) (K : Int32 → Mm → Prop) : Prop := ((¬ p2 = 0 → mK M h0 = 12 ∧ ∃ a2, (mR M 720 h0) = some a2 ∧ isA M a2 2 ∧ vp_in ((12 : Int32) + p1) (aN M a2) ∧ (wp_X11_plus M p3 (-(aJ M a2 (((12 : Int32) + p1)).toNatClampNeg)) (fun r6 M7 => mK M7 h0 = 12 ∧ (wp_X11_inputOf M7 h0 p1 (0 : Int32) (fun r10 M11 => ∃ a13, (mR M7 733 h0) = some a13 ∧ isA M11 a13 2 ∧ vp_in r10 (aN M11 a13) ∧ (((aJ M11 a13 (r10).toNatClampNeg) < r6 → (bk_X11_isFar_74 h0 K (0 : Int32) M11)) ∧ (¬ (aJ M11 a13 (r10).toNatClampNeg) < r6 → (bk_X11_isFar_74 h0 K (1 : Int32) M11)))))))) ∧ (p2 = 0 → mK M h0 = 12 ∧ ∃ a18, (mR M 721 h0) = some a18 ∧ isA M a18 2 ∧ vp_in ((12 : Int32) + p1) (aN M a18) ∧ (wp_X11_plus M p3 (aJ M a18 (((12 : Int32) + p1)).toNatClampNeg) (fun r22 M23 => mK M23 h0 = 12 ∧ (wp_X11_inputOf M23 h0 p1 (1 : Int32) (fun r26 M27 => ∃ a29, (mR M23 733 h0) = some a29 ∧ isA M27 a29 2 ∧ vp_in r26 (aN M27 a29) ∧ (((aJ M27 a29 (r26).toNatClampNeg) < r22 → (bk_X11_isFar_74 h0 K (0 : Int32) M27)) ∧ (¬ (aJ M27 a29 (r26).toNatClampNeg) < r22 → (bk_X11_isFar_74 h0 K (1 : Int32) M27)))))))))
set_option maxRecDepth 100000 in
set_option maxHeartbeats 4000000 in
theorem ct_X11_isFar {M : Mm} {h0 : Nat} {p1 : Int32} {p2 : Int32} {p3 : Int64} {K : Int32 → Mm → Prop} (h : wp_X11_isFar M h0 p1 p2 p3 K) : CtI yX11_isFar cX11_isFar 5 (some .boolean) rm_X11_isFar [.ref h0, .int p1, .int p2, .long p3] M K := by
  refine ct_any (QI K) (by decide) (by exact Nat.le_of_ble_eq_true rfl) (fun X hX hQ hnL hnm => ?_)
  rw [show lv_args 0 [.ref h0, .int p1, .int p2, .long p3] = [(0, va_rf (some h0)), (1, .int p1), (2, .int p2), (3, .long p3)] by rfl]
  have hX : Ok X cX11_isFar RX11 rm_X11_isFar := hX
  unfold wp_X11_isFar at h
  refine z_iload_n hX dX11_isFar_0 rfl 2 rfl ?_
  obtain ⟨h1, h2⟩ := h
  refine z_if_ne (tgt := 40) hX dX11_isFar_1 (by decide) (fun hc => ?_) (fun hc => ?_)
  · have h := h1 hc
    refine z_lload_n hX dX11_isFar_40 rfl 3 rfl ?_
    refine z_aload_n (r := (some h0)) hX dX11_isFar_41 rfl 0 rfl ?_
    obtain ⟨hk1, h⟩ := h
    refine gf_RX11_33 (r := (some h0)) hX dX11_isFar_42 rfl hk1 ?_
    refine z_bipush (v := (12 : Int32)) hX dX11_isFar_45 (by decide) ?_
    refine z_iload_n hX dX11_isFar_47 rfl 1 rfl ?_
    refine z_iadd hX dX11_isFar_48 ?_
    obtain ⟨a2, ha3, h⟩ := h
    obtain ⟨hk4, h⟩ := h
    obtain ⟨hc5, h⟩ := h
    refine y_lald (r := (mR M 720 h0)) hX dX11_isFar_49 ha3 hk4 hc5 ?_
    refine z_lneg hX dX11_isFar_50 ?_
    refine z_callSJ (As := [.long p3, .long (-(aJ M a2 (((12 : Int32) + p1)).toNatClampNeg))]) (rest := []) hX (ct_X11_plus h) mw_RX11_311 rfl (by rfl) (by unfold RoomC; decide) (by decide) dX11_isFar_51 (fun r6 M7 h => ?_)
    refine z_aload_n (r := (some h0)) hX dX11_isFar_54 rfl 0 rfl ?_
    obtain ⟨hk9, h⟩ := h
    refine gf_RX11_63 (r := (some h0)) hX dX11_isFar_55 rfl hk9 ?_
    refine z_aload_n (r := (some h0)) hX dX11_isFar_58 rfl 0 rfl ?_
    refine z_iload_n hX dX11_isFar_59 rfl 1 rfl ?_
    refine z_iconst (v := (0 : Int32)) hX dX11_isFar_60 (by decide) ?_
    refine z_callVI (As := [.int p1, .int (0 : Int32)]) (rest := [va_rf (mR M7 733 h0), .long r6]) (ci := 11) hX (ct_X11_inputOf h) mw_RX11_318 rfl (by decide) rfl (by rfl) (by unfold RoomC; decide) (by simp only [List.map_cons, List.map_nil, List.sum_cons, List.sum_nil, cat_rf, cat_i, cat_j]; decide) dX11_isFar_61 hk9 (fun r10 M11 h => ?_)
    obtain ⟨a13, ha14, h⟩ := h
    obtain ⟨hk15, h⟩ := h
    obtain ⟨hc16, h⟩ := h
    refine y_lald (r := (mR M7 733 h0)) hX dX11_isFar_64 ha14 hk15 hc16 ?_
    refine z_lcmp hX dX11_isFar_65 ?_
    obtain ⟨h1, h2⟩ := h
    refine z_if_gt (tgt := 73) hX dX11_isFar_66 (by decide) (fun hc => ?_) (fun hc => ?_)
    · have h := h1 ((lg_cmp_gt _ _).mp hc)
      refine z_iconst (v := (0 : Int32)) hX dX11_isFar_73 (by decide) ?_
      refine z_loc [] rfl ?_
      exact zb_X11_isFar_74 hX hQ hnL h
    · have h := h2 (fun q => hc ((lg_cmp_gt _ _).mpr q))
      refine z_iconst (v := (1 : Int32)) hX dX11_isFar_69 (by decide) ?_
      refine z_goto (tgt := 74) hX dX11_isFar_70 (by decide) ?_
      refine z_loc [] rfl ?_
      exact zb_X11_isFar_74 hX hQ hnL h
  · have h := h2 hc
    refine z_lload_n hX dX11_isFar_4 rfl 3 rfl ?_
    refine z_aload_n (r := (some h0)) hX dX11_isFar_5 rfl 0 rfl ?_
    obtain ⟨hk17, h⟩ := h
    refine gf_RX11_36 (r := (some h0)) hX dX11_isFar_6 rfl hk17 ?_
    refine z_bipush (v := (12 : Int32)) hX dX11_isFar_9 (by decide) ?_
    refine z_iload_n hX dX11_isFar_11 rfl 1 rfl ?_
    refine z_iadd hX dX11_isFar_12 ?_
    obtain ⟨a18, ha19, h⟩ := h
    obtain ⟨hk20, h⟩ := h
    obtain ⟨hc21, h⟩ := h
    refine y_lald (r := (mR M 721 h0)) hX dX11_isFar_13 ha19 hk20 hc21 ?_
    refine z_callSJ (As := [.long p3, .long (aJ M a18 (((12 : Int32) + p1)).toNatClampNeg)]) (rest := []) hX (ct_X11_plus h) mw_RX11_311 rfl (by rfl) (by unfold RoomC; decide) (by decide) dX11_isFar_14 (fun r22 M23 h => ?_)
    refine z_aload_n (r := (some h0)) hX dX11_isFar_17 rfl 0 rfl ?_
    obtain ⟨hk25, h⟩ := h
    refine gf_RX11_63 (r := (some h0)) hX dX11_isFar_18 rfl hk25 ?_
    refine z_aload_n (r := (some h0)) hX dX11_isFar_21 rfl 0 rfl ?_
    refine z_iload_n hX dX11_isFar_22 rfl 1 rfl ?_
    refine z_iconst (v := (1 : Int32)) hX dX11_isFar_23 (by decide) ?_
    refine z_callVI (As := [.int p1, .int (1 : Int32)]) (rest := [va_rf (mR M23 733 h0), .long r22]) (ci := 11) hX (ct_X11_inputOf h) mw_RX11_318 rfl (by decide) rfl (by rfl) (by unfold RoomC; decide) (by simp only [List.map_cons, List.map_nil, List.sum_cons, List.sum_nil, cat_rf, cat_i, cat_j]; decide) dX11_isFar_24 hk25 (fun r26 M27 h => ?_)
    obtain ⟨a29, ha30, h⟩ := h
    obtain ⟨hk31, h⟩ := h
    obtain ⟨hc32, h⟩ := h
    refine y_lald (r := (mR M23 733 h0)) hX dX11_isFar_27 ha30 hk31 hc32 ?_
    refine z_lcmp hX dX11_isFar_28 ?_
    obtain ⟨h1, h2⟩ := h
    refine z_if_gt (tgt := 36) hX dX11_isFar_29 (by decide) (fun hc => ?_) (fun hc => ?_)
    · have h := h1 ((lg_cmp_gt _ _).mp hc)
      refine z_iconst (v := (0 : Int32)) hX dX11_isFar_36 (by decide) ?_
      refine z_goto (tgt := 74) hX dX11_isFar_37 (by decide) ?_
      refine z_loc [] rfl ?_
      exact zb_X11_isFar_74 hX hQ hnL h
    · have h := h2 (fun q => hc ((lg_cmp_gt _ _).mpr q))
      refine z_iconst (v := (1 : Int32)) hX dX11_isFar_32 (by decide) ?_
      refine z_goto (tgt := 74) hX dX11_isFar_33 (by decide) ?_
      refine z_loc [] rfl ?_
      exact zb_X11_isFar_74 hX hQ hnL h
def rm_X11_drop : Room := { frames := 0, cells := 0, slots := 0, locals := 0 }
def lp_X11_drop_17 (h0 : Nat) (K : Mm → Prop) : Nat → Int32 → Int32 → Mm → Prop
  | 0, _, _, _ => False
  | n + 1, l1, l3, M => mK M h0 = 12 ∧ ∃ a2, (mR M 748 h0) = some a2 ∧ isA M a2 1 ∧ vp_in l1 (aN M a2) ∧ (((((6 : Int32) * l1) + (aI M a2 (l1).toNatClampNeg)) ≤ l3 → (K M)) ∧ (¬ (((6 : Int32) * l1) + (aI M a2 (l1).toNatClampNeg)) ≤ l3 → ∃ a6, (mR M 749 h0) = some a6 ∧ isA M a6 2 ∧ vp_in (l3 + (1 : Int32)) (aN M a6) ∧ vp_in l3 (aN M a6) ∧ ∃ a11, (mR (tJ M a6 (l3).toNatClampNeg (aJ M a6 ((l3 + (1 : Int32))).toNatClampNeg)) 750 h0) = some a11 ∧ isA (tJ M a6 (l3).toNatClampNeg (aJ M a6 ((l3 + (1 : Int32))).toNatClampNeg)) a11 1 ∧ vp_in (l3 + (1 : Int32)) (aN (tJ M a6 (l3).toNatClampNeg (aJ M a6 ((l3 + (1 : Int32))).toNatClampNeg)) a11) ∧ vp_in l3 (aN (tJ M a6 (l3).toNatClampNeg (aJ M a6 ((l3 + (1 : Int32))).toNatClampNeg)) a11) ∧ ∃ a16, (mR (tI (tJ M a6 (l3).toNatClampNeg (aJ M a6 ((l3 + (1 : Int32))).toNatClampNeg)) a11 (l3).toNatClampNeg (aI (tJ M a6 (l3).toNatClampNeg (aJ M a6 ((l3 + (1 : Int32))).toNatClampNeg)) a11 ((l3 + (1 : Int32))).toNatClampNeg)) 751 h0) = some a16 ∧ isA (tI (tJ M a6 (l3).toNatClampNeg (aJ M a6 ((l3 + (1 : Int32))).toNatClampNeg)) a11 (l3).toNatClampNeg (aI (tJ M a6 (l3).toNatClampNeg (aJ M a6 ((l3 + (1 : Int32))).toNatClampNeg)) a11 ((l3 + (1 : Int32))).toNatClampNeg)) a16 1 ∧ vp_in (l3 + (1 : Int32)) (aN (tI (tJ M a6 (l3).toNatClampNeg (aJ M a6 ((l3 + (1 : Int32))).toNatClampNeg)) a11 (l3).toNatClampNeg (aI (tJ M a6 (l3).toNatClampNeg (aJ M a6 ((l3 + (1 : Int32))).toNatClampNeg)) a11 ((l3 + (1 : Int32))).toNatClampNeg)) a16) ∧ vp_in l3 (aN (tI (tJ M a6 (l3).toNatClampNeg (aJ M a6 ((l3 + (1 : Int32))).toNatClampNeg)) a11 (l3).toNatClampNeg (aI (tJ M a6 (l3).toNatClampNeg (aJ M a6 ((l3 + (1 : Int32))).toNatClampNeg)) a11 ((l3 + (1 : Int32))).toNatClampNeg)) a16) ∧ ((lp_X11_drop_17 h0 K n) l1 (l3 + 1) (tI (tI (tJ M a6 (l3).toNatClampNeg (aJ M a6 ((l3 + (1 : Int32))).toNatClampNeg)) a11 (l3).toNatClampNeg (aI (tJ M a6 (l3).toNatClampNeg (aJ M a6 ((l3 + (1 : Int32))).toNatClampNeg)) a11 ((l3 + (1 : Int32))).toNatClampNeg)) a16 (l3).toNatClampNeg (aI (tI (tJ M a6 (l3).toNatClampNeg (aJ M a6 ((l3 + (1 : Int32))).toNatClampNeg)) a11 (l3).toNatClampNeg (aI (tJ M a6 (l3).toNatClampNeg (aJ M a6 ((l3 + (1 : Int32))).toNatClampNeg)) a11 ((l3 + (1 : Int32))).toNatClampNeg)) a16 ((l3 + (1 : Int32))).toNatClampNeg)))))
set_option maxRecDepth 100000 in
set_option maxHeartbeats 4000000 in
theorem zl_X11_drop_17 {X : Cx} {h0 : Nat} {K : Mm → Prop} (hX : Ok X cX11_drop RX11 rm_X11_drop) (hQ : Rq X rm_X11_drop none (QV K)) (hnL : X.2.2.2.2.2.2.2.2.2.2.2.2.2.2 = 4) : ∀ (n : Nat) (l1 : Int32) (l3 : Int32) (M : Mm), lp_X11_drop_17 h0 K n l1 l3 M → Z X M 0 0 17 [(0, va_rf (some h0)), (1, .int l1), (3, .int l3)] [] := by
  intro n
  induction n with
  | zero =>
    intro l1 l3 M h
    exact False.elim h
  | succ n hR17 =>
    intro l1 l3 M h
    refine z_iload_n hX dX11_drop_17 rfl 2 rfl ?_
    refine z_bipush (v := (6 : Int32)) hX dX11_drop_18 (by decide) ?_
    refine z_iload_n hX dX11_drop_20 rfl 1 rfl ?_
    refine z_imul hX dX11_drop_21 ?_
    refine z_aload_n (r := (some h0)) hX dX11_drop_22 rfl 0 rfl ?_
    obtain ⟨hk1, h⟩ := h
    refine gf_RX11_96 (r := (some h0)) hX dX11_drop_23 rfl hk1 ?_
    refine z_iload_n hX dX11_drop_26 rfl 1 rfl ?_
    obtain ⟨a2, ha3, h⟩ := h
    obtain ⟨hk4, h⟩ := h
    obtain ⟨hc5, h⟩ := h
    refine y_iald (r := (mR M 748 h0)) hX dX11_drop_27 ha3 hk4 hc5 ?_
    refine z_iadd hX dX11_drop_28 ?_
    obtain ⟨h1, h2⟩ := h
    refine z_icmp_ge (tgt := 80) hX dX11_drop_29 (by decide) (fun hc => ?_) (fun hc => ?_)
    · have h := h1 hc
      exact z_vret hX hQ dX11_drop_80 h
    · have h := h2 hc
      refine z_aload_n (r := (some h0)) hX dX11_drop_32 rfl 0 rfl ?_
      refine gf_RX11_99 (r := (some h0)) hX dX11_drop_33 rfl hk1 ?_
      refine z_iload_n hX dX11_drop_36 rfl 2 rfl ?_
      refine z_aload_n (r := (some h0)) hX dX11_drop_37 rfl 0 rfl ?_
      refine gf_RX11_99 (r := (some h0)) hX dX11_drop_38 rfl hk1 ?_
      refine z_iload_n hX dX11_drop_41 rfl 2 rfl ?_
      refine z_iconst (v := (1 : Int32)) hX dX11_drop_42 (by decide) ?_
      refine z_iadd hX dX11_drop_43 ?_
      obtain ⟨a6, ha7, h⟩ := h
      obtain ⟨hk8, h⟩ := h
      obtain ⟨hc9, h⟩ := h
      refine y_lald (r := (mR M 749 h0)) hX dX11_drop_44 ha7 hk8 hc9 ?_
      obtain ⟨hc10, h⟩ := h
      refine y_last (r := (mR M 749 h0)) hX dX11_drop_45 ha7 hk8 hc10 ?_
      refine z_aload_n (r := (some h0)) hX dX11_drop_46 rfl 0 rfl ?_
      refine gf_RX11_102 (r := (some h0)) hX dX11_drop_47 rfl hk1 ?_
      refine z_iload_n hX dX11_drop_50 rfl 2 rfl ?_
      refine z_aload_n (r := (some h0)) hX dX11_drop_51 rfl 0 rfl ?_
      refine gf_RX11_102 (r := (some h0)) hX dX11_drop_52 rfl hk1 ?_
      refine z_iload_n hX dX11_drop_55 rfl 2 rfl ?_
      refine z_iconst (v := (1 : Int32)) hX dX11_drop_56 (by decide) ?_
      refine z_iadd hX dX11_drop_57 ?_
      obtain ⟨a11, ha12, h⟩ := h
      obtain ⟨hk13, h⟩ := h
      obtain ⟨hc14, h⟩ := h
      refine y_iald (r := (mR (tJ M a6 (l3).toNatClampNeg (aJ M a6 ((l3 + (1 : Int32))).toNatClampNeg)) 750 h0)) hX dX11_drop_58 ha12 hk13 hc14 ?_
      obtain ⟨hc15, h⟩ := h
      refine y_iast (r := (mR (tJ M a6 (l3).toNatClampNeg (aJ M a6 ((l3 + (1 : Int32))).toNatClampNeg)) 750 h0)) hX dX11_drop_59 ha12 hk13 hc15 ?_
      refine z_aload_n (r := (some h0)) hX dX11_drop_60 rfl 0 rfl ?_
      refine gf_RX11_105 (r := (some h0)) hX dX11_drop_61 rfl hk1 ?_
      refine z_iload_n hX dX11_drop_64 rfl 2 rfl ?_
      refine z_aload_n (r := (some h0)) hX dX11_drop_65 rfl 0 rfl ?_
      refine gf_RX11_105 (r := (some h0)) hX dX11_drop_66 rfl hk1 ?_
      refine z_iload_n hX dX11_drop_69 rfl 2 rfl ?_
      refine z_iconst (v := (1 : Int32)) hX dX11_drop_70 (by decide) ?_
      refine z_iadd hX dX11_drop_71 ?_
      obtain ⟨a16, ha17, h⟩ := h
      obtain ⟨hk18, h⟩ := h
      obtain ⟨hc19, h⟩ := h
      refine y_iald (r := (mR (tI (tJ M a6 (l3).toNatClampNeg (aJ M a6 ((l3 + (1 : Int32))).toNatClampNeg)) a11 (l3).toNatClampNeg (aI (tJ M a6 (l3).toNatClampNeg (aJ M a6 ((l3 + (1 : Int32))).toNatClampNeg)) a11 ((l3 + (1 : Int32))).toNatClampNeg)) 751 h0)) hX dX11_drop_72 ha17 hk18 hc19 ?_
      obtain ⟨hc20, h⟩ := h
      refine y_iast (r := (mR (tI (tJ M a6 (l3).toNatClampNeg (aJ M a6 ((l3 + (1 : Int32))).toNatClampNeg)) a11 (l3).toNatClampNeg (aI (tJ M a6 (l3).toNatClampNeg (aJ M a6 ((l3 + (1 : Int32))).toNatClampNeg)) a11 ((l3 + (1 : Int32))).toNatClampNeg)) 751 h0)) hX dX11_drop_73 ha17 hk18 hc20 ?_
      refine z_iinc (v := (l3 + 1)) hX [(3, .int (l3 + 1)), (0, va_rf (some h0)), (1, .int l1)] dX11_drop_74 2 rfl rfl (by rw [hnL]; decide) rfl ?_
      refine z_goto (tgt := 17) hX dX11_drop_77 (by decide) ?_
      refine z_loc [1, 2, 0] rfl ?_
      exact hR17 _ _ _ h
def wp_X11_drop (M : Mm) (h0 : Nat) (p1 : Int32) (p2 : Int32) (K : Mm → Prop) : Prop := mK M h0 = 12 ∧ ∃ a22, (mR M 748 h0) = some a22 ∧ isA M a22 1 ∧ vp_in p1 (aN M a22) ∧ vp_in p1 (aN M a22) ∧ (∃ kk, lp_X11_drop_17 h0 K kk p1 (((6 : Int32) * p1) + p2) (tI M a22 (p1).toNatClampNeg ((aI M a22 (p1).toNatClampNeg) - (1 : Int32))))
set_option maxRecDepth 100000 in
set_option maxHeartbeats 4000000 in
theorem ct_X11_drop {M : Mm} {h0 : Nat} {p1 : Int32} {p2 : Int32} {K : Mm → Prop} (h : wp_X11_drop M h0 p1 p2 K) : CtV yX11_drop cX11_drop 4 none rm_X11_drop [.ref h0, .int p1, .int p2] M K := by
  refine ct_any (QV K) (by decide) (by exact Nat.le_of_ble_eq_true rfl) (fun X hX hQ hnL hnm => ?_)
  rw [show lv_args 0 [.ref h0, .int p1, .int p2] = [(0, va_rf (some h0)), (1, .int p1), (2, .int p2)] by rfl]
  have hX : Ok X cX11_drop RX11 rm_X11_drop := hX
  unfold wp_X11_drop at h
  refine z_aload_n (r := (some h0)) hX dX11_drop_0 rfl 0 rfl ?_
  obtain ⟨hk21, h⟩ := h
  refine gf_RX11_96 (r := (some h0)) hX dX11_drop_1 rfl hk21 ?_
  refine z_iload_n hX dX11_drop_4 rfl 1 rfl ?_
  refine z_dup2_11 hX dX11_drop_5 rfl (cat_rf _) ?_
  obtain ⟨a22, ha23, h⟩ := h
  obtain ⟨hk24, h⟩ := h
  obtain ⟨hc25, h⟩ := h
  refine y_iald (r := (mR M 748 h0)) hX dX11_drop_6 ha23 hk24 hc25 ?_
  refine z_iconst (v := (1 : Int32)) hX dX11_drop_7 (by decide) ?_
  refine z_isub hX dX11_drop_8 ?_
  obtain ⟨hc26, h⟩ := h
  refine y_iast (r := (mR M 748 h0)) hX dX11_drop_9 ha23 hk24 hc26 ?_
  refine z_bipush (v := (6 : Int32)) hX dX11_drop_10 (by decide) ?_
  refine z_iload_n hX dX11_drop_12 rfl 1 rfl ?_
  refine z_imul hX dX11_drop_13 ?_
  refine z_iload_n hX dX11_drop_14 rfl 2 rfl ?_
  refine z_iadd hX dX11_drop_15 ?_
  refine z_istore_n hX [(3, .int (((6 : Int32) * p1) + p2)), (0, va_rf (some h0)), (1, .int p1), (2, .int p2)] dX11_drop_16 rfl (by rw [hnL]; decide) rfl ?_
  refine z_loc [1, 2, 0] rfl ?_
  obtain ⟨n, h⟩ := h
  exact zl_X11_drop_17 hX hQ hnL n _ _ _ h
def rm_X11_least : Room := { frames := 0, cells := 0, slots := 0, locals := 0 }
def bk_X11_least_25 (h0 : Nat) (K : Mm → Prop) (s0 : Int64) (s1 : Option Nat) (M : Mm) : Prop := ∃ a1, s1 = some a1 ∧ mK M a1 = 12 ∧ mK (sJ M 757 a1 s0) h0 = 12 ∧ (K (sI (sJ M 757 a1 s0) 756 h0 (1 : Int32)))
set_option maxRecDepth 100000 in
set_option maxHeartbeats 4000000 in
theorem zb_X11_least_25 {X : Cx} {h0 : Nat} {K : Mm → Prop} (hX : Ok X cX11_least RX11 rm_X11_least) (hQ : Rq X rm_X11_least none (QV K)) (hnL : X.2.2.2.2.2.2.2.2.2.2.2.2.2.2 = 3) {s0 : Int64} {s1 : Option Nat} {M : Mm} (h : bk_X11_least_25 h0 K s0 s1 M) : Z X M 0 0 25 [(0, va_rf (some h0))] [.long s0, va_rf s1] := by
  unfold bk_X11_least_25 at h
  obtain ⟨a1, ha2, h⟩ := h
  obtain ⟨hk3, h⟩ := h
  refine pf_RX11_350 (r := s1) (v := s0) hX dX11_least_25 ha2 hk3 ?_
  refine z_aload_n (r := (some h0)) hX dX11_least_28 rfl 0 rfl ?_
  refine z_iconst (v := (1 : Int32)) hX dX11_least_29 (by decide) ?_
  obtain ⟨hk5, h⟩ := h
  refine pf_RX11_347 (r := (some h0)) (v := (1 : Int32)) hX dX11_least_30 rfl (Or.inr rfl) hk5 ?_
  exact z_vret hX hQ dX11_least_33 h
def bk_X11_least_17 (h0 : Nat) (K : Mm → Prop) (l1 : Int64) (s0 : Option Nat) (M : Mm) : Prop := (bk_X11_least_25 h0 K l1 s0 M)
set_option maxRecDepth 100000 in
set_option maxHeartbeats 4000000 in
theorem zb_X11_least_17 {X : Cx} {h0 : Nat} {K : Mm → Prop} (hX : Ok X cX11_least RX11 rm_X11_least) (hQ : Rq X rm_X11_least none (QV K)) (hnL : X.2.2.2.2.2.2.2.2.2.2.2.2.2.2 = 3) {l1 : Int64} {s0 : Option Nat} {M : Mm} (h : bk_X11_least_17 h0 K l1 s0 M) : Z X M 0 0 17 [(0, va_rf (some h0)), (1, .long l1)] [va_rf s0] := by
  unfold bk_X11_least_17 at h
  refine z_lload_n hX dX11_least_17 rfl 1 rfl ?_
  refine z_goto (tgt := 25) hX dX11_least_18 (by decide) ?_
  refine z_loc [0] rfl ?_
  exact zb_X11_least_25 hX hQ hnL h
def wp_X11_least (M : Mm) (h0 : Nat) (p1 : Int64) (K : Mm → Prop) : Prop := mK M h0 = 12 ∧ (((mI M 756 h0) = 0 → (bk_X11_least_17 h0 K p1 (some h0) M)) ∧ (¬ (mI M 756 h0) = 0 → (((mJ M 757 h0) ≤ p1 → (bk_X11_least_25 h0 K (mJ M 757 h0) (some h0) M)) ∧ (¬ (mJ M 757 h0) ≤ p1 → (bk_X11_least_17 h0 K p1 (some h0) M)))))
set_option maxRecDepth 100000 in
set_option maxHeartbeats 4000000 in
theorem ct_X11_least {M : Mm} {h0 : Nat} {p1 : Int64} {K : Mm → Prop} (h : wp_X11_least M h0 p1 K) : CtV yX11_least cX11_least 3 none rm_X11_least [.ref h0, .long p1] M K := by
  refine ct_any (QV K) (by decide) (by exact Nat.le_of_ble_eq_true rfl) (fun X hX hQ hnL hnm => ?_)
  rw [show lv_args 0 [.ref h0, .long p1] = [(0, va_rf (some h0)), (1, .long p1)] by rfl]
  have hX : Ok X cX11_least RX11 rm_X11_least := hX
  unfold wp_X11_least at h
  refine z_aload_n (r := (some h0)) hX dX11_least_0 rfl 0 rfl ?_
  refine z_aload_n (r := (some h0)) hX dX11_least_1 rfl 0 rfl ?_
  obtain ⟨hk7, h⟩ := h
  refine gf_RX11_347 (r := (some h0)) hX dX11_least_2 rfl hk7 ?_
  obtain ⟨h1, h2⟩ := h
  refine z_if_eq (tgt := 17) hX dX11_least_5 (by decide) (fun hc => ?_) (fun hc => ?_)
  · have h := h1 hc
    exact zb_X11_least_17 hX hQ hnL h
  · have h := h2 hc
    refine z_lload_n hX dX11_least_8 rfl 1 rfl ?_
    refine z_aload_n (r := (some h0)) hX dX11_least_9 rfl 0 rfl ?_
    refine gf_RX11_350 (r := (some h0)) hX dX11_least_10 rfl hk7 ?_
    refine z_lcmp hX dX11_least_13 ?_
    obtain ⟨h1, h2⟩ := h
    refine z_if_ge (tgt := 21) hX dX11_least_14 (by decide) (fun hc => ?_) (fun hc => ?_)
    · have h := h1 ((lg_cmp_ge _ _).mp hc)
      refine z_aload_n (r := (some h0)) hX dX11_least_21 rfl 0 rfl ?_
      refine gf_RX11_350 (r := (some h0)) hX dX11_least_22 rfl hk7 ?_
      refine z_loc [0] rfl ?_
      exact zb_X11_least_25 hX hQ hnL h
    · have h := h2 (fun q => hc ((lg_cmp_ge _ _).mpr q))
      exact zb_X11_least_17 hX hQ hnL h
def rm_X11_sourceGoal : Room := { frames := 1, cells := 0, slots := 0, locals := 22 }
def bk_X11_sourceGoal_83 (h0 : Nat) (K : Mm → Prop) (M : Mm) : Prop := (K M)
set_option maxRecDepth 100000 in
set_option maxHeartbeats 4000000 in
theorem zb_X11_sourceGoal_83 {X : Cx} {h0 : Nat} {K : Mm → Prop} (hX : Ok X cX11_sourceGoal RX11 rm_X11_sourceGoal) (hQ : Rq X rm_X11_sourceGoal none (QV K)) (hnL : X.2.2.2.2.2.2.2.2.2.2.2.2.2.2 = 4) {M : Mm} (h : bk_X11_sourceGoal_83 h0 K M) : Z X M 0 0 83 [] [] := by
  unfold bk_X11_sourceGoal_83 at h
  exact z_vret hX hQ dX11_sourceGoal_83 h
def bk_X11_sourceGoal_66 (h0 : Nat) (R4 : Int32 → Int32 → Int32 → Mm → Prop) (K : Mm → Prop) (l1 : Int32) (l2 : Int32) (l3 : Int32) (M : Mm) : Prop := (R4 l1 l2 (l3 + 1) M)
set_option maxRecDepth 100000 in
set_option maxHeartbeats 4000000 in
theorem zb_X11_sourceGoal_66 {X : Cx} {h0 : Nat} {R4 : Int32 → Int32 → Int32 → Mm → Prop} {K : Mm → Prop} (hX : Ok X cX11_sourceGoal RX11 rm_X11_sourceGoal) (hQ : Rq X rm_X11_sourceGoal none (QV K)) (hnL : X.2.2.2.2.2.2.2.2.2.2.2.2.2.2 = 4) (hR4 : ∀ l1 l2 l3 M, R4 l1 l2 l3 M → Z X M 0 0 4 [(0, va_rf (some h0)), (1, .int l1), (2, .int l2), (3, .int l3)] []) {l1 : Int32} {l2 : Int32} {l3 : Int32} {M : Mm} (h : bk_X11_sourceGoal_66 h0 R4 K l1 l2 l3 M) : Z X M 0 0 66 [(0, va_rf (some h0)), (1, .int l1), (2, .int l2), (3, .int l3)] [] := by
  unfold bk_X11_sourceGoal_66 at h
  refine z_iinc (v := (l3 + 1)) hX [(3, .int (l3 + 1)), (0, va_rf (some h0)), (1, .int l1), (2, .int l2)] dX11_sourceGoal_66 3 rfl rfl (by rw [hnL]; decide) rfl ?_
  refine z_goto (tgt := 4) hX dX11_sourceGoal_69 (by decide) ?_
  refine z_loc [1, 2, 3, 0] rfl ?_
  exact hR4 _ _ _ _ h
def bk_X11_sourceGoal_37 (h0 : Nat) (R4 : Int32 → Int32 → Int32 → Mm → Prop) (K : Mm → Prop) (l1 : Int32) (l3 : Int32) (s0 : Int32) (s1 : Int32) (M : Mm) : Prop := mK M h0 = 12 ∧ ∃ a2, (mR M 735 h0) = some a2 ∧ isA M a2 1 ∧ vp_in (((4 : Int32) * l1) + l3) (aN M a2) ∧ ((¬ (aI M a2 ((((4 : Int32) * l1) + l3)).toNatClampNeg) = 0 → (bk_X11_sourceGoal_66 h0 R4 K l1 (s1 &&& s0) l3 M)) ∧ ((aI M a2 ((((4 : Int32) * l1) + l3)).toNatClampNeg) = 0 → ∃ a6, (mR M 736 h0) = some a6 ∧ isA M a6 2 ∧ vp_in (((4 : Int32) * l1) + l3) (aN M a6) ∧ (wp_X11_least M h0 (aJ M a6 ((((4 : Int32) * l1) + l3)).toNatClampNeg) (fun M11 => (bk_X11_sourceGoal_66 h0 R4 K l1 (s1 &&& s0) l3 M11)))))
set_option maxRecDepth 100000 in
set_option maxHeartbeats 4000000 in
theorem zb_X11_sourceGoal_37 {X : Cx} {h0 : Nat} {R4 : Int32 → Int32 → Int32 → Mm → Prop} {K : Mm → Prop} (hX : Ok X cX11_sourceGoal RX11 rm_X11_sourceGoal) (hQ : Rq X rm_X11_sourceGoal none (QV K)) (hnL : X.2.2.2.2.2.2.2.2.2.2.2.2.2.2 = 4) (hR4 : ∀ l1 l2 l3 M, R4 l1 l2 l3 M → Z X M 0 0 4 [(0, va_rf (some h0)), (1, .int l1), (2, .int l2), (3, .int l3)] []) {l1 : Int32} {l3 : Int32} {s0 : Int32} {s1 : Int32} {M : Mm} (h : bk_X11_sourceGoal_37 h0 R4 K l1 l3 s0 s1 M) : Z X M 0 0 37 [(0, va_rf (some h0)), (1, .int l1), (3, .int l3)] [.int s0, .int s1] := by
  unfold bk_X11_sourceGoal_37 at h
  refine z_iand hX dX11_sourceGoal_37 ?_
  refine z_istore_n hX [(2, .int (s1 &&& s0)), (0, va_rf (some h0)), (1, .int l1), (3, .int l3)] dX11_sourceGoal_38 rfl (by rw [hnL]; decide) rfl ?_
  refine z_aload_n (r := (some h0)) hX dX11_sourceGoal_39 rfl 1 rfl ?_
  obtain ⟨hk1, h⟩ := h
  refine gf_RX11_69 (r := (some h0)) hX dX11_sourceGoal_40 rfl hk1 ?_
  refine z_iconst (v := (4 : Int32)) hX dX11_sourceGoal_43 (by decide) ?_
  refine z_iload_n hX dX11_sourceGoal_44 rfl 2 rfl ?_
  refine z_imul hX dX11_sourceGoal_45 ?_
  refine z_iload_n hX dX11_sourceGoal_46 rfl 3 rfl ?_
  refine z_iadd hX dX11_sourceGoal_47 ?_
  obtain ⟨a2, ha3, h⟩ := h
  obtain ⟨hk4, h⟩ := h
  obtain ⟨hc5, h⟩ := h
  refine y_iald (r := (mR M 735 h0)) hX dX11_sourceGoal_48 ha3 hk4 hc5 ?_
  obtain ⟨h1, h2⟩ := h
  refine z_if_ne (tgt := 66) hX dX11_sourceGoal_49 (by decide) (fun hc => ?_) (fun hc => ?_)
  · have h := h1 hc
    refine z_loc [1, 2, 0, 3] rfl ?_
    exact zb_X11_sourceGoal_66 hX hQ hnL hR4 h
  · have h := h2 hc
    refine z_aload_n (r := (some h0)) hX dX11_sourceGoal_52 rfl 1 rfl ?_
    refine z_aload_n (r := (some h0)) hX dX11_sourceGoal_53 rfl 1 rfl ?_
    refine gf_RX11_72 (r := (some h0)) hX dX11_sourceGoal_54 rfl hk1 ?_
    refine z_iconst (v := (4 : Int32)) hX dX11_sourceGoal_57 (by decide) ?_
    refine z_iload_n hX dX11_sourceGoal_58 rfl 2 rfl ?_
    refine z_imul hX dX11_sourceGoal_59 ?_
    refine z_iload_n hX dX11_sourceGoal_60 rfl 3 rfl ?_
    refine z_iadd hX dX11_sourceGoal_61 ?_
    obtain ⟨a6, ha7, h⟩ := h
    obtain ⟨hk8, h⟩ := h
    obtain ⟨hc9, h⟩ := h
    refine y_lald (r := (mR M 736 h0)) hX dX11_sourceGoal_62 ha7 hk8 hc9 ?_
    refine z_callVV (As := [.long (aJ M a6 ((((4 : Int32) * l1) + l3)).toNatClampNeg)]) (rest := []) (ci := 11) hX (ct_X11_least h) mw_RX11_356 rfl (by decide) rfl (by rfl) (by unfold RoomC; decide) (by decide) dX11_sourceGoal_63 hk1 (fun M11 h => ?_)
    refine z_loc [1, 2, 0, 3] rfl ?_
    exact zb_X11_sourceGoal_66 hX hQ hnL hR4 h
def lp_X11_sourceGoal_4 (h0 : Nat) (K : Mm → Prop) : Nat → Int32 → Int32 → Int32 → Mm → Prop
  | 0, _, _, _, _ => False
  | n + 1, l1, l2, l3, M => mK M h0 = 12 ∧ ∃ a14, (mR M 718 h0) = some a14 ∧ isA M a14 1 ∧ vp_in ((12 : Int32) + l1) (aN M a14) ∧ (((aI M a14 (((12 : Int32) + l1)).toNatClampNeg) ≤ l3 → ((l2 = 0 → (bk_X11_sourceGoal_83 h0 K M)) ∧ (¬ l2 = 0 → (wp_X11_least M h0 (9000000000000000000 : Int64) (fun M19 => (bk_X11_sourceGoal_83 h0 K M19)))))) ∧ (¬ (aI M a14 (((12 : Int32) + l1)).toNatClampNeg) ≤ l3 → ∃ a21, (mR M 735 h0) = some a21 ∧ isA M a21 1 ∧ vp_in (((4 : Int32) * l1) + l3) (aN M a21) ∧ ((¬ (aI M a21 ((((4 : Int32) * l1) + l3)).toNatClampNeg) = (2 : Int32) → (bk_X11_sourceGoal_37 h0 (lp_X11_sourceGoal_4 h0 K n) K l1 l3 (0 : Int32) l2 M)) ∧ ((aI M a21 ((((4 : Int32) * l1) + l3)).toNatClampNeg) = (2 : Int32) → (bk_X11_sourceGoal_37 h0 (lp_X11_sourceGoal_4 h0 K n) K l1 l3 (1 : Int32) l2 M)))))
set_option maxRecDepth 100000 in
set_option maxHeartbeats 4000000 in
theorem zl_X11_sourceGoal_4 {X : Cx} {h0 : Nat} {K : Mm → Prop} (hX : Ok X cX11_sourceGoal RX11 rm_X11_sourceGoal) (hQ : Rq X rm_X11_sourceGoal none (QV K)) (hnL : X.2.2.2.2.2.2.2.2.2.2.2.2.2.2 = 4) : ∀ (n : Nat) (l1 : Int32) (l2 : Int32) (l3 : Int32) (M : Mm), lp_X11_sourceGoal_4 h0 K n l1 l2 l3 M → Z X M 0 0 4 [(0, va_rf (some h0)), (1, .int l1), (2, .int l2), (3, .int l3)] [] := by
  intro n
  induction n with
  | zero =>
    intro l1 l2 l3 M h
    exact False.elim h
  | succ n hR4 =>
    intro l1 l2 l3 M h
    refine z_iload_n hX dX11_sourceGoal_4 rfl 3 rfl ?_
    refine z_aload_n (r := (some h0)) hX dX11_sourceGoal_5 rfl 0 rfl ?_
    obtain ⟨hk13, h⟩ := h
    refine gf_RX11_26 (r := (some h0)) hX dX11_sourceGoal_6 rfl hk13 ?_
    refine z_bipush (v := (12 : Int32)) hX dX11_sourceGoal_9 (by decide) ?_
    refine z_iload_n hX dX11_sourceGoal_11 rfl 1 rfl ?_
    refine z_iadd hX dX11_sourceGoal_12 ?_
    obtain ⟨a14, ha15, h⟩ := h
    obtain ⟨hk16, h⟩ := h
    obtain ⟨hc17, h⟩ := h
    refine y_iald (r := (mR M 718 h0)) hX dX11_sourceGoal_13 ha15 hk16 hc17 ?_
    obtain ⟨h1, h2⟩ := h
    refine z_icmp_ge (tgt := 72) hX dX11_sourceGoal_14 (by decide) (fun hc => ?_) (fun hc => ?_)
    · have h := h1 hc
      refine z_iload_n hX dX11_sourceGoal_72 rfl 2 rfl ?_
      obtain ⟨h1, h2⟩ := h
      refine z_if_eq (tgt := 83) hX dX11_sourceGoal_73 (by decide) (fun hc => ?_) (fun hc => ?_)
      · have h := h1 hc
        refine z_loc [] rfl ?_
        exact zb_X11_sourceGoal_83 hX hQ hnL h
      · have h := h2 hc
        refine z_aload_n (r := (some h0)) hX dX11_sourceGoal_76 rfl 0 rfl ?_
        refine z_ldc2 (v := (9000000000000000000 : Int64)) hX dX11_sourceGoal_77 kj_RX11_298 ?_
        refine z_callVV (As := [.long (9000000000000000000 : Int64)]) (rest := []) (ci := 11) hX (ct_X11_least h) mw_RX11_356 rfl (by decide) rfl (by rfl) (by unfold RoomC; decide) (by decide) dX11_sourceGoal_80 hk13 (fun M19 h => ?_)
        refine z_loc [] rfl ?_
        exact zb_X11_sourceGoal_83 hX hQ hnL h
    · have h := h2 hc
      refine z_iload_n hX dX11_sourceGoal_17 rfl 2 rfl ?_
      refine z_aload_n (r := (some h0)) hX dX11_sourceGoal_18 rfl 0 rfl ?_
      refine gf_RX11_69 (r := (some h0)) hX dX11_sourceGoal_19 rfl hk13 ?_
      refine z_iconst (v := (4 : Int32)) hX dX11_sourceGoal_22 (by decide) ?_
      refine z_iload_n hX dX11_sourceGoal_23 rfl 1 rfl ?_
      refine z_imul hX dX11_sourceGoal_24 ?_
      refine z_iload_n hX dX11_sourceGoal_25 rfl 3 rfl ?_
      refine z_iadd hX dX11_sourceGoal_26 ?_
      obtain ⟨a21, ha22, h⟩ := h
      obtain ⟨hk23, h⟩ := h
      obtain ⟨hc24, h⟩ := h
      refine y_iald (r := (mR M 735 h0)) hX dX11_sourceGoal_27 ha22 hk23 hc24 ?_
      refine z_iconst (v := (2 : Int32)) hX dX11_sourceGoal_28 (by decide) ?_
      obtain ⟨h1, h2⟩ := h
      refine z_icmp_ne (tgt := 36) hX dX11_sourceGoal_29 (by decide) (fun hc => ?_) (fun hc => ?_)
      · have h := h1 hc
        refine z_iconst (v := (0 : Int32)) hX dX11_sourceGoal_36 (by decide) ?_
        refine z_loc [0, 1, 3] rfl ?_
        exact zb_X11_sourceGoal_37 hX hQ hnL hR4 h
      · have h := h2 hc
        refine z_iconst (v := (1 : Int32)) hX dX11_sourceGoal_32 (by decide) ?_
        refine z_goto (tgt := 37) hX dX11_sourceGoal_33 (by decide) ?_
        refine z_loc [0, 1, 3] rfl ?_
        exact zb_X11_sourceGoal_37 hX hQ hnL hR4 h
def wp_X11_sourceGoal (M : Mm) (h0 : Nat) (p1 : Int32) (K : Mm → Prop) : Prop := (∃ kk, lp_X11_sourceGoal_4 h0 K kk p1 (1 : Int32) (0 : Int32) M)
set_option maxRecDepth 100000 in
set_option maxHeartbeats 4000000 in
theorem ct_X11_sourceGoal {M : Mm} {h0 : Nat} {p1 : Int32} {K : Mm → Prop} (h : wp_X11_sourceGoal M h0 p1 K) : CtV yX11_sourceGoal cX11_sourceGoal 4 none rm_X11_sourceGoal [.ref h0, .int p1] M K := by
  refine ct_any (QV K) (by decide) (by exact Nat.le_of_ble_eq_true rfl) (fun X hX hQ hnL hnm => ?_)
  rw [show lv_args 0 [.ref h0, .int p1] = [(0, va_rf (some h0)), (1, .int p1)] by rfl]
  have hX : Ok X cX11_sourceGoal RX11 rm_X11_sourceGoal := hX
  unfold wp_X11_sourceGoal at h
  refine z_iconst (v := (1 : Int32)) hX dX11_sourceGoal_0 (by decide) ?_
  refine z_istore_n hX [(2, .int (1 : Int32)), (0, va_rf (some h0)), (1, .int p1)] dX11_sourceGoal_1 rfl (by rw [hnL]; decide) rfl ?_
  refine z_iconst (v := (0 : Int32)) hX dX11_sourceGoal_2 (by decide) ?_
  refine z_istore_n hX [(3, .int (0 : Int32)), (2, .int (1 : Int32)), (0, va_rf (some h0)), (1, .int p1)] dX11_sourceGoal_3 rfl (by rw [hnL]; decide) rfl ?_
  refine z_loc [2, 3, 1, 0] rfl ?_
  obtain ⟨n, h⟩ := h
  exact zl_X11_sourceGoal_4 hX hQ hnL n _ _ _ _ h
def rm_X11_holdGoal : Room := { frames := 1, cells := 0, slots := 0, locals := 25 }
def bk_X11_holdGoal_115 (h0 : Nat) (K : Mm → Prop) (M : Mm) : Prop := (K M)
set_option maxRecDepth 100000 in
set_option maxHeartbeats 4000000 in
theorem zb_X11_holdGoal_115 {X : Cx} {h0 : Nat} {K : Mm → Prop} (hX : Ok X cX11_holdGoal RX11 rm_X11_holdGoal) (hQ : Rq X rm_X11_holdGoal none (QV K)) (hnL : X.2.2.2.2.2.2.2.2.2.2.2.2.2.2 = 4) {M : Mm} (h : bk_X11_holdGoal_115 h0 K M) : Z X M 0 0 115 [] [] := by
  unfold bk_X11_holdGoal_115 at h
  exact z_vret hX hQ dX11_holdGoal_115 h
def bk_X11_holdGoal_90 (h0 : Nat) (K : Mm → Prop) (s0 : Int64) (s1 : Option Nat) (M : Mm) : Prop := ∃ a3, s1 = some a3 ∧ mK M a3 = 12 ∧ (wp_X11_least M a3 s0 (fun M2 => (bk_X11_holdGoal_115 h0 K M2)))
set_option maxRecDepth 100000 in
set_option maxHeartbeats 4000000 in
theorem zb_X11_holdGoal_90 {X : Cx} {h0 : Nat} {K : Mm → Prop} (hX : Ok X cX11_holdGoal RX11 rm_X11_holdGoal) (hQ : Rq X rm_X11_holdGoal none (QV K)) (hnL : X.2.2.2.2.2.2.2.2.2.2.2.2.2.2 = 4) {s0 : Int64} {s1 : Option Nat} {M : Mm} (h : bk_X11_holdGoal_90 h0 K s0 s1 M) : Z X M 0 0 90 [] [.long s0, va_rf s1] := by
  unfold bk_X11_holdGoal_90 at h
  obtain ⟨a3, ha4, h⟩ := h
  obtain ⟨hk5, h⟩ := h
  refine z_callVV (As := [.long s0]) (rest := []) (ci := 11) hX (ct_X11_least h) mw_RX11_356 rfl (by decide) rfl (by rw [ha4]; rfl) (by unfold RoomC; decide) (by decide) dX11_holdGoal_90 hk5 (fun M2 h => ?_)
  refine z_goto (tgt := 115) hX dX11_holdGoal_93 (by decide) ?_
  exact zb_X11_holdGoal_115 hX hQ hnL h
def bk_X11_holdGoal_52 (h0 : Nat) (R9 : Int32 → Int32 → Int32 → Mm → Prop) (K : Mm → Prop) (l1 : Int32) (l2 : Int32) (l3 : Int32) (M : Mm) : Prop := (R9 l1 l2 (l3 + 1) M)
set_option maxRecDepth 100000 in
set_option maxHeartbeats 4000000 in
theorem zb_X11_holdGoal_52 {X : Cx} {h0 : Nat} {R9 : Int32 → Int32 → Int32 → Mm → Prop} {K : Mm → Prop} (hX : Ok X cX11_holdGoal RX11 rm_X11_holdGoal) (hQ : Rq X rm_X11_holdGoal none (QV K)) (hnL : X.2.2.2.2.2.2.2.2.2.2.2.2.2.2 = 4) (hR9 : ∀ l1 l2 l3 M, R9 l1 l2 l3 M → Z X M 0 0 9 [(0, va_rf (some h0)), (1, .int l1), (2, .int l2), (3, .int l3)] []) {l1 : Int32} {l2 : Int32} {l3 : Int32} {M : Mm} (h : bk_X11_holdGoal_52 h0 R9 K l1 l2 l3 M) : Z X M 0 0 52 [(0, va_rf (some h0)), (1, .int l1), (2, .int l2), (3, .int l3)] [] := by
  unfold bk_X11_holdGoal_52 at h
  refine z_iinc (v := (l3 + 1)) hX [(3, .int (l3 + 1)), (0, va_rf (some h0)), (1, .int l1), (2, .int l2)] dX11_holdGoal_52 3 rfl rfl (by rw [hnL]; decide) rfl ?_
  refine z_goto (tgt := 9) hX dX11_holdGoal_55 (by decide) ?_
  refine z_loc [1, 2, 3, 0] rfl ?_
  exact hR9 _ _ _ _ h
def lp_X11_holdGoal_9 (h0 : Nat) (K : Mm → Prop) : Nat → Int32 → Int32 → Int32 → Mm → Prop
  | 0, _, _, _, _ => False
  | n + 1, l1, l2, l3, M => mK M h0 = 12 ∧ (((mI M 752 h0) ≤ l3 → (((mI M 756 h0) = 0 → ∃ a8, (mR M 734 h0) = some a8 ∧ isA M a8 3 ∧ vp_in l2 (aN M a8) ∧ ((¬ (aI M a8 (l2).toNatClampNeg) = 0 → (bk_X11_holdGoal_115 h0 K M)) ∧ ((aI M a8 (l2).toNatClampNeg) = 0 → ∃ a12, (mR M 733 h0) = some a12 ∧ isA M a12 2 ∧ vp_in l2 (aN M a12) ∧ (wp_X11_least M h0 (aJ M a12 (l2).toNatClampNeg) (fun M17 => (bk_X11_holdGoal_115 h0 K M17)))))) ∧ (¬ (mI M 756 h0) = 0 → ∃ a19, (mR M 734 h0) = some a19 ∧ isA M a19 3 ∧ vp_in l2 (aN M a19) ∧ (((aI M a19 (l2).toNatClampNeg) = 0 → ∃ a23, (mR M 733 h0) = some a23 ∧ isA M a23 2 ∧ vp_in l2 (aN M a23) ∧ (bk_X11_holdGoal_90 h0 K (aJ M a23 (l2).toNatClampNeg) (some h0) M)) ∧ (¬ (aI M a19 (l2).toNatClampNeg) = 0 → ∃ a27, (mR M 733 h0) = some a27 ∧ isA M a27 2 ∧ vp_in l1 (aN M a27) ∧ (bk_X11_holdGoal_90 h0 K (aJ M a27 (l1).toNatClampNeg) (some h0) M)))))) ∧ (¬ (mI M 752 h0) ≤ l3 → ∃ a31, (mR M 755 h0) = some a31 ∧ isA M a31 3 ∧ vp_in l3 (aN M a31) ∧ (((aI M a31 (l3).toNatClampNeg) = 0 → (bk_X11_holdGoal_52 h0 (lp_X11_holdGoal_9 h0 K n) K l1 l2 l3 M)) ∧ (¬ (aI M a31 (l3).toNatClampNeg) = 0 → ∃ a35, (mR M 753 h0) = some a35 ∧ isA M a35 1 ∧ vp_in l3 (aN M a35) ∧ ((¬ (aI M a35 (l3).toNatClampNeg) = l1 → (bk_X11_holdGoal_52 h0 (lp_X11_holdGoal_9 h0 K n) K l1 l2 l3 M)) ∧ ((aI M a35 (l3).toNatClampNeg) = l1 → ∃ a39, (mR M 754 h0) = some a39 ∧ isA M a39 2 ∧ vp_in l3 (aN M a39) ∧ (wp_X11_plus M (aJ M a39 (l3).toNatClampNeg) (-1 : Int64) (fun r43 M44 => mK M44 h0 = 12 ∧ (wp_X11_least M44 h0 r43 (fun M47 => (bk_X11_holdGoal_52 h0 (lp_X11_holdGoal_9 h0 K n) K l1 l2 l3 M47)))))))))))
set_option maxRecDepth 100000 in
set_option maxHeartbeats 4000000 in
theorem zl_X11_holdGoal_9 {X : Cx} {h0 : Nat} {K : Mm → Prop} (hX : Ok X cX11_holdGoal RX11 rm_X11_holdGoal) (hQ : Rq X rm_X11_holdGoal none (QV K)) (hnL : X.2.2.2.2.2.2.2.2.2.2.2.2.2.2 = 4) : ∀ (n : Nat) (l1 : Int32) (l2 : Int32) (l3 : Int32) (M : Mm), lp_X11_holdGoal_9 h0 K n l1 l2 l3 M → Z X M 0 0 9 [(0, va_rf (some h0)), (1, .int l1), (2, .int l2), (3, .int l3)] [] := by
  intro n
  induction n with
  | zero =>
    intro l1 l2 l3 M h
    exact False.elim h
  | succ n hR9 =>
    intro l1 l2 l3 M h
    refine z_iload_n hX dX11_holdGoal_9 rfl 3 rfl ?_
    refine z_aload_n (r := (some h0)) hX dX11_holdGoal_10 rfl 0 rfl ?_
    obtain ⟨hk7, h⟩ := h
    refine gf_RX11_295 (r := (some h0)) hX dX11_holdGoal_11 rfl hk7 ?_
    obtain ⟨h1, h2⟩ := h
    refine z_icmp_ge (tgt := 58) hX dX11_holdGoal_14 (by decide) (fun hc => ?_) (fun hc => ?_)
    · have h := h1 hc
      refine z_aload_n (r := (some h0)) hX dX11_holdGoal_58 rfl 0 rfl ?_
      refine gf_RX11_347 (r := (some h0)) hX dX11_holdGoal_59 rfl hk7 ?_
      obtain ⟨h1, h2⟩ := h
      refine z_if_eq (tgt := 96) hX dX11_holdGoal_62 (by decide) (fun hc => ?_) (fun hc => ?_)
      · have h := h1 hc
        refine z_aload_n (r := (some h0)) hX dX11_holdGoal_96 rfl 0 rfl ?_
        refine gf_RX11_66 (r := (some h0)) hX dX11_holdGoal_97 rfl hk7 ?_
        refine z_iload_n hX dX11_holdGoal_100 rfl 2 rfl ?_
        obtain ⟨a8, ha9, h⟩ := h
        obtain ⟨hk10, h⟩ := h
        obtain ⟨hc11, h⟩ := h
        refine y_zald (r := (mR M 734 h0)) hX dX11_holdGoal_101 ha9 hk10 hc11 ?_
        obtain ⟨h1, h2⟩ := h
        refine z_if_ne (tgt := 115) hX dX11_holdGoal_102 (by decide) (fun hc => ?_) (fun hc => ?_)
        · have h := h1 hc
          refine z_loc [] rfl ?_
          exact zb_X11_holdGoal_115 hX hQ hnL h
        · have h := h2 hc
          refine z_aload_n (r := (some h0)) hX dX11_holdGoal_105 rfl 0 rfl ?_
          refine z_aload_n (r := (some h0)) hX dX11_holdGoal_106 rfl 0 rfl ?_
          refine gf_RX11_63 (r := (some h0)) hX dX11_holdGoal_107 rfl hk7 ?_
          refine z_iload_n hX dX11_holdGoal_110 rfl 2 rfl ?_
          obtain ⟨a12, ha13, h⟩ := h
          obtain ⟨hk14, h⟩ := h
          obtain ⟨hc15, h⟩ := h
          refine y_lald (r := (mR M 733 h0)) hX dX11_holdGoal_111 ha13 hk14 hc15 ?_
          refine z_callVV (As := [.long (aJ M a12 (l2).toNatClampNeg)]) (rest := []) (ci := 11) hX (ct_X11_least h) mw_RX11_356 rfl (by decide) rfl (by rfl) (by unfold RoomC; decide) (by decide) dX11_holdGoal_112 hk7 (fun M17 h => ?_)
          refine z_loc [] rfl ?_
          exact zb_X11_holdGoal_115 hX hQ hnL h
      · have h := h2 hc
        refine z_aload_n (r := (some h0)) hX dX11_holdGoal_65 rfl 0 rfl ?_
        refine z_aload_n (r := (some h0)) hX dX11_holdGoal_66 rfl 0 rfl ?_
        refine gf_RX11_66 (r := (some h0)) hX dX11_holdGoal_67 rfl hk7 ?_
        refine z_iload_n hX dX11_holdGoal_70 rfl 2 rfl ?_
        obtain ⟨a19, ha20, h⟩ := h
        obtain ⟨hk21, h⟩ := h
        obtain ⟨hc22, h⟩ := h
        refine y_zald (r := (mR M 734 h0)) hX dX11_holdGoal_71 ha20 hk21 hc22 ?_
        obtain ⟨h1, h2⟩ := h
        refine z_if_eq (tgt := 84) hX dX11_holdGoal_72 (by decide) (fun hc => ?_) (fun hc => ?_)
        · have h := h1 hc
          refine z_aload_n (r := (some h0)) hX dX11_holdGoal_84 rfl 0 rfl ?_
          refine gf_RX11_63 (r := (some h0)) hX dX11_holdGoal_85 rfl hk7 ?_
          refine z_iload_n hX dX11_holdGoal_88 rfl 2 rfl ?_
          obtain ⟨a23, ha24, h⟩ := h
          obtain ⟨hk25, h⟩ := h
          obtain ⟨hc26, h⟩ := h
          refine y_lald (r := (mR M 733 h0)) hX dX11_holdGoal_89 ha24 hk25 hc26 ?_
          refine z_loc [] rfl ?_
          exact zb_X11_holdGoal_90 hX hQ hnL h
        · have h := h2 hc
          refine z_aload_n (r := (some h0)) hX dX11_holdGoal_75 rfl 0 rfl ?_
          refine gf_RX11_63 (r := (some h0)) hX dX11_holdGoal_76 rfl hk7 ?_
          refine z_iload_n hX dX11_holdGoal_79 rfl 1 rfl ?_
          obtain ⟨a27, ha28, h⟩ := h
          obtain ⟨hk29, h⟩ := h
          obtain ⟨hc30, h⟩ := h
          refine y_lald (r := (mR M 733 h0)) hX dX11_holdGoal_80 ha28 hk29 hc30 ?_
          refine z_goto (tgt := 90) hX dX11_holdGoal_81 (by decide) ?_
          refine z_loc [] rfl ?_
          exact zb_X11_holdGoal_90 hX hQ hnL h
    · have h := h2 hc
      refine z_aload_n (r := (some h0)) hX dX11_holdGoal_17 rfl 0 rfl ?_
      refine gf_RX11_114 (r := (some h0)) hX dX11_holdGoal_18 rfl hk7 ?_
      refine z_iload_n hX dX11_holdGoal_21 rfl 3 rfl ?_
      obtain ⟨a31, ha32, h⟩ := h
      obtain ⟨hk33, h⟩ := h
      obtain ⟨hc34, h⟩ := h
      refine y_zald (r := (mR M 755 h0)) hX dX11_holdGoal_22 ha32 hk33 hc34 ?_
      obtain ⟨h1, h2⟩ := h
      refine z_if_eq (tgt := 52) hX dX11_holdGoal_23 (by decide) (fun hc => ?_) (fun hc => ?_)
      · have h := h1 hc
        exact zb_X11_holdGoal_52 hX hQ hnL hR9 h
      · have h := h2 hc
        refine z_aload_n (r := (some h0)) hX dX11_holdGoal_26 rfl 0 rfl ?_
        refine gf_RX11_108 (r := (some h0)) hX dX11_holdGoal_27 rfl hk7 ?_
        refine z_iload_n hX dX11_holdGoal_30 rfl 3 rfl ?_
        obtain ⟨a35, ha36, h⟩ := h
        obtain ⟨hk37, h⟩ := h
        obtain ⟨hc38, h⟩ := h
        refine y_iald (r := (mR M 753 h0)) hX dX11_holdGoal_31 ha36 hk37 hc38 ?_
        refine z_iload_n hX dX11_holdGoal_32 rfl 1 rfl ?_
        obtain ⟨h1, h2⟩ := h
        refine z_icmp_ne (tgt := 52) hX dX11_holdGoal_33 (by decide) (fun hc => ?_) (fun hc => ?_)
        · have h := h1 hc
          exact zb_X11_holdGoal_52 hX hQ hnL hR9 h
        · have h := h2 hc
          refine z_aload_n (r := (some h0)) hX dX11_holdGoal_36 rfl 0 rfl ?_
          refine z_aload_n (r := (some h0)) hX dX11_holdGoal_37 rfl 0 rfl ?_
          refine gf_RX11_111 (r := (some h0)) hX dX11_holdGoal_38 rfl hk7 ?_
          refine z_iload_n hX dX11_holdGoal_41 rfl 3 rfl ?_
          obtain ⟨a39, ha40, h⟩ := h
          obtain ⟨hk41, h⟩ := h
          obtain ⟨hc42, h⟩ := h
          refine y_lald (r := (mR M 754 h0)) hX dX11_holdGoal_42 ha40 hk41 hc42 ?_
          refine z_ldc2 (v := (-1 : Int64)) hX dX11_holdGoal_43 kj_RX11_363 ?_
          refine z_callSJ (As := [.long (aJ M a39 (l3).toNatClampNeg), .long (-1 : Int64)]) (rest := [va_rf (some h0)]) hX (ct_X11_plus h) mw_RX11_311 rfl (by rfl) (by unfold RoomC; decide) (by simp only [List.map_cons, List.map_nil, List.sum_cons, List.sum_nil, cat_rf, cat_i, cat_j]; decide) dX11_holdGoal_46 (fun r43 M44 h => ?_)
          obtain ⟨hk48, h⟩ := h
          refine z_callVV (As := [.long r43]) (rest := []) (ci := 11) hX (ct_X11_least h) mw_RX11_356 rfl (by decide) rfl (by rfl) (by unfold RoomC; decide) (by decide) dX11_holdGoal_49 hk48 (fun M47 h => ?_)
          exact zb_X11_holdGoal_52 hX hQ hnL hR9 h
def wp_X11_holdGoal (M : Mm) (h0 : Nat) (p1 : Int32) (K : Mm → Prop) : Prop := mK M h0 = 12 ∧ (wp_X11_inputOf M h0 p1 (0 : Int32) (fun r50 M51 => (∃ kk, lp_X11_holdGoal_9 h0 K kk p1 r50 (0 : Int32) M51)))
set_option maxRecDepth 100000 in
set_option maxHeartbeats 4000000 in
theorem ct_X11_holdGoal {M : Mm} {h0 : Nat} {p1 : Int32} {K : Mm → Prop} (h : wp_X11_holdGoal M h0 p1 K) : CtV yX11_holdGoal cX11_holdGoal 4 none rm_X11_holdGoal [.ref h0, .int p1] M K := by
  refine ct_any (QV K) (by decide) (by exact Nat.le_of_ble_eq_true rfl) (fun X hX hQ hnL hnm => ?_)
  rw [show lv_args 0 [.ref h0, .int p1] = [(0, va_rf (some h0)), (1, .int p1)] by rfl]
  have hX : Ok X cX11_holdGoal RX11 rm_X11_holdGoal := hX
  unfold wp_X11_holdGoal at h
  refine z_aload_n (r := (some h0)) hX dX11_holdGoal_0 rfl 0 rfl ?_
  refine z_iload_n hX dX11_holdGoal_1 rfl 1 rfl ?_
  refine z_iconst (v := (0 : Int32)) hX dX11_holdGoal_2 (by decide) ?_
  obtain ⟨hk52, h⟩ := h
  refine z_callVI (As := [.int p1, .int (0 : Int32)]) (rest := []) (ci := 11) hX (ct_X11_inputOf h) mw_RX11_318 rfl (by decide) rfl (by rfl) (by unfold RoomC; decide) (by decide) dX11_holdGoal_3 hk52 (fun r50 M51 h => ?_)
  refine z_istore_n hX [(2, .int r50), (0, va_rf (some h0)), (1, .int p1)] dX11_holdGoal_6 rfl (by rw [hnL]; decide) rfl ?_
  refine z_iconst (v := (0 : Int32)) hX dX11_holdGoal_7 (by decide) ?_
  refine z_istore_n hX [(3, .int (0 : Int32)), (2, .int r50), (0, va_rf (some h0)), (1, .int p1)] dX11_holdGoal_8 rfl (by rw [hnL]; decide) rfl ?_
  refine z_loc [2, 3, 1, 0] rfl ?_
  obtain ⟨n, h⟩ := h
  exact zl_X11_holdGoal_9 hX hQ hnL n _ _ _ _ h
def rm_X11_isStream : Room := { frames := 0, cells := 0, slots := 0, locals := 0 }
def bk_X11_isStream_26 (h0 : Nat) (K : Int32 → Mm → Prop) (s0 : Int32) (M : Mm) : Prop := (bz s0 ∧ K s0 M)
set_option maxRecDepth 100000 in
set_option maxHeartbeats 4000000 in
theorem zb_X11_isStream_26 {X : Cx} {h0 : Nat} {K : Int32 → Mm → Prop} (hX : Ok X cX11_isStream RX11 rm_X11_isStream) (hQ : Rq X rm_X11_isStream (some .boolean) (QI K)) (hnL : X.2.2.2.2.2.2.2.2.2.2.2.2.2.2 = 2) {s0 : Int32} {M : Mm} (h : bk_X11_isStream_26 h0 K s0 M) : Z X M 0 0 26 [] [.int s0] := by
  unfold bk_X11_isStream_26 at h
  exact y_zret hX hQ dX11_isStream_26 h.1 h.2
def bk_X11_isStream_25 (h0 : Nat) (K : Int32 → Mm → Prop) (M : Mm) : Prop := (bk_X11_isStream_26 h0 K (0 : Int32) M)
set_option maxRecDepth 100000 in
set_option maxHeartbeats 4000000 in
theorem zb_X11_isStream_25 {X : Cx} {h0 : Nat} {K : Int32 → Mm → Prop} (hX : Ok X cX11_isStream RX11 rm_X11_isStream) (hQ : Rq X rm_X11_isStream (some .boolean) (QI K)) (hnL : X.2.2.2.2.2.2.2.2.2.2.2.2.2.2 = 2) {M : Mm} (h : bk_X11_isStream_25 h0 K M) : Z X M 0 0 25 [] [] := by
  unfold bk_X11_isStream_25 at h
  refine z_iconst (v := (0 : Int32)) hX dX11_isStream_25 (by decide) ?_
  exact zb_X11_isStream_26 hX hQ hnL h
def wp_X11_isStream (M : Mm) (h0 : Nat) (p1 : Int32) (K : Int32 → Mm → Prop) : Prop := mK M h0 = 12 ∧ (((mI M 732 h0) = 0 → (bk_X11_isStream_25 h0 K M)) ∧ (¬ (mI M 732 h0) = 0 → ((p1 < 0 → (bk_X11_isStream_25 h0 K M)) ∧ (¬ p1 < 0 → ∃ a2, (mR M 729 h0) = some a2 ∧ isA M a2 1 ∧ vp_in (1 : Int32) (aN M a2) ∧ (((aI M a2 ((1 : Int32)).toNatClampNeg) ≤ p1 → (bk_X11_isStream_25 h0 K M)) ∧ (¬ (aI M a2 ((1 : Int32)).toNatClampNeg) ≤ p1 → (bk_X11_isStream_26 h0 K (1 : Int32) M)))))))
set_option maxRecDepth 100000 in
set_option maxHeartbeats 4000000 in
theorem ct_X11_isStream {M : Mm} {h0 : Nat} {p1 : Int32} {K : Int32 → Mm → Prop} (h : wp_X11_isStream M h0 p1 K) : CtI yX11_isStream cX11_isStream 2 (some .boolean) rm_X11_isStream [.ref h0, .int p1] M K := by
  refine ct_any (QI K) (by decide) (by exact Nat.le_of_ble_eq_true rfl) (fun X hX hQ hnL hnm => ?_)
  rw [show lv_args 0 [.ref h0, .int p1] = [(0, va_rf (some h0)), (1, .int p1)] by rfl]
  have hX : Ok X cX11_isStream RX11 rm_X11_isStream := hX
  unfold wp_X11_isStream at h
  refine z_aload_n (r := (some h0)) hX dX11_isStream_0 rfl 0 rfl ?_
  obtain ⟨hk1, h⟩ := h
  refine gf_RX11_277 (r := (some h0)) hX dX11_isStream_1 rfl hk1 ?_
  obtain ⟨h1, h2⟩ := h
  refine z_if_eq (tgt := 25) hX dX11_isStream_4 (by decide) (fun hc => ?_) (fun hc => ?_)
  · have h := h1 hc
    refine z_loc [] rfl ?_
    exact zb_X11_isStream_25 hX hQ hnL h
  · have h := h2 hc
    refine z_iload_n hX dX11_isStream_7 rfl 1 rfl ?_
    obtain ⟨h1, h2⟩ := h
    refine z_if_lt (tgt := 25) hX dX11_isStream_8 (by decide) (fun hc => ?_) (fun hc => ?_)
    · have h := h1 hc
      refine z_loc [] rfl ?_
      exact zb_X11_isStream_25 hX hQ hnL h
    · have h := h2 hc
      refine z_iload_n hX dX11_isStream_11 rfl 1 rfl ?_
      refine z_aload_n (r := (some h0)) hX dX11_isStream_12 rfl 0 rfl ?_
      refine gf_RX11_60 (r := (some h0)) hX dX11_isStream_13 rfl hk1 ?_
      refine z_iconst (v := (1 : Int32)) hX dX11_isStream_16 (by decide) ?_
      obtain ⟨a2, ha3, h⟩ := h
      obtain ⟨hk4, h⟩ := h
      obtain ⟨hc5, h⟩ := h
      refine y_iald (r := (mR M 729 h0)) hX dX11_isStream_17 ha3 hk4 hc5 ?_
      obtain ⟨h1, h2⟩ := h
      refine z_icmp_ge (tgt := 25) hX dX11_isStream_18 (by decide) (fun hc => ?_) (fun hc => ?_)
      · have h := h1 hc
        refine z_loc [] rfl ?_
        exact zb_X11_isStream_25 hX hQ hnL h
      · have h := h2 hc
        refine z_iconst (v := (1 : Int32)) hX dX11_isStream_21 (by decide) ?_
        refine z_goto (tgt := 26) hX dX11_isStream_22 (by decide) ?_
        refine z_loc [] rfl ?_
        exact zb_X11_isStream_26 hX hQ hnL h
def rm_X11_isPart : Room := { frames := 1, cells := 0, slots := 0, locals := 21 }
def bk_X11_isPart_38 (h0 : Nat) (K : Int32 → Mm → Prop) (s0 : Int32) (M : Mm) : Prop := (bz s0 ∧ K s0 M)
set_option maxRecDepth 100000 in
set_option maxHeartbeats 4000000 in
theorem zb_X11_isPart_38 {X : Cx} {h0 : Nat} {K : Int32 → Mm → Prop} (hX : Ok X cX11_isPart RX11 rm_X11_isPart) (hQ : Rq X rm_X11_isPart (some .boolean) (QI K)) (hnL : X.2.2.2.2.2.2.2.2.2.2.2.2.2.2 = 3) {s0 : Int32} {M : Mm} (h : bk_X11_isPart_38 h0 K s0 M) : Z X M 0 0 38 [] [.int s0] := by
  unfold bk_X11_isPart_38 at h
  exact y_zret hX hQ dX11_isPart_38 h.1 h.2
def bk_X11_isPart_37 (h0 : Nat) (K : Int32 → Mm → Prop) (M : Mm) : Prop := (bk_X11_isPart_38 h0 K (0 : Int32) M)
set_option maxRecDepth 100000 in
set_option maxHeartbeats 4000000 in
theorem zb_X11_isPart_37 {X : Cx} {h0 : Nat} {K : Int32 → Mm → Prop} (hX : Ok X cX11_isPart RX11 rm_X11_isPart) (hQ : Rq X rm_X11_isPart (some .boolean) (QI K)) (hnL : X.2.2.2.2.2.2.2.2.2.2.2.2.2.2 = 3) {M : Mm} (h : bk_X11_isPart_37 h0 K M) : Z X M 0 0 37 [] [] := by
  unfold bk_X11_isPart_37 at h
  refine z_iconst (v := (0 : Int32)) hX dX11_isPart_37 (by decide) ?_
  exact zb_X11_isPart_38 hX hQ hnL h
def wp_X11_isPart (M : Mm) (h0 : Nat) (p1 : Int32) (p2 : Int32) (K : Int32 → Mm → Prop) : Prop := mK M h0 = 12 ∧ (wp_X11_isStream M h0 p1 (fun r1 M2 => ((r1 = 0 → (bk_X11_isPart_37 h0 K M2)) ∧ (¬ r1 = 0 → mK M2 h0 = 12 ∧ (wp_X11_kindOf M2 h0 p1 (fun r5 M6 => ((¬ r5 = 0 → (bk_X11_isPart_37 h0 K M6)) ∧ (r5 = 0 → ((p2 < 0 → (bk_X11_isPart_37 h0 K M6)) ∧ (¬ p2 < 0 → mK M6 h0 = 12 ∧ ∃ a10, (mR M6 718 h0) = some a10 ∧ isA M6 a10 1 ∧ vp_in ((12 : Int32) + p1) (aN M6 a10) ∧ (((aI M6 a10 (((12 : Int32) + p1)).toNatClampNeg) ≤ p2 → (bk_X11_isPart_37 h0 K M6)) ∧ (¬ (aI M6 a10 (((12 : Int32) + p1)).toNatClampNeg) ≤ p2 → (bk_X11_isPart_38 h0 K (1 : Int32) M6)))))))))))))
set_option maxRecDepth 100000 in
set_option maxHeartbeats 4000000 in
theorem ct_X11_isPart {M : Mm} {h0 : Nat} {p1 : Int32} {p2 : Int32} {K : Int32 → Mm → Prop} (h : wp_X11_isPart M h0 p1 p2 K) : CtI yX11_isPart cX11_isPart 3 (some .boolean) rm_X11_isPart [.ref h0, .int p1, .int p2] M K := by
  refine ct_any (QI K) (by decide) (by exact Nat.le_of_ble_eq_true rfl) (fun X hX hQ hnL hnm => ?_)
  rw [show lv_args 0 [.ref h0, .int p1, .int p2] = [(0, va_rf (some h0)), (1, .int p1), (2, .int p2)] by rfl]
  have hX : Ok X cX11_isPart RX11 rm_X11_isPart := hX
  unfold wp_X11_isPart at h
  refine z_aload_n (r := (some h0)) hX dX11_isPart_0 rfl 0 rfl ?_
  refine z_iload_n hX dX11_isPart_1 rfl 1 rfl ?_
  obtain ⟨hk3, h⟩ := h
  refine z_callVI (As := [.int p1]) (rest := []) (ci := 11) hX (ct_X11_isStream h) mw_RX11_371 rfl (by decide) rfl (by rfl) (by unfold RoomC; decide) (by decide) dX11_isPart_2 hk3 (fun r1 M2 h => ?_)
  obtain ⟨h1, h2⟩ := h
  refine z_if_eq (tgt := 37) hX dX11_isPart_5 (by decide) (fun hc => ?_) (fun hc => ?_)
  · have h := h1 hc
    refine z_loc [] rfl ?_
    exact zb_X11_isPart_37 hX hQ hnL h
  · have h := h2 hc
    refine z_aload_n (r := (some h0)) hX dX11_isPart_8 rfl 0 rfl ?_
    refine z_iload_n hX dX11_isPart_9 rfl 1 rfl ?_
    obtain ⟨hk7, h⟩ := h
    refine z_callVI (As := [.int p1]) (rest := []) (ci := 11) hX (ct_X11_kindOf h) mw_RX11_308 rfl (by decide) rfl (by rfl) (by unfold RoomC; decide) (by decide) dX11_isPart_10 hk7 (fun r5 M6 h => ?_)
    obtain ⟨h1, h2⟩ := h
    refine z_if_ne (tgt := 37) hX dX11_isPart_13 (by decide) (fun hc => ?_) (fun hc => ?_)
    · have h := h1 hc
      refine z_loc [] rfl ?_
      exact zb_X11_isPart_37 hX hQ hnL h
    · have h := h2 hc
      refine z_iload_n hX dX11_isPart_16 rfl 2 rfl ?_
      obtain ⟨h1, h2⟩ := h
      refine z_if_lt (tgt := 37) hX dX11_isPart_17 (by decide) (fun hc => ?_) (fun hc => ?_)
      · have h := h1 hc
        refine z_loc [] rfl ?_
        exact zb_X11_isPart_37 hX hQ hnL h
      · have h := h2 hc
        refine z_iload_n hX dX11_isPart_20 rfl 2 rfl ?_
        refine z_aload_n (r := (some h0)) hX dX11_isPart_21 rfl 0 rfl ?_
        obtain ⟨hk9, h⟩ := h
        refine gf_RX11_26 (r := (some h0)) hX dX11_isPart_22 rfl hk9 ?_
        refine z_bipush (v := (12 : Int32)) hX dX11_isPart_25 (by decide) ?_
        refine z_iload_n hX dX11_isPart_27 rfl 1 rfl ?_
        refine z_iadd hX dX11_isPart_28 ?_
        obtain ⟨a10, ha11, h⟩ := h
        obtain ⟨hk12, h⟩ := h
        obtain ⟨hc13, h⟩ := h
        refine y_iald (r := (mR M6 718 h0)) hX dX11_isPart_29 ha11 hk12 hc13 ?_
        obtain ⟨h1, h2⟩ := h
        refine z_icmp_ge (tgt := 37) hX dX11_isPart_30 (by decide) (fun hc => ?_) (fun hc => ?_)
        · have h := h1 hc
          refine z_loc [] rfl ?_
          exact zb_X11_isPart_37 hX hQ hnL h
        · have h := h2 hc
          refine z_iconst (v := (1 : Int32)) hX dX11_isPart_33 (by decide) ?_
          refine z_goto (tgt := 38) hX dX11_isPart_34 (by decide) ?_
          refine z_loc [] rfl ?_
          exact zb_X11_isPart_38 hX hQ hnL h
def rm_X11_isTime : Room := { frames := 0, cells := 0, slots := 0, locals := 0 }
def bk_X11_isTime_21 (K : Int32 → Mm → Prop) (s0 : Int32) (M : Mm) : Prop := (bz s0 ∧ K s0 M)
set_option maxRecDepth 100000 in
set_option maxHeartbeats 4000000 in
theorem zb_X11_isTime_21 {X : Cx} {K : Int32 → Mm → Prop} (hX : Ok X cX11_isTime RX11 rm_X11_isTime) (hQ : Rq X rm_X11_isTime (some .boolean) (QI K)) (hnL : X.2.2.2.2.2.2.2.2.2.2.2.2.2.2 = 2) {s0 : Int32} {M : Mm} (h : bk_X11_isTime_21 K s0 M) : Z X M 0 0 21 [] [.int s0] := by
  unfold bk_X11_isTime_21 at h
  exact y_zret hX hQ dX11_isTime_21 h.1 h.2
def bk_X11_isTime_20 (K : Int32 → Mm → Prop) (M : Mm) : Prop := (bk_X11_isTime_21 K (0 : Int32) M)
set_option maxRecDepth 100000 in
set_option maxHeartbeats 4000000 in
theorem zb_X11_isTime_20 {X : Cx} {K : Int32 → Mm → Prop} (hX : Ok X cX11_isTime RX11 rm_X11_isTime) (hQ : Rq X rm_X11_isTime (some .boolean) (QI K)) (hnL : X.2.2.2.2.2.2.2.2.2.2.2.2.2.2 = 2) {M : Mm} (h : bk_X11_isTime_20 K M) : Z X M 0 0 20 [] [] := by
  unfold bk_X11_isTime_20 at h
  refine z_iconst (v := (0 : Int32)) hX dX11_isTime_20 (by decide) ?_
  exact zb_X11_isTime_21 hX hQ hnL h
def wp_X11_isTime (M : Mm) (p1 : Int64) (K : Int32 → Mm → Prop) : Prop := ((p1 < (-100000000000000000 : Int64) → (bk_X11_isTime_20 K M)) ∧ (¬ p1 < (-100000000000000000 : Int64) → (((100000000000000000 : Int64) < p1 → (bk_X11_isTime_20 K M)) ∧ (¬ (100000000000000000 : Int64) < p1 → (bk_X11_isTime_21 K (1 : Int32) M)))))
set_option maxRecDepth 100000 in
set_option maxHeartbeats 4000000 in
theorem ct_X11_isTime {M : Mm} {p1 : Int64} {K : Int32 → Mm → Prop} (h : wp_X11_isTime M p1 K) : CtI yX11_isTime cX11_isTime 2 (some .boolean) rm_X11_isTime [.long p1] M K := by
  refine ct_any (QI K) (by decide) (by exact Nat.le_of_ble_eq_true rfl) (fun X hX hQ hnL hnm => ?_)
  rw [show lv_args 0 [.long p1] = [(0, .long p1)] by rfl]
  have hX : Ok X cX11_isTime RX11 rm_X11_isTime := hX
  unfold wp_X11_isTime at h
  refine z_lload_n hX dX11_isTime_0 rfl 0 rfl ?_
  refine z_ldc2 (v := (-100000000000000000 : Int64)) hX dX11_isTime_1 kj_RX11_374 ?_
  refine z_lcmp hX dX11_isTime_4 ?_
  obtain ⟨h1, h2⟩ := h
  refine z_if_lt (tgt := 20) hX dX11_isTime_5 (by decide) (fun hc => ?_) (fun hc => ?_)
  · have h := h1 ((lg_cmp_lt _ _).mp hc)
    refine z_loc [] rfl ?_
    exact zb_X11_isTime_20 hX hQ hnL h
  · have h := h2 (fun q => hc ((lg_cmp_lt _ _).mpr q))
    refine z_lload_n hX dX11_isTime_8 rfl 0 rfl ?_
    refine z_ldc2 (v := (100000000000000000 : Int64)) hX dX11_isTime_9 kj_RX11_376 ?_
    refine z_lcmp hX dX11_isTime_12 ?_
    obtain ⟨h1, h2⟩ := h
    refine z_if_gt (tgt := 20) hX dX11_isTime_13 (by decide) (fun hc => ?_) (fun hc => ?_)
    · have h := h1 ((lg_cmp_gt _ _).mp hc)
      refine z_loc [] rfl ?_
      exact zb_X11_isTime_20 hX hQ hnL h
    · have h := h2 (fun q => hc ((lg_cmp_gt _ _).mpr q))
      refine z_iconst (v := (1 : Int32)) hX dX11_isTime_16 (by decide) ?_
      refine z_goto (tgt := 21) hX dX11_isTime_17 (by decide) ?_
      refine z_loc [] rfl ?_
      exact zb_X11_isTime_21 hX hQ hnL h
def rm_X11_isStopped : Room := { frames := 1, cells := 0, slots := 0, locals := 25 }
def bk_X11_isStopped_38 (h0 : Nat) (K : Int32 → Mm → Prop) (M : Mm) : Prop := (K (0 : Int32) M)
set_option maxRecDepth 100000 in
set_option maxHeartbeats 4000000 in
theorem zb_X11_isStopped_38 {X : Cx} {h0 : Nat} {K : Int32 → Mm → Prop} (hX : Ok X cX11_isStopped RX11 rm_X11_isStopped) (hQ : Rq X rm_X11_isStopped (some .boolean) (QI K)) (hnL : X.2.2.2.2.2.2.2.2.2.2.2.2.2.2 = 8) {M : Mm} (h : bk_X11_isStopped_38 h0 K M) : Z X M 0 0 38 [] [] := by
  unfold bk_X11_isStopped_38 at h
  refine z_iconst (v := (0 : Int32)) hX dX11_isStopped_38 (by decide) ?_
  exact y_zret hX hQ dX11_isStopped_39 (Or.inl rfl) h
def bk_X11_isStopped_183 (h0 : Nat) (K : Int32 → Mm → Prop) (s0 : Int32) (M : Mm) : Prop := (bz s0 ∧ K s0 M)
set_option maxRecDepth 100000 in
set_option maxHeartbeats 4000000 in
theorem zb_X11_isStopped_183 {X : Cx} {h0 : Nat} {K : Int32 → Mm → Prop} (hX : Ok X cX11_isStopped RX11 rm_X11_isStopped) (hQ : Rq X rm_X11_isStopped (some .boolean) (QI K)) (hnL : X.2.2.2.2.2.2.2.2.2.2.2.2.2.2 = 8) {s0 : Int32} {M : Mm} (h : bk_X11_isStopped_183 h0 K s0 M) : Z X M 0 0 183 [] [.int s0] := by
  unfold bk_X11_isStopped_183 at h
  exact y_zret hX hQ dX11_isStopped_183 h.1 h.2
def bk_X11_isStopped_145 (h0 : Nat) (R48 : Int32 → Int32 → Int32 → Int64 → Int32 → Mm → Prop) (K : Int32 → Mm → Prop) (l1 : Int32) (l2 : Int32) (l3 : Int32) (l4 : Int64) (l6 : Int32) (M : Mm) : Prop := (R48 l1 l2 l3 l4 (l6 + 1) M)
set_option maxRecDepth 100000 in
set_option maxHeartbeats 4000000 in
theorem zb_X11_isStopped_145 {X : Cx} {h0 : Nat} {R48 : Int32 → Int32 → Int32 → Int64 → Int32 → Mm → Prop} {K : Int32 → Mm → Prop} (hX : Ok X cX11_isStopped RX11 rm_X11_isStopped) (hQ : Rq X rm_X11_isStopped (some .boolean) (QI K)) (hnL : X.2.2.2.2.2.2.2.2.2.2.2.2.2.2 = 8) (hR48 : ∀ l1 l2 l3 l4 l6 M, R48 l1 l2 l3 l4 l6 M → Z X M 0 0 48 [(0, va_rf (some h0)), (1, .int l1), (2, .int l2), (3, .int l3), (4, .long l4), (6, .int l6)] []) {l1 : Int32} {l2 : Int32} {l3 : Int32} {l4 : Int64} {l6 : Int32} {M : Mm} (h : bk_X11_isStopped_145 h0 R48 K l1 l2 l3 l4 l6 M) : Z X M 0 0 145 [(0, va_rf (some h0)), (1, .int l1), (2, .int l2), (3, .int l3), (4, .long l4), (6, .int l6)] [] := by
  unfold bk_X11_isStopped_145 at h
  refine z_iinc (v := (l6 + 1)) hX [(6, .int (l6 + 1)), (0, va_rf (some h0)), (1, .int l1), (2, .int l2), (3, .int l3), (4, .long l4)] dX11_isStopped_145 5 rfl rfl (by rw [hnL]; decide) rfl ?_
  refine z_goto (tgt := 48) hX dX11_isStopped_148 (by decide) ?_
  refine z_loc [1, 2, 3, 4, 5, 0] rfl ?_
  exact hR48 _ _ _ _ _ _ h
def bk_X11_isStopped_137 (h0 : Nat) (R48 : Int32 → Int32 → Int32 → Int64 → Int32 → Mm → Prop) (R62 : Int32 → Int32 → Int32 → Int64 → Int32 → Int32 → Mm → Prop) (K : Int32 → Mm → Prop) (l1 : Int32) (l2 : Int32) (l3 : Int32) (l6 : Int32) (l7 : Int32) (s0 : Int64) (M : Mm) : Prop := (R62 l1 l2 l3 s0 l6 (l7 + 1) M)
set_option maxRecDepth 100000 in
set_option maxHeartbeats 4000000 in
theorem zb_X11_isStopped_137 {X : Cx} {h0 : Nat} {R48 : Int32 → Int32 → Int32 → Int64 → Int32 → Mm → Prop} {R62 : Int32 → Int32 → Int32 → Int64 → Int32 → Int32 → Mm → Prop} {K : Int32 → Mm → Prop} (hX : Ok X cX11_isStopped RX11 rm_X11_isStopped) (hQ : Rq X rm_X11_isStopped (some .boolean) (QI K)) (hnL : X.2.2.2.2.2.2.2.2.2.2.2.2.2.2 = 8) (hR48 : ∀ l1 l2 l3 l4 l6 M, R48 l1 l2 l3 l4 l6 M → Z X M 0 0 48 [(0, va_rf (some h0)), (1, .int l1), (2, .int l2), (3, .int l3), (4, .long l4), (6, .int l6)] []) (hR62 : ∀ l1 l2 l3 l4 l6 l7 M, R62 l1 l2 l3 l4 l6 l7 M → Z X M 0 0 62 [(0, va_rf (some h0)), (1, .int l1), (2, .int l2), (3, .int l3), (4, .long l4), (6, .int l6), (7, .int l7)] []) {l1 : Int32} {l2 : Int32} {l3 : Int32} {l6 : Int32} {l7 : Int32} {s0 : Int64} {M : Mm} (h : bk_X11_isStopped_137 h0 R48 R62 K l1 l2 l3 l6 l7 s0 M) : Z X M 0 0 137 [(0, va_rf (some h0)), (1, .int l1), (2, .int l2), (3, .int l3), (6, .int l6), (7, .int l7)] [.long s0] := by
  unfold bk_X11_isStopped_137 at h
  refine z_lstore hX [(4, .long s0), (0, va_rf (some h0)), (1, .int l1), (2, .int l2), (3, .int l3), (6, .int l6), (7, .int l7)] dX11_isStopped_137 (by rw [hnL]; decide) rfl ?_
  refine z_iinc (v := (l7 + 1)) hX [(7, .int (l7 + 1)), (4, .long s0), (0, va_rf (some h0)), (1, .int l1), (2, .int l2), (3, .int l3), (6, .int l6)] dX11_isStopped_139 6 rfl rfl (by rw [hnL]; decide) rfl ?_
  refine z_goto (tgt := 62) hX dX11_isStopped_142 (by decide) ?_
  refine z_loc [2, 3, 4, 5, 1, 6, 0] rfl ?_
  exact hR62 _ _ _ _ _ _ _ h
def lp_X11_isStopped_62 (h0 : Nat) (R48 : Int32 → Int32 → Int32 → Int64 → Int32 → Mm → Prop) (K : Int32 → Mm → Prop) : Nat → Int32 → Int32 → Int32 → Int64 → Int32 → Int32 → Mm → Prop
  | 0, _, _, _, _, _, _, _ => False
  | n + 1, l1, l2, l3, l4, l6, l7, M => mK M h0 = 12 ∧ ∃ a2, (mR M 718 h0) = some a2 ∧ isA M a2 1 ∧ vp_in ((12 : Int32) + l6) (aN M a2) ∧ (((aI M a2 (((12 : Int32) + l6)).toNatClampNeg) ≤ l7 → (bk_X11_isStopped_145 h0 R48 K l1 l2 l3 l4 l6 M)) ∧ (¬ (aI M a2 (((12 : Int32) + l6)).toNatClampNeg) ≤ l7 → (wp_X11_kindOf M h0 l6 (fun r6 M7 => ((¬ r6 = 0 → (bk_X11_isStopped_145 h0 R48 K l1 l2 l3 l4 l6 M7)) ∧ (r6 = 0 → mK M7 h0 = 12 ∧ ∃ a10, (mR M7 723 h0) = some a10 ∧ isA M7 a10 1 ∧ vp_in ((12 : Int32) + l6) (aN M7 a10) ∧ ((¬ (aI M7 a10 (((12 : Int32) + l6)).toNatClampNeg) = l3 → (bk_X11_isStopped_145 h0 R48 K l1 l2 l3 l4 l6 M7)) ∧ ((aI M7 a10 (((12 : Int32) + l6)).toNatClampNeg) = l3 → ∃ a14, (mR M7 735 h0) = some a14 ∧ isA M7 a14 1 ∧ vp_in (((4 : Int32) * l6) + l7) (aN M7 a14) ∧ ((¬ (aI M7 a14 ((((4 : Int32) * l6) + l7)).toNatClampNeg) = 0 → (bk_X11_isStopped_137 h0 R48 (lp_X11_isStopped_62 h0 R48 K n) K l1 l2 l3 l6 l7 l4 M7)) ∧ ((aI M7 a14 ((((4 : Int32) * l6) + l7)).toNatClampNeg) = 0 → ∃ a18, (mR M7 736 h0) = some a18 ∧ isA M7 a18 2 ∧ vp_in (((4 : Int32) * l6) + l7) (aN M7 a18) ∧ (bk_X11_isStopped_137 h0 R48 (lp_X11_isStopped_62 h0 R48 K n) K l1 l2 l3 l6 l7 (if (aJ M7 a18 ((((4 : Int32) * l6) + l7)).toNatClampNeg) < l4 then (aJ M7 a18 ((((4 : Int32) * l6) + l7)).toNatClampNeg) else l4) M7)))))))))))
set_option maxRecDepth 100000 in
set_option maxHeartbeats 4000000 in
theorem zl_X11_isStopped_62 {X : Cx} {h0 : Nat} {R48 : Int32 → Int32 → Int32 → Int64 → Int32 → Mm → Prop} {K : Int32 → Mm → Prop} (hX : Ok X cX11_isStopped RX11 rm_X11_isStopped) (hQ : Rq X rm_X11_isStopped (some .boolean) (QI K)) (hnL : X.2.2.2.2.2.2.2.2.2.2.2.2.2.2 = 8) (hR48 : ∀ l1 l2 l3 l4 l6 M, R48 l1 l2 l3 l4 l6 M → Z X M 0 0 48 [(0, va_rf (some h0)), (1, .int l1), (2, .int l2), (3, .int l3), (4, .long l4), (6, .int l6)] []) : ∀ (n : Nat) (l1 : Int32) (l2 : Int32) (l3 : Int32) (l4 : Int64) (l6 : Int32) (l7 : Int32) (M : Mm), lp_X11_isStopped_62 h0 R48 K n l1 l2 l3 l4 l6 l7 M → Z X M 0 0 62 [(0, va_rf (some h0)), (1, .int l1), (2, .int l2), (3, .int l3), (4, .long l4), (6, .int l6), (7, .int l7)] [] := by
  intro n
  induction n with
  | zero =>
    intro l1 l2 l3 l4 l6 l7 M h
    exact False.elim h
  | succ n hR62 =>
    intro l1 l2 l3 l4 l6 l7 M h
    refine z_iload hX dX11_isStopped_62 6 rfl ?_
    refine z_aload_n (r := (some h0)) hX dX11_isStopped_64 rfl 0 rfl ?_
    obtain ⟨hk1, h⟩ := h
    refine gf_RX11_26 (r := (some h0)) hX dX11_isStopped_65 rfl hk1 ?_
    refine z_bipush (v := (12 : Int32)) hX dX11_isStopped_68 (by decide) ?_
    refine z_iload hX dX11_isStopped_70 5 rfl ?_
    refine z_iadd hX dX11_isStopped_72 ?_
    obtain ⟨a2, ha3, h⟩ := h
    obtain ⟨hk4, h⟩ := h
    obtain ⟨hc5, h⟩ := h
    refine y_iald (r := (mR M 718 h0)) hX dX11_isStopped_73 ha3 hk4 hc5 ?_
    obtain ⟨h1, h2⟩ := h
    refine z_icmp_ge (tgt := 145) hX dX11_isStopped_74 (by decide) (fun hc => ?_) (fun hc => ?_)
    · have h := h1 hc
      refine z_loc [0, 1, 2, 3, 4, 5] rfl ?_
      exact zb_X11_isStopped_145 hX hQ hnL hR48 h
    · have h := h2 hc
      refine z_aload_n (r := (some h0)) hX dX11_isStopped_77 rfl 0 rfl ?_
      refine z_iload hX dX11_isStopped_78 5 rfl ?_
      refine z_callVI (As := [.int l6]) (rest := []) (ci := 11) hX (ct_X11_kindOf h) mw_RX11_308 rfl (by decide) rfl (by rfl) (by unfold RoomC; decide) (by decide) dX11_isStopped_80 hk1 (fun r6 M7 h => ?_)
      obtain ⟨h1, h2⟩ := h
      refine z_if_ne (tgt := 145) hX dX11_isStopped_83 (by decide) (fun hc => ?_) (fun hc => ?_)
      · have h := h1 hc
        refine z_loc [0, 1, 2, 3, 4, 5] rfl ?_
        exact zb_X11_isStopped_145 hX hQ hnL hR48 h
      · have h := h2 hc
        refine z_aload_n (r := (some h0)) hX dX11_isStopped_86 rfl 0 rfl ?_
        obtain ⟨hk9, h⟩ := h
        refine gf_RX11_42 (r := (some h0)) hX dX11_isStopped_87 rfl hk9 ?_
        refine z_bipush (v := (12 : Int32)) hX dX11_isStopped_90 (by decide) ?_
        refine z_iload hX dX11_isStopped_92 5 rfl ?_
        refine z_iadd hX dX11_isStopped_94 ?_
        obtain ⟨a10, ha11, h⟩ := h
        obtain ⟨hk12, h⟩ := h
        obtain ⟨hc13, h⟩ := h
        refine y_iald (r := (mR M7 723 h0)) hX dX11_isStopped_95 ha11 hk12 hc13 ?_
        refine z_iload_n hX dX11_isStopped_96 rfl 3 rfl ?_
        obtain ⟨h1, h2⟩ := h
        refine z_icmp_ne (tgt := 145) hX dX11_isStopped_97 (by decide) (fun hc => ?_) (fun hc => ?_)
        · have h := h1 hc
          refine z_loc [0, 1, 2, 3, 4, 5] rfl ?_
          exact zb_X11_isStopped_145 hX hQ hnL hR48 h
        · have h := h2 hc
          refine z_aload_n (r := (some h0)) hX dX11_isStopped_100 rfl 0 rfl ?_
          refine gf_RX11_69 (r := (some h0)) hX dX11_isStopped_101 rfl hk9 ?_
          refine z_iconst (v := (4 : Int32)) hX dX11_isStopped_104 (by decide) ?_
          refine z_iload hX dX11_isStopped_105 5 rfl ?_
          refine z_imul hX dX11_isStopped_107 ?_
          refine z_iload hX dX11_isStopped_108 6 rfl ?_
          refine z_iadd hX dX11_isStopped_110 ?_
          obtain ⟨a14, ha15, h⟩ := h
          obtain ⟨hk16, h⟩ := h
          obtain ⟨hc17, h⟩ := h
          refine y_iald (r := (mR M7 735 h0)) hX dX11_isStopped_111 ha15 hk16 hc17 ?_
          obtain ⟨h1, h2⟩ := h
          refine z_if_ne (tgt := 135) hX dX11_isStopped_112 (by decide) (fun hc => ?_) (fun hc => ?_)
          · have h := h1 hc
            refine z_lload hX dX11_isStopped_135 4 rfl ?_
            refine z_loc [0, 1, 2, 3, 5, 6] rfl ?_
            exact zb_X11_isStopped_137 hX hQ hnL hR48 hR62 h
          · have h := h2 hc
            refine z_lload hX dX11_isStopped_115 4 rfl ?_
            refine z_aload_n (r := (some h0)) hX dX11_isStopped_117 rfl 0 rfl ?_
            refine gf_RX11_72 (r := (some h0)) hX dX11_isStopped_118 rfl hk9 ?_
            refine z_iconst (v := (4 : Int32)) hX dX11_isStopped_121 (by decide) ?_
            refine z_iload hX dX11_isStopped_122 5 rfl ?_
            refine z_imul hX dX11_isStopped_124 ?_
            refine z_iload hX dX11_isStopped_125 6 rfl ?_
            refine z_iadd hX dX11_isStopped_127 ?_
            obtain ⟨a18, ha19, h⟩ := h
            obtain ⟨hk20, h⟩ := h
            obtain ⟨hc21, h⟩ := h
            refine y_lald (r := (mR M7 736 h0)) hX dX11_isStopped_128 ha19 hk20 hc21 ?_
            refine mw_RX11_378 hX dX11_isStopped_129 (by decide) (by decide) (by decide) (by decide) ?_
            refine z_goto (tgt := 137) hX dX11_isStopped_132 (by decide) ?_
            refine z_loc [0, 1, 2, 3, 5, 6] rfl ?_
            exact zb_X11_isStopped_137 hX hQ hnL hR48 hR62 h
def lp_X11_isStopped_48 (h0 : Nat) (K : Int32 → Mm → Prop) : Nat → Int32 → Int32 → Int32 → Int64 → Int32 → Mm → Prop
  | 0, _, _, _, _, _, _ => False
  | n + 1, l1, l2, l3, l4, l6, M => mK M h0 = 12 ∧ ∃ a23, (mR M 729 h0) = some a23 ∧ isA M a23 1 ∧ vp_in (1 : Int32) (aN M a23) ∧ (((aI M a23 ((1 : Int32)).toNatClampNeg) ≤ l6 → ∃ a27, (mR M 736 h0) = some a27 ∧ isA M a27 2 ∧ vp_in (((4 : Int32) * l1) + l2) (aN M a27) ∧ ∃ a31, (mR M 728 h0) = some a31 ∧ isA M a31 2 ∧ vp_in ((4 : Int32) + l3) (aN M a31) ∧ (wp_X11_plus M l4 (aJ M a31 (((4 : Int32) + l3)).toNatClampNeg) (fun r35 M36 => (((aJ M a27 ((((4 : Int32) * l1) + l2)).toNatClampNeg) ≤ r35 → (bk_X11_isStopped_183 h0 K (0 : Int32) M36)) ∧ (¬ (aJ M a27 ((((4 : Int32) * l1) + l2)).toNatClampNeg) ≤ r35 → (bk_X11_isStopped_183 h0 K (1 : Int32) M36)))))) ∧ (¬ (aI M a23 ((1 : Int32)).toNatClampNeg) ≤ l6 → (∃ kk, lp_X11_isStopped_62 h0 (lp_X11_isStopped_48 h0 K n) K kk l1 l2 l3 l4 l6 (0 : Int32) M)))
set_option maxRecDepth 100000 in
set_option maxHeartbeats 4000000 in
theorem zl_X11_isStopped_48 {X : Cx} {h0 : Nat} {K : Int32 → Mm → Prop} (hX : Ok X cX11_isStopped RX11 rm_X11_isStopped) (hQ : Rq X rm_X11_isStopped (some .boolean) (QI K)) (hnL : X.2.2.2.2.2.2.2.2.2.2.2.2.2.2 = 8) : ∀ (n : Nat) (l1 : Int32) (l2 : Int32) (l3 : Int32) (l4 : Int64) (l6 : Int32) (M : Mm), lp_X11_isStopped_48 h0 K n l1 l2 l3 l4 l6 M → Z X M 0 0 48 [(0, va_rf (some h0)), (1, .int l1), (2, .int l2), (3, .int l3), (4, .long l4), (6, .int l6)] [] := by
  intro n
  induction n with
  | zero =>
    intro l1 l2 l3 l4 l6 M h
    exact False.elim h
  | succ n hR48 =>
    intro l1 l2 l3 l4 l6 M h
    refine z_iload hX dX11_isStopped_48 5 rfl ?_
    refine z_aload_n (r := (some h0)) hX dX11_isStopped_50 rfl 0 rfl ?_
    obtain ⟨hk22, h⟩ := h
    refine gf_RX11_60 (r := (some h0)) hX dX11_isStopped_51 rfl hk22 ?_
    refine z_iconst (v := (1 : Int32)) hX dX11_isStopped_54 (by decide) ?_
    obtain ⟨a23, ha24, h⟩ := h
    obtain ⟨hk25, h⟩ := h
    obtain ⟨hc26, h⟩ := h
    refine y_iald (r := (mR M 729 h0)) hX dX11_isStopped_55 ha24 hk25 hc26 ?_
    obtain ⟨h1, h2⟩ := h
    refine z_icmp_ge (tgt := 151) hX dX11_isStopped_56 (by decide) (fun hc => ?_) (fun hc => ?_)
    · have h := h1 hc
      refine z_aload_n (r := (some h0)) hX dX11_isStopped_151 rfl 0 rfl ?_
      refine gf_RX11_72 (r := (some h0)) hX dX11_isStopped_152 rfl hk22 ?_
      refine z_iconst (v := (4 : Int32)) hX dX11_isStopped_155 (by decide) ?_
      refine z_iload_n hX dX11_isStopped_156 rfl 1 rfl ?_
      refine z_imul hX dX11_isStopped_157 ?_
      refine z_iload_n hX dX11_isStopped_158 rfl 2 rfl ?_
      refine z_iadd hX dX11_isStopped_159 ?_
      obtain ⟨a27, ha28, h⟩ := h
      obtain ⟨hk29, h⟩ := h
      obtain ⟨hc30, h⟩ := h
      refine y_lald (r := (mR M 736 h0)) hX dX11_isStopped_160 ha28 hk29 hc30 ?_
      refine z_lload hX dX11_isStopped_161 4 rfl ?_
      refine z_aload_n (r := (some h0)) hX dX11_isStopped_163 rfl 0 rfl ?_
      refine gf_RX11_57 (r := (some h0)) hX dX11_isStopped_164 rfl hk22 ?_
      refine z_iconst (v := (4 : Int32)) hX dX11_isStopped_167 (by decide) ?_
      refine z_iload_n hX dX11_isStopped_168 rfl 3 rfl ?_
      refine z_iadd hX dX11_isStopped_169 ?_
      obtain ⟨a31, ha32, h⟩ := h
      obtain ⟨hk33, h⟩ := h
      obtain ⟨hc34, h⟩ := h
      refine y_lald (r := (mR M 728 h0)) hX dX11_isStopped_170 ha32 hk33 hc34 ?_
      refine z_callSJ (As := [.long l4, .long (aJ M a31 (((4 : Int32) + l3)).toNatClampNeg)]) (rest := [.long (aJ M a27 ((((4 : Int32) * l1) + l2)).toNatClampNeg)]) hX (ct_X11_plus h) mw_RX11_311 rfl (by rfl) (by unfold RoomC; decide) (by simp only [List.map_cons, List.map_nil, List.sum_cons, List.sum_nil, cat_rf, cat_i, cat_j]; decide) dX11_isStopped_171 (fun r35 M36 h => ?_)
      refine z_lcmp hX dX11_isStopped_174 ?_
      obtain ⟨h1, h2⟩ := h
      refine z_if_le (tgt := 182) hX dX11_isStopped_175 (by decide) (fun hc => ?_) (fun hc => ?_)
      · have h := h1 ((lg_cmp_le _ _).mp hc)
        refine z_iconst (v := (0 : Int32)) hX dX11_isStopped_182 (by decide) ?_
        refine z_loc [] rfl ?_
        exact zb_X11_isStopped_183 hX hQ hnL h
      · have h := h2 (fun q => hc ((lg_cmp_le _ _).mpr q))
        refine z_iconst (v := (1 : Int32)) hX dX11_isStopped_178 (by decide) ?_
        refine z_goto (tgt := 183) hX dX11_isStopped_179 (by decide) ?_
        refine z_loc [] rfl ?_
        exact zb_X11_isStopped_183 hX hQ hnL h
    · have h := h2 hc
      refine z_iconst (v := (0 : Int32)) hX dX11_isStopped_59 (by decide) ?_
      refine z_istore hX [(7, .int (0 : Int32)), (0, va_rf (some h0)), (1, .int l1), (2, .int l2), (3, .int l3), (4, .long l4), (6, .int l6)] dX11_isStopped_60 (by rw [hnL]; decide) rfl ?_
      refine z_loc [1, 2, 3, 4, 5, 6, 0] rfl ?_
      obtain ⟨n, h⟩ := h
      exact zl_X11_isStopped_62 hX hQ hnL hR48 n _ _ _ _ _ _ _ h
def wp_X11_isStopped (M : Mm) (h0 : Nat) (p1 : Int32) (p2 : Int32) (K : Int32 → Mm → Prop) : Prop := mK M h0 = 12 ∧ ∃ a39, (mR M 723 h0) = some a39 ∧ isA M a39 1 ∧ vp_in ((12 : Int32) + p1) (aN M a39) ∧ ∃ a43, (mR M 735 h0) = some a43 ∧ isA M a43 1 ∧ vp_in (((4 : Int32) * p1) + p2) (aN M a43) ∧ ((¬ (aI M a43 ((((4 : Int32) * p1) + p2)).toNatClampNeg) = 0 → (bk_X11_isStopped_38 h0 K M)) ∧ ((aI M a43 ((((4 : Int32) * p1) + p2)).toNatClampNeg) = 0 → (((aI M a39 (((12 : Int32) + p1)).toNatClampNeg) < 0 → (bk_X11_isStopped_38 h0 K M)) ∧ (¬ (aI M a39 (((12 : Int32) + p1)).toNatClampNeg) < 0 → ∃ a47, (mR M 727 h0) = some a47 ∧ isA M a47 3 ∧ vp_in ((4 : Int32) + (aI M a39 (((12 : Int32) + p1)).toNatClampNeg)) (aN M a47) ∧ ((¬ (aI M a47 (((4 : Int32) + (aI M a39 (((12 : Int32) + p1)).toNatClampNeg))).toNatClampNeg) = 0 → (∃ kk, lp_X11_isStopped_48 h0 K kk p1 p2 (aI M a39 (((12 : Int32) + p1)).toNatClampNeg) (9000000000000000000 : Int64) (0 : Int32) M)) ∧ ((aI M a47 (((4 : Int32) + (aI M a39 (((12 : Int32) + p1)).toNatClampNeg))).toNatClampNeg) = 0 → (bk_X11_isStopped_38 h0 K M)))))))
set_option maxRecDepth 100000 in
set_option maxHeartbeats 4000000 in
theorem ct_X11_isStopped {M : Mm} {h0 : Nat} {p1 : Int32} {p2 : Int32} {K : Int32 → Mm → Prop} (h : wp_X11_isStopped M h0 p1 p2 K) : CtI yX11_isStopped cX11_isStopped 8 (some .boolean) rm_X11_isStopped [.ref h0, .int p1, .int p2] M K := by
  refine ct_any (QI K) (by decide) (by exact Nat.le_of_ble_eq_true rfl) (fun X hX hQ hnL hnm => ?_)
  rw [show lv_args 0 [.ref h0, .int p1, .int p2] = [(0, va_rf (some h0)), (1, .int p1), (2, .int p2)] by rfl]
  have hX : Ok X cX11_isStopped RX11 rm_X11_isStopped := hX
  unfold wp_X11_isStopped at h
  refine z_aload_n (r := (some h0)) hX dX11_isStopped_0 rfl 0 rfl ?_
  obtain ⟨hk38, h⟩ := h
  refine gf_RX11_42 (r := (some h0)) hX dX11_isStopped_1 rfl hk38 ?_
  refine z_bipush (v := (12 : Int32)) hX dX11_isStopped_4 (by decide) ?_
  refine z_iload_n hX dX11_isStopped_6 rfl 1 rfl ?_
  refine z_iadd hX dX11_isStopped_7 ?_
  obtain ⟨a39, ha40, h⟩ := h
  obtain ⟨hk41, h⟩ := h
  obtain ⟨hc42, h⟩ := h
  refine y_iald (r := (mR M 723 h0)) hX dX11_isStopped_8 ha40 hk41 hc42 ?_
  refine z_istore_n hX [(3, .int (aI M a39 (((12 : Int32) + p1)).toNatClampNeg)), (0, va_rf (some h0)), (1, .int p1), (2, .int p2)] dX11_isStopped_9 rfl (by rw [hnL]; decide) rfl ?_
  refine z_aload_n (r := (some h0)) hX dX11_isStopped_10 rfl 1 rfl ?_
  refine gf_RX11_69 (r := (some h0)) hX dX11_isStopped_11 rfl hk38 ?_
  refine z_iconst (v := (4 : Int32)) hX dX11_isStopped_14 (by decide) ?_
  refine z_iload_n hX dX11_isStopped_15 rfl 2 rfl ?_
  refine z_imul hX dX11_isStopped_16 ?_
  refine z_iload_n hX dX11_isStopped_17 rfl 3 rfl ?_
  refine z_iadd hX dX11_isStopped_18 ?_
  obtain ⟨a43, ha44, h⟩ := h
  obtain ⟨hk45, h⟩ := h
  obtain ⟨hc46, h⟩ := h
  refine y_iald (r := (mR M 735 h0)) hX dX11_isStopped_19 ha44 hk45 hc46 ?_
  obtain ⟨h1, h2⟩ := h
  refine z_if_ne (tgt := 38) hX dX11_isStopped_20 (by decide) (fun hc => ?_) (fun hc => ?_)
  · have h := h1 hc
    refine z_loc [] rfl ?_
    exact zb_X11_isStopped_38 hX hQ hnL h
  · have h := h2 hc
    refine z_iload_n hX dX11_isStopped_23 rfl 0 rfl ?_
    obtain ⟨h1, h2⟩ := h
    refine z_if_lt (tgt := 38) hX dX11_isStopped_24 (by decide) (fun hc => ?_) (fun hc => ?_)
    · have h := h1 hc
      refine z_loc [] rfl ?_
      exact zb_X11_isStopped_38 hX hQ hnL h
    · have h := h2 hc
      refine z_aload_n (r := (some h0)) hX dX11_isStopped_27 rfl 1 rfl ?_
      refine gf_RX11_54 (r := (some h0)) hX dX11_isStopped_28 rfl hk38 ?_
      refine z_iconst (v := (4 : Int32)) hX dX11_isStopped_31 (by decide) ?_
      refine z_iload_n hX dX11_isStopped_32 rfl 0 rfl ?_
      refine z_iadd hX dX11_isStopped_33 ?_
      obtain ⟨a47, ha48, h⟩ := h
      obtain ⟨hk49, h⟩ := h
      obtain ⟨hc50, h⟩ := h
      refine y_zald (r := (mR M 727 h0)) hX dX11_isStopped_34 ha48 hk49 hc50 ?_
      obtain ⟨h1, h2⟩ := h
      refine z_if_ne (tgt := 40) hX dX11_isStopped_35 (by decide) (fun hc => ?_) (fun hc => ?_)
      · have h := h1 hc
        refine z_ldc2 (v := (9000000000000000000 : Int64)) hX dX11_isStopped_40 kj_RX11_298 ?_
        refine z_lstore hX [(4, .long (9000000000000000000 : Int64)), (3, .int (aI M a39 (((12 : Int32) + p1)).toNatClampNeg)), (0, va_rf (some h0)), (1, .int p1), (2, .int p2)] dX11_isStopped_43 (by rw [hnL]; decide) rfl ?_
        refine z_iconst (v := (0 : Int32)) hX dX11_isStopped_45 (by decide) ?_
        refine z_istore hX [(6, .int (0 : Int32)), (4, .long (9000000000000000000 : Int64)), (3, .int (aI M a39 (((12 : Int32) + p1)).toNatClampNeg)), (0, va_rf (some h0)), (1, .int p1), (2, .int p2)] dX11_isStopped_46 (by rw [hnL]; decide) rfl ?_
        refine z_loc [3, 4, 5, 2, 1, 0] rfl ?_
        obtain ⟨n, h⟩ := h
        exact zl_X11_isStopped_48 hX hQ hnL n _ _ _ _ _ _ h
      · have h := h2 hc
        refine z_loc [] rfl ?_
        exact zb_X11_isStopped_38 hX hQ hnL h
def rm_X11_hear : Room := { frames := 0, cells := 0, slots := 0, locals := 0 }
def wp_X11_hear (M : Mm) (h0 : Nat) (p1 : Int32) (p2 : Int32) (K : Mm → Prop) : Prop := mK M h0 = 12 ∧ ∃ a2, (mR M 735 h0) = some a2 ∧ isA M a2 1 ∧ vp_in (((4 : Int32) * p1) + p2) (aN M a2) ∧ ∃ a6, (mR (tI M a2 ((((4 : Int32) * p1) + p2)).toNatClampNeg (0 : Int32)) 737 h0) = some a6 ∧ isA (tI M a2 ((((4 : Int32) * p1) + p2)).toNatClampNeg (0 : Int32)) a6 1 ∧ vp_in (((4 : Int32) * p1) + p2) (aN (tI M a2 ((((4 : Int32) * p1) + p2)).toNatClampNeg (0 : Int32)) a6) ∧ (K (tI (tI M a2 ((((4 : Int32) * p1) + p2)).toNatClampNeg (0 : Int32)) a6 ((((4 : Int32) * p1) + p2)).toNatClampNeg (mI (tI M a2 ((((4 : Int32) * p1) + p2)).toNatClampNeg (0 : Int32)) 738 h0)))
set_option maxRecDepth 100000 in
set_option maxHeartbeats 4000000 in
theorem ct_X11_hear {M : Mm} {h0 : Nat} {p1 : Int32} {p2 : Int32} {K : Mm → Prop} (h : wp_X11_hear M h0 p1 p2 K) : CtV yX11_hear cX11_hear 3 none rm_X11_hear [.ref h0, .int p1, .int p2] M K := by
  refine ct_any (QV K) (by decide) (by exact Nat.le_of_ble_eq_true rfl) (fun X hX hQ hnL hnm => ?_)
  rw [show lv_args 0 [.ref h0, .int p1, .int p2] = [(0, va_rf (some h0)), (1, .int p1), (2, .int p2)] by rfl]
  have hX : Ok X cX11_hear RX11 rm_X11_hear := hX
  unfold wp_X11_hear at h
  refine z_aload_n (r := (some h0)) hX dX11_hear_0 rfl 0 rfl ?_
  obtain ⟨hk1, h⟩ := h
  refine gf_RX11_69 (r := (some h0)) hX dX11_hear_1 rfl hk1 ?_
  refine z_iconst (v := (4 : Int32)) hX dX11_hear_4 (by decide) ?_
  refine z_iload_n hX dX11_hear_5 rfl 1 rfl ?_
  refine z_imul hX dX11_hear_6 ?_
  refine z_iload_n hX dX11_hear_7 rfl 2 rfl ?_
  refine z_iadd hX dX11_hear_8 ?_
  refine z_iconst (v := (0 : Int32)) hX dX11_hear_9 (by decide) ?_
  obtain ⟨a2, ha3, h⟩ := h
  obtain ⟨hk4, h⟩ := h
  obtain ⟨hc5, h⟩ := h
  refine y_iast (r := (mR M 735 h0)) hX dX11_hear_10 ha3 hk4 hc5 ?_
  refine z_aload_n (r := (some h0)) hX dX11_hear_11 rfl 0 rfl ?_
  refine gf_RX11_75 (r := (some h0)) hX dX11_hear_12 rfl hk1 ?_
  refine z_iconst (v := (4 : Int32)) hX dX11_hear_15 (by decide) ?_
  refine z_iload_n hX dX11_hear_16 rfl 1 rfl ?_
  refine z_imul hX dX11_hear_17 ?_
  refine z_iload_n hX dX11_hear_18 rfl 2 rfl ?_
  refine z_iadd hX dX11_hear_19 ?_
  refine z_aload_n (r := (some h0)) hX dX11_hear_20 rfl 0 rfl ?_
  refine gf_RX11_292 (r := (some h0)) hX dX11_hear_21 rfl hk1 ?_
  obtain ⟨a6, ha7, h⟩ := h
  obtain ⟨hk8, h⟩ := h
  obtain ⟨hc9, h⟩ := h
  refine y_iast (r := (mR (tI M a2 ((((4 : Int32) * p1) + p2)).toNatClampNeg (0 : Int32)) 737 h0)) hX dX11_hear_24 ha7 hk8 hc9 ?_
  exact z_vret hX hQ dX11_hear_25 h
def rm_X11_mustBe : Room := { frames := 1, cells := 0, slots := 0, locals := 21 }
def bk_X11_mustBe_40 (h0 : Nat) (K : Int32 → Mm → Prop) (s0 : Int32) (M : Mm) : Prop := (bz s0 ∧ K s0 M)
set_option maxRecDepth 100000 in
set_option maxHeartbeats 4000000 in
theorem zb_X11_mustBe_40 {X : Cx} {h0 : Nat} {K : Int32 → Mm → Prop} (hX : Ok X cX11_mustBe RX11 rm_X11_mustBe) (hQ : Rq X rm_X11_mustBe (some .boolean) (QI K)) (hnL : X.2.2.2.2.2.2.2.2.2.2.2.2.2.2 = 2) {s0 : Int32} {M : Mm} (h : bk_X11_mustBe_40 h0 K s0 M) : Z X M 0 0 40 [] [.int s0] := by
  unfold bk_X11_mustBe_40 at h
  exact y_zret hX hQ dX11_mustBe_40 h.1 h.2
def bk_X11_mustBe_25 (h0 : Nat) (K : Int32 → Mm → Prop) (s0 : Int32) (s1 : Option Nat) (M : Mm) : Prop := ∃ a1, s1 = some a1 ∧ mK M a1 = 12 ∧ mK (sI M 704 a1 s0) h0 = 12 ∧ ((¬ (mI (sI M 704 a1 s0) 704 h0) = 0 → (bk_X11_mustBe_40 h0 K (0 : Int32) (sI M 704 a1 s0))) ∧ ((mI (sI M 704 a1 s0) 704 h0) = 0 → (bk_X11_mustBe_40 h0 K (1 : Int32) (sI M 704 a1 s0))))
set_option maxRecDepth 100000 in
set_option maxHeartbeats 4000000 in
theorem zb_X11_mustBe_25 {X : Cx} {h0 : Nat} {K : Int32 → Mm → Prop} (hX : Ok X cX11_mustBe RX11 rm_X11_mustBe) (hQ : Rq X rm_X11_mustBe (some .boolean) (QI K)) (hnL : X.2.2.2.2.2.2.2.2.2.2.2.2.2.2 = 2) {s0 : Int32} {s1 : Option Nat} {M : Mm} (h : bk_X11_mustBe_25 h0 K s0 s1 M) : Z X M 0 0 25 [(0, va_rf (some h0))] [.int s0, va_rf s1] := by
  unfold bk_X11_mustBe_25 at h
  obtain ⟨a1, ha2, h⟩ := h
  obtain ⟨hk3, h⟩ := h
  refine pf_RX11_123 (r := s1) (v := s0) hX dX11_mustBe_25 ha2 hk3 ?_
  refine z_aload_n (r := (some h0)) hX dX11_mustBe_28 rfl 0 rfl ?_
  obtain ⟨hk5, h⟩ := h
  refine gf_RX11_123 (r := (some h0)) hX dX11_mustBe_29 rfl hk5 ?_
  obtain ⟨h1, h2⟩ := h
  refine z_if_ne (tgt := 39) hX dX11_mustBe_32 (by decide) (fun hc => ?_) (fun hc => ?_)
  · have h := h1 hc
    refine z_iconst (v := (0 : Int32)) hX dX11_mustBe_39 (by decide) ?_
    refine z_loc [] rfl ?_
    exact zb_X11_mustBe_40 hX hQ hnL h
  · have h := h2 hc
    refine z_iconst (v := (1 : Int32)) hX dX11_mustBe_35 (by decide) ?_
    refine z_goto (tgt := 40) hX dX11_mustBe_36 (by decide) ?_
    refine z_loc [] rfl ?_
    exact zb_X11_mustBe_40 hX hQ hnL h
def wp_X11_mustBe (M : Mm) (h0 : Nat) (p1 : Int32) (K : Int32 → Mm → Prop) : Prop := mK M h0 = 12 ∧ ((¬ (mI M 732 h0) = 0 → (wp_X11_isStream M h0 p1 (fun r7 M8 => ((r7 = 0 → (bk_X11_mustBe_25 h0 K (2 : Int32) (some h0) M8)) ∧ (¬ r7 = 0 → (bk_X11_mustBe_25 h0 K (0 : Int32) (some h0) M8)))))) ∧ ((mI M 732 h0) = 0 → (bk_X11_mustBe_25 h0 K (1 : Int32) (some h0) M)))
set_option maxRecDepth 100000 in
set_option maxHeartbeats 4000000 in
theorem ct_X11_mustBe {M : Mm} {h0 : Nat} {p1 : Int32} {K : Int32 → Mm → Prop} (h : wp_X11_mustBe M h0 p1 K) : CtI yX11_mustBe cX11_mustBe 2 (some .boolean) rm_X11_mustBe [.ref h0, .int p1] M K := by
  refine ct_any (QI K) (by decide) (by exact Nat.le_of_ble_eq_true rfl) (fun X hX hQ hnL hnm => ?_)
  rw [show lv_args 0 [.ref h0, .int p1] = [(0, va_rf (some h0)), (1, .int p1)] by rfl]
  have hX : Ok X cX11_mustBe RX11 rm_X11_mustBe := hX
  unfold wp_X11_mustBe at h
  refine z_aload_n (r := (some h0)) hX dX11_mustBe_0 rfl 0 rfl ?_
  refine z_aload_n (r := (some h0)) hX dX11_mustBe_1 rfl 0 rfl ?_
  obtain ⟨hk6, h⟩ := h
  refine gf_RX11_277 (r := (some h0)) hX dX11_mustBe_2 rfl hk6 ?_
  obtain ⟨h1, h2⟩ := h
  refine z_if_ne (tgt := 12) hX dX11_mustBe_5 (by decide) (fun hc => ?_) (fun hc => ?_)
  · have h := h1 hc
    refine z_aload_n (r := (some h0)) hX dX11_mustBe_12 rfl 0 rfl ?_
    refine z_iload_n hX dX11_mustBe_13 rfl 1 rfl ?_
    refine z_callVI (As := [.int p1]) (rest := [va_rf (some h0)]) (ci := 11) hX (ct_X11_isStream h) mw_RX11_371 rfl (by decide) rfl (by rfl) (by unfold RoomC; decide) (by simp only [List.map_cons, List.map_nil, List.sum_cons, List.sum_nil, cat_rf, cat_i, cat_j]; decide) dX11_mustBe_14 hk6 (fun r7 M8 h => ?_)
    obtain ⟨h1, h2⟩ := h
    refine z_if_eq (tgt := 24) hX dX11_mustBe_17 (by decide) (fun hc => ?_) (fun hc => ?_)
    · have h := h1 hc
      refine z_iconst (v := (2 : Int32)) hX dX11_mustBe_24 (by decide) ?_
      refine z_loc [0] rfl ?_
      exact zb_X11_mustBe_25 hX hQ hnL h
    · have h := h2 hc
      refine z_iconst (v := (0 : Int32)) hX dX11_mustBe_20 (by decide) ?_
      refine z_goto (tgt := 25) hX dX11_mustBe_21 (by decide) ?_
      refine z_loc [0] rfl ?_
      exact zb_X11_mustBe_25 hX hQ hnL h
  · have h := h2 hc
    refine z_iconst (v := (1 : Int32)) hX dX11_mustBe_8 (by decide) ?_
    refine z_goto (tgt := 25) hX dX11_mustBe_9 (by decide) ?_
    refine z_loc [0] rfl ?_
    exact zb_X11_mustBe_25 hX hQ hnL h
def rm_X11_watermark : Room := { frames := 2, cells := 0, slots := 0, locals := 42 }
def bk_X11_watermark_18 (h0 : Nat) (K : Int64 → Mm → Prop) (s0 : Int64) (M : Mm) : Prop := (K s0 M)
set_option maxRecDepth 100000 in
set_option maxHeartbeats 4000000 in
theorem zb_X11_watermark_18 {X : Cx} {h0 : Nat} {K : Int64 → Mm → Prop} (hX : Ok X cX11_watermark RX11 rm_X11_watermark) (hQ : Rq X rm_X11_watermark (some .long) (QJ K)) (hnL : X.2.2.2.2.2.2.2.2.2.2.2.2.2.2 = 2) {s0 : Int64} {M : Mm} (h : bk_X11_watermark_18 h0 K s0 M) : Z X M 0 0 18 [] [.long s0] := by
  unfold bk_X11_watermark_18 at h
  exact z_lret hX hQ dX11_watermark_18 h
def wp_X11_watermark (M : Mm) (h0 : Nat) (p1 : Int32) (K : Int64 → Mm → Prop) : Prop := mK M h0 = 12 ∧ (wp_X11_mustBe M h0 p1 (fun r1 M2 => ((r1 = 0 → (bk_X11_watermark_18 h0 K (0 : Int64) M2)) ∧ (¬ r1 = 0 → mK M2 h0 = 12 ∧ ∃ a6, (mR M2 733 h0) = some a6 ∧ isA M2 a6 2 ∧ vp_in p1 (aN M2 a6) ∧ (bk_X11_watermark_18 h0 K (aJ M2 a6 (p1).toNatClampNeg) M2)))))
set_option maxRecDepth 100000 in
set_option maxHeartbeats 4000000 in
theorem ct_X11_watermark {M : Mm} {h0 : Nat} {p1 : Int32} {K : Int64 → Mm → Prop} (h : wp_X11_watermark M h0 p1 K) : CtJ yX11_watermark cX11_watermark 2 (some .long) rm_X11_watermark [.ref h0, .int p1] M K := by
  refine ct_any (QJ K) (by decide) (by exact Nat.le_of_ble_eq_true rfl) (fun X hX hQ hnL hnm => ?_)
  rw [show lv_args 0 [.ref h0, .int p1] = [(0, va_rf (some h0)), (1, .int p1)] by rfl]
  have hX : Ok X cX11_watermark RX11 rm_X11_watermark := hX
  unfold wp_X11_watermark at h
  refine z_aload_n (r := (some h0)) hX dX11_watermark_0 rfl 0 rfl ?_
  refine z_iload_n hX dX11_watermark_1 rfl 1 rfl ?_
  obtain ⟨hk3, h⟩ := h
  refine z_callVI (As := [.int p1]) (rest := []) (ci := 11) hX (ct_X11_mustBe h) mw_RX11_398 rfl (by decide) rfl (by rfl) (by unfold RoomC; decide) (by decide) dX11_watermark_2 hk3 (fun r1 M2 h => ?_)
  obtain ⟨h1, h2⟩ := h
  refine z_if_eq (tgt := 17) hX dX11_watermark_5 (by decide) (fun hc => ?_) (fun hc => ?_)
  · have h := h1 hc
    refine z_lconst (v := (0 : Int64)) hX dX11_watermark_17 (by decide) ?_
    refine z_loc [] rfl ?_
    exact zb_X11_watermark_18 hX hQ hnL h
  · have h := h2 hc
    refine z_aload_n (r := (some h0)) hX dX11_watermark_8 rfl 0 rfl ?_
    obtain ⟨hk5, h⟩ := h
    refine gf_RX11_63 (r := (some h0)) hX dX11_watermark_9 rfl hk5 ?_
    refine z_iload_n hX dX11_watermark_12 rfl 1 rfl ?_
    obtain ⟨a6, ha7, h⟩ := h
    obtain ⟨hk8, h⟩ := h
    obtain ⟨hc9, h⟩ := h
    refine y_lald (r := (mR M2 733 h0)) hX dX11_watermark_13 ha7 hk8 hc9 ?_
    refine z_goto (tgt := 18) hX dX11_watermark_14 (by decide) ?_
    refine z_loc [] rfl ?_
    exact zb_X11_watermark_18 hX hQ hnL h
def rm_X11_isIdle : Room := { frames := 2, cells := 0, slots := 0, locals := 42 }
def bk_X11_isIdle_22 (h0 : Nat) (K : Int32 → Mm → Prop) (s0 : Int32) (M : Mm) : Prop := (bz s0 ∧ K s0 M)
set_option maxRecDepth 100000 in
set_option maxHeartbeats 4000000 in
theorem zb_X11_isIdle_22 {X : Cx} {h0 : Nat} {K : Int32 → Mm → Prop} (hX : Ok X cX11_isIdle RX11 rm_X11_isIdle) (hQ : Rq X rm_X11_isIdle (some .boolean) (QI K)) (hnL : X.2.2.2.2.2.2.2.2.2.2.2.2.2.2 = 2) {s0 : Int32} {M : Mm} (h : bk_X11_isIdle_22 h0 K s0 M) : Z X M 0 0 22 [] [.int s0] := by
  unfold bk_X11_isIdle_22 at h
  exact y_zret hX hQ dX11_isIdle_22 h.1 h.2
def bk_X11_isIdle_21 (h0 : Nat) (K : Int32 → Mm → Prop) (M : Mm) : Prop := (bk_X11_isIdle_22 h0 K (0 : Int32) M)
set_option maxRecDepth 100000 in
set_option maxHeartbeats 4000000 in
theorem zb_X11_isIdle_21 {X : Cx} {h0 : Nat} {K : Int32 → Mm → Prop} (hX : Ok X cX11_isIdle RX11 rm_X11_isIdle) (hQ : Rq X rm_X11_isIdle (some .boolean) (QI K)) (hnL : X.2.2.2.2.2.2.2.2.2.2.2.2.2.2 = 2) {M : Mm} (h : bk_X11_isIdle_21 h0 K M) : Z X M 0 0 21 [] [] := by
  unfold bk_X11_isIdle_21 at h
  refine z_iconst (v := (0 : Int32)) hX dX11_isIdle_21 (by decide) ?_
  exact zb_X11_isIdle_22 hX hQ hnL h
def wp_X11_isIdle (M : Mm) (h0 : Nat) (p1 : Int32) (K : Int32 → Mm → Prop) : Prop := mK M h0 = 12 ∧ (wp_X11_mustBe M h0 p1 (fun r1 M2 => ((r1 = 0 → (bk_X11_isIdle_21 h0 K M2)) ∧ (¬ r1 = 0 → mK M2 h0 = 12 ∧ ∃ a6, (mR M2 734 h0) = some a6 ∧ isA M2 a6 3 ∧ vp_in p1 (aN M2 a6) ∧ (((aI M2 a6 (p1).toNatClampNeg) = 0 → (bk_X11_isIdle_21 h0 K M2)) ∧ (¬ (aI M2 a6 (p1).toNatClampNeg) = 0 → (bk_X11_isIdle_22 h0 K (1 : Int32) M2)))))))
set_option maxRecDepth 100000 in
set_option maxHeartbeats 4000000 in
theorem ct_X11_isIdle {M : Mm} {h0 : Nat} {p1 : Int32} {K : Int32 → Mm → Prop} (h : wp_X11_isIdle M h0 p1 K) : CtI yX11_isIdle cX11_isIdle 2 (some .boolean) rm_X11_isIdle [.ref h0, .int p1] M K := by
  refine ct_any (QI K) (by decide) (by exact Nat.le_of_ble_eq_true rfl) (fun X hX hQ hnL hnm => ?_)
  rw [show lv_args 0 [.ref h0, .int p1] = [(0, va_rf (some h0)), (1, .int p1)] by rfl]
  have hX : Ok X cX11_isIdle RX11 rm_X11_isIdle := hX
  unfold wp_X11_isIdle at h
  refine z_aload_n (r := (some h0)) hX dX11_isIdle_0 rfl 0 rfl ?_
  refine z_iload_n hX dX11_isIdle_1 rfl 1 rfl ?_
  obtain ⟨hk3, h⟩ := h
  refine z_callVI (As := [.int p1]) (rest := []) (ci := 11) hX (ct_X11_mustBe h) mw_RX11_398 rfl (by decide) rfl (by rfl) (by unfold RoomC; decide) (by decide) dX11_isIdle_2 hk3 (fun r1 M2 h => ?_)
  obtain ⟨h1, h2⟩ := h
  refine z_if_eq (tgt := 21) hX dX11_isIdle_5 (by decide) (fun hc => ?_) (fun hc => ?_)
  · have h := h1 hc
    refine z_loc [] rfl ?_
    exact zb_X11_isIdle_21 hX hQ hnL h
  · have h := h2 hc
    refine z_aload_n (r := (some h0)) hX dX11_isIdle_8 rfl 0 rfl ?_
    obtain ⟨hk5, h⟩ := h
    refine gf_RX11_66 (r := (some h0)) hX dX11_isIdle_9 rfl hk5 ?_
    refine z_iload_n hX dX11_isIdle_12 rfl 1 rfl ?_
    obtain ⟨a6, ha7, h⟩ := h
    obtain ⟨hk8, h⟩ := h
    obtain ⟨hc9, h⟩ := h
    refine y_zald (r := (mR M2 734 h0)) hX dX11_isIdle_13 ha7 hk8 hc9 ?_
    obtain ⟨h1, h2⟩ := h
    refine z_if_eq (tgt := 21) hX dX11_isIdle_14 (by decide) (fun hc => ?_) (fun hc => ?_)
    · have h := h1 hc
      refine z_loc [] rfl ?_
      exact zb_X11_isIdle_21 hX hQ hnL h
    · have h := h2 hc
      refine z_iconst (v := (1 : Int32)) hX dX11_isIdle_17 (by decide) ?_
      refine z_goto (tgt := 22) hX dX11_isIdle_18 (by decide) ?_
      refine z_loc [] rfl ?_
      exact zb_X11_isIdle_22 hX hQ hnL h
def rm_X11_promise : Room := { frames := 2, cells := 0, slots := 0, locals := 43 }
def bk_X11_promise_50 (h0 : Nat) (K : Int64 → Mm → Prop) (s0 : Int64) (M : Mm) : Prop := (K s0 M)
set_option maxRecDepth 100000 in
set_option maxHeartbeats 4000000 in
theorem zb_X11_promise_50 {X : Cx} {h0 : Nat} {K : Int64 → Mm → Prop} (hX : Ok X cX11_promise RX11 rm_X11_promise) (hQ : Rq X rm_X11_promise (some .long) (QJ K)) (hnL : X.2.2.2.2.2.2.2.2.2.2.2.2.2.2 = 3) {s0 : Int64} {M : Mm} (h : bk_X11_promise_50 h0 K s0 M) : Z X M 0 0 50 [] [.long s0] := by
  unfold bk_X11_promise_50 at h
  exact z_lret hX hQ dX11_promise_50 h
def bk_X11_promise_26 (h0 : Nat) (K : Int64 → Mm → Prop) (l1 : Int32) (l2 : Int32) (s0 : Int32) (s1 : Option Nat) (M : Mm) : Prop := ∃ a1, s1 = some a1 ∧ mK M a1 = 12 ∧ mK (sI M 704 a1 s0) h0 = 12 ∧ ((¬ (mI (sI M 704 a1 s0) 704 h0) = 0 → (bk_X11_promise_50 h0 K (0 : Int64) (sI M 704 a1 s0))) ∧ ((mI (sI M 704 a1 s0) 704 h0) = 0 → ∃ a6, (mR (sI M 704 a1 s0) 736 h0) = some a6 ∧ isA (sI M 704 a1 s0) a6 2 ∧ vp_in (((4 : Int32) * l1) + l2) (aN (sI M 704 a1 s0) a6) ∧ (bk_X11_promise_50 h0 K (aJ (sI M 704 a1 s0) a6 ((((4 : Int32) * l1) + l2)).toNatClampNeg) (sI M 704 a1 s0))))
set_option maxRecDepth 100000 in
set_option maxHeartbeats 4000000 in
theorem zb_X11_promise_26 {X : Cx} {h0 : Nat} {K : Int64 → Mm → Prop} (hX : Ok X cX11_promise RX11 rm_X11_promise) (hQ : Rq X rm_X11_promise (some .long) (QJ K)) (hnL : X.2.2.2.2.2.2.2.2.2.2.2.2.2.2 = 3) {l1 : Int32} {l2 : Int32} {s0 : Int32} {s1 : Option Nat} {M : Mm} (h : bk_X11_promise_26 h0 K l1 l2 s0 s1 M) : Z X M 0 0 26 [(0, va_rf (some h0)), (1, .int l1), (2, .int l2)] [.int s0, va_rf s1] := by
  unfold bk_X11_promise_26 at h
  obtain ⟨a1, ha2, h⟩ := h
  obtain ⟨hk3, h⟩ := h
  refine pf_RX11_123 (r := s1) (v := s0) hX dX11_promise_26 ha2 hk3 ?_
  refine z_aload_n (r := (some h0)) hX dX11_promise_29 rfl 0 rfl ?_
  obtain ⟨hk5, h⟩ := h
  refine gf_RX11_123 (r := (some h0)) hX dX11_promise_30 rfl hk5 ?_
  obtain ⟨h1, h2⟩ := h
  refine z_if_ne (tgt := 49) hX dX11_promise_33 (by decide) (fun hc => ?_) (fun hc => ?_)
  · have h := h1 hc
    refine z_lconst (v := (0 : Int64)) hX dX11_promise_49 (by decide) ?_
    refine z_loc [] rfl ?_
    exact zb_X11_promise_50 hX hQ hnL h
  · have h := h2 hc
    refine z_aload_n (r := (some h0)) hX dX11_promise_36 rfl 0 rfl ?_
    refine gf_RX11_72 (r := (some h0)) hX dX11_promise_37 rfl hk5 ?_
    refine z_iconst (v := (4 : Int32)) hX dX11_promise_40 (by decide) ?_
    refine z_iload_n hX dX11_promise_41 rfl 1 rfl ?_
    refine z_imul hX dX11_promise_42 ?_
    refine z_iload_n hX dX11_promise_43 rfl 2 rfl ?_
    refine z_iadd hX dX11_promise_44 ?_
    obtain ⟨a6, ha7, h⟩ := h
    obtain ⟨hk8, h⟩ := h
    obtain ⟨hc9, h⟩ := h
    refine y_lald (r := (mR (sI M 704 a1 s0) 736 h0)) hX dX11_promise_45 ha7 hk8 hc9 ?_
    refine z_goto (tgt := 50) hX dX11_promise_46 (by decide) ?_
    refine z_loc [] rfl ?_
    exact zb_X11_promise_50 hX hQ hnL h
def wp_X11_promise (M : Mm) (h0 : Nat) (p1 : Int32) (p2 : Int32) (K : Int64 → Mm → Prop) : Prop := mK M h0 = 12 ∧ ((¬ (mI M 732 h0) = 0 → (wp_X11_isPart M h0 p1 p2 (fun r11 M12 => ((r11 = 0 → (bk_X11_promise_26 h0 K p1 p2 (2 : Int32) (some h0) M12)) ∧ (¬ r11 = 0 → (bk_X11_promise_26 h0 K p1 p2 (0 : Int32) (some h0) M12)))))) ∧ ((mI M 732 h0) = 0 → (bk_X11_promise_26 h0 K p1 p2 (1 : Int32) (some h0) M)))
set_option maxRecDepth 100000 in
set_option maxHeartbeats 4000000 in
theorem ct_X11_promise {M : Mm} {h0 : Nat} {p1 : Int32} {p2 : Int32} {K : Int64 → Mm → Prop} (h : wp_X11_promise M h0 p1 p2 K) : CtJ yX11_promise cX11_promise 3 (some .long) rm_X11_promise [.ref h0, .int p1, .int p2] M K := by
  refine ct_any (QJ K) (by decide) (by exact Nat.le_of_ble_eq_true rfl) (fun X hX hQ hnL hnm => ?_)
  rw [show lv_args 0 [.ref h0, .int p1, .int p2] = [(0, va_rf (some h0)), (1, .int p1), (2, .int p2)] by rfl]
  have hX : Ok X cX11_promise RX11 rm_X11_promise := hX
  unfold wp_X11_promise at h
  refine z_aload_n (r := (some h0)) hX dX11_promise_0 rfl 0 rfl ?_
  refine z_aload_n (r := (some h0)) hX dX11_promise_1 rfl 0 rfl ?_
  obtain ⟨hk10, h⟩ := h
  refine gf_RX11_277 (r := (some h0)) hX dX11_promise_2 rfl hk10 ?_
  obtain ⟨h1, h2⟩ := h
  refine z_if_ne (tgt := 12) hX dX11_promise_5 (by decide) (fun hc => ?_) (fun hc => ?_)
  · have h := h1 hc
    refine z_aload_n (r := (some h0)) hX dX11_promise_12 rfl 0 rfl ?_
    refine z_iload_n hX dX11_promise_13 rfl 1 rfl ?_
    refine z_iload_n hX dX11_promise_14 rfl 2 rfl ?_
    refine z_callVI (As := [.int p1, .int p2]) (rest := [va_rf (some h0)]) (ci := 11) hX (ct_X11_isPart h) mw_RX11_381 rfl (by decide) rfl (by rfl) (by unfold RoomC; decide) (by simp only [List.map_cons, List.map_nil, List.sum_cons, List.sum_nil, cat_rf, cat_i, cat_j]; decide) dX11_promise_15 hk10 (fun r11 M12 h => ?_)
    obtain ⟨h1, h2⟩ := h
    refine z_if_eq (tgt := 25) hX dX11_promise_18 (by decide) (fun hc => ?_) (fun hc => ?_)
    · have h := h1 hc
      refine z_iconst (v := (2 : Int32)) hX dX11_promise_25 (by decide) ?_
      exact zb_X11_promise_26 hX hQ hnL h
    · have h := h2 hc
      refine z_iconst (v := (0 : Int32)) hX dX11_promise_21 (by decide) ?_
      refine z_goto (tgt := 26) hX dX11_promise_22 (by decide) ?_
      exact zb_X11_promise_26 hX hQ hnL h
  · have h := h2 hc
    refine z_iconst (v := (1 : Int32)) hX dX11_promise_8 (by decide) ?_
    refine z_goto (tgt := 26) hX dX11_promise_9 (by decide) ?_
    exact zb_X11_promise_26 hX hQ hnL h
def rm_X11_part : Room := { frames := 2, cells := 0, slots := 0, locals := 52 }
def bk_X11_part_39 (h0 : Nat) (K : Int32 → Mm → Prop) (s0 : Int32) (M : Mm) : Prop := (K s0 M)
set_option maxRecDepth 100000 in
set_option maxHeartbeats 4000000 in
theorem zb_X11_part_39 {X : Cx} {h0 : Nat} {K : Int32 → Mm → Prop} (hX : Ok X cX11_part RX11 rm_X11_part) (hQ : Rq X rm_X11_part (some .int) (QI K)) (hnL : X.2.2.2.2.2.2.2.2.2.2.2.2.2.2 = 3) {s0 : Int32} {M : Mm} (h : bk_X11_part_39 h0 K s0 M) : Z X M 0 0 39 [] [.int s0] := by
  unfold bk_X11_part_39 at h
  exact z_iret hX hQ dX11_part_39 h
def wp_X11_part (M : Mm) (h0 : Nat) (p1 : Int32) (p2 : Int32) (K : Int32 → Mm → Prop) : Prop := mK M h0 = 12 ∧ (wp_X11_isPart (sI M 704 h0 (0 : Int32)) h0 p1 p2 (fun r3 M4 => ((¬ r3 = 0 → mK M4 h0 = 12 ∧ (wp_X11_isStopped M4 h0 p1 p2 (fun r6 M7 => ((r6 = 0 → mK M7 h0 = 12 ∧ ∃ a11, (mR M7 735 h0) = some a11 ∧ isA M7 a11 1 ∧ vp_in (((4 : Int32) * p1) + p2) (aN M7 a11) ∧ (bk_X11_part_39 h0 K (aI M7 a11 ((((4 : Int32) * p1) + p2)).toNatClampNeg) M7)) ∧ (¬ r6 = 0 → (bk_X11_part_39 h0 K (3 : Int32) M7)))))) ∧ (r3 = 0 → (K (-1 : Int32) M4)))))
set_option maxRecDepth 100000 in
set_option maxHeartbeats 4000000 in
theorem ct_X11_part {M : Mm} {h0 : Nat} {p1 : Int32} {p2 : Int32} {K : Int32 → Mm → Prop} (h : wp_X11_part M h0 p1 p2 K) : CtI yX11_part cX11_part 3 (some .int) rm_X11_part [.ref h0, .int p1, .int p2] M K := by
  refine ct_any (QI K) (by decide) (by exact Nat.le_of_ble_eq_true rfl) (fun X hX hQ hnL hnm => ?_)
  rw [show lv_args 0 [.ref h0, .int p1, .int p2] = [(0, va_rf (some h0)), (1, .int p1), (2, .int p2)] by rfl]
  have hX : Ok X cX11_part RX11 rm_X11_part := hX
  unfold wp_X11_part at h
  refine z_aload_n (r := (some h0)) hX dX11_part_0 rfl 0 rfl ?_
  refine z_iconst (v := (0 : Int32)) hX dX11_part_1 (by decide) ?_
  obtain ⟨hk1, h⟩ := h
  refine pf_RX11_123 (r := (some h0)) (v := (0 : Int32)) hX dX11_part_2 rfl hk1 ?_
  refine z_aload_n (r := (some h0)) hX dX11_part_5 rfl 0 rfl ?_
  refine z_iload_n hX dX11_part_6 rfl 1 rfl ?_
  refine z_iload_n hX dX11_part_7 rfl 2 rfl ?_
  refine z_callVI (As := [.int p1, .int p2]) (rest := []) (ci := 11) hX (ct_X11_isPart h) mw_RX11_381 rfl (by decide) rfl (by rfl) (by unfold RoomC; decide) (by decide) dX11_part_8 hk1 (fun r3 M4 h => ?_)
  obtain ⟨h1, h2⟩ := h
  refine z_if_ne (tgt := 16) hX dX11_part_11 (by decide) (fun hc => ?_) (fun hc => ?_)
  · have h := h1 hc
    refine z_aload_n (r := (some h0)) hX dX11_part_16 rfl 0 rfl ?_
    refine z_iload_n hX dX11_part_17 rfl 1 rfl ?_
    refine z_iload_n hX dX11_part_18 rfl 2 rfl ?_
    obtain ⟨hk8, h⟩ := h
    refine z_callVI (As := [.int p1, .int p2]) (rest := []) (ci := 11) hX (ct_X11_isStopped h) mw_RX11_389 rfl (by decide) rfl (by rfl) (by unfold RoomC; decide) (by decide) dX11_part_19 hk8 (fun r6 M7 h => ?_)
    obtain ⟨h1, h2⟩ := h
    refine z_if_eq (tgt := 29) hX dX11_part_22 (by decide) (fun hc => ?_) (fun hc => ?_)
    · have h := h1 hc
      refine z_aload_n (r := (some h0)) hX dX11_part_29 rfl 0 rfl ?_
      obtain ⟨hk10, h⟩ := h
      refine gf_RX11_69 (r := (some h0)) hX dX11_part_30 rfl hk10 ?_
      refine z_iconst (v := (4 : Int32)) hX dX11_part_33 (by decide) ?_
      refine z_iload_n hX dX11_part_34 rfl 1 rfl ?_
      refine z_imul hX dX11_part_35 ?_
      refine z_iload_n hX dX11_part_36 rfl 2 rfl ?_
      refine z_iadd hX dX11_part_37 ?_
      obtain ⟨a11, ha12, h⟩ := h
      obtain ⟨hk13, h⟩ := h
      obtain ⟨hc14, h⟩ := h
      refine y_iald (r := (mR M7 735 h0)) hX dX11_part_38 ha12 hk13 hc14 ?_
      refine z_loc [] rfl ?_
      exact zb_X11_part_39 hX hQ hnL h
    · have h := h2 hc
      refine z_iconst (v := (3 : Int32)) hX dX11_part_25 (by decide) ?_
      refine z_goto (tgt := 39) hX dX11_part_26 (by decide) ?_
      refine z_loc [] rfl ?_
      exact zb_X11_part_39 hX hQ hnL h
  · have h := h2 hc
    refine z_iconst (v := (-1 : Int32)) hX dX11_part_14 (by decide) ?_
    exact z_iret hX hQ dX11_part_15 h
def rm_X11_heldIn : Room := { frames := 0, cells := 0, slots := 0, locals := 0 }
def bk_X11_heldIn_41 (h0 : Nat) (R4 : Int32 → Int32 → Int32 → Mm → Prop) (K : Int32 → Mm → Prop) (l1 : Int32) (l3 : Int32) (s0 : Int32) (s1 : Int32) (M : Mm) : Prop := (R4 l1 (s1 + s0) (l3 + 1) M)
set_option maxRecDepth 100000 in
set_option maxHeartbeats 4000000 in
theorem zb_X11_heldIn_41 {X : Cx} {h0 : Nat} {R4 : Int32 → Int32 → Int32 → Mm → Prop} {K : Int32 → Mm → Prop} (hX : Ok X cX11_heldIn RX11 rm_X11_heldIn) (hQ : Rq X rm_X11_heldIn (some .int) (QI K)) (hnL : X.2.2.2.2.2.2.2.2.2.2.2.2.2.2 = 4) (hR4 : ∀ l1 l2 l3 M, R4 l1 l2 l3 M → Z X M 0 0 4 [(0, va_rf (some h0)), (1, .int l1), (2, .int l2), (3, .int l3)] []) {l1 : Int32} {l3 : Int32} {s0 : Int32} {s1 : Int32} {M : Mm} (h : bk_X11_heldIn_41 h0 R4 K l1 l3 s0 s1 M) : Z X M 0 0 41 [(0, va_rf (some h0)), (1, .int l1), (3, .int l3)] [.int s0, .int s1] := by
  unfold bk_X11_heldIn_41 at h
  refine z_iadd hX dX11_heldIn_41 ?_
  refine z_istore_n hX [(2, .int (s1 + s0)), (0, va_rf (some h0)), (1, .int l1), (3, .int l3)] dX11_heldIn_42 rfl (by rw [hnL]; decide) rfl ?_
  refine z_iinc (v := (l3 + 1)) hX [(3, .int (l3 + 1)), (2, .int (s1 + s0)), (0, va_rf (some h0)), (1, .int l1)] dX11_heldIn_43 3 rfl rfl (by rw [hnL]; decide) rfl ?_
  refine z_goto (tgt := 4) hX dX11_heldIn_46 (by decide) ?_
  refine z_loc [2, 3, 1, 0] rfl ?_
  exact hR4 _ _ _ _ h
def bk_X11_heldIn_40 (h0 : Nat) (R4 : Int32 → Int32 → Int32 → Mm → Prop) (K : Int32 → Mm → Prop) (l1 : Int32) (l3 : Int32) (s0 : Int32) (M : Mm) : Prop := (bk_X11_heldIn_41 h0 R4 K l1 l3 (0 : Int32) s0 M)
set_option maxRecDepth 100000 in
set_option maxHeartbeats 4000000 in
theorem zb_X11_heldIn_40 {X : Cx} {h0 : Nat} {R4 : Int32 → Int32 → Int32 → Mm → Prop} {K : Int32 → Mm → Prop} (hX : Ok X cX11_heldIn RX11 rm_X11_heldIn) (hQ : Rq X rm_X11_heldIn (some .int) (QI K)) (hnL : X.2.2.2.2.2.2.2.2.2.2.2.2.2.2 = 4) (hR4 : ∀ l1 l2 l3 M, R4 l1 l2 l3 M → Z X M 0 0 4 [(0, va_rf (some h0)), (1, .int l1), (2, .int l2), (3, .int l3)] []) {l1 : Int32} {l3 : Int32} {s0 : Int32} {M : Mm} (h : bk_X11_heldIn_40 h0 R4 K l1 l3 s0 M) : Z X M 0 0 40 [(0, va_rf (some h0)), (1, .int l1), (3, .int l3)] [.int s0] := by
  unfold bk_X11_heldIn_40 at h
  refine z_iconst (v := (0 : Int32)) hX dX11_heldIn_40 (by decide) ?_
  exact zb_X11_heldIn_41 hX hQ hnL hR4 h
def bk_X11_heldIn_36 (h0 : Nat) (R4 : Int32 → Int32 → Int32 → Mm → Prop) (K : Int32 → Mm → Prop) (l1 : Int32) (l3 : Int32) (s0 : Int32) (M : Mm) : Prop := (bk_X11_heldIn_41 h0 R4 K l1 l3 (1 : Int32) s0 M)
set_option maxRecDepth 100000 in
set_option maxHeartbeats 4000000 in
theorem zb_X11_heldIn_36 {X : Cx} {h0 : Nat} {R4 : Int32 → Int32 → Int32 → Mm → Prop} {K : Int32 → Mm → Prop} (hX : Ok X cX11_heldIn RX11 rm_X11_heldIn) (hQ : Rq X rm_X11_heldIn (some .int) (QI K)) (hnL : X.2.2.2.2.2.2.2.2.2.2.2.2.2.2 = 4) (hR4 : ∀ l1 l2 l3 M, R4 l1 l2 l3 M → Z X M 0 0 4 [(0, va_rf (some h0)), (1, .int l1), (2, .int l2), (3, .int l3)] []) {l1 : Int32} {l3 : Int32} {s0 : Int32} {M : Mm} (h : bk_X11_heldIn_36 h0 R4 K l1 l3 s0 M) : Z X M 0 0 36 [(0, va_rf (some h0)), (1, .int l1), (3, .int l3)] [.int s0] := by
  unfold bk_X11_heldIn_36 at h
  refine z_iconst (v := (1 : Int32)) hX dX11_heldIn_36 (by decide) ?_
  refine z_goto (tgt := 41) hX dX11_heldIn_37 (by decide) ?_
  exact zb_X11_heldIn_41 hX hQ hnL hR4 h
def lp_X11_heldIn_4 (h0 : Nat) (K : Int32 → Mm → Prop) : Nat → Int32 → Int32 → Int32 → Mm → Prop
  | 0, _, _, _, _ => False
  | n + 1, l1, l2, l3, M => mK M h0 = 12 ∧ (((mI M 752 h0) ≤ l3 → (K l2 M)) ∧ (¬ (mI M 752 h0) ≤ l3 → ∃ a2, (mR M 755 h0) = some a2 ∧ isA M a2 3 ∧ vp_in l3 (aN M a2) ∧ (((aI M a2 (l3).toNatClampNeg) = 0 → (bk_X11_heldIn_40 h0 (lp_X11_heldIn_4 h0 K n) K l1 l3 l2 M)) ∧ (¬ (aI M a2 (l3).toNatClampNeg) = 0 → ((l1 < 0 → (bk_X11_heldIn_36 h0 (lp_X11_heldIn_4 h0 K n) K l1 l3 l2 M)) ∧ (¬ l1 < 0 → ∃ a6, (mR M 753 h0) = some a6 ∧ isA M a6 1 ∧ vp_in l3 (aN M a6) ∧ ((¬ (aI M a6 (l3).toNatClampNeg) = l1 → (bk_X11_heldIn_40 h0 (lp_X11_heldIn_4 h0 K n) K l1 l3 l2 M)) ∧ ((aI M a6 (l3).toNatClampNeg) = l1 → (bk_X11_heldIn_36 h0 (lp_X11_heldIn_4 h0 K n) K l1 l3 l2 M)))))))))
set_option maxRecDepth 100000 in
set_option maxHeartbeats 4000000 in
theorem zl_X11_heldIn_4 {X : Cx} {h0 : Nat} {K : Int32 → Mm → Prop} (hX : Ok X cX11_heldIn RX11 rm_X11_heldIn) (hQ : Rq X rm_X11_heldIn (some .int) (QI K)) (hnL : X.2.2.2.2.2.2.2.2.2.2.2.2.2.2 = 4) : ∀ (n : Nat) (l1 : Int32) (l2 : Int32) (l3 : Int32) (M : Mm), lp_X11_heldIn_4 h0 K n l1 l2 l3 M → Z X M 0 0 4 [(0, va_rf (some h0)), (1, .int l1), (2, .int l2), (3, .int l3)] [] := by
  intro n
  induction n with
  | zero =>
    intro l1 l2 l3 M h
    exact False.elim h
  | succ n hR4 =>
    intro l1 l2 l3 M h
    refine z_iload_n hX dX11_heldIn_4 rfl 3 rfl ?_
    refine z_aload_n (r := (some h0)) hX dX11_heldIn_5 rfl 0 rfl ?_
    obtain ⟨hk1, h⟩ := h
    refine gf_RX11_295 (r := (some h0)) hX dX11_heldIn_6 rfl hk1 ?_
    obtain ⟨h1, h2⟩ := h
    refine z_icmp_ge (tgt := 49) hX dX11_heldIn_9 (by decide) (fun hc => ?_) (fun hc => ?_)
    · have h := h1 hc
      refine z_iload_n hX dX11_heldIn_49 rfl 2 rfl ?_
      exact z_iret hX hQ dX11_heldIn_50 h
    · have h := h2 hc
      refine z_iload_n hX dX11_heldIn_12 rfl 2 rfl ?_
      refine z_aload_n (r := (some h0)) hX dX11_heldIn_13 rfl 0 rfl ?_
      refine gf_RX11_114 (r := (some h0)) hX dX11_heldIn_14 rfl hk1 ?_
      refine z_iload_n hX dX11_heldIn_17 rfl 3 rfl ?_
      obtain ⟨a2, ha3, h⟩ := h
      obtain ⟨hk4, h⟩ := h
      obtain ⟨hc5, h⟩ := h
      refine y_zald (r := (mR M 755 h0)) hX dX11_heldIn_18 ha3 hk4 hc5 ?_
      obtain ⟨h1, h2⟩ := h
      refine z_if_eq (tgt := 40) hX dX11_heldIn_19 (by decide) (fun hc => ?_) (fun hc => ?_)
      · have h := h1 hc
        refine z_loc [0, 1, 3] rfl ?_
        exact zb_X11_heldIn_40 hX hQ hnL hR4 h
      · have h := h2 hc
        refine z_iload_n hX dX11_heldIn_22 rfl 1 rfl ?_
        obtain ⟨h1, h2⟩ := h
        refine z_if_lt (tgt := 36) hX dX11_heldIn_23 (by decide) (fun hc => ?_) (fun hc => ?_)
        · have h := h1 hc
          refine z_loc [0, 1, 3] rfl ?_
          exact zb_X11_heldIn_36 hX hQ hnL hR4 h
        · have h := h2 hc
          refine z_aload_n (r := (some h0)) hX dX11_heldIn_26 rfl 0 rfl ?_
          refine gf_RX11_108 (r := (some h0)) hX dX11_heldIn_27 rfl hk1 ?_
          refine z_iload_n hX dX11_heldIn_30 rfl 3 rfl ?_
          obtain ⟨a6, ha7, h⟩ := h
          obtain ⟨hk8, h⟩ := h
          obtain ⟨hc9, h⟩ := h
          refine y_iald (r := (mR M 753 h0)) hX dX11_heldIn_31 ha7 hk8 hc9 ?_
          refine z_iload_n hX dX11_heldIn_32 rfl 1 rfl ?_
          obtain ⟨h1, h2⟩ := h
          refine z_icmp_ne (tgt := 40) hX dX11_heldIn_33 (by decide) (fun hc => ?_) (fun hc => ?_)
          · have h := h1 hc
            refine z_loc [0, 1, 3] rfl ?_
            exact zb_X11_heldIn_40 hX hQ hnL hR4 h
          · have h := h2 hc
            refine z_loc [0, 1, 3] rfl ?_
            exact zb_X11_heldIn_36 hX hQ hnL hR4 h
def wp_X11_heldIn (M : Mm) (h0 : Nat) (p1 : Int32) (K : Int32 → Mm → Prop) : Prop := (∃ kk, lp_X11_heldIn_4 h0 K kk p1 (0 : Int32) (0 : Int32) M)
set_option maxRecDepth 100000 in
set_option maxHeartbeats 4000000 in
theorem ct_X11_heldIn {M : Mm} {h0 : Nat} {p1 : Int32} {K : Int32 → Mm → Prop} (h : wp_X11_heldIn M h0 p1 K) : CtI yX11_heldIn cX11_heldIn 4 (some .int) rm_X11_heldIn [.ref h0, .int p1] M K := by
  refine ct_any (QI K) (by decide) (by exact Nat.le_of_ble_eq_true rfl) (fun X hX hQ hnL hnm => ?_)
  rw [show lv_args 0 [.ref h0, .int p1] = [(0, va_rf (some h0)), (1, .int p1)] by rfl]
  have hX : Ok X cX11_heldIn RX11 rm_X11_heldIn := hX
  unfold wp_X11_heldIn at h
  refine z_iconst (v := (0 : Int32)) hX dX11_heldIn_0 (by decide) ?_
  refine z_istore_n hX [(2, .int (0 : Int32)), (0, va_rf (some h0)), (1, .int p1)] dX11_heldIn_1 rfl (by rw [hnL]; decide) rfl ?_
  refine z_iconst (v := (0 : Int32)) hX dX11_heldIn_2 (by decide) ?_
  refine z_istore_n hX [(3, .int (0 : Int32)), (2, .int (0 : Int32)), (0, va_rf (some h0)), (1, .int p1)] dX11_heldIn_3 rfl (by rw [hnL]; decide) rfl ?_
  refine z_loc [2, 3, 1, 0] rfl ?_
  obtain ⟨n, h⟩ := h
  exact zl_X11_heldIn_4 hX hQ hnL n _ _ _ _ h
def rm_X11_noted : Room := { frames := 0, cells := 0, slots := 0, locals := 0 }
def bk_X11_noted_67 (h0 : Nat) (K : Int64 → Mm → Prop) (s0 : Int64) (M : Mm) : Prop := (K s0 M)
set_option maxRecDepth 100000 in
set_option maxHeartbeats 4000000 in
theorem zb_X11_noted_67 {X : Cx} {h0 : Nat} {K : Int64 → Mm → Prop} (hX : Ok X cX11_noted RX11 rm_X11_noted) (hQ : Rq X rm_X11_noted (some .long) (QJ K)) (hnL : X.2.2.2.2.2.2.2.2.2.2.2.2.2.2 = 7) {s0 : Int64} {M : Mm} (h : bk_X11_noted_67 h0 K s0 M) : Z X M 0 0 67 [] [.long s0] := by
  unfold bk_X11_noted_67 at h
  exact z_lret hX hQ dX11_noted_67 h
def bk_X11_noted_46 (h0 : Nat) (K : Int64 → Mm → Prop) (l1 : Option Nat) (l4 : Int32) (l5 : Int32) (l6 : Int32) (s0 : Int32) (s1 : Option Nat) (M : Mm) : Prop := ∃ a1, s1 = some a1 ∧ mK M a1 = 12 ∧ ((l6 = 0 → (bk_X11_noted_67 h0 K (0 : Int64) (sI M 704 a1 s0))) ∧ (¬ l6 = 0 → ∃ a5, l1 = some a5 ∧ isA (sI M 704 a1 s0) a5 2 ∧ vp_in (((4 : Int32) * l4) + l5) (aN (sI M 704 a1 s0) a5) ∧ (bk_X11_noted_67 h0 K (aJ (sI M 704 a1 s0) a5 ((((4 : Int32) * l4) + l5)).toNatClampNeg) (sI M 704 a1 s0))))
set_option maxRecDepth 100000 in
set_option maxHeartbeats 4000000 in
theorem zb_X11_noted_46 {X : Cx} {h0 : Nat} {K : Int64 → Mm → Prop} (hX : Ok X cX11_noted RX11 rm_X11_noted) (hQ : Rq X rm_X11_noted (some .long) (QJ K)) (hnL : X.2.2.2.2.2.2.2.2.2.2.2.2.2.2 = 7) {l1 : Option Nat} {l4 : Int32} {l5 : Int32} {l6 : Int32} {s0 : Int32} {s1 : Option Nat} {M : Mm} (h : bk_X11_noted_46 h0 K l1 l4 l5 l6 s0 s1 M) : Z X M 0 0 46 [(1, va_rf l1), (4, .int l4), (5, .int l5), (6, .int l6)] [.int s0, va_rf s1] := by
  unfold bk_X11_noted_46 at h
  obtain ⟨a1, ha2, h⟩ := h
  obtain ⟨hk3, h⟩ := h
  refine pf_RX11_123 (r := s1) (v := s0) hX dX11_noted_46 ha2 hk3 ?_
  refine z_iload hX dX11_noted_49 3 rfl ?_
  obtain ⟨h1, h2⟩ := h
  refine z_if_eq (tgt := 66) hX dX11_noted_51 (by decide) (fun hc => ?_) (fun hc => ?_)
  · have h := h1 hc
    refine z_lconst (v := (0 : Int64)) hX dX11_noted_66 (by decide) ?_
    refine z_loc [] rfl ?_
    exact zb_X11_noted_67 hX hQ hnL h
  · have h := h2 hc
    refine z_aload_n (r := l1) hX dX11_noted_54 rfl 0 rfl ?_
    refine z_iconst (v := (4 : Int32)) hX dX11_noted_55 (by decide) ?_
    refine z_iload hX dX11_noted_56 1 rfl ?_
    refine z_imul hX dX11_noted_58 ?_
    refine z_iload hX dX11_noted_59 2 rfl ?_
    refine z_iadd hX dX11_noted_61 ?_
    obtain ⟨a5, ha6, h⟩ := h
    obtain ⟨hk7, h⟩ := h
    obtain ⟨hc8, h⟩ := h
    refine y_lald (r := l1) hX dX11_noted_62 ha6 hk7 hc8 ?_
    refine z_goto (tgt := 67) hX dX11_noted_63 (by decide) ?_
    refine z_loc [] rfl ?_
    exact zb_X11_noted_67 hX hQ hnL h
def bk_X11_noted_33 (h0 : Nat) (K : Int64 → Mm → Prop) (l1 : Option Nat) (l4 : Int32) (l5 : Int32) (s0 : Int32) (M : Mm) : Prop := ((s0 = 0 → (bk_X11_noted_46 h0 K l1 l4 l5 s0 (1 : Int32) (some h0) M)) ∧ (¬ s0 = 0 → (bk_X11_noted_46 h0 K l1 l4 l5 s0 (0 : Int32) (some h0) M)))
set_option maxRecDepth 100000 in
set_option maxHeartbeats 4000000 in
theorem zb_X11_noted_33 {X : Cx} {h0 : Nat} {K : Int64 → Mm → Prop} (hX : Ok X cX11_noted RX11 rm_X11_noted) (hQ : Rq X rm_X11_noted (some .long) (QJ K)) (hnL : X.2.2.2.2.2.2.2.2.2.2.2.2.2.2 = 7) {l1 : Option Nat} {l4 : Int32} {l5 : Int32} {s0 : Int32} {M : Mm} (h : bk_X11_noted_33 h0 K l1 l4 l5 s0 M) : Z X M 0 0 33 [(0, va_rf (some h0)), (1, va_rf l1), (4, .int l4), (5, .int l5)] [.int s0] := by
  unfold bk_X11_noted_33 at h
  refine z_istore hX [(6, .int s0), (0, va_rf (some h0)), (1, va_rf l1), (4, .int l4), (5, .int l5)] dX11_noted_33 (by rw [hnL]; decide) rfl ?_
  refine z_aload_n (r := (some h0)) hX dX11_noted_35 rfl 1 rfl ?_
  refine z_iload hX dX11_noted_36 0 rfl ?_
  obtain ⟨h1, h2⟩ := h
  refine z_if_eq (tgt := 45) hX dX11_noted_38 (by decide) (fun hc => ?_) (fun hc => ?_)
  · have h := h1 hc
    refine z_iconst (v := (1 : Int32)) hX dX11_noted_45 (by decide) ?_
    refine z_loc [2, 3, 4, 0] rfl ?_
    exact zb_X11_noted_46 hX hQ hnL h
  · have h := h2 hc
    refine z_iconst (v := (0 : Int32)) hX dX11_noted_41 (by decide) ?_
    refine z_goto (tgt := 46) hX dX11_noted_42 (by decide) ?_
    refine z_loc [2, 3, 4, 0] rfl ?_
    exact zb_X11_noted_46 hX hQ hnL h
def bk_X11_noted_32 (h0 : Nat) (K : Int64 → Mm → Prop) (l1 : Option Nat) (l4 : Int32) (l5 : Int32) (M : Mm) : Prop := (bk_X11_noted_33 h0 K l1 l4 l5 (0 : Int32) M)
set_option maxRecDepth 100000 in
set_option maxHeartbeats 4000000 in
theorem zb_X11_noted_32 {X : Cx} {h0 : Nat} {K : Int64 → Mm → Prop} (hX : Ok X cX11_noted RX11 rm_X11_noted) (hQ : Rq X rm_X11_noted (some .long) (QJ K)) (hnL : X.2.2.2.2.2.2.2.2.2.2.2.2.2.2 = 7) {l1 : Option Nat} {l4 : Int32} {l5 : Int32} {M : Mm} (h : bk_X11_noted_32 h0 K l1 l4 l5 M) : Z X M 0 0 32 [(0, va_rf (some h0)), (1, va_rf l1), (4, .int l4), (5, .int l5)] [] := by
  unfold bk_X11_noted_32 at h
  refine z_iconst (v := (0 : Int32)) hX dX11_noted_32 (by decide) ?_
  exact zb_X11_noted_33 hX hQ hnL h
def wp_X11_noted (M : Mm) (h0 : Nat) (p1 : Option Nat) (p2 : Int32) (p3 : Int32) (p4 : Int32) (p5 : Int32) (K : Int64 → Mm → Prop) : Prop := ((p4 < 0 → (bk_X11_noted_32 h0 K p1 p4 p5 M)) ∧ (¬ p4 < 0 → ((p2 ≤ p4 → (bk_X11_noted_32 h0 K p1 p4 p5 M)) ∧ (¬ p2 ≤ p4 → ((p3 ≤ p4 → (bk_X11_noted_32 h0 K p1 p4 p5 M)) ∧ (¬ p3 ≤ p4 → ((p5 < 0 → (bk_X11_noted_32 h0 K p1 p4 p5 M)) ∧ (¬ p5 < 0 → (((3 : Int32) < p5 → (bk_X11_noted_32 h0 K p1 p4 p5 M)) ∧ (¬ (3 : Int32) < p5 → (bk_X11_noted_33 h0 K p1 p4 p5 (1 : Int32) M)))))))))))
set_option maxRecDepth 100000 in
set_option maxHeartbeats 4000000 in
theorem ct_X11_noted {M : Mm} {h0 : Nat} {p1 : Option Nat} {p2 : Int32} {p3 : Int32} {p4 : Int32} {p5 : Int32} {K : Int64 → Mm → Prop} (h : wp_X11_noted M h0 p1 p2 p3 p4 p5 K) : CtJ yX11_noted cX11_noted 7 (some .long) rm_X11_noted [.ref h0, va_rf p1, .int p2, .int p3, .int p4, .int p5] M K := by
  refine ct_any (QJ K) (by decide) (by cases p1 <;> exact Nat.le_of_ble_eq_true rfl) (fun X hX hQ hnL hnm => ?_)
  rw [show lv_args 0 [.ref h0, va_rf p1, .int p2, .int p3, .int p4, .int p5] = [(0, va_rf (some h0)), (1, va_rf p1), (2, .int p2), (3, .int p3), (4, .int p4), (5, .int p5)] by cases p1 <;> rfl]
  have hX : Ok X cX11_noted RX11 rm_X11_noted := hX
  unfold wp_X11_noted at h
  refine z_iload hX dX11_noted_0 4 rfl ?_
  obtain ⟨h1, h2⟩ := h
  refine z_if_lt (tgt := 32) hX dX11_noted_2 (by decide) (fun hc => ?_) (fun hc => ?_)
  · have h := h1 hc
    refine z_loc [0, 1, 4, 5] rfl ?_
    exact zb_X11_noted_32 hX hQ hnL h
  · have h := h2 hc
    refine z_iload hX dX11_noted_5 4 rfl ?_
    refine z_iload_n hX dX11_noted_7 rfl 2 rfl ?_
    obtain ⟨h1, h2⟩ := h
    refine z_icmp_ge (tgt := 32) hX dX11_noted_8 (by decide) (fun hc => ?_) (fun hc => ?_)
    · have h := h1 hc
      refine z_loc [0, 1, 4, 5] rfl ?_
      exact zb_X11_noted_32 hX hQ hnL h
    · have h := h2 hc
      refine z_iload hX dX11_noted_11 4 rfl ?_
      refine z_iload_n hX dX11_noted_13 rfl 3 rfl ?_
      obtain ⟨h1, h2⟩ := h
      refine z_icmp_ge (tgt := 32) hX dX11_noted_14 (by decide) (fun hc => ?_) (fun hc => ?_)
      · have h := h1 hc
        refine z_loc [0, 1, 4, 5] rfl ?_
        exact zb_X11_noted_32 hX hQ hnL h
      · have h := h2 hc
        refine z_iload hX dX11_noted_17 5 rfl ?_
        obtain ⟨h1, h2⟩ := h
        refine z_if_lt (tgt := 32) hX dX11_noted_19 (by decide) (fun hc => ?_) (fun hc => ?_)
        · have h := h1 hc
          refine z_loc [0, 1, 4, 5] rfl ?_
          exact zb_X11_noted_32 hX hQ hnL h
        · have h := h2 hc
          refine z_iload hX dX11_noted_22 5 rfl ?_
          refine z_iconst (v := (3 : Int32)) hX dX11_noted_24 (by decide) ?_
          obtain ⟨h1, h2⟩ := h
          refine z_icmp_gt (tgt := 32) hX dX11_noted_25 (by decide) (fun hc => ?_) (fun hc => ?_)
          · have h := h1 hc
            refine z_loc [0, 1, 4, 5] rfl ?_
            exact zb_X11_noted_32 hX hQ hnL h
          · have h := h2 hc
            refine z_iconst (v := (1 : Int32)) hX dX11_noted_28 (by decide) ?_
            refine z_goto (tgt := 33) hX dX11_noted_29 (by decide) ?_
            refine z_loc [0, 1, 4, 5] rfl ?_
            exact zb_X11_noted_33 hX hQ hnL h
def rm_X11_out : Room := { frames := 1, cells := 0, slots := 0, locals := 26 }
def wp_X11_out (M : Mm) (h0 : Nat) (p1 : Int32) (p2 : Int32) (K : Int64 → Mm → Prop) : Prop := mK M h0 = 12 ∧ (wp_X11_noted M h0 (mR M 740 h0) (mI M 739 h0) (300 : Int32) p1 p2 (fun r2 M3 => (K r2 M3)))
set_option maxRecDepth 100000 in
set_option maxHeartbeats 4000000 in
theorem ct_X11_out {M : Mm} {h0 : Nat} {p1 : Int32} {p2 : Int32} {K : Int64 → Mm → Prop} (h : wp_X11_out M h0 p1 p2 K) : CtJ yX11_out cX11_out 3 (some .long) rm_X11_out [.ref h0, .int p1, .int p2] M K := by
  refine ct_any (QJ K) (by decide) (by exact Nat.le_of_ble_eq_true rfl) (fun X hX hQ hnL hnm => ?_)
  rw [show lv_args 0 [.ref h0, .int p1, .int p2] = [(0, va_rf (some h0)), (1, .int p1), (2, .int p2)] by rfl]
  have hX : Ok X cX11_out RX11 rm_X11_out := hX
  unfold wp_X11_out at h
  refine z_aload_n (r := (some h0)) hX dX11_out_0 rfl 0 rfl ?_
  refine z_aload_n (r := (some h0)) hX dX11_out_1 rfl 0 rfl ?_
  obtain ⟨hk1, h⟩ := h
  refine gf_RX11_78 (r := (some h0)) hX dX11_out_2 rfl hk1 ?_
  refine z_aload_n (r := (some h0)) hX dX11_out_5 rfl 0 rfl ?_
  refine gf_RX11_283 (r := (some h0)) hX dX11_out_6 rfl hk1 ?_
  refine z_sipush (v := (300 : Int32)) hX dX11_out_9 (by decide) ?_
  refine z_iload_n hX dX11_out_12 rfl 1 rfl ?_
  refine z_iload_n hX dX11_out_13 rfl 2 rfl ?_
  refine z_callVJ (As := [va_rf (mR M 740 h0), .int (mI M 739 h0), .int (300 : Int32), .int p1, .int p2]) (rest := []) (ci := 11) hX (ct_X11_noted h) mw_RX11_404 rfl (by decide) rfl (by rfl) (by unfold RoomC; decide) (by decide) dX11_out_14 hk1 (fun r2 M3 h => ?_)
  exact z_lret hX hQ dX11_out_17 h
def rm_X11_late_ : Room := { frames := 1, cells := 0, slots := 0, locals := 26 }
def wp_X11_late_ (M : Mm) (h0 : Nat) (p1 : Int32) (p2 : Int32) (K : Int64 → Mm → Prop) : Prop := mK M h0 = 12 ∧ (wp_X11_noted M h0 (mR M 742 h0) (mI M 741 h0) (200 : Int32) p1 p2 (fun r2 M3 => (K r2 M3)))
set_option maxRecDepth 100000 in
set_option maxHeartbeats 4000000 in
theorem ct_X11_late_ {M : Mm} {h0 : Nat} {p1 : Int32} {p2 : Int32} {K : Int64 → Mm → Prop} (h : wp_X11_late_ M h0 p1 p2 K) : CtJ yX11_late_ cX11_late_ 3 (some .long) rm_X11_late_ [.ref h0, .int p1, .int p2] M K := by
  refine ct_any (QJ K) (by decide) (by exact Nat.le_of_ble_eq_true rfl) (fun X hX hQ hnL hnm => ?_)
  rw [show lv_args 0 [.ref h0, .int p1, .int p2] = [(0, va_rf (some h0)), (1, .int p1), (2, .int p2)] by rfl]
  have hX : Ok X cX11_late_ RX11 rm_X11_late_ := hX
  unfold wp_X11_late_ at h
  refine z_aload_n (r := (some h0)) hX dX11_late__0 rfl 0 rfl ?_
  refine z_aload_n (r := (some h0)) hX dX11_late__1 rfl 0 rfl ?_
  obtain ⟨hk1, h⟩ := h
  refine gf_RX11_81 (r := (some h0)) hX dX11_late__2 rfl hk1 ?_
  refine z_aload_n (r := (some h0)) hX dX11_late__5 rfl 0 rfl ?_
  refine gf_RX11_286 (r := (some h0)) hX dX11_late__6 rfl hk1 ?_
  refine z_sipush (v := (200 : Int32)) hX dX11_late__9 (by decide) ?_
  refine z_iload_n hX dX11_late__12 rfl 1 rfl ?_
  refine z_iload_n hX dX11_late__13 rfl 2 rfl ?_
  refine z_callVJ (As := [va_rf (mR M 742 h0), .int (mI M 741 h0), .int (200 : Int32), .int p1, .int p2]) (rest := []) (ci := 11) hX (ct_X11_noted h) mw_RX11_404 rfl (by decide) rfl (by rfl) (by unfold RoomC; decide) (by decide) dX11_late__14 hk1 (fun r2 M3 h => ?_)
  exact z_lret hX hQ dX11_late__17 h
