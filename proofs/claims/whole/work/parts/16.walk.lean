def rm_X11_turn : Room := { frames := 310, cells := 0, slots := 0, locals := 12237 }
def bk_X11_turn_24 (h0 : Nat) (K : Int32 → Mm → Prop) (M : Mm) : Prop := (K (-1 : Int32) M)
set_option maxRecDepth 100000 in
set_option maxHeartbeats 4000000 in
theorem zb_X11_turn_24 {X : Cx} {h0 : Nat} {K : Int32 → Mm → Prop} (hX : Ok X cX11_turn RX11 rm_X11_turn) (hQ : Rq X rm_X11_turn (some .int) (QI K)) (hnL : X.2.2.2.2.2.2.2.2.2.2.2.2.2.2 = 6) {M : Mm} (h : bk_X11_turn_24 h0 K M) : Z X M 0 0 24 [] [] := by
  unfold bk_X11_turn_24 at h
  refine z_iconst (v := (-1 : Int32)) hX dX11_turn_24 (by decide) ?_
  exact z_iret hX hQ dX11_turn_25 h
def bk_X11_turn_221 (h0 : Nat) (R165 : Int32 → Int32 → Mm → Prop) (R178 : Int32 → Int32 → Int32 → Mm → Prop) (K : Int32 → Mm → Prop) (l2 : Int32) (l3 : Int32) (l4 : Int32) (M : Mm) : Prop := (R178 l2 l3 (l4 + 1) M)
set_option maxRecDepth 100000 in
set_option maxHeartbeats 4000000 in
theorem zb_X11_turn_221 {X : Cx} {h0 : Nat} {R165 : Int32 → Int32 → Mm → Prop} {R178 : Int32 → Int32 → Int32 → Mm → Prop} {K : Int32 → Mm → Prop} (hX : Ok X cX11_turn RX11 rm_X11_turn) (hQ : Rq X rm_X11_turn (some .int) (QI K)) (hnL : X.2.2.2.2.2.2.2.2.2.2.2.2.2.2 = 6) (hR165 : ∀ l2 l3 M, R165 l2 l3 M → Z X M 0 0 165 [(0, va_rf (some h0)), (2, .int l2), (3, .int l3)] []) (hR178 : ∀ l2 l3 l4 M, R178 l2 l3 l4 M → Z X M 0 0 178 [(0, va_rf (some h0)), (2, .int l2), (3, .int l3), (4, .int l4)] []) {l2 : Int32} {l3 : Int32} {l4 : Int32} {M : Mm} (h : bk_X11_turn_221 h0 R165 R178 K l2 l3 l4 M) : Z X M 0 0 221 [(0, va_rf (some h0)), (2, .int l2), (3, .int l3), (4, .int l4)] [] := by
  unfold bk_X11_turn_221 at h
  refine z_iinc (v := (l4 + 1)) hX [(4, .int (l4 + 1)), (0, va_rf (some h0)), (2, .int l2), (3, .int l3)] dX11_turn_221 3 rfl rfl (by rw [hnL]; decide) rfl ?_
  refine z_goto (tgt := 178) hX dX11_turn_224 (by decide) ?_
  refine z_loc [1, 2, 3, 0] rfl ?_
  exact hR178 _ _ _ _ h
def lp_X11_turn_178 (h0 : Nat) (R165 : Int32 → Int32 → Mm → Prop) (K : Int32 → Mm → Prop) : Nat → Int32 → Int32 → Int32 → Mm → Prop
  | 0, _, _, _, _ => False
  | n + 1, l2, l3, l4, M => mK M h0 = 12 ∧ ∃ a2, (mR M 718 h0) = some a2 ∧ isA M a2 1 ∧ vp_in ((12 : Int32) + l3) (aN M a2) ∧ (((aI M a2 (((12 : Int32) + l3)).toNatClampNeg) ≤ l4 → (R165 l2 (l3 + 1) M)) ∧ (¬ (aI M a2 (((12 : Int32) + l3)).toNatClampNeg) ≤ l4 → ∃ a6, (mR M 758 h0) = some a6 ∧ isA M a6 3 ∧ vp_in (((4 : Int32) * l3) + l4) (aN M a6) ∧ (((aI M a6 ((((4 : Int32) * l3) + l4)).toNatClampNeg) = 0 → (bk_X11_turn_221 h0 R165 (lp_X11_turn_178 h0 R165 K n) K l2 l3 l4 M)) ∧ (¬ (aI M a6 ((((4 : Int32) * l3) + l4)).toNatClampNeg) = 0 → ∃ a10, (mR M 735 h0) = some a10 ∧ isA M a10 1 ∧ vp_in (((4 : Int32) * l3) + l4) (aN M a10) ∧ (bk_X11_turn_221 h0 R165 (lp_X11_turn_178 h0 R165 K n) K (l2 + 1) l3 l4 (tI M a10 ((((4 : Int32) * l3) + l4)).toNatClampNeg (1 : Int32)))))))
set_option maxRecDepth 100000 in
set_option maxHeartbeats 4000000 in
theorem zl_X11_turn_178 {X : Cx} {h0 : Nat} {R165 : Int32 → Int32 → Mm → Prop} {K : Int32 → Mm → Prop} (hX : Ok X cX11_turn RX11 rm_X11_turn) (hQ : Rq X rm_X11_turn (some .int) (QI K)) (hnL : X.2.2.2.2.2.2.2.2.2.2.2.2.2.2 = 6) (hR165 : ∀ l2 l3 M, R165 l2 l3 M → Z X M 0 0 165 [(0, va_rf (some h0)), (2, .int l2), (3, .int l3)] []) : ∀ (n : Nat) (l2 : Int32) (l3 : Int32) (l4 : Int32) (M : Mm), lp_X11_turn_178 h0 R165 K n l2 l3 l4 M → Z X M 0 0 178 [(0, va_rf (some h0)), (2, .int l2), (3, .int l3), (4, .int l4)] [] := by
  intro n
  induction n with
  | zero =>
    intro l2 l3 l4 M h
    exact False.elim h
  | succ n hR178 =>
    intro l2 l3 l4 M h
    refine z_iload hX dX11_turn_178 3 rfl ?_
    refine z_aload_n (r := (some h0)) hX dX11_turn_180 rfl 0 rfl ?_
    obtain ⟨hk1, h⟩ := h
    refine gf_RX11_26 (r := (some h0)) hX dX11_turn_181 rfl hk1 ?_
    refine z_bipush (v := (12 : Int32)) hX dX11_turn_184 (by decide) ?_
    refine z_iload_n hX dX11_turn_186 rfl 2 rfl ?_
    refine z_iadd hX dX11_turn_187 ?_
    obtain ⟨a2, ha3, h⟩ := h
    obtain ⟨hk4, h⟩ := h
    obtain ⟨hc5, h⟩ := h
    refine y_iald (r := (mR M 718 h0)) hX dX11_turn_188 ha3 hk4 hc5 ?_
    obtain ⟨h1, h2⟩ := h
    refine z_icmp_ge (tgt := 227) hX dX11_turn_189 (by decide) (fun hc => ?_) (fun hc => ?_)
    · have h := h1 hc
      refine z_iinc (v := (l3 + 1)) hX [(3, .int (l3 + 1)), (0, va_rf (some h0)), (2, .int l2), (4, .int l4)] dX11_turn_227 2 rfl rfl (by rw [hnL]; decide) rfl ?_
      refine z_goto (tgt := 165) hX dX11_turn_230 (by decide) ?_
      refine z_loc [1, 2, 0] rfl ?_
      exact hR165 _ _ _ h
    · have h := h2 hc
      refine z_aload_n (r := (some h0)) hX dX11_turn_192 rfl 0 rfl ?_
      refine gf_RX11_117 (r := (some h0)) hX dX11_turn_193 rfl hk1 ?_
      refine z_iconst (v := (4 : Int32)) hX dX11_turn_196 (by decide) ?_
      refine z_iload_n hX dX11_turn_197 rfl 2 rfl ?_
      refine z_imul hX dX11_turn_198 ?_
      refine z_iload hX dX11_turn_199 3 rfl ?_
      refine z_iadd hX dX11_turn_201 ?_
      obtain ⟨a6, ha7, h⟩ := h
      obtain ⟨hk8, h⟩ := h
      obtain ⟨hc9, h⟩ := h
      refine y_zald (r := (mR M 758 h0)) hX dX11_turn_202 ha7 hk8 hc9 ?_
      obtain ⟨h1, h2⟩ := h
      refine z_if_eq (tgt := 221) hX dX11_turn_203 (by decide) (fun hc => ?_) (fun hc => ?_)
      · have h := h1 hc
        exact zb_X11_turn_221 hX hQ hnL hR165 hR178 h
      · have h := h2 hc
        refine z_aload_n (r := (some h0)) hX dX11_turn_206 rfl 0 rfl ?_
        refine gf_RX11_69 (r := (some h0)) hX dX11_turn_207 rfl hk1 ?_
        refine z_iconst (v := (4 : Int32)) hX dX11_turn_210 (by decide) ?_
        refine z_iload_n hX dX11_turn_211 rfl 2 rfl ?_
        refine z_imul hX dX11_turn_212 ?_
        refine z_iload hX dX11_turn_213 3 rfl ?_
        refine z_iadd hX dX11_turn_215 ?_
        refine z_iconst (v := (1 : Int32)) hX dX11_turn_216 (by decide) ?_
        obtain ⟨a10, ha11, h⟩ := h
        obtain ⟨hk12, h⟩ := h
        obtain ⟨hc13, h⟩ := h
        refine y_iast (r := (mR M 735 h0)) hX dX11_turn_217 ha11 hk12 hc13 ?_
        refine z_iinc (v := (l2 + 1)) hX [(2, .int (l2 + 1)), (0, va_rf (some h0)), (3, .int l3), (4, .int l4)] dX11_turn_218 1 rfl rfl (by rw [hnL]; decide) rfl ?_
        refine z_loc [1, 0, 2, 3] rfl ?_
        exact zb_X11_turn_221 hX hQ hnL hR165 hR178 h
def lp_X11_turn_165 (h0 : Nat) (K : Int32 → Mm → Prop) : Nat → Int32 → Int32 → Mm → Prop
  | 0, _, _, _ => False
  | n + 1, l2, l3, M => mK M h0 = 12 ∧ ∃ a15, (mR M 729 h0) = some a15 ∧ isA M a15 1 ∧ vp_in (1 : Int32) (aN M a15) ∧ (((aI M a15 ((1 : Int32)).toNatClampNeg) ≤ l3 → (wp_X11_reckon M h0 (fun M20 => (K l2 M20)))) ∧ (¬ (aI M a15 ((1 : Int32)).toNatClampNeg) ≤ l3 → (∃ kk, lp_X11_turn_178 h0 (lp_X11_turn_165 h0 K n) K kk l2 l3 (0 : Int32) M)))
set_option maxRecDepth 100000 in
set_option maxHeartbeats 4000000 in
theorem zl_X11_turn_165 {X : Cx} {h0 : Nat} {K : Int32 → Mm → Prop} (hX : Ok X cX11_turn RX11 rm_X11_turn) (hQ : Rq X rm_X11_turn (some .int) (QI K)) (hnL : X.2.2.2.2.2.2.2.2.2.2.2.2.2.2 = 6) : ∀ (n : Nat) (l2 : Int32) (l3 : Int32) (M : Mm), lp_X11_turn_165 h0 K n l2 l3 M → Z X M 0 0 165 [(0, va_rf (some h0)), (2, .int l2), (3, .int l3)] [] := by
  intro n
  induction n with
  | zero =>
    intro l2 l3 M h
    exact False.elim h
  | succ n hR165 =>
    intro l2 l3 M h
    refine z_iload_n hX dX11_turn_165 rfl 2 rfl ?_
    refine z_aload_n (r := (some h0)) hX dX11_turn_166 rfl 0 rfl ?_
    obtain ⟨hk14, h⟩ := h
    refine gf_RX11_60 (r := (some h0)) hX dX11_turn_167 rfl hk14 ?_
    refine z_iconst (v := (1 : Int32)) hX dX11_turn_170 (by decide) ?_
    obtain ⟨a15, ha16, h⟩ := h
    obtain ⟨hk17, h⟩ := h
    obtain ⟨hc18, h⟩ := h
    refine y_iald (r := (mR M 729 h0)) hX dX11_turn_171 ha16 hk17 hc18 ?_
    obtain ⟨h1, h2⟩ := h
    refine z_icmp_ge (tgt := 233) hX dX11_turn_172 (by decide) (fun hc => ?_) (fun hc => ?_)
    · have h := h1 hc
      refine z_aload_n (r := (some h0)) hX dX11_turn_233 rfl 0 rfl ?_
      refine z_callVV (As := []) (rest := []) (ci := 11) hX (ct_X11_reckon h) mw_RX11_395 rfl (by decide) rfl (by rfl) (by unfold RoomC; decide) (by decide) dX11_turn_234 hk14 (fun M20 h => ?_)
      refine z_iload_n hX dX11_turn_237 rfl 1 rfl ?_
      exact z_iret hX hQ dX11_turn_238 h
    · have h := h2 hc
      refine z_iconst (v := (0 : Int32)) hX dX11_turn_175 (by decide) ?_
      refine z_istore hX [(4, .int (0 : Int32)), (0, va_rf (some h0)), (2, .int l2), (3, .int l3)] dX11_turn_176 (by rw [hnL]; decide) rfl ?_
      refine z_loc [1, 2, 3, 0] rfl ?_
      obtain ⟨n, h⟩ := h
      exact zl_X11_turn_178 hX hQ hnL hR165 n _ _ _ _ h
def bk_X11_turn_150 (h0 : Nat) (R40 : Int32 → Int32 → Mm → Prop) (R53 : Int32 → Int32 → Int32 → Mm → Prop) (K : Int32 → Mm → Prop) (l2 : Int32) (l3 : Int32) (l4 : Int32) (s0 : Int32) (s1 : Int32) (s2 : Option Nat) (M : Mm) : Prop := ∃ a22, s2 = some a22 ∧ isA M a22 3 ∧ vp_in s1 (aN M a22) ∧ bz s0 ∧ (R53 l2 l3 (l4 + 1) (tI M a22 (s1).toNatClampNeg s0))
set_option maxRecDepth 100000 in
set_option maxHeartbeats 4000000 in
theorem zb_X11_turn_150 {X : Cx} {h0 : Nat} {R40 : Int32 → Int32 → Mm → Prop} {R53 : Int32 → Int32 → Int32 → Mm → Prop} {K : Int32 → Mm → Prop} (hX : Ok X cX11_turn RX11 rm_X11_turn) (hQ : Rq X rm_X11_turn (some .int) (QI K)) (hnL : X.2.2.2.2.2.2.2.2.2.2.2.2.2.2 = 6) (hR40 : ∀ l2 l3 M, R40 l2 l3 M → Z X M 0 0 40 [(0, va_rf (some h0)), (2, .int l2), (3, .int l3)] []) (hR53 : ∀ l2 l3 l4 M, R53 l2 l3 l4 M → Z X M 0 0 53 [(0, va_rf (some h0)), (2, .int l2), (3, .int l3), (4, .int l4)] []) {l2 : Int32} {l3 : Int32} {l4 : Int32} {s0 : Int32} {s1 : Int32} {s2 : Option Nat} {M : Mm} (h : bk_X11_turn_150 h0 R40 R53 K l2 l3 l4 s0 s1 s2 M) : Z X M 0 0 150 [(0, va_rf (some h0)), (2, .int l2), (3, .int l3), (4, .int l4)] [.int s0, .int s1, va_rf s2] := by
  unfold bk_X11_turn_150 at h
  obtain ⟨a22, ha23, h⟩ := h
  obtain ⟨hk24, h⟩ := h
  obtain ⟨hc25, h⟩ := h
  obtain ⟨hc26, h⟩ := h
  refine y_zast (r := s2) hX dX11_turn_150 ha23 hk24 hc25 hc26  ?_
  refine z_iinc (v := (l4 + 1)) hX [(4, .int (l4 + 1)), (0, va_rf (some h0)), (2, .int l2), (3, .int l3)] dX11_turn_151 3 rfl rfl (by rw [hnL]; decide) rfl ?_
  refine z_goto (tgt := 53) hX dX11_turn_154 (by decide) ?_
  refine z_loc [1, 2, 3, 0] rfl ?_
  exact hR53 _ _ _ _ h
def bk_X11_turn_149 (h0 : Nat) (R40 : Int32 → Int32 → Mm → Prop) (R53 : Int32 → Int32 → Int32 → Mm → Prop) (K : Int32 → Mm → Prop) (l2 : Int32) (l3 : Int32) (l4 : Int32) (s0 : Int32) (s1 : Option Nat) (M : Mm) : Prop := (bk_X11_turn_150 h0 R40 R53 K l2 l3 l4 (0 : Int32) s0 s1 M)
set_option maxRecDepth 100000 in
set_option maxHeartbeats 4000000 in
theorem zb_X11_turn_149 {X : Cx} {h0 : Nat} {R40 : Int32 → Int32 → Mm → Prop} {R53 : Int32 → Int32 → Int32 → Mm → Prop} {K : Int32 → Mm → Prop} (hX : Ok X cX11_turn RX11 rm_X11_turn) (hQ : Rq X rm_X11_turn (some .int) (QI K)) (hnL : X.2.2.2.2.2.2.2.2.2.2.2.2.2.2 = 6) (hR40 : ∀ l2 l3 M, R40 l2 l3 M → Z X M 0 0 40 [(0, va_rf (some h0)), (2, .int l2), (3, .int l3)] []) (hR53 : ∀ l2 l3 l4 M, R53 l2 l3 l4 M → Z X M 0 0 53 [(0, va_rf (some h0)), (2, .int l2), (3, .int l3), (4, .int l4)] []) {l2 : Int32} {l3 : Int32} {l4 : Int32} {s0 : Int32} {s1 : Option Nat} {M : Mm} (h : bk_X11_turn_149 h0 R40 R53 K l2 l3 l4 s0 s1 M) : Z X M 0 0 149 [(0, va_rf (some h0)), (2, .int l2), (3, .int l3), (4, .int l4)] [.int s0, va_rf s1] := by
  unfold bk_X11_turn_149 at h
  refine z_iconst (v := (0 : Int32)) hX dX11_turn_149 (by decide) ?_
  exact zb_X11_turn_150 hX hQ hnL hR40 hR53 h
def lp_X11_turn_53 (h0 : Nat) (R40 : Int32 → Int32 → Mm → Prop) (K : Int32 → Mm → Prop) : Nat → Int32 → Int32 → Int32 → Mm → Prop
  | 0, _, _, _, _ => False
  | n + 1, l2, l3, l4, M => mK M h0 = 12 ∧ ∃ a28, (mR M 718 h0) = some a28 ∧ isA M a28 1 ∧ vp_in ((12 : Int32) + l3) (aN M a28) ∧ (((aI M a28 (((12 : Int32) + l3)).toNatClampNeg) ≤ l4 → (R40 l2 (l3 + 1) M)) ∧ (¬ (aI M a28 (((12 : Int32) + l3)).toNatClampNeg) ≤ l4 → (wp_X11_kindOf M h0 l3 (fun r32 M33 => ((¬ r32 = 0 → (bk_X11_turn_149 h0 R40 (lp_X11_turn_53 h0 R40 K n) K l2 l3 l4 (((4 : Int32) * l3) + l4) (mR M 758 h0) M33)) ∧ (r32 = 0 → mK M33 h0 = 12 ∧ ∃ a36, (mR M33 722 h0) = some a36 ∧ isA M33 a36 1 ∧ vp_in ((12 : Int32) + l3) (aN M33 a36) ∧ (((aI M33 a36 (((12 : Int32) + l3)).toNatClampNeg) ≤ 0 → (bk_X11_turn_149 h0 R40 (lp_X11_turn_53 h0 R40 K n) K l2 l3 l4 (((4 : Int32) * l3) + l4) (mR M 758 h0) M33)) ∧ (¬ (aI M33 a36 (((12 : Int32) + l3)).toNatClampNeg) ≤ 0 → ∃ a40, (mR M33 735 h0) = some a40 ∧ isA M33 a40 1 ∧ vp_in (((4 : Int32) * l3) + l4) (aN M33 a40) ∧ ((¬ (aI M33 a40 ((((4 : Int32) * l3) + l4)).toNatClampNeg) = 0 → (bk_X11_turn_149 h0 R40 (lp_X11_turn_53 h0 R40 K n) K l2 l3 l4 (((4 : Int32) * l3) + l4) (mR M 758 h0) M33)) ∧ ((aI M33 a40 ((((4 : Int32) * l3) + l4)).toNatClampNeg) = 0 → (wp_X11_isStopped M33 h0 l3 l4 (fun r44 M45 => ((¬ r44 = 0 → (bk_X11_turn_149 h0 R40 (lp_X11_turn_53 h0 R40 K n) K l2 l3 l4 (((4 : Int32) * l3) + l4) (mR M 758 h0) M45)) ∧ (r44 = 0 → mK M45 h0 = 12 ∧ ∃ a48, (mR M45 737 h0) = some a48 ∧ isA M45 a48 1 ∧ vp_in (((4 : Int32) * l3) + l4) (aN M45 a48) ∧ ∃ a52, (mR M45 722 h0) = some a52 ∧ isA M45 a52 1 ∧ vp_in ((12 : Int32) + l3) (aN M45 a52) ∧ ((((mI M45 738 h0) - (aI M45 a48 ((((4 : Int32) * l3) + l4)).toNatClampNeg)) < (aI M45 a52 (((12 : Int32) + l3)).toNatClampNeg) → (bk_X11_turn_149 h0 R40 (lp_X11_turn_53 h0 R40 K n) K l2 l3 l4 (((4 : Int32) * l3) + l4) (mR M 758 h0) M45)) ∧ (¬ ((mI M45 738 h0) - (aI M45 a48 ((((4 : Int32) * l3) + l4)).toNatClampNeg)) < (aI M45 a52 (((12 : Int32) + l3)).toNatClampNeg) → (bk_X11_turn_150 h0 R40 (lp_X11_turn_53 h0 R40 K n) K l2 l3 l4 (1 : Int32) (((4 : Int32) * l3) + l4) (mR M 758 h0) M45)))))))))))))))))
set_option maxRecDepth 100000 in
set_option maxHeartbeats 4000000 in
theorem zl_X11_turn_53 {X : Cx} {h0 : Nat} {R40 : Int32 → Int32 → Mm → Prop} {K : Int32 → Mm → Prop} (hX : Ok X cX11_turn RX11 rm_X11_turn) (hQ : Rq X rm_X11_turn (some .int) (QI K)) (hnL : X.2.2.2.2.2.2.2.2.2.2.2.2.2.2 = 6) (hR40 : ∀ l2 l3 M, R40 l2 l3 M → Z X M 0 0 40 [(0, va_rf (some h0)), (2, .int l2), (3, .int l3)] []) : ∀ (n : Nat) (l2 : Int32) (l3 : Int32) (l4 : Int32) (M : Mm), lp_X11_turn_53 h0 R40 K n l2 l3 l4 M → Z X M 0 0 53 [(0, va_rf (some h0)), (2, .int l2), (3, .int l3), (4, .int l4)] [] := by
  intro n
  induction n with
  | zero =>
    intro l2 l3 l4 M h
    exact False.elim h
  | succ n hR53 =>
    intro l2 l3 l4 M h
    refine z_iload hX dX11_turn_53 3 rfl ?_
    refine z_aload_n (r := (some h0)) hX dX11_turn_55 rfl 0 rfl ?_
    obtain ⟨hk27, h⟩ := h
    refine gf_RX11_26 (r := (some h0)) hX dX11_turn_56 rfl hk27 ?_
    refine z_bipush (v := (12 : Int32)) hX dX11_turn_59 (by decide) ?_
    refine z_iload_n hX dX11_turn_61 rfl 2 rfl ?_
    refine z_iadd hX dX11_turn_62 ?_
    obtain ⟨a28, ha29, h⟩ := h
    obtain ⟨hk30, h⟩ := h
    obtain ⟨hc31, h⟩ := h
    refine y_iald (r := (mR M 718 h0)) hX dX11_turn_63 ha29 hk30 hc31 ?_
    obtain ⟨h1, h2⟩ := h
    refine z_icmp_ge (tgt := 157) hX dX11_turn_64 (by decide) (fun hc => ?_) (fun hc => ?_)
    · have h := h1 hc
      refine z_iinc (v := (l3 + 1)) hX [(3, .int (l3 + 1)), (0, va_rf (some h0)), (2, .int l2), (4, .int l4)] dX11_turn_157 2 rfl rfl (by rw [hnL]; decide) rfl ?_
      refine z_goto (tgt := 40) hX dX11_turn_160 (by decide) ?_
      refine z_loc [1, 2, 0] rfl ?_
      exact hR40 _ _ _ h
    · have h := h2 hc
      refine z_iconst (v := (4 : Int32)) hX dX11_turn_67 (by decide) ?_
      refine z_iload_n hX dX11_turn_68 rfl 2 rfl ?_
      refine z_imul hX dX11_turn_69 ?_
      refine z_iload hX dX11_turn_70 3 rfl ?_
      refine z_iadd hX dX11_turn_72 ?_
      refine z_istore hX [(5, .int (((4 : Int32) * l3) + l4)), (0, va_rf (some h0)), (2, .int l2), (3, .int l3), (4, .int l4)] dX11_turn_73 (by rw [hnL]; decide) rfl ?_
      refine z_aload_n (r := (some h0)) hX dX11_turn_75 rfl 1 rfl ?_
      refine gf_RX11_117 (r := (some h0)) hX dX11_turn_76 rfl hk27 ?_
      refine z_iload hX dX11_turn_79 0 rfl ?_
      refine z_aload_n (r := (some h0)) hX dX11_turn_81 rfl 1 rfl ?_
      refine z_iload_n hX dX11_turn_82 rfl 3 rfl ?_
      refine z_callVI (As := [.int l3]) (rest := [.int (((4 : Int32) * l3) + l4), va_rf (mR M 758 h0)]) (ci := 11) hX (ct_X11_kindOf h) mw_RX11_308 rfl (by decide) rfl (by rfl) (by unfold RoomC; decide) (by simp only [List.map_cons, List.map_nil, List.sum_cons, List.sum_nil, cat_rf, cat_i, cat_j]; decide) dX11_turn_83 hk27 (fun r32 M33 h => ?_)
      obtain ⟨h1, h2⟩ := h
      refine z_if_ne (tgt := 149) hX dX11_turn_86 (by decide) (fun hc => ?_) (fun hc => ?_)
      · have h := h1 hc
        refine z_loc [1, 2, 3, 4] rfl ?_
        exact zb_X11_turn_149 hX hQ hnL hR40 hR53 h
      · have h := h2 hc
        refine z_aload_n (r := (some h0)) hX dX11_turn_89 rfl 1 rfl ?_
        obtain ⟨hk35, h⟩ := h
        refine gf_RX11_39 (r := (some h0)) hX dX11_turn_90 rfl hk35 ?_
        refine z_bipush (v := (12 : Int32)) hX dX11_turn_93 (by decide) ?_
        refine z_iload_n hX dX11_turn_95 rfl 3 rfl ?_
        refine z_iadd hX dX11_turn_96 ?_
        obtain ⟨a36, ha37, h⟩ := h
        obtain ⟨hk38, h⟩ := h
        obtain ⟨hc39, h⟩ := h
        refine y_iald (r := (mR M33 722 h0)) hX dX11_turn_97 ha37 hk38 hc39 ?_
        obtain ⟨h1, h2⟩ := h
        refine z_if_le (tgt := 149) hX dX11_turn_98 (by decide) (fun hc => ?_) (fun hc => ?_)
        · have h := h1 hc
          refine z_loc [1, 2, 3, 4] rfl ?_
          exact zb_X11_turn_149 hX hQ hnL hR40 hR53 h
        · have h := h2 hc
          refine z_aload_n (r := (some h0)) hX dX11_turn_101 rfl 1 rfl ?_
          refine gf_RX11_69 (r := (some h0)) hX dX11_turn_102 rfl hk35 ?_
          refine z_iload hX dX11_turn_105 0 rfl ?_
          obtain ⟨a40, ha41, h⟩ := h
          obtain ⟨hk42, h⟩ := h
          obtain ⟨hc43, h⟩ := h
          refine y_iald (r := (mR M33 735 h0)) hX dX11_turn_107 ha41 hk42 hc43 ?_
          obtain ⟨h1, h2⟩ := h
          refine z_if_ne (tgt := 149) hX dX11_turn_108 (by decide) (fun hc => ?_) (fun hc => ?_)
          · have h := h1 hc
            refine z_loc [1, 2, 3, 4] rfl ?_
            exact zb_X11_turn_149 hX hQ hnL hR40 hR53 h
          · have h := h2 hc
            refine z_aload_n (r := (some h0)) hX dX11_turn_111 rfl 1 rfl ?_
            refine z_iload_n hX dX11_turn_112 rfl 3 rfl ?_
            refine z_iload hX dX11_turn_113 4 rfl ?_
            refine z_callVI (As := [.int l3, .int l4]) (rest := [.int (((4 : Int32) * l3) + l4), va_rf (mR M 758 h0)]) (ci := 11) hX (ct_X11_isStopped h) mw_RX11_389 rfl (by decide) rfl (by rfl) (by unfold RoomC; decide) (by simp only [List.map_cons, List.map_nil, List.sum_cons, List.sum_nil, cat_rf, cat_i, cat_j]; decide) dX11_turn_115 hk35 (fun r44 M45 h => ?_)
            obtain ⟨h1, h2⟩ := h
            refine z_if_ne (tgt := 149) hX dX11_turn_118 (by decide) (fun hc => ?_) (fun hc => ?_)
            · have h := h1 hc
              refine z_loc [1, 2, 3, 4] rfl ?_
              exact zb_X11_turn_149 hX hQ hnL hR40 hR53 h
            · have h := h2 hc
              refine z_aload_n (r := (some h0)) hX dX11_turn_121 rfl 1 rfl ?_
              obtain ⟨hk47, h⟩ := h
              refine gf_RX11_292 (r := (some h0)) hX dX11_turn_122 rfl hk47 ?_
              refine z_aload_n (r := (some h0)) hX dX11_turn_125 rfl 1 rfl ?_
              refine gf_RX11_75 (r := (some h0)) hX dX11_turn_126 rfl hk47 ?_
              refine z_iload hX dX11_turn_129 0 rfl ?_
              obtain ⟨a48, ha49, h⟩ := h
              obtain ⟨hk50, h⟩ := h
              obtain ⟨hc51, h⟩ := h
              refine y_iald (r := (mR M45 737 h0)) hX dX11_turn_131 ha49 hk50 hc51 ?_
              refine z_isub hX dX11_turn_132 ?_
              refine z_aload_n (r := (some h0)) hX dX11_turn_133 rfl 1 rfl ?_
              refine gf_RX11_39 (r := (some h0)) hX dX11_turn_134 rfl hk47 ?_
              refine z_bipush (v := (12 : Int32)) hX dX11_turn_137 (by decide) ?_
              refine z_iload_n hX dX11_turn_139 rfl 3 rfl ?_
              refine z_iadd hX dX11_turn_140 ?_
              obtain ⟨a52, ha53, h⟩ := h
              obtain ⟨hk54, h⟩ := h
              obtain ⟨hc55, h⟩ := h
              refine y_iald (r := (mR M45 722 h0)) hX dX11_turn_141 ha53 hk54 hc55 ?_
              obtain ⟨h1, h2⟩ := h
              refine z_icmp_lt (tgt := 149) hX dX11_turn_142 (by decide) (fun hc => ?_) (fun hc => ?_)
              · have h := h1 hc
                refine z_loc [1, 2, 3, 4] rfl ?_
                exact zb_X11_turn_149 hX hQ hnL hR40 hR53 h
              · have h := h2 hc
                refine z_iconst (v := (1 : Int32)) hX dX11_turn_145 (by decide) ?_
                refine z_goto (tgt := 150) hX dX11_turn_146 (by decide) ?_
                refine z_loc [1, 2, 3, 4] rfl ?_
                exact zb_X11_turn_150 hX hQ hnL hR40 hR53 h
def lp_X11_turn_40 (h0 : Nat) (K : Int32 → Mm → Prop) : Nat → Int32 → Int32 → Mm → Prop
  | 0, _, _, _ => False
  | n + 1, l2, l3, M => mK M h0 = 12 ∧ ∃ a57, (mR M 729 h0) = some a57 ∧ isA M a57 1 ∧ vp_in (1 : Int32) (aN M a57) ∧ (((aI M a57 ((1 : Int32)).toNatClampNeg) ≤ l3 → (∃ kk, lp_X11_turn_165 h0 K kk l2 (0 : Int32) M)) ∧ (¬ (aI M a57 ((1 : Int32)).toNatClampNeg) ≤ l3 → (∃ kk, lp_X11_turn_53 h0 (lp_X11_turn_40 h0 K n) K kk l2 l3 (0 : Int32) M)))
set_option maxRecDepth 100000 in
set_option maxHeartbeats 4000000 in
theorem zl_X11_turn_40 {X : Cx} {h0 : Nat} {K : Int32 → Mm → Prop} (hX : Ok X cX11_turn RX11 rm_X11_turn) (hQ : Rq X rm_X11_turn (some .int) (QI K)) (hnL : X.2.2.2.2.2.2.2.2.2.2.2.2.2.2 = 6) : ∀ (n : Nat) (l2 : Int32) (l3 : Int32) (M : Mm), lp_X11_turn_40 h0 K n l2 l3 M → Z X M 0 0 40 [(0, va_rf (some h0)), (2, .int l2), (3, .int l3)] [] := by
  intro n
  induction n with
  | zero =>
    intro l2 l3 M h
    exact False.elim h
  | succ n hR40 =>
    intro l2 l3 M h
    refine z_iload_n hX dX11_turn_40 rfl 2 rfl ?_
    refine z_aload_n (r := (some h0)) hX dX11_turn_41 rfl 0 rfl ?_
    obtain ⟨hk56, h⟩ := h
    refine gf_RX11_60 (r := (some h0)) hX dX11_turn_42 rfl hk56 ?_
    refine z_iconst (v := (1 : Int32)) hX dX11_turn_45 (by decide) ?_
    obtain ⟨a57, ha58, h⟩ := h
    obtain ⟨hk59, h⟩ := h
    obtain ⟨hc60, h⟩ := h
    refine y_iald (r := (mR M 729 h0)) hX dX11_turn_46 ha58 hk59 hc60 ?_
    obtain ⟨h1, h2⟩ := h
    refine z_icmp_ge (tgt := 163) hX dX11_turn_47 (by decide) (fun hc => ?_) (fun hc => ?_)
    · have h := h1 hc
      refine z_iconst (v := (0 : Int32)) hX dX11_turn_163 (by decide) ?_
      refine z_istore_n hX [(3, .int (0 : Int32)), (0, va_rf (some h0)), (2, .int l2)] dX11_turn_164 rfl (by rw [hnL]; decide) rfl ?_
      refine z_loc [1, 2, 0] rfl ?_
      obtain ⟨n, h⟩ := h
      exact zl_X11_turn_165 hX hQ hnL n _ _ _ h
    · have h := h2 hc
      refine z_iconst (v := (0 : Int32)) hX dX11_turn_50 (by decide) ?_
      refine z_istore hX [(4, .int (0 : Int32)), (0, va_rf (some h0)), (2, .int l2), (3, .int l3)] dX11_turn_51 (by rw [hnL]; decide) rfl ?_
      refine z_loc [1, 2, 3, 0] rfl ?_
      obtain ⟨n, h⟩ := h
      exact zl_X11_turn_53 hX hQ hnL hR40 n _ _ _ _ h
def wp_X11_turn (M : Mm) (h0 : Nat) (p1 : Int32) (K : Int32 → Mm → Prop) : Prop := mK M h0 = 12 ∧ (((mI (sI M 704 h0 (0 : Int32)) 732 h0) = 0 → (bk_X11_turn_24 h0 K (sI M 704 h0 (0 : Int32)))) ∧ (¬ (mI (sI M 704 h0 (0 : Int32)) 732 h0) = 0 → ((p1 < (1 : Int32) → (bk_X11_turn_24 h0 K (sI M 704 h0 (0 : Int32)))) ∧ (¬ p1 < (1 : Int32) → ((p1 ≤ (1000 : Int32) → (∃ kk, lp_X11_turn_40 h0 K kk (0 : Int32) (0 : Int32) (sI (sI M 704 h0 (0 : Int32)) 738 h0 ((mI (sI M 704 h0 (0 : Int32)) 738 h0) + p1)))) ∧ (¬ p1 ≤ (1000 : Int32) → (bk_X11_turn_24 h0 K (sI M 704 h0 (0 : Int32)))))))))
set_option maxRecDepth 100000 in
set_option maxHeartbeats 4000000 in
theorem ct_X11_turn {M : Mm} {h0 : Nat} {p1 : Int32} {K : Int32 → Mm → Prop} (h : wp_X11_turn M h0 p1 K) : CtI yX11_turn cX11_turn 6 (some .int) rm_X11_turn [.ref h0, .int p1] M K := by
  refine ct_any (QI K) (by decide) (by exact Nat.le_of_ble_eq_true rfl) (fun X hX hQ hnL hnm => ?_)
  rw [show lv_args 0 [.ref h0, .int p1] = [(0, va_rf (some h0)), (1, .int p1)] by rfl]
  have hX : Ok X cX11_turn RX11 rm_X11_turn := hX
  unfold wp_X11_turn at h
  refine z_aload_n (r := (some h0)) hX dX11_turn_0 rfl 0 rfl ?_
  refine z_iconst (v := (0 : Int32)) hX dX11_turn_1 (by decide) ?_
  obtain ⟨hk61, h⟩ := h
  refine pf_RX11_123 (r := (some h0)) (v := (0 : Int32)) hX dX11_turn_2 rfl hk61 ?_
  refine z_aload_n (r := (some h0)) hX dX11_turn_5 rfl 0 rfl ?_
  refine gf_RX11_277 (r := (some h0)) hX dX11_turn_6 rfl hk61 ?_
  obtain ⟨h1, h2⟩ := h
  refine z_if_eq (tgt := 24) hX dX11_turn_9 (by decide) (fun hc => ?_) (fun hc => ?_)
  · have h := h1 hc
    refine z_loc [] rfl ?_
    exact zb_X11_turn_24 hX hQ hnL h
  · have h := h2 hc
    refine z_iload_n hX dX11_turn_12 rfl 1 rfl ?_
    refine z_iconst (v := (1 : Int32)) hX dX11_turn_13 (by decide) ?_
    obtain ⟨h1, h2⟩ := h
    refine z_icmp_lt (tgt := 24) hX dX11_turn_14 (by decide) (fun hc => ?_) (fun hc => ?_)
    · have h := h1 hc
      refine z_loc [] rfl ?_
      exact zb_X11_turn_24 hX hQ hnL h
    · have h := h2 hc
      refine z_iload_n hX dX11_turn_17 rfl 1 rfl ?_
      refine z_sipush (v := (1000 : Int32)) hX dX11_turn_18 (by decide) ?_
      obtain ⟨h1, h2⟩ := h
      refine z_icmp_le (tgt := 26) hX dX11_turn_21 (by decide) (fun hc => ?_) (fun hc => ?_)
      · have h := h1 hc
        refine z_aload_n (r := (some h0)) hX dX11_turn_26 rfl 0 rfl ?_
        refine z_dup hX dX11_turn_27 (cat_rf _) ?_
        refine gf_RX11_292 (r := (some h0)) hX dX11_turn_28 rfl hk61 ?_
        refine z_iload_n hX dX11_turn_31 rfl 1 rfl ?_
        refine z_iadd hX dX11_turn_32 ?_
        refine pf_RX11_292 (r := (some h0)) (v := ((mI (sI M 704 h0 (0 : Int32)) 738 h0) + p1)) hX dX11_turn_33 rfl hk61 ?_
        refine z_iconst (v := (0 : Int32)) hX dX11_turn_36 (by decide) ?_
        refine z_istore_n hX [(2, .int (0 : Int32)), (0, va_rf (some h0)), (1, .int p1)] dX11_turn_37 rfl (by rw [hnL]; decide) rfl ?_
        refine z_iconst (v := (0 : Int32)) hX dX11_turn_38 (by decide) ?_
        refine z_istore_n hX [(3, .int (0 : Int32)), (2, .int (0 : Int32)), (0, va_rf (some h0)), (1, .int p1)] dX11_turn_39 rfl (by rw [hnL]; decide) rfl ?_
        refine z_loc [2, 1, 0] rfl ?_
        obtain ⟨n, h⟩ := h
        exact zl_X11_turn_40 hX hQ hnL n _ _ _ h
      · have h := h2 hc
        refine z_loc [] rfl ?_
        exact zb_X11_turn_24 hX hQ hnL h
def rm_X11_hold : Room := { frames := 310, cells := 0, slots := 0, locals := 12237 }
def bk_X11_hold_29 (h0 : Nat) (K : Int32 → Mm → Prop) (M : Mm) : Prop := (K (-1 : Int32) M)
set_option maxRecDepth 100000 in
set_option maxHeartbeats 4000000 in
theorem zb_X11_hold_29 {X : Cx} {h0 : Nat} {K : Int32 → Mm → Prop} (hX : Ok X cX11_hold RX11 rm_X11_hold) (hQ : Rq X rm_X11_hold (some .int) (QI K)) (hnL : X.2.2.2.2.2.2.2.2.2.2.2.2.2.2 = 5) {M : Mm} (h : bk_X11_hold_29 h0 K M) : Z X M 0 0 29 [] [] := by
  unfold bk_X11_hold_29 at h
  refine z_iconst (v := (-1 : Int32)) hX dX11_hold_29 (by decide) ?_
  exact z_iret hX hQ dX11_hold_30 h
def wp_X11_hold (M : Mm) (h0 : Nat) (p1 : Int32) (p2 : Int64) (K : Int32 → Mm → Prop) : Prop := mK M h0 = 12 ∧ (wp_X11_isStream (sI M 704 h0 (0 : Int32)) h0 p1 (fun r3 M4 => ((r3 = 0 → (bk_X11_hold_29 h0 K M4)) ∧ (¬ r3 = 0 → mK M4 h0 = 12 ∧ (wp_X11_kindOf M4 h0 p1 (fun r6 M7 => ((¬ r6 = (3 : Int32) → (bk_X11_hold_29 h0 K M7)) ∧ (r6 = (3 : Int32) → (wp_X11_isTime M7 p2 (fun r10 M11 => ((¬ r10 = 0 → mK M11 h0 = 12 ∧ ((¬ (mI M11 752 h0) = (60 : Int32) → ∃ a14, (mR M11 733 h0) = some a14 ∧ isA M11 a14 2 ∧ vp_in p1 (aN M11 a14) ∧ (((aJ M11 a14 (p1).toNatClampNeg) < p2 → ∃ a19, (mR (sI M11 752 h0 ((mI M11 752 h0) + (1 : Int32))) 753 h0) = some a19 ∧ isA (sI M11 752 h0 ((mI M11 752 h0) + (1 : Int32))) a19 1 ∧ vp_in (mI M11 752 h0) (aN (sI M11 752 h0 ((mI M11 752 h0) + (1 : Int32))) a19) ∧ ∃ a23, (mR (tI (sI M11 752 h0 ((mI M11 752 h0) + (1 : Int32))) a19 ((mI M11 752 h0)).toNatClampNeg p1) 754 h0) = some a23 ∧ isA (tI (sI M11 752 h0 ((mI M11 752 h0) + (1 : Int32))) a19 ((mI M11 752 h0)).toNatClampNeg p1) a23 2 ∧ vp_in (mI M11 752 h0) (aN (tI (sI M11 752 h0 ((mI M11 752 h0) + (1 : Int32))) a19 ((mI M11 752 h0)).toNatClampNeg p1) a23) ∧ ∃ a27, (mR (tJ (tI (sI M11 752 h0 ((mI M11 752 h0) + (1 : Int32))) a19 ((mI M11 752 h0)).toNatClampNeg p1) a23 ((mI M11 752 h0)).toNatClampNeg p2) 755 h0) = some a27 ∧ isA (tJ (tI (sI M11 752 h0 ((mI M11 752 h0) + (1 : Int32))) a19 ((mI M11 752 h0)).toNatClampNeg p1) a23 ((mI M11 752 h0)).toNatClampNeg p2) a27 3 ∧ vp_in (mI M11 752 h0) (aN (tJ (tI (sI M11 752 h0 ((mI M11 752 h0) + (1 : Int32))) a19 ((mI M11 752 h0)).toNatClampNeg p1) a23 ((mI M11 752 h0)).toNatClampNeg p2) a27) ∧ (wp_X11_reckon (tI (tJ (tI (sI M11 752 h0 ((mI M11 752 h0) + (1 : Int32))) a19 ((mI M11 752 h0)).toNatClampNeg p1) a23 ((mI M11 752 h0)).toNatClampNeg p2) a27 ((mI M11 752 h0)).toNatClampNeg (1 : Int32)) h0 (fun M32 => (K (mI M11 752 h0) M32)))) ∧ (¬ (aJ M11 a14 (p1).toNatClampNeg) < p2 → (K (-5 : Int32) M11)))) ∧ ((mI M11 752 h0) = (60 : Int32) → (K (-4 : Int32) M11)))) ∧ (r10 = 0 → (bk_X11_hold_29 h0 K M11)))))))))))))
set_option maxRecDepth 100000 in
set_option maxHeartbeats 4000000 in
theorem ct_X11_hold {M : Mm} {h0 : Nat} {p1 : Int32} {p2 : Int64} {K : Int32 → Mm → Prop} (h : wp_X11_hold M h0 p1 p2 K) : CtI yX11_hold cX11_hold 5 (some .int) rm_X11_hold [.ref h0, .int p1, .long p2] M K := by
  refine ct_any (QI K) (by decide) (by exact Nat.le_of_ble_eq_true rfl) (fun X hX hQ hnL hnm => ?_)
  rw [show lv_args 0 [.ref h0, .int p1, .long p2] = [(0, va_rf (some h0)), (1, .int p1), (2, .long p2)] by rfl]
  have hX : Ok X cX11_hold RX11 rm_X11_hold := hX
  unfold wp_X11_hold at h
  refine z_aload_n (r := (some h0)) hX dX11_hold_0 rfl 0 rfl ?_
  refine z_iconst (v := (0 : Int32)) hX dX11_hold_1 (by decide) ?_
  obtain ⟨hk1, h⟩ := h
  refine pf_RX11_123 (r := (some h0)) (v := (0 : Int32)) hX dX11_hold_2 rfl hk1 ?_
  refine z_aload_n (r := (some h0)) hX dX11_hold_5 rfl 0 rfl ?_
  refine z_iload_n hX dX11_hold_6 rfl 1 rfl ?_
  refine z_callVI (As := [.int p1]) (rest := []) (ci := 11) hX (ct_X11_isStream h) mw_RX11_371 rfl (by decide) rfl (by rfl) (by unfold RoomC; decide) (by decide) dX11_hold_7 hk1 (fun r3 M4 h => ?_)
  obtain ⟨h1, h2⟩ := h
  refine z_if_eq (tgt := 29) hX dX11_hold_10 (by decide) (fun hc => ?_) (fun hc => ?_)
  · have h := h1 hc
    refine z_loc [] rfl ?_
    exact zb_X11_hold_29 hX hQ hnL h
  · have h := h2 hc
    refine z_aload_n (r := (some h0)) hX dX11_hold_13 rfl 0 rfl ?_
    refine z_iload_n hX dX11_hold_14 rfl 1 rfl ?_
    obtain ⟨hk8, h⟩ := h
    refine z_callVI (As := [.int p1]) (rest := []) (ci := 11) hX (ct_X11_kindOf h) mw_RX11_308 rfl (by decide) rfl (by rfl) (by unfold RoomC; decide) (by decide) dX11_hold_15 hk8 (fun r6 M7 h => ?_)
    refine z_iconst (v := (3 : Int32)) hX dX11_hold_18 (by decide) ?_
    obtain ⟨h1, h2⟩ := h
    refine z_icmp_ne (tgt := 29) hX dX11_hold_19 (by decide) (fun hc => ?_) (fun hc => ?_)
    · have h := h1 hc
      refine z_loc [] rfl ?_
      exact zb_X11_hold_29 hX hQ hnL h
    · have h := h2 hc
      refine z_lload_n hX dX11_hold_22 rfl 2 rfl ?_
      refine z_callSI (As := [.long p2]) (rest := []) hX (ct_X11_isTime h) mw_RX11_385 rfl (by rfl) (by unfold RoomC; decide) (by decide) dX11_hold_23 (fun r10 M11 h => ?_)
      obtain ⟨h1, h2⟩ := h
      refine z_if_ne (tgt := 31) hX dX11_hold_26 (by decide) (fun hc => ?_) (fun hc => ?_)
      · have h := h1 hc
        refine z_aload_n (r := (some h0)) hX dX11_hold_31 rfl 0 rfl ?_
        obtain ⟨hk13, h⟩ := h
        refine gf_RX11_295 (r := (some h0)) hX dX11_hold_32 rfl hk13 ?_
        refine z_bipush (v := (60 : Int32)) hX dX11_hold_35 (by decide) ?_
        obtain ⟨h1, h2⟩ := h
        refine z_icmp_ne (tgt := 43) hX dX11_hold_37 (by decide) (fun hc => ?_) (fun hc => ?_)
        · have h := h1 hc
          refine z_lload_n hX dX11_hold_43 rfl 2 rfl ?_
          refine z_aload_n (r := (some h0)) hX dX11_hold_44 rfl 0 rfl ?_
          refine gf_RX11_63 (r := (some h0)) hX dX11_hold_45 rfl hk13 ?_
          refine z_iload_n hX dX11_hold_48 rfl 1 rfl ?_
          obtain ⟨a14, ha15, h⟩ := h
          obtain ⟨hk16, h⟩ := h
          obtain ⟨hc17, h⟩ := h
          refine y_lald (r := (mR M11 733 h0)) hX dX11_hold_49 ha15 hk16 hc17 ?_
          refine z_lcmp hX dX11_hold_50 ?_
          obtain ⟨h1, h2⟩ := h
          refine z_if_gt (tgt := 57) hX dX11_hold_51 (by decide) (fun hc => ?_) (fun hc => ?_)
          · have h := h1 ((lg_cmp_gt _ _).mp hc)
            refine z_aload_n (r := (some h0)) hX dX11_hold_57 rfl 0 rfl ?_
            refine gf_RX11_295 (r := (some h0)) hX dX11_hold_58 rfl hk13 ?_
            refine z_istore hX [(4, .int (mI M11 752 h0)), (0, va_rf (some h0)), (1, .int p1), (2, .long p2)] dX11_hold_61 (by rw [hnL]; decide) rfl ?_
            refine z_aload_n (r := (some h0)) hX dX11_hold_63 rfl 1 rfl ?_
            refine z_dup hX dX11_hold_64 (cat_rf _) ?_
            refine gf_RX11_295 (r := (some h0)) hX dX11_hold_65 rfl hk13 ?_
            refine z_iconst (v := (1 : Int32)) hX dX11_hold_68 (by decide) ?_
            refine z_iadd hX dX11_hold_69 ?_
            refine pf_RX11_295 (r := (some h0)) (v := ((mI M11 752 h0) + (1 : Int32))) hX dX11_hold_70 rfl hk13 ?_
            refine z_aload_n (r := (some h0)) hX dX11_hold_73 rfl 1 rfl ?_
            refine gf_RX11_108 (r := (some h0)) hX dX11_hold_74 rfl hk13 ?_
            refine z_iload hX dX11_hold_77 0 rfl ?_
            refine z_iload_n hX dX11_hold_79 rfl 2 rfl ?_
            obtain ⟨a19, ha20, h⟩ := h
            obtain ⟨hk21, h⟩ := h
            obtain ⟨hc22, h⟩ := h
            refine y_iast (r := (mR (sI M11 752 h0 ((mI M11 752 h0) + (1 : Int32))) 753 h0)) hX dX11_hold_80 ha20 hk21 hc22 ?_
            refine z_aload_n (r := (some h0)) hX dX11_hold_81 rfl 1 rfl ?_
            refine gf_RX11_111 (r := (some h0)) hX dX11_hold_82 rfl hk13 ?_
            refine z_iload hX dX11_hold_85 0 rfl ?_
            refine z_lload_n hX dX11_hold_87 rfl 3 rfl ?_
            obtain ⟨a23, ha24, h⟩ := h
            obtain ⟨hk25, h⟩ := h
            obtain ⟨hc26, h⟩ := h
            refine y_last (r := (mR (tI (sI M11 752 h0 ((mI M11 752 h0) + (1 : Int32))) a19 ((mI M11 752 h0)).toNatClampNeg p1) 754 h0)) hX dX11_hold_88 ha24 hk25 hc26 ?_
            refine z_aload_n (r := (some h0)) hX dX11_hold_89 rfl 1 rfl ?_
            refine gf_RX11_114 (r := (some h0)) hX dX11_hold_90 rfl hk13 ?_
            refine z_iload hX dX11_hold_93 0 rfl ?_
            refine z_iconst (v := (1 : Int32)) hX dX11_hold_95 (by decide) ?_
            obtain ⟨a27, ha28, h⟩ := h
            obtain ⟨hk29, h⟩ := h
            obtain ⟨hc30, h⟩ := h
            refine y_zast (r := (mR (tJ (tI (sI M11 752 h0 ((mI M11 752 h0) + (1 : Int32))) a19 ((mI M11 752 h0)).toNatClampNeg p1) a23 ((mI M11 752 h0)).toNatClampNeg p2) 755 h0)) hX dX11_hold_96 ha28 hk29 hc30 (Or.inr rfl)  ?_
            refine z_aload_n (r := (some h0)) hX dX11_hold_97 rfl 1 rfl ?_
            refine z_callVV (As := []) (rest := []) (ci := 11) hX (ct_X11_reckon h) mw_RX11_395 rfl (by decide) rfl (by rfl) (by unfold RoomC; decide) (by decide) dX11_hold_98 hk13 (fun M32 h => ?_)
            refine z_iload hX dX11_hold_101 0 rfl ?_
            exact z_iret hX hQ dX11_hold_103 h
          · have h := h2 (fun q => hc ((lg_cmp_gt _ _).mpr q))
            refine z_bipush (v := (-5 : Int32)) hX dX11_hold_54 (by decide) ?_
            exact z_iret hX hQ dX11_hold_56 h
        · have h := h2 hc
          refine z_bipush (v := (-4 : Int32)) hX dX11_hold_40 (by decide) ?_
          exact z_iret hX hQ dX11_hold_42 h
      · have h := h2 hc
        refine z_loc [] rfl ?_
        exact zb_X11_hold_29 hX hQ hnL h
def rm_X11_release : Room := { frames := 310, cells := 0, slots := 0, locals := 12237 }
def bk_X11_release_43 (h0 : Nat) (K : Int32 → Mm → Prop) (M : Mm) : Prop := (K (-1 : Int32) M)
set_option maxRecDepth 100000 in
set_option maxHeartbeats 4000000 in
theorem zb_X11_release_43 {X : Cx} {h0 : Nat} {K : Int32 → Mm → Prop} (hX : Ok X cX11_release RX11 rm_X11_release) (hQ : Rq X rm_X11_release (some .int) (QI K)) (hnL : X.2.2.2.2.2.2.2.2.2.2.2.2.2.2 = 4) {M : Mm} (h : bk_X11_release_43 h0 K M) : Z X M 0 0 43 [] [] := by
  unfold bk_X11_release_43 at h
  refine z_iconst (v := (-1 : Int32)) hX dX11_release_43 (by decide) ?_
  exact z_iret hX hQ dX11_release_44 h
def bk_X11_release_67 (h0 : Nat) (K : Int32 → Mm → Prop) (l1 : Int32) (M : Mm) : Prop := mK M h0 = 12 ∧ ∃ a2, (mR M 755 h0) = some a2 ∧ isA M a2 3 ∧ vp_in l1 (aN M a2) ∧ (wp_X11_reckon (tI M a2 (l1).toNatClampNeg (0 : Int32)) h0 (fun M7 => (K (1 : Int32) M7)))
set_option maxRecDepth 100000 in
set_option maxHeartbeats 4000000 in
theorem zb_X11_release_67 {X : Cx} {h0 : Nat} {K : Int32 → Mm → Prop} (hX : Ok X cX11_release RX11 rm_X11_release) (hQ : Rq X rm_X11_release (some .int) (QI K)) (hnL : X.2.2.2.2.2.2.2.2.2.2.2.2.2.2 = 4) {l1 : Int32} {M : Mm} (h : bk_X11_release_67 h0 K l1 M) : Z X M 0 0 67 [(0, va_rf (some h0)), (1, .int l1)] [] := by
  unfold bk_X11_release_67 at h
  refine z_aload_n (r := (some h0)) hX dX11_release_67 rfl 0 rfl ?_
  obtain ⟨hk1, h⟩ := h
  refine gf_RX11_114 (r := (some h0)) hX dX11_release_68 rfl hk1 ?_
  refine z_iload_n hX dX11_release_71 rfl 1 rfl ?_
  refine z_iconst (v := (0 : Int32)) hX dX11_release_72 (by decide) ?_
  obtain ⟨a2, ha3, h⟩ := h
  obtain ⟨hk4, h⟩ := h
  obtain ⟨hc5, h⟩ := h
  refine y_zast (r := (mR M 755 h0)) hX dX11_release_73 ha3 hk4 hc5 (Or.inl rfl)  ?_
  refine z_aload_n (r := (some h0)) hX dX11_release_74 rfl 0 rfl ?_
  refine z_callVV (As := []) (rest := []) (ci := 11) hX (ct_X11_reckon h) mw_RX11_395 rfl (by decide) rfl (by rfl) (by unfold RoomC; decide) (by decide) dX11_release_75 hk1 (fun M7 h => ?_)
  refine z_iconst (v := (1 : Int32)) hX dX11_release_78 (by decide) ?_
  exact z_iret hX hQ dX11_release_79 h
def wp_X11_release (M : Mm) (h0 : Nat) (p1 : Int32) (p2 : Int32) (p3 : Int32) (K : Int32 → Mm → Prop) : Prop := mK M h0 = 12 ∧ (((mI (sI M 704 h0 (0 : Int32)) 732 h0) = 0 → (bk_X11_release_43 h0 K (sI M 704 h0 (0 : Int32)))) ∧ (¬ (mI (sI M 704 h0 (0 : Int32)) 732 h0) = 0 → ((p1 < 0 → (bk_X11_release_43 h0 K (sI M 704 h0 (0 : Int32)))) ∧ (¬ p1 < 0 → (((mI (sI M 704 h0 (0 : Int32)) 752 h0) ≤ p1 → (bk_X11_release_43 h0 K (sI M 704 h0 (0 : Int32)))) ∧ (¬ (mI (sI M 704 h0 (0 : Int32)) 752 h0) ≤ p1 → ∃ a11, (mR (sI M 704 h0 (0 : Int32)) 755 h0) = some a11 ∧ isA (sI M 704 h0 (0 : Int32)) a11 3 ∧ vp_in p1 (aN (sI M 704 h0 (0 : Int32)) a11) ∧ (((aI (sI M 704 h0 (0 : Int32)) a11 (p1).toNatClampNeg) = 0 → (bk_X11_release_43 h0 K (sI M 704 h0 (0 : Int32)))) ∧ (¬ (aI (sI M 704 h0 (0 : Int32)) a11 (p1).toNatClampNeg) = 0 → ((p3 < 0 → (bk_X11_release_43 h0 K (sI M 704 h0 (0 : Int32)))) ∧ (¬ p3 < 0 → ((p3 ≤ (9 : Int32) → ((p2 = 0 → (bk_X11_release_67 h0 K p1 (sI M 704 h0 (0 : Int32)))) ∧ (¬ p2 = 0 → ∃ a15, (mR (sI M 704 h0 (0 : Int32)) 753 h0) = some a15 ∧ isA (sI M 704 h0 (0 : Int32)) a15 1 ∧ vp_in p1 (aN (sI M 704 h0 (0 : Int32)) a15) ∧ ∃ a19, (mR (sI M 704 h0 (0 : Int32)) 754 h0) = some a19 ∧ isA (sI M 704 h0 (0 : Int32)) a19 2 ∧ vp_in p1 (aN (sI M 704 h0 (0 : Int32)) a19) ∧ (wp_X11_pass 30 (sI M 704 h0 (0 : Int32)) h0 (aI (sI M 704 h0 (0 : Int32)) a15 (p1).toNatClampNeg) (aJ (sI M 704 h0 (0 : Int32)) a19 (p1).toNatClampNeg) p3 (1 : Int32) (fun M24 => (bk_X11_release_67 h0 K p1 M24)))))) ∧ (¬ p3 ≤ (9 : Int32) → (bk_X11_release_43 h0 K (sI M 704 h0 (0 : Int32)))))))))))))))
set_option maxRecDepth 100000 in
set_option maxHeartbeats 4000000 in
theorem ct_X11_release {M : Mm} {h0 : Nat} {p1 : Int32} {p2 : Int32} {p3 : Int32} {K : Int32 → Mm → Prop} (h : wp_X11_release M h0 p1 p2 p3 K) : CtI yX11_release cX11_release 4 (some .int) rm_X11_release [.ref h0, .int p1, .int p2, .int p3] M K := by
  refine ct_any (QI K) (by decide) (by exact Nat.le_of_ble_eq_true rfl) (fun X hX hQ hnL hnm => ?_)
  rw [show lv_args 0 [.ref h0, .int p1, .int p2, .int p3] = [(0, va_rf (some h0)), (1, .int p1), (2, .int p2), (3, .int p3)] by rfl]
  have hX : Ok X cX11_release RX11 rm_X11_release := hX
  unfold wp_X11_release at h
  refine z_aload_n (r := (some h0)) hX dX11_release_0 rfl 0 rfl ?_
  refine z_iconst (v := (0 : Int32)) hX dX11_release_1 (by decide) ?_
  obtain ⟨hk9, h⟩ := h
  refine pf_RX11_123 (r := (some h0)) (v := (0 : Int32)) hX dX11_release_2 rfl hk9 ?_
  refine z_aload_n (r := (some h0)) hX dX11_release_5 rfl 0 rfl ?_
  refine gf_RX11_277 (r := (some h0)) hX dX11_release_6 rfl hk9 ?_
  obtain ⟨h1, h2⟩ := h
  refine z_if_eq (tgt := 43) hX dX11_release_9 (by decide) (fun hc => ?_) (fun hc => ?_)
  · have h := h1 hc
    refine z_loc [] rfl ?_
    exact zb_X11_release_43 hX hQ hnL h
  · have h := h2 hc
    refine z_iload_n hX dX11_release_12 rfl 1 rfl ?_
    obtain ⟨h1, h2⟩ := h
    refine z_if_lt (tgt := 43) hX dX11_release_13 (by decide) (fun hc => ?_) (fun hc => ?_)
    · have h := h1 hc
      refine z_loc [] rfl ?_
      exact zb_X11_release_43 hX hQ hnL h
    · have h := h2 hc
      refine z_iload_n hX dX11_release_16 rfl 1 rfl ?_
      refine z_aload_n (r := (some h0)) hX dX11_release_17 rfl 0 rfl ?_
      refine gf_RX11_295 (r := (some h0)) hX dX11_release_18 rfl hk9 ?_
      obtain ⟨h1, h2⟩ := h
      refine z_icmp_ge (tgt := 43) hX dX11_release_21 (by decide) (fun hc => ?_) (fun hc => ?_)
      · have h := h1 hc
        refine z_loc [] rfl ?_
        exact zb_X11_release_43 hX hQ hnL h
      · have h := h2 hc
        refine z_aload_n (r := (some h0)) hX dX11_release_24 rfl 0 rfl ?_
        refine gf_RX11_114 (r := (some h0)) hX dX11_release_25 rfl hk9 ?_
        refine z_iload_n hX dX11_release_28 rfl 1 rfl ?_
        obtain ⟨a11, ha12, h⟩ := h
        obtain ⟨hk13, h⟩ := h
        obtain ⟨hc14, h⟩ := h
        refine y_zald (r := (mR (sI M 704 h0 (0 : Int32)) 755 h0)) hX dX11_release_29 ha12 hk13 hc14 ?_
        obtain ⟨h1, h2⟩ := h
        refine z_if_eq (tgt := 43) hX dX11_release_30 (by decide) (fun hc => ?_) (fun hc => ?_)
        · have h := h1 hc
          refine z_loc [] rfl ?_
          exact zb_X11_release_43 hX hQ hnL h
        · have h := h2 hc
          refine z_iload_n hX dX11_release_33 rfl 3 rfl ?_
          obtain ⟨h1, h2⟩ := h
          refine z_if_lt (tgt := 43) hX dX11_release_34 (by decide) (fun hc => ?_) (fun hc => ?_)
          · have h := h1 hc
            refine z_loc [] rfl ?_
            exact zb_X11_release_43 hX hQ hnL h
          · have h := h2 hc
            refine z_iload_n hX dX11_release_37 rfl 3 rfl ?_
            refine z_bipush (v := (9 : Int32)) hX dX11_release_38 (by decide) ?_
            obtain ⟨h1, h2⟩ := h
            refine z_icmp_le (tgt := 45) hX dX11_release_40 (by decide) (fun hc => ?_) (fun hc => ?_)
            · have h := h1 hc
              refine z_iload_n hX dX11_release_45 rfl 2 rfl ?_
              obtain ⟨h1, h2⟩ := h
              refine z_if_eq (tgt := 67) hX dX11_release_46 (by decide) (fun hc => ?_) (fun hc => ?_)
              · have h := h1 hc
                refine z_loc [0, 1] rfl ?_
                exact zb_X11_release_67 hX hQ hnL h
              · have h := h2 hc
                refine z_aload_n (r := (some h0)) hX dX11_release_49 rfl 0 rfl ?_
                refine z_aload_n (r := (some h0)) hX dX11_release_50 rfl 0 rfl ?_
                refine gf_RX11_108 (r := (some h0)) hX dX11_release_51 rfl hk9 ?_
                refine z_iload_n hX dX11_release_54 rfl 1 rfl ?_
                obtain ⟨a15, ha16, h⟩ := h
                obtain ⟨hk17, h⟩ := h
                obtain ⟨hc18, h⟩ := h
                refine y_iald (r := (mR (sI M 704 h0 (0 : Int32)) 753 h0)) hX dX11_release_55 ha16 hk17 hc18 ?_
                refine z_aload_n (r := (some h0)) hX dX11_release_56 rfl 0 rfl ?_
                refine gf_RX11_111 (r := (some h0)) hX dX11_release_57 rfl hk9 ?_
                refine z_iload_n hX dX11_release_60 rfl 1 rfl ?_
                obtain ⟨a19, ha20, h⟩ := h
                obtain ⟨hk21, h⟩ := h
                obtain ⟨hc22, h⟩ := h
                refine y_lald (r := (mR (sI M 704 h0 (0 : Int32)) 754 h0)) hX dX11_release_61 ha20 hk21 hc22 ?_
                refine z_iload_n hX dX11_release_62 rfl 3 rfl ?_
                refine z_iconst (v := (1 : Int32)) hX dX11_release_63 (by decide) ?_
                refine z_callVV (As := [.int (aI (sI M 704 h0 (0 : Int32)) a15 (p1).toNatClampNeg), .long (aJ (sI M 704 h0 (0 : Int32)) a19 (p1).toNatClampNeg), .int p3, .int (1 : Int32)]) (rest := []) (ci := 11) hX (ct_X11_pass 30 h) mw_RX11_328 rfl (by decide) rfl (by rfl) (by unfold RoomC; decide) (by decide) dX11_release_64 hk9 (fun M24 h => ?_)
                refine z_loc [0, 1] rfl ?_
                exact zb_X11_release_67 hX hQ hnL h
            · have h := h2 hc
              refine z_loc [] rfl ?_
              exact zb_X11_release_43 hX hQ hnL h
def bk_X1_passOn_170 (P : Mm → Nat → Option Nat → Int64 → Int32 → Int32 → Int32 → (Mm → Prop) → Prop) (h0 : Nat) (K : Mm → Prop) (M : Mm) : Prop := (K M)
set_option maxRecDepth 100000 in
set_option maxHeartbeats 4000000 in
theorem zb_X1_passOn_170 {X : Cx} {d : Nat} {P : Mm → Nat → Option Nat → Int64 → Int32 → Int32 → Int32 → (Mm → Prop) → Prop} {h0 : Nat} {K : Mm → Prop} (hP : ∀ {M : Mm} {h0 : Nat} {x1 : Option Nat} {x2 : Int64} {x3 : Int32} {x4 : Int32} {x5 : Int32} {K : Mm → Prop}, P M h0 x1 x2 x3 x4 x5 K → CtV yX1_passOn cX1_passOn 10 none (rm_X1_passOn d) [.ref h0, va_rf x1, .long x2, .int x3, .int x4, .int x5] M K) (hX : Ok X cX1_passOn RX1 (rm_X1_passOn (d + 1))) (hQ : Rq X (rm_X1_passOn (d + 1)) none (QV K)) (hnL : X.2.2.2.2.2.2.2.2.2.2.2.2.2.2 = 10) {M : Mm} (h : bk_X1_passOn_170 P h0 K M) : Z X M 0 0 170 [] [] := by
  unfold bk_X1_passOn_170 at h
  exact z_vret hX hQ dX1_passOn_170 h
def bk_X1_passOn_140 (P : Mm → Nat → Option Nat → Int64 → Int32 → Int32 → Int32 → (Mm → Prop) → Prop) (h0 : Nat) (K : Mm → Prop) (l4 : Int32) (l5 : Int32) (l6 : Int32) (l8 : Int64) (s0 : Int32) (s1 : Option Nat) (s2 : Option Nat) (M : Mm) : Prop := ∃ a3, s2 = some a3 ∧ mK M a3 = 2 ∧ (wp_X1_comeToJoin P M a3 s1 s0 l8 l4 l5 l6 (fun M2 => (bk_X1_passOn_170 P h0 K M2)))
set_option maxRecDepth 100000 in
set_option maxHeartbeats 4000000 in
theorem zb_X1_passOn_140 {X : Cx} {d : Nat} {P : Mm → Nat → Option Nat → Int64 → Int32 → Int32 → Int32 → (Mm → Prop) → Prop} {h0 : Nat} {K : Mm → Prop} (hP : ∀ {M : Mm} {h0 : Nat} {x1 : Option Nat} {x2 : Int64} {x3 : Int32} {x4 : Int32} {x5 : Int32} {K : Mm → Prop}, P M h0 x1 x2 x3 x4 x5 K → CtV yX1_passOn cX1_passOn 10 none (rm_X1_passOn d) [.ref h0, va_rf x1, .long x2, .int x3, .int x4, .int x5] M K) (hX : Ok X cX1_passOn RX1 (rm_X1_passOn (d + 1))) (hQ : Rq X (rm_X1_passOn (d + 1)) none (QV K)) (hnL : X.2.2.2.2.2.2.2.2.2.2.2.2.2.2 = 10) {l4 : Int32} {l5 : Int32} {l6 : Int32} {l8 : Int64} {s0 : Int32} {s1 : Option Nat} {s2 : Option Nat} {M : Mm} (h : bk_X1_passOn_140 P h0 K l4 l5 l6 l8 s0 s1 s2 M) : Z X M 0 0 140 [(4, .int l4), (5, .int l5), (6, .int l6), (8, .long l8)] [.int s0, va_rf s1, va_rf s2] := by
  unfold bk_X1_passOn_140 at h
  refine z_lload hX dX1_passOn_140 3 rfl ?_
  refine z_iload hX dX1_passOn_142 0 rfl ?_
  refine z_iload hX dX1_passOn_144 1 rfl ?_
  refine z_iload hX dX1_passOn_146 2 rfl ?_
  obtain ⟨a3, ha4, h⟩ := h
  obtain ⟨hk5, h⟩ := h
  refine z_callVV (As := [va_rf s1, .int s0, .long l8, .int l4, .int l5, .int l6]) (rest := []) (ci := 1) hX (ct_X1_comeToJoin hP h) mw_RX1_162 rfl (by decide) rfl (by rw [ha4]; rfl) (by simp only [RoomC, rm_X10_together, rm_X1_comeToJoin, rm_X1_passOn, rm_X3_note, rm_X9_add]; omega) (by decide) dX1_passOn_148 hk5 (fun M2 h => ?_)
  refine z_goto (tgt := 170) hX dX1_passOn_151 (by decide) ?_
  refine z_loc [] rfl ?_
  exact zb_X1_passOn_170 hP hX hQ hnL h
def wp_X1_passOn : Nat → Mm → Nat → Option Nat → Int64 → Int32 → Int32 → Int32 → (Mm → Prop) → Prop
  | 0, _, _, _, _, _, _, _, _ => False
  | d + 1, M, h0, p1, p2, p3, p4, p5, K => ∃ a7, p1 = some a7 ∧ mK M a7 = 7 ∧ (((mR M 389 a7) = none → mK M h0 = 2 ∧ ∃ a15, (mR M 64 h0) = some a15 ∧ mK M a15 = 4 ∧ (wp_X3_note M a15 (mI M 384 a7) p2 p3 p4 (fun M14 => (K M14)))) ∧ (∀ a10, (mR M 389 a7) = some a10 → ((p5 < (12 : Int32) → mK M a10 = 7 ∧ (wp_X10_together M p2 (mJ M 392 a10) (fun r20 M21 => mK M21 a10 = 7 ∧ (((mJ M21 390 a10) < r20 → (((mR M21 395 a10) = none → (((mR M21 394 a10) = none → mK M21 h0 = 2 ∧ ((wp_X1_passOn d) M21 h0 (mR M 389 a7) r20 p3 p4 (p5 + (1 : Int32)) (fun M29 => (bk_X1_passOn_170 (wp_X1_passOn d) h0 K M29)))) ∧ (∀ a26, (mR M21 394 a10) = some a26 → ∃ a32, (mR M21 387 a10) = some a32 ∧ isA M21 a32 4 ∧ vp_in (0 : Int32) (aN M21 a32) ∧ ((¬ p1 = (aR M21 a32 ((0 : Int32)).toNatClampNeg) → (bk_X1_passOn_140 (wp_X1_passOn d) h0 K p3 p4 p5 r20 (1 : Int32) (mR M 389 a7) (some h0) M21)) ∧ (p1 = (aR M21 a32 ((0 : Int32)).toNatClampNeg) → (bk_X1_passOn_140 (wp_X1_passOn d) h0 K p3 p4 p5 r20 (0 : Int32) (mR M 389 a7) (some h0) M21)))))) ∧ (∀ a24, (mR M21 395 a10) = some a24 → mK M21 h0 = 2 ∧ mK M21 a24 = 10 ∧ (wp_X9_add M21 a24 r20 p3 p4 (fun r37 M38 => mK M38 h0 = 2 ∧ (bk_X1_passOn_170 (wp_X1_passOn d) h0 K (sI M38 71 h0 ((mI M21 71 h0) + r37)))))))) ∧ (¬ (mJ M21 390 a10) < r20 → mK M21 h0 = 2 ∧ ∃ a46, (mR M21 65 h0) = some a46 ∧ mK M21 a46 = 4 ∧ (wp_X3_note M21 a46 (mI M21 384 a10) r20 p3 p4 (fun M45 => (bk_X1_passOn_170 (wp_X1_passOn d) h0 K M45)))))))) ∧ (¬ p5 < (12 : Int32) → (K M)))))
set_option maxRecDepth 100000 in
set_option maxHeartbeats 4000000 in
theorem ct_X1_passOn : ∀ (d : Nat) {M : Mm} {h0 : Nat} {p1 : Option Nat} {p2 : Int64} {p3 : Int32} {p4 : Int32} {p5 : Int32} {K : Mm → Prop}, wp_X1_passOn d M h0 p1 p2 p3 p4 p5 K → CtV yX1_passOn cX1_passOn 10 none (rm_X1_passOn d) [.ref h0, va_rf p1, .long p2, .int p3, .int p4, .int p5] M K := by
  intro d
  induction d with
  | zero =>
    intro M h0 p1 p2 p3 p4 p5 K h
    exact False.elim h
  | succ d ih =>
    intro M h0 p1 p2 p3 p4 p5 K h
    have hP := @ih
    refine ct_any (QV K) (by decide) (by cases p1 <;> exact Nat.le_of_ble_eq_true rfl) (fun X hX hQ hnL hnm => ?_)
    rw [show lv_args 0 [.ref h0, va_rf p1, .long p2, .int p3, .int p4, .int p5] = [(0, va_rf (some h0)), (1, va_rf p1), (2, .long p2), (4, .int p3), (5, .int p4), (6, .int p5)] by cases p1 <;> rfl]
    have hX : Ok X cX1_passOn RX1 (rm_X1_passOn (d + 1)) := hX
    refine z_aload_n (r := p1) hX dX1_passOn_0 rfl 1 rfl ?_
    obtain ⟨a7, ha8, h⟩ := h
    obtain ⟨hk9, h⟩ := h
    refine gf_RX1_135 (r := p1) hX dX1_passOn_1 ha8 hk9 ?_
    refine z_astore (r := (mR M 389 a7)) hX [(7, va_rf (mR M 389 a7)), (0, va_rf (some h0)), (1, va_rf p1), (2, .long p2), (4, .int p3), (5, .int p4), (6, .int p5)] dX1_passOn_4 (by rw [hnL]; decide) rfl ?_
    refine z_aload (r := (mR M 389 a7)) hX dX1_passOn_6 0 rfl ?_
    obtain ⟨h1, h2⟩ := h
    refine z_ifnonnull (r := (mR M 389 a7)) (tgt := 28) hX dX1_passOn_8 (by decide) (fun a10 ha11 => ?_) (fun hc => ?_)
    · have h := h2 a10 ha11
      refine z_iload hX dX1_passOn_28 6 rfl ?_
      refine z_bipush (v := (12 : Int32)) hX dX1_passOn_30 (by decide) ?_
      obtain ⟨h1, h2⟩ := h
      refine z_icmp_lt (tgt := 36) hX dX1_passOn_32 (by decide) (fun hc => ?_) (fun hc => ?_)
      · have h := h1 hc
        refine z_lload_n hX dX1_passOn_36 rfl 3 rfl ?_
        refine z_aload (r := (mR M 389 a7)) hX dX1_passOn_37 0 rfl ?_
        obtain ⟨hk19, h⟩ := h
        refine gf_RX1_139 (r := (mR M 389 a7)) hX dX1_passOn_39 ha11 hk19 ?_
        refine z_callNJ (As := [.long p2, .long (mJ M 392 a10)]) (rest := []) hX (ct_X10_together h) mw_RX1_77 rfl (by rfl) (by simp only [RoomC, rm_X10_together, rm_X1_comeToJoin, rm_X1_passOn, rm_X3_note, rm_X9_add]; omega) (by decide) dX1_passOn_42 (fun r20 M21 h => ?_)
        refine z_lstore (i := 8) hX [(8, .long r20), (7, va_rf (mR M 389 a7)), (0, va_rf (some h0)), (1, va_rf p1), (2, .long p2), (4, .int p3), (5, .int p4), (6, .int p5)] dX1_passOn_45 (by rw [hnL]; decide) (by simp [cat_rf]) ?_
        refine z_lload hX dX1_passOn_47 0 rfl ?_
        refine z_aload (r := (mR M 389 a7)) hX dX1_passOn_49 1 rfl ?_
        obtain ⟨hk23, h⟩ := h
        refine gf_RX1_98 (r := (mR M 389 a7)) hX dX1_passOn_51 ha11 hk23 ?_
        refine z_lcmp hX dX1_passOn_54 ?_
        obtain ⟨h1, h2⟩ := h
        refine z_if_gt (tgt := 79) hX dX1_passOn_55 (by decide) (fun hc => ?_) (fun hc => ?_)
        · have h := h1 ((lg_cmp_gt _ _).mp hc)
          refine z_aload (r := (mR M 389 a7)) hX dX1_passOn_79 1 rfl ?_
          refine gf_RX1_142 (r := (mR M 389 a7)) hX dX1_passOn_81 ha11 hk23 ?_
          obtain ⟨h1, h2⟩ := h
          refine z_ifnull (r := (mR M21 395 a10)) (tgt := 113) hX dX1_passOn_84 (by decide) (fun hc => ?_) (fun a24 ha25 => ?_)
          · have h := h1 hc
            refine z_aload (r := (mR M 389 a7)) hX dX1_passOn_113 1 rfl ?_
            refine gf_RX1_155 (r := (mR M 389 a7)) hX dX1_passOn_115 ha11 hk23 ?_
            obtain ⟨h1, h2⟩ := h
            refine z_ifnull (r := (mR M21 394 a10)) (tgt := 154) hX dX1_passOn_118 (by decide) (fun hc => ?_) (fun a26 ha27 => ?_)
            · have h := h1 hc
              refine z_aload_n (r := (some h0)) hX dX1_passOn_154 rfl 2 rfl ?_
              refine z_aload (r := (mR M 389 a7)) hX dX1_passOn_155 1 rfl ?_
              refine z_lload hX dX1_passOn_157 0 rfl ?_
              refine z_iload hX dX1_passOn_159 5 rfl ?_
              refine z_iload hX dX1_passOn_161 6 rfl ?_
              refine z_iload hX dX1_passOn_163 7 rfl ?_
              refine z_iconst (v := (1 : Int32)) hX dX1_passOn_165 (by decide) ?_
              refine z_iadd hX dX1_passOn_166 ?_
              obtain ⟨hk30, h⟩ := h
              refine z_callVV (As := [va_rf (mR M 389 a7), .long r20, .int p3, .int p4, .int (p5 + (1 : Int32))]) (rest := []) (ci := 1) hX (hP h) mw_RX1_110 rfl (by decide) rfl (by rfl) (by simp only [RoomC, rm_X10_together, rm_X1_comeToJoin, rm_X1_passOn, rm_X3_note, rm_X9_add]; omega) (by decide) dX1_passOn_167 hk30 (fun M29 h => ?_)
              refine z_loc [] rfl ?_
              exact zb_X1_passOn_170 hP hX hQ hnL h
            · have h := h2 a26 ha27
              refine z_aload_n (r := (some h0)) hX dX1_passOn_121 rfl 2 rfl ?_
              refine z_aload (r := (mR M 389 a7)) hX dX1_passOn_122 1 rfl ?_
              refine z_aload_n (r := p1) hX dX1_passOn_124 rfl 3 rfl ?_
              refine z_aload (r := (mR M 389 a7)) hX dX1_passOn_125 1 rfl ?_
              refine gf_RX1_159 (r := (mR M 389 a7)) hX dX1_passOn_127 ha11 hk23 ?_
              refine z_iconst (v := (0 : Int32)) hX dX1_passOn_130 (by decide) ?_
              obtain ⟨a32, ha33, h⟩ := h
              obtain ⟨hk34, h⟩ := h
              obtain ⟨hc35, h⟩ := h
              refine y_aldq (r := (mR M21 387 a10)) hX dX1_passOn_131 ha33 hk34 hc35 ?_
              obtain ⟨h1, h2⟩ := h
              refine z_acmp_ne (rx := p1) (ry := (aR M21 a32 ((0 : Int32)).toNatClampNeg)) (tgt := 139) hX dX1_passOn_132 (by decide) (fun hc => ?_) (fun hc => ?_)
              · have h := h1 hc
                refine z_iconst (v := (1 : Int32)) hX dX1_passOn_139 (by decide) ?_
                refine z_loc [5, 6, 7, 0] rfl ?_
                exact zb_X1_passOn_140 hP hX hQ hnL h
              · have h := h2 hc
                refine z_iconst (v := (0 : Int32)) hX dX1_passOn_135 (by decide) ?_
                refine z_goto (tgt := 140) hX dX1_passOn_136 (by decide) ?_
                refine z_loc [5, 6, 7, 0] rfl ?_
                exact zb_X1_passOn_140 hP hX hQ hnL h
          · have h := h2 a24 ha25
            refine z_aload_n (r := (some h0)) hX dX1_passOn_87 rfl 2 rfl ?_
            refine z_dup hX dX1_passOn_88 (cat_rf _) ?_
            obtain ⟨hk36, h⟩ := h
            refine gf_RX1_146 (r := (some h0)) hX dX1_passOn_89 rfl hk36 ?_
            refine z_aload (r := (mR M 389 a7)) hX dX1_passOn_92 1 rfl ?_
            refine gf_RX1_142 (r := (mR M 389 a7)) hX dX1_passOn_94 ha11 hk23 ?_
            refine z_lload hX dX1_passOn_97 0 rfl ?_
            refine z_iload hX dX1_passOn_99 5 rfl ?_
            refine z_iload hX dX1_passOn_101 6 rfl ?_
            obtain ⟨hk39, h⟩ := h
            refine z_callVI (As := [.long r20, .int p3, .int p4]) (rest := [.int (mI M21 71 h0), va_rf (some h0)]) (ci := 9) hX (ct_X9_add h) mw_RX1_149 rfl (by decide) rfl (by rw [ha25]; rfl) (by simp only [RoomC, rm_X10_together, rm_X1_comeToJoin, rm_X1_passOn, rm_X3_note, rm_X9_add]; omega) (by simp only [List.map_cons, List.map_nil, List.sum_cons, List.sum_nil, cat_rf, cat_i, cat_j]; decide) dX1_passOn_103 hk39 (fun r37 M38 h => ?_)
            refine z_iadd hX dX1_passOn_106 ?_
            obtain ⟨hk41, h⟩ := h
            refine pf_RX1_146 (r := (some h0)) (v := ((mI M21 71 h0) + r37)) hX dX1_passOn_107 rfl hk41 ?_
            refine z_goto (tgt := 170) hX dX1_passOn_110 (by decide) ?_
            refine z_loc [] rfl ?_
            exact zb_X1_passOn_170 hP hX hQ hnL h
        · have h := h2 (fun q => hc ((lg_cmp_gt _ _).mpr q))
          refine z_aload_n (r := (some h0)) hX dX1_passOn_58 rfl 2 rfl ?_
          obtain ⟨hk43, h⟩ := h
          refine gf_RX1_15 (r := (some h0)) hX dX1_passOn_59 rfl hk43 ?_
          refine z_aload (r := (mR M 389 a7)) hX dX1_passOn_62 1 rfl ?_
          refine gf_RX1_101 (r := (mR M 389 a7)) hX dX1_passOn_64 ha11 hk23 ?_
          refine z_lload hX dX1_passOn_67 0 rfl ?_
          refine z_iload hX dX1_passOn_69 5 rfl ?_
          refine z_iload hX dX1_passOn_71 6 rfl ?_
          obtain ⟨a46, ha47, h⟩ := h
          obtain ⟨hk48, h⟩ := h
          refine z_callVV (As := [.int (mI M21 384 a10), .long r20, .int p3, .int p4]) (rest := []) (ci := 3) hX (ct_X3_note h) mw_RX1_104 rfl (by decide) rfl (by rw [ha47]; rfl) (by simp only [RoomC, rm_X10_together, rm_X1_comeToJoin, rm_X1_passOn, rm_X3_note, rm_X9_add]; omega) (by decide) dX1_passOn_73 hk48 (fun M45 h => ?_)
          refine z_goto (tgt := 170) hX dX1_passOn_76 (by decide) ?_
          refine z_loc [] rfl ?_
          exact zb_X1_passOn_170 hP hX hQ hnL h
      · have h := h2 hc
        exact z_vret hX hQ dX1_passOn_35 h
    · have h := h1 hc
      refine z_aload_n (r := (some h0)) hX dX1_passOn_11 rfl 1 rfl ?_
      obtain ⟨hk12, h⟩ := h
      refine gf_RX1_9 (r := (some h0)) hX dX1_passOn_12 rfl hk12 ?_
      refine z_aload_n (r := p1) hX dX1_passOn_15 rfl 2 rfl ?_
      refine gf_RX1_101 (r := p1) hX dX1_passOn_16 ha8 hk9 ?_
      refine z_lload_n hX dX1_passOn_19 rfl 3 rfl ?_
      refine z_iload hX dX1_passOn_20 4 rfl ?_
      refine z_iload hX dX1_passOn_22 5 rfl ?_
      obtain ⟨a15, ha16, h⟩ := h
      obtain ⟨hk17, h⟩ := h
      refine z_callVV (As := [.int (mI M 384 a7), .long p2, .int p3, .int p4]) (rest := []) (ci := 3) hX (ct_X3_note h) mw_RX1_104 rfl (by decide) rfl (by rw [ha16]; rfl) (by simp only [RoomC, rm_X10_together, rm_X1_comeToJoin, rm_X1_passOn, rm_X3_note, rm_X9_add]; omega) (by decide) dX1_passOn_24 hk17 (fun M14 h => ?_)
      exact z_vret hX hQ dX1_passOn_27 h
def rm_X1_closeSums : Room := { frames := 309, cells := 0, slots := 0, locals := 12210 }
def bk_X1_closeSums_72 (h0 : Nat) (K : Mm → Prop) (M : Mm) : Prop := (K M)
set_option maxRecDepth 100000 in
set_option maxHeartbeats 4000000 in
theorem zb_X1_closeSums_72 {X : Cx} {h0 : Nat} {K : Mm → Prop} (hX : Ok X cX1_closeSums RX1 rm_X1_closeSums) (hQ : Rq X rm_X1_closeSums none (QV K)) (hnL : X.2.2.2.2.2.2.2.2.2.2.2.2.2.2 = 8) {M : Mm} (h : bk_X1_closeSums_72 h0 K M) : Z X M 0 0 72 [] [] := by
  unfold bk_X1_closeSums_72 at h
  exact z_vret hX hQ dX1_closeSums_72 h
def lp_X1_closeSums_10 (h0 : Nat) (K : Mm → Prop) : Nat → Option Nat → Option Nat → Int32 → Mm → Prop
  | 0, _, _, _, _ => False
  | n + 1, l1, l2, l3, M => ((l3 ≤ 0 → (bk_X1_closeSums_72 h0 K M)) ∧ (¬ l3 ≤ 0 → ∃ a3, l2 = some a3 ∧ mK M a3 = 10 ∧ (wp_X9_lastTime M a3 (0 : Int32) (fun r1 M2 => ∃ a7, l1 = some a7 ∧ mK M2 a7 = 7 ∧ (((mJ M2 390 a7) < r1 → (bk_X1_closeSums_72 h0 K M2)) ∧ (¬ (mJ M2 390 a7) < r1 → mK M2 a3 = 10 ∧ (wp_X9_lastTime M2 a3 (0 : Int32) (fun r10 M11 => mK M11 a3 = 10 ∧ ∃ a15, (mR M11 579 a3) = some a15 ∧ isA M11 a15 1 ∧ vp_in (0 : Int32) (aN M11 a15) ∧ ∃ a19, (mR M11 580 a3) = some a19 ∧ isA M11 a19 1 ∧ vp_in (0 : Int32) (aN M11 a19) ∧ (wp_X9_dropFirst M11 a3 (fun M24 => mK M24 h0 = 2 ∧ (wp_X1_passOn 30 M24 h0 l1 r10 (aI M11 a15 ((0 : Int32)).toNatClampNeg) (aI M11 a19 ((0 : Int32)).toNatClampNeg) (0 : Int32) (fun M27 => ((lp_X1_closeSums_10 h0 K n) l1 l2 (l3 + (-1)) M27)))))))))))))
set_option maxRecDepth 100000 in
set_option maxHeartbeats 4000000 in
theorem zl_X1_closeSums_10 {X : Cx} {h0 : Nat} {K : Mm → Prop} (hX : Ok X cX1_closeSums RX1 rm_X1_closeSums) (hQ : Rq X rm_X1_closeSums none (QV K)) (hnL : X.2.2.2.2.2.2.2.2.2.2.2.2.2.2 = 8) : ∀ (n : Nat) (l1 : Option Nat) (l2 : Option Nat) (l3 : Int32) (M : Mm), lp_X1_closeSums_10 h0 K n l1 l2 l3 M → Z X M 0 0 10 [(0, va_rf (some h0)), (1, va_rf l1), (2, va_rf l2), (3, .int l3)] [] := by
  intro n
  induction n with
  | zero =>
    intro l1 l2 l3 M h
    exact False.elim h
  | succ n hR10 =>
    intro l1 l2 l3 M h
    refine z_iload_n hX dX1_closeSums_10 rfl 3 rfl ?_
    obtain ⟨h1, h2⟩ := h
    refine z_if_le (tgt := 72) hX dX1_closeSums_11 (by decide) (fun hc => ?_) (fun hc => ?_)
    · have h := h1 hc
      refine z_loc [] rfl ?_
      exact zb_X1_closeSums_72 hX hQ hnL h
    · have h := h2 hc
      refine z_aload_n (r := l2) hX dX1_closeSums_14 rfl 2 rfl ?_
      refine z_iconst (v := (0 : Int32)) hX dX1_closeSums_15 (by decide) ?_
      obtain ⟨a3, ha4, h⟩ := h
      obtain ⟨hk5, h⟩ := h
      refine z_callVJ (As := [.int (0 : Int32)]) (rest := []) (ci := 9) hX (ct_X9_lastTime h) mw_RX1_230 rfl (by decide) rfl (by rw [ha4]; rfl) (by unfold RoomC; decide) (by decide) dX1_closeSums_16 hk5 (fun r1 M2 h => ?_)
      refine z_aload_n (r := l1) hX dX1_closeSums_19 rfl 1 rfl ?_
      obtain ⟨a7, ha8, h⟩ := h
      obtain ⟨hk9, h⟩ := h
      refine gf_RX1_98 (r := l1) hX dX1_closeSums_20 ha8 hk9 ?_
      refine z_lcmp hX dX1_closeSums_23 ?_
      obtain ⟨h1, h2⟩ := h
      refine z_if_gt (tgt := 72) hX dX1_closeSums_24 (by decide) (fun hc => ?_) (fun hc => ?_)
      · have h := h1 ((lg_cmp_gt _ _).mp hc)
        refine z_loc [] rfl ?_
        exact zb_X1_closeSums_72 hX hQ hnL h
      · have h := h2 (fun q => hc ((lg_cmp_gt _ _).mpr q))
        refine z_aload_n (r := l2) hX dX1_closeSums_27 rfl 2 rfl ?_
        refine z_iconst (v := (0 : Int32)) hX dX1_closeSums_28 (by decide) ?_
        obtain ⟨hk12, h⟩ := h
        refine z_callVJ (As := [.int (0 : Int32)]) (rest := []) (ci := 9) hX (ct_X9_lastTime h) mw_RX1_230 rfl (by decide) rfl (by rw [ha4]; rfl) (by unfold RoomC; decide) (by decide) dX1_closeSums_29 hk12 (fun r10 M11 h => ?_)
        refine z_lstore hX [(4, .long r10), (0, va_rf (some h0)), (1, va_rf l1), (2, va_rf l2), (3, .int l3)] dX1_closeSums_32 (by rw [hnL]; decide) rfl ?_
        refine z_aload_n (r := l2) hX dX1_closeSums_34 rfl 3 rfl ?_
        obtain ⟨hk14, h⟩ := h
        refine gf_RX1_233 (r := l2) hX dX1_closeSums_35 ha4 hk14 ?_
        refine z_iconst (v := (0 : Int32)) hX dX1_closeSums_38 (by decide) ?_
        obtain ⟨a15, ha16, h⟩ := h
        obtain ⟨hk17, h⟩ := h
        obtain ⟨hc18, h⟩ := h
        refine y_iald (r := (mR M11 579 a3)) hX dX1_closeSums_39 ha16 hk17 hc18 ?_
        refine z_istore hX [(6, .int (aI M11 a15 ((0 : Int32)).toNatClampNeg)), (4, .long r10), (0, va_rf (some h0)), (1, va_rf l1), (2, va_rf l2), (3, .int l3)] dX1_closeSums_40 (by rw [hnL]; decide) rfl ?_
        refine z_aload_n (r := l2) hX dX1_closeSums_42 rfl 4 rfl ?_
        refine gf_RX1_236 (r := l2) hX dX1_closeSums_43 ha4 hk14 ?_
        refine z_iconst (v := (0 : Int32)) hX dX1_closeSums_46 (by decide) ?_
        obtain ⟨a19, ha20, h⟩ := h
        obtain ⟨hk21, h⟩ := h
        obtain ⟨hc22, h⟩ := h
        refine y_iald (r := (mR M11 580 a3)) hX dX1_closeSums_47 ha20 hk21 hc22 ?_
        refine z_istore hX [(7, .int (aI M11 a19 ((0 : Int32)).toNatClampNeg)), (6, .int (aI M11 a15 ((0 : Int32)).toNatClampNeg)), (4, .long r10), (0, va_rf (some h0)), (1, va_rf l1), (2, va_rf l2), (3, .int l3)] dX1_closeSums_48 (by rw [hnL]; decide) rfl ?_
        refine z_aload_n (r := l2) hX dX1_closeSums_50 rfl 5 rfl ?_
        refine z_callVV (As := []) (rest := []) (ci := 9) hX (ct_X9_dropFirst h) mw_RX1_239 rfl (by decide) rfl (by rw [ha4]; rfl) (by unfold RoomC; decide) (by decide) dX1_closeSums_51 hk14 (fun M24 h => ?_)
        refine z_aload_n (r := (some h0)) hX dX1_closeSums_54 rfl 3 rfl ?_
        refine z_aload_n (r := l1) hX dX1_closeSums_55 rfl 4 rfl ?_
        refine z_lload hX dX1_closeSums_56 2 rfl ?_
        refine z_iload hX dX1_closeSums_58 1 rfl ?_
        refine z_iload hX dX1_closeSums_60 0 rfl ?_
        refine z_iconst (v := (0 : Int32)) hX dX1_closeSums_62 (by decide) ?_
        obtain ⟨hk28, h⟩ := h
        refine z_callVV (As := [va_rf l1, .long r10, .int (aI M11 a15 ((0 : Int32)).toNatClampNeg), .int (aI M11 a19 ((0 : Int32)).toNatClampNeg), .int (0 : Int32)]) (rest := []) (ci := 1) hX (ct_X1_passOn 30 h) mw_RX1_110 rfl (by decide) rfl (by rfl) (by unfold RoomC; decide) (by decide) dX1_closeSums_63 hk28 (fun M27 h => ?_)
        refine z_iinc (v := (l3 + (-1))) hX [(3, .int (l3 + (-1))), (7, .int (aI M11 a19 ((0 : Int32)).toNatClampNeg)), (6, .int (aI M11 a15 ((0 : Int32)).toNatClampNeg)), (4, .long r10), (0, va_rf (some h0)), (1, va_rf l1), (2, va_rf l2)] dX1_closeSums_66 6 rfl rfl (by rw [hnL]; decide) (by simp [cat_rf]) ?_
        refine z_goto (tgt := 10) hX dX1_closeSums_69 (by decide) ?_
        refine z_loc [4, 5, 6, 0] rfl ?_
        exact hR10 _ _ _ _ h
def wp_X1_closeSums (M : Mm) (h0 : Nat) (p1 : Option Nat) (K : Mm → Prop) : Prop := ∃ a30, p1 = some a30 ∧ mK M a30 = 7 ∧ ∃ a33, (mR M 395 a30) = some a33 ∧ mK M a33 = 10 ∧ (∃ kk, lp_X1_closeSums_10 h0 K kk p1 (mR M 395 a30) (mI M 581 a33) M)
set_option maxRecDepth 100000 in
set_option maxHeartbeats 4000000 in
theorem ct_X1_closeSums {M : Mm} {h0 : Nat} {p1 : Option Nat} {K : Mm → Prop} (h : wp_X1_closeSums M h0 p1 K) : CtV yX1_closeSums cX1_closeSums 8 none rm_X1_closeSums [.ref h0, va_rf p1] M K := by
  refine ct_any (QV K) (by decide) (by cases p1 <;> exact Nat.le_of_ble_eq_true rfl) (fun X hX hQ hnL hnm => ?_)
  rw [show lv_args 0 [.ref h0, va_rf p1] = [(0, va_rf (some h0)), (1, va_rf p1)] by cases p1 <;> rfl]
  have hX : Ok X cX1_closeSums RX1 rm_X1_closeSums := hX
  unfold wp_X1_closeSums at h
  refine z_aload_n (r := p1) hX dX1_closeSums_0 rfl 1 rfl ?_
  obtain ⟨a30, ha31, h⟩ := h
  obtain ⟨hk32, h⟩ := h
  refine gf_RX1_142 (r := p1) hX dX1_closeSums_1 ha31 hk32 ?_
  refine z_astore_n (r := (mR M 395 a30)) (i := 2) hX [(2, va_rf (mR M 395 a30)), (0, va_rf (some h0)), (1, va_rf p1)] dX1_closeSums_4 rfl (by rw [hnL]; decide) (by simp [cat_rf]) ?_
  refine z_aload_n (r := (mR M 395 a30)) hX dX1_closeSums_5 rfl 0 rfl ?_
  obtain ⟨a33, ha34, h⟩ := h
  obtain ⟨hk35, h⟩ := h
  refine gf_RX1_229 (r := (mR M 395 a30)) hX dX1_closeSums_6 ha34 hk35 ?_
  refine z_istore_n (i := 3) hX [(3, .int (mI M 581 a33)), (2, va_rf (mR M 395 a30)), (0, va_rf (some h0)), (1, va_rf p1)] dX1_closeSums_9 rfl (by rw [hnL]; decide) (by simp [cat_rf]) ?_
  refine z_loc [2, 3, 1, 0] rfl ?_
  obtain ⟨n, h⟩ := h
  exact zl_X1_closeSums_10 hX hQ hnL n _ _ _ _ h
def rm_X7_readAlign : Room := { frames := 4, cells := 0, slots := 0, locals := 89 }
def wp_X7_readAlign (M : Mm) (h0 : Nat) (K : Int32 → Mm → Prop) : Prop := mK M h0 = 8 ∧ ∃ a4, (mR M 448 h0) = some a4 ∧ mK M a4 = 5 ∧ (wp_X4_advance M a4 (fun M3 => mK M3 h0 = 8 ∧ (wp_X7_isNumber M3 h0 (0 : Int64) (3 : Int64) (fun r8 M9 => ((¬ r8 = 0 → mK M9 h0 = 8 ∧ ∃ a15, (mR M9 449 h0) = some a15 ∧ mK M9 a15 = 2 ∧ (wp_X1_isAligned M9 a15 (((mJ M9 454 h0)).toInt32) (fun r13 M14 => ((r13 = 0 → mK M14 h0 = 8 ∧ ∃ a22, (mR M14 448 h0) = some a22 ∧ mK M14 a22 = 5 ∧ (wp_X4_advance M14 a22 (fun M21 => mK M21 h0 = 8 ∧ (wp_X7_readNumber M21 h0 (0 : Int64) (999999999999999999 : Int64) (fun r26 M27 => ((¬ r26 = 0 → mK M27 h0 = 8 ∧ ∃ a31, (mR M27 449 h0) = some a31 ∧ mK M27 a31 = 2 ∧ ∃ a34, (mR M27 67 a31) = some a34 ∧ isA M27 a34 2 ∧ vp_in (((mJ M9 454 h0)).toInt32) (aN M27 a34) ∧ (wp_X7_readSign (tJ M27 a34 ((((mJ M9 454 h0)).toInt32)).toNatClampNeg (mJ M27 454 h0)) h0 (59 : Int32) (fun r38 M39 => (bz r38 ∧ K r38 M39)))) ∧ (r26 = 0 → (K (0 : Int32) M27)))))))) ∧ (¬ r13 = 0 → mK M14 h0 = 8 ∧ (wp_X7_refuse M14 h0 (5 : Int32) (fun r41 M42 => (bz r41 ∧ K r41 M42)))))))) ∧ (r8 = 0 → (K (0 : Int32) M9)))))))
set_option maxRecDepth 100000 in
set_option maxHeartbeats 4000000 in
theorem ct_X7_readAlign {M : Mm} {h0 : Nat} {K : Int32 → Mm → Prop} (h : wp_X7_readAlign M h0 K) : CtI yX7_readAlign cX7_readAlign 2 (some .boolean) rm_X7_readAlign [.ref h0] M K := by
  refine ct_any (QI K) (by decide) (by exact Nat.le_of_ble_eq_true rfl) (fun X hX hQ hnL hnm => ?_)
  rw [show lv_args 0 [.ref h0] = [(0, va_rf (some h0))] by rfl]
  have hX : Ok X cX7_readAlign RX7 rm_X7_readAlign := hX
  unfold wp_X7_readAlign at h
  refine z_aload_n (r := (some h0)) hX dX7_readAlign_0 rfl 0 rfl ?_
  obtain ⟨hk1, h⟩ := h
  refine gf_RX7_9 (r := (some h0)) hX dX7_readAlign_1 rfl hk1 ?_
  obtain ⟨a4, ha5, h⟩ := h
  obtain ⟨hk6, h⟩ := h
  refine z_callVV (As := []) (rest := []) (ci := 4) hX (ct_X4_advance h) mw_RX7_19 rfl (by decide) rfl (by rw [ha5]; rfl) (by unfold RoomC; decide) (by decide) dX7_readAlign_4 hk6 (fun M3 h => ?_)
  refine z_aload_n (r := (some h0)) hX dX7_readAlign_7 rfl 0 rfl ?_
  refine z_lconst (v := (0 : Int64)) hX dX7_readAlign_8 (by decide) ?_
  refine z_ldc2 (v := (3 : Int64)) hX dX7_readAlign_9 kj_RX7_56 ?_
  obtain ⟨hk10, h⟩ := h
  refine z_callVI (As := [.long (0 : Int64), .long (3 : Int64)]) (rest := []) (ci := 7) hX (ct_X7_isNumber h) mw_RX7_58 rfl (by decide) rfl (by rfl) (by unfold RoomC; decide) (by decide) dX7_readAlign_12 hk10 (fun r8 M9 h => ?_)
  obtain ⟨h1, h2⟩ := h
  refine z_if_ne (tgt := 20) hX dX7_readAlign_15 (by decide) (fun hc => ?_) (fun hc => ?_)
  · have h := h1 hc
    refine z_aload_n (r := (some h0)) hX dX7_readAlign_20 rfl 0 rfl ?_
    obtain ⟨hk12, h⟩ := h
    refine gf_RX7_62 (r := (some h0)) hX dX7_readAlign_21 rfl hk12 ?_
    refine z_l2i hX dX7_readAlign_24 ?_
    refine z_istore_n hX [(1, .int (((mJ M9 454 h0)).toInt32)), (0, va_rf (some h0))] dX7_readAlign_25 rfl (by rw [hnL]; decide) rfl ?_
    refine z_aload_n (r := (some h0)) hX dX7_readAlign_26 rfl 1 rfl ?_
    refine gf_RX7_15 (r := (some h0)) hX dX7_readAlign_27 rfl hk12 ?_
    refine z_iload_n hX dX7_readAlign_30 rfl 0 rfl ?_
    obtain ⟨a15, ha16, h⟩ := h
    obtain ⟨hk17, h⟩ := h
    refine z_callVI (As := [.int (((mJ M9 454 h0)).toInt32)]) (rest := []) (ci := 1) hX (ct_X1_isAligned h) mw_RX7_66 rfl (by decide) rfl (by rw [ha16]; rfl) (by unfold RoomC; decide) (by decide) dX7_readAlign_31 hk17 (fun r13 M14 h => ?_)
    obtain ⟨h1, h2⟩ := h
    refine z_if_eq (tgt := 43) hX dX7_readAlign_34 (by decide) (fun hc => ?_) (fun hc => ?_)
    · have h := h1 hc
      refine z_aload_n (r := (some h0)) hX dX7_readAlign_43 rfl 1 rfl ?_
      obtain ⟨hk19, h⟩ := h
      refine gf_RX7_9 (r := (some h0)) hX dX7_readAlign_44 rfl hk19 ?_
      obtain ⟨a22, ha23, h⟩ := h
      obtain ⟨hk24, h⟩ := h
      refine z_callVV (As := []) (rest := []) (ci := 4) hX (ct_X4_advance h) mw_RX7_19 rfl (by decide) rfl (by rw [ha23]; rfl) (by unfold RoomC; decide) (by decide) dX7_readAlign_47 hk24 (fun M21 h => ?_)
      refine z_aload_n (r := (some h0)) hX dX7_readAlign_50 rfl 1 rfl ?_
      refine z_lconst (v := (0 : Int64)) hX dX7_readAlign_51 (by decide) ?_
      refine z_ldc2 (v := (999999999999999999 : Int64)) hX dX7_readAlign_52 kj_RX7_69 ?_
      obtain ⟨hk28, h⟩ := h
      refine z_callVI (As := [.long (0 : Int64), .long (999999999999999999 : Int64)]) (rest := []) (ci := 7) hX (ct_X7_readNumber h) mw_RX7_71 rfl (by decide) rfl (by rfl) (by unfold RoomC; decide) (by decide) dX7_readAlign_55 hk28 (fun r26 M27 h => ?_)
      obtain ⟨h1, h2⟩ := h
      refine z_if_ne (tgt := 63) hX dX7_readAlign_58 (by decide) (fun hc => ?_) (fun hc => ?_)
      · have h := h1 hc
        refine z_aload_n (r := (some h0)) hX dX7_readAlign_63 rfl 1 rfl ?_
        obtain ⟨hk30, h⟩ := h
        refine gf_RX7_15 (r := (some h0)) hX dX7_readAlign_64 rfl hk30 ?_
        obtain ⟨a31, ha32, h⟩ := h
        obtain ⟨hk33, h⟩ := h
        refine gf_RX7_74 (r := (mR M27 449 h0)) hX dX7_readAlign_67 ha32 hk33 ?_
        refine z_iload_n hX dX7_readAlign_70 rfl 0 rfl ?_
        refine z_aload_n (r := (some h0)) hX dX7_readAlign_71 rfl 1 rfl ?_
        refine gf_RX7_62 (r := (some h0)) hX dX7_readAlign_72 rfl hk30 ?_
        obtain ⟨a34, ha35, h⟩ := h
        obtain ⟨hk36, h⟩ := h
        obtain ⟨hc37, h⟩ := h
        refine y_last (r := (mR M27 67 a31)) hX dX7_readAlign_75 ha35 hk36 hc37 ?_
        refine z_aload_n (r := (some h0)) hX dX7_readAlign_76 rfl 1 rfl ?_
        refine z_bipush (v := (59 : Int32)) hX dX7_readAlign_77 (by decide) ?_
        refine z_callVI (As := [.int (59 : Int32)]) (rest := []) (ci := 7) hX (ct_X7_readSign h) mw_RX7_78 rfl (by decide) rfl (by rfl) (by unfold RoomC; decide) (by decide) dX7_readAlign_79 hk30 (fun r38 M39 h => ?_)
        exact y_zret hX hQ dX7_readAlign_82 h.1 h.2
      · have h := h2 hc
        refine z_iconst (v := (0 : Int32)) hX dX7_readAlign_61 (by decide) ?_
        exact y_zret hX hQ dX7_readAlign_62 (Or.inl rfl) h
    · have h := h2 hc
      refine z_aload_n (r := (some h0)) hX dX7_readAlign_37 rfl 1 rfl ?_
      refine z_iconst (v := (5 : Int32)) hX dX7_readAlign_38 (by decide) ?_
      obtain ⟨hk43, h⟩ := h
      refine z_callVI (As := [.int (5 : Int32)]) (rest := []) (ci := 7) hX (ct_X7_refuse h) mw_RX7_34 rfl (by decide) rfl (by rfl) (by unfold RoomC; decide) (by decide) dX7_readAlign_39 hk43 (fun r41 M42 h => ?_)
      exact y_zret hX hQ dX7_readAlign_42 h.1 h.2
  · have h := h2 hc
    refine z_iconst (v := (0 : Int32)) hX dX7_readAlign_18 (by decide) ?_
    exact y_zret hX hQ dX7_readAlign_19 (Or.inl rfl) h
def rm_X7_readSource : Room := { frames := 4, cells := 5, slots := 24, locals := 89 }
def bk_X7_readSource_160 (h0 : Nat) (K : Int32 → Mm → Prop) (l1 : Option Nat) (l2 : Int32) (l3 : Int64) (l5 : Int32) (l6 : Int32) (M : Mm) : Prop := (∀ q1, mK M q1 = 0 → (wp_X5_init (nw M q1 6) q1 l2 l3 l5 l6 (fun M5 => ∃ a7, l1 = some a7 ∧ mK M5 a7 = 7 ∧ mK (sR M5 393 a7 (some q1)) h0 = 8 ∧ (wp_X7_readSign (sR M5 393 a7 (some q1)) h0 (59 : Int32) (fun r11 M12 => (bz r11 ∧ K r11 M12))))))
set_option maxRecDepth 100000 in
set_option maxHeartbeats 4000000 in
theorem zb_X7_readSource_160 {X : Cx} {h0 : Nat} {K : Int32 → Mm → Prop} (hX : Ok X cX7_readSource RX7 rm_X7_readSource) (hQ : Rq X rm_X7_readSource (some .boolean) (QI K)) (hnL : X.2.2.2.2.2.2.2.2.2.2.2.2.2.2 = 7) {l1 : Option Nat} {l2 : Int32} {l3 : Int64} {l5 : Int32} {l6 : Int32} {M : Mm} (h : bk_X7_readSource_160 h0 K l1 l2 l3 l5 l6 M) : Z X M 0 0 160 [(0, va_rf (some h0)), (1, va_rf l1), (2, .int l2), (3, .long l3), (5, .int l5), (6, .int l6)] [] := by
  unfold bk_X7_readSource_160 at h
  refine z_aload_n (r := l1) hX dX7_readSource_160 rfl 1 rfl ?_
  refine nq_RX7_137 hX dX7_readSource_161 (by decide) (by decide) (fun q1 hq2 => ?_)
  have h := h q1 hq2
  refine z_dup hX dX7_readSource_164 (cat_rf _) ?_
  refine z_iload_n hX dX7_readSource_165 rfl 2 rfl ?_
  refine z_lload_n hX dX7_readSource_166 rfl 3 rfl ?_
  refine z_iload hX dX7_readSource_167 4 rfl ?_
  refine z_iload hX dX7_readSource_169 5 rfl ?_
  refine z_callIV (As := [.int l2, .long l3, .int l5, .int l6]) (rest := [va_rf (some q1), va_rf l1]) hX (ct_X5_init h) mw_RX7_154 rfl (by rfl) (by unfold RoomC; decide) (by simp only [List.map_cons, List.map_nil, List.sum_cons, List.sum_nil, cat_rf, cat_i, cat_j]; decide) dX7_readSource_171 (fun M5 h => ?_)
  obtain ⟨a7, ha8, h⟩ := h
  obtain ⟨hk9, h⟩ := h
  refine pf_RX7_157 (r := l1) (v := (some q1)) hX dX7_readSource_174 ha8 hk9 ?_
  refine z_aload_n (r := (some h0)) hX dX7_readSource_177 rfl 0 rfl ?_
  refine z_bipush (v := (59 : Int32)) hX dX7_readSource_178 (by decide) ?_
  obtain ⟨hk13, h⟩ := h
  refine z_callVI (As := [.int (59 : Int32)]) (rest := []) (ci := 7) hX (ct_X7_readSign h) mw_RX7_78 rfl (by decide) rfl (by rfl) (by unfold RoomC; decide) (by decide) dX7_readSource_180 hk13 (fun r11 M12 h => ?_)
  refine z_widen 5 24 (by decide) (by decide) ?_
  exact y_zret hX hQ dX7_readSource_183 h.1 h.2
def bk_X7_readSource_120 (h0 : Nat) (K : Int32 → Mm → Prop) (l1 : Option Nat) (l2 : Int32) (l3 : Int64) (l5 : Int32) (M : Mm) : Prop := mK M h0 = 8 ∧ (wp_X7_isKeyword M h0 (444301538672 : Int64) (fun r15 M16 => ((r15 = 0 → (bk_X7_readSource_160 h0 K l1 l2 l3 l5 (-1 : Int32) M16)) ∧ (¬ r15 = 0 → mK M16 h0 = 8 ∧ ∃ a22, (mR M16 448 h0) = some a22 ∧ mK M16 a22 = 5 ∧ (wp_X4_advance M16 a22 (fun M21 => mK M21 h0 = 8 ∧ (wp_X7_readNumber M21 h0 (0 : Int64) (3 : Int64) (fun r26 M27 => ((¬ r26 = 0 → mK M27 h0 = 8 ∧ (bk_X7_readSource_160 h0 K l1 l2 l3 l5 (((mJ M27 454 h0)).toInt32) M27)) ∧ (r26 = 0 → (K (0 : Int32) M27)))))))))))
set_option maxRecDepth 100000 in
set_option maxHeartbeats 4000000 in
theorem zb_X7_readSource_120 {X : Cx} {h0 : Nat} {K : Int32 → Mm → Prop} (hX : Ok X cX7_readSource RX7 rm_X7_readSource) (hQ : Rq X rm_X7_readSource (some .boolean) (QI K)) (hnL : X.2.2.2.2.2.2.2.2.2.2.2.2.2.2 = 7) {l1 : Option Nat} {l2 : Int32} {l3 : Int64} {l5 : Int32} {M : Mm} (h : bk_X7_readSource_120 h0 K l1 l2 l3 l5 M) : Z X M 0 0 120 [(0, va_rf (some h0)), (1, va_rf l1), (2, .int l2), (3, .long l3), (5, .int l5)] [] := by
  unfold bk_X7_readSource_120 at h
  refine z_iconst (v := (-1 : Int32)) hX dX7_readSource_120 (by decide) ?_
  refine z_istore hX [(6, .int (-1 : Int32)), (0, va_rf (some h0)), (1, va_rf l1), (2, .int l2), (3, .long l3), (5, .int l5)] dX7_readSource_121 (by rw [hnL]; decide) rfl ?_
  refine z_aload_n (r := (some h0)) hX dX7_readSource_123 rfl 1 rfl ?_
  refine z_ldc2 (v := (444301538672 : Int64)) hX dX7_readSource_124 kj_RX7_152 ?_
  obtain ⟨hk17, h⟩ := h
  refine z_callVI (As := [.long (444301538672 : Int64)]) (rest := []) (ci := 7) hX (ct_X7_isKeyword h) mw_RX7_30 rfl (by decide) rfl (by rfl) (by unfold RoomC; decide) (by decide) dX7_readSource_127 hk17 (fun r15 M16 h => ?_)
  obtain ⟨h1, h2⟩ := h
  refine z_if_eq (tgt := 160) hX dX7_readSource_130 (by decide) (fun hc => ?_) (fun hc => ?_)
  · have h := h1 hc
    refine z_loc [1, 2, 3, 4, 5, 0] rfl ?_
    refine z_widen 0 0 (by decide) (by decide) ?_
    exact zb_X7_readSource_160 hX hQ hnL h
  · have h := h2 hc
    refine z_aload_n (r := (some h0)) hX dX7_readSource_133 rfl 1 rfl ?_
    obtain ⟨hk19, h⟩ := h
    refine gf_RX7_9 (r := (some h0)) hX dX7_readSource_134 rfl hk19 ?_
    obtain ⟨a22, ha23, h⟩ := h
    obtain ⟨hk24, h⟩ := h
    refine z_callVV (As := []) (rest := []) (ci := 4) hX (ct_X4_advance h) mw_RX7_19 rfl (by decide) rfl (by rw [ha23]; rfl) (by unfold RoomC; decide) (by decide) dX7_readSource_137 hk24 (fun M21 h => ?_)
    refine z_aload_n (r := (some h0)) hX dX7_readSource_140 rfl 1 rfl ?_
    refine z_lconst (v := (0 : Int64)) hX dX7_readSource_141 (by decide) ?_
    refine z_ldc2 (v := (3 : Int64)) hX dX7_readSource_142 kj_RX7_56 ?_
    obtain ⟨hk28, h⟩ := h
    refine z_callVI (As := [.long (0 : Int64), .long (3 : Int64)]) (rest := []) (ci := 7) hX (ct_X7_readNumber h) mw_RX7_71 rfl (by decide) rfl (by rfl) (by unfold RoomC; decide) (by decide) dX7_readSource_145 hk28 (fun r26 M27 h => ?_)
    obtain ⟨h1, h2⟩ := h
    refine z_if_ne (tgt := 153) hX dX7_readSource_148 (by decide) (fun hc => ?_) (fun hc => ?_)
    · have h := h1 hc
      refine z_aload_n (r := (some h0)) hX dX7_readSource_153 rfl 1 rfl ?_
      obtain ⟨hk30, h⟩ := h
      refine gf_RX7_62 (r := (some h0)) hX dX7_readSource_154 rfl hk30 ?_
      refine z_l2i hX dX7_readSource_157 ?_
      refine z_istore hX [(6, .int (((mJ M27 454 h0)).toInt32)), (0, va_rf (some h0)), (1, va_rf l1), (2, .int l2), (3, .long l3), (5, .int l5)] dX7_readSource_158 (by rw [hnL]; decide) rfl ?_
      refine z_loc [1, 2, 3, 4, 5, 0] rfl ?_
      refine z_widen 0 0 (by decide) (by decide) ?_
      exact zb_X7_readSource_160 hX hQ hnL h
    · have h := h2 hc
      refine z_iconst (v := (0 : Int32)) hX dX7_readSource_151 (by decide) ?_
      refine z_widen 5 24 (by decide) (by decide) ?_
      exact y_zret hX hQ dX7_readSource_152 (Or.inl rfl) h
def bk_X7_readSource_80 (h0 : Nat) (K : Int32 → Mm → Prop) (l1 : Option Nat) (l2 : Int32) (l3 : Int64) (M : Mm) : Prop := mK M h0 = 8 ∧ (wp_X7_isKeyword M h0 (418330731890 : Int64) (fun r31 M32 => ((r31 = 0 → (bk_X7_readSource_120 h0 K l1 l2 l3 (0 : Int32) M32)) ∧ (¬ r31 = 0 → mK M32 h0 = 8 ∧ ∃ a38, (mR M32 448 h0) = some a38 ∧ mK M32 a38 = 5 ∧ (wp_X4_advance M32 a38 (fun M37 => mK M37 h0 = 8 ∧ (wp_X7_readNumber M37 h0 (1 : Int64) (1000 : Int64) (fun r42 M43 => ((¬ r42 = 0 → mK M43 h0 = 8 ∧ (bk_X7_readSource_120 h0 K l1 l2 l3 (((mJ M43 454 h0)).toInt32) M43)) ∧ (r42 = 0 → (K (0 : Int32) M43)))))))))))
set_option maxRecDepth 100000 in
set_option maxHeartbeats 4000000 in
theorem zb_X7_readSource_80 {X : Cx} {h0 : Nat} {K : Int32 → Mm → Prop} (hX : Ok X cX7_readSource RX7 rm_X7_readSource) (hQ : Rq X rm_X7_readSource (some .boolean) (QI K)) (hnL : X.2.2.2.2.2.2.2.2.2.2.2.2.2.2 = 7) {l1 : Option Nat} {l2 : Int32} {l3 : Int64} {M : Mm} (h : bk_X7_readSource_80 h0 K l1 l2 l3 M) : Z X M 0 0 80 [(0, va_rf (some h0)), (1, va_rf l1), (2, .int l2), (3, .long l3)] [] := by
  unfold bk_X7_readSource_80 at h
  refine z_iconst (v := (0 : Int32)) hX dX7_readSource_80 (by decide) ?_
  refine z_istore hX [(5, .int (0 : Int32)), (0, va_rf (some h0)), (1, va_rf l1), (2, .int l2), (3, .long l3)] dX7_readSource_81 (by rw [hnL]; decide) rfl ?_
  refine z_aload_n (r := (some h0)) hX dX7_readSource_83 rfl 1 rfl ?_
  refine z_ldc2 (v := (418330731890 : Int64)) hX dX7_readSource_84 kj_RX7_148 ?_
  obtain ⟨hk33, h⟩ := h
  refine z_callVI (As := [.long (418330731890 : Int64)]) (rest := []) (ci := 7) hX (ct_X7_isKeyword h) mw_RX7_30 rfl (by decide) rfl (by rfl) (by unfold RoomC; decide) (by decide) dX7_readSource_87 hk33 (fun r31 M32 h => ?_)
  obtain ⟨h1, h2⟩ := h
  refine z_if_eq (tgt := 120) hX dX7_readSource_90 (by decide) (fun hc => ?_) (fun hc => ?_)
  · have h := h1 hc
    refine z_loc [1, 2, 3, 4, 0] rfl ?_
    refine z_widen 0 0 (by decide) (by decide) ?_
    exact zb_X7_readSource_120 hX hQ hnL h
  · have h := h2 hc
    refine z_aload_n (r := (some h0)) hX dX7_readSource_93 rfl 1 rfl ?_
    obtain ⟨hk35, h⟩ := h
    refine gf_RX7_9 (r := (some h0)) hX dX7_readSource_94 rfl hk35 ?_
    obtain ⟨a38, ha39, h⟩ := h
    obtain ⟨hk40, h⟩ := h
    refine z_callVV (As := []) (rest := []) (ci := 4) hX (ct_X4_advance h) mw_RX7_19 rfl (by decide) rfl (by rw [ha39]; rfl) (by unfold RoomC; decide) (by decide) dX7_readSource_97 hk40 (fun M37 h => ?_)
    refine z_aload_n (r := (some h0)) hX dX7_readSource_100 rfl 1 rfl ?_
    refine z_lconst (v := (1 : Int64)) hX dX7_readSource_101 (by decide) ?_
    refine z_ldc2 (v := (1000 : Int64)) hX dX7_readSource_102 kj_RX7_150 ?_
    obtain ⟨hk44, h⟩ := h
    refine z_callVI (As := [.long (1 : Int64), .long (1000 : Int64)]) (rest := []) (ci := 7) hX (ct_X7_readNumber h) mw_RX7_71 rfl (by decide) rfl (by rfl) (by unfold RoomC; decide) (by decide) dX7_readSource_105 hk44 (fun r42 M43 h => ?_)
    obtain ⟨h1, h2⟩ := h
    refine z_if_ne (tgt := 113) hX dX7_readSource_108 (by decide) (fun hc => ?_) (fun hc => ?_)
    · have h := h1 hc
      refine z_aload_n (r := (some h0)) hX dX7_readSource_113 rfl 1 rfl ?_
      obtain ⟨hk46, h⟩ := h
      refine gf_RX7_62 (r := (some h0)) hX dX7_readSource_114 rfl hk46 ?_
      refine z_l2i hX dX7_readSource_117 ?_
      refine z_istore hX [(5, .int (((mJ M43 454 h0)).toInt32)), (0, va_rf (some h0)), (1, va_rf l1), (2, .int l2), (3, .long l3)] dX7_readSource_118 (by rw [hnL]; decide) rfl ?_
      refine z_loc [1, 2, 3, 4, 0] rfl ?_
      refine z_widen 0 0 (by decide) (by decide) ?_
      exact zb_X7_readSource_120 hX hQ hnL h
    · have h := h2 hc
      refine z_iconst (v := (0 : Int32)) hX dX7_readSource_111 (by decide) ?_
      refine z_widen 5 24 (by decide) (by decide) ?_
      exact y_zret hX hQ dX7_readSource_112 (Or.inl rfl) h
def wp_X7_readSource (M : Mm) (h0 : Nat) (p1 : Option Nat) (K : Int32 → Mm → Prop) : Prop := mK M h0 = 8 ∧ ∃ a50, (mR M 448 h0) = some a50 ∧ mK M a50 = 5 ∧ (wp_X4_advance M a50 (fun M49 => mK M49 h0 = 8 ∧ (wp_X7_readNumber M49 h0 (1 : Int64) (4 : Int64) (fun r54 M55 => ((¬ r54 = 0 → mK M55 h0 = 8 ∧ (wp_X7_isKeyword M55 h0 (7102823 : Int64) (fun r59 M60 => ((r59 = 0 → mK M60 h0 = 8 ∧ (wp_X7_readKeyword M60 h0 (469786323827 : Int64) (fun r62 M63 => ((¬ r62 = 0 → (bk_X7_readSource_80 h0 K p1 (((mJ M55 454 h0)).toInt32) (-1 : Int64) M63)) ∧ (r62 = 0 → (K (0 : Int32) M63)))))) ∧ (¬ r59 = 0 → mK M60 h0 = 8 ∧ ∃ a69, (mR M60 448 h0) = some a69 ∧ mK M60 a69 = 5 ∧ (wp_X4_advance M60 a69 (fun M68 => mK M68 h0 = 8 ∧ (wp_X7_readNumber M68 h0 (0 : Int64) (999999999999999999 : Int64) (fun r73 M74 => ((¬ r73 = 0 → mK M74 h0 = 8 ∧ (bk_X7_readSource_80 h0 K p1 (((mJ M55 454 h0)).toInt32) (mJ M74 454 h0) M74)) ∧ (r73 = 0 → (K (0 : Int32) M74)))))))))))) ∧ (r54 = 0 → (K (0 : Int32) M55)))))))
set_option maxRecDepth 100000 in
set_option maxHeartbeats 4000000 in
theorem ct_X7_readSource {M : Mm} {h0 : Nat} {p1 : Option Nat} {K : Int32 → Mm → Prop} (h : wp_X7_readSource M h0 p1 K) : CtI yX7_readSource cX7_readSource 7 (some .boolean) rm_X7_readSource [.ref h0, va_rf p1] M K := by
  refine ct_any (QI K) (by decide) (by cases p1 <;> exact Nat.le_of_ble_eq_true rfl) (fun X hX hQ hnL hnm => ?_)
  rw [show lv_args 0 [.ref h0, va_rf p1] = [(0, va_rf (some h0)), (1, va_rf p1)] by cases p1 <;> rfl]
  have hX : Ok X cX7_readSource RX7 rm_X7_readSource := hX
  unfold wp_X7_readSource at h
  refine z_aload_n (r := (some h0)) hX dX7_readSource_0 rfl 0 rfl ?_
  obtain ⟨hk47, h⟩ := h
  refine gf_RX7_9 (r := (some h0)) hX dX7_readSource_1 rfl hk47 ?_
  obtain ⟨a50, ha51, h⟩ := h
  obtain ⟨hk52, h⟩ := h
  refine z_callVV (As := []) (rest := []) (ci := 4) hX (ct_X4_advance h) mw_RX7_19 rfl (by decide) rfl (by rw [ha51]; rfl) (by unfold RoomC; decide) (by decide) dX7_readSource_4 hk52 (fun M49 h => ?_)
  refine z_aload_n (r := (some h0)) hX dX7_readSource_7 rfl 0 rfl ?_
  refine z_lconst (v := (1 : Int64)) hX dX7_readSource_8 (by decide) ?_
  refine z_ldc2 (v := (4 : Int64)) hX dX7_readSource_9 kj_RX7_135 ?_
  obtain ⟨hk56, h⟩ := h
  refine z_callVI (As := [.long (1 : Int64), .long (4 : Int64)]) (rest := []) (ci := 7) hX (ct_X7_readNumber h) mw_RX7_71 rfl (by decide) rfl (by rfl) (by unfold RoomC; decide) (by decide) dX7_readSource_12 hk56 (fun r54 M55 h => ?_)
  obtain ⟨h1, h2⟩ := h
  refine z_if_ne (tgt := 20) hX dX7_readSource_15 (by decide) (fun hc => ?_) (fun hc => ?_)
  · have h := h1 hc
    refine z_aload_n (r := (some h0)) hX dX7_readSource_20 rfl 0 rfl ?_
    obtain ⟨hk58, h⟩ := h
    refine gf_RX7_62 (r := (some h0)) hX dX7_readSource_21 rfl hk58 ?_
    refine z_l2i hX dX7_readSource_24 ?_
    refine z_istore_n (i := 2) hX [(2, .int (((mJ M55 454 h0)).toInt32)), (0, va_rf (some h0)), (1, va_rf p1)] dX7_readSource_25 rfl (by rw [hnL]; decide) (by simp [cat_rf]) ?_
    refine z_ldc2 (v := (-1 : Int64)) hX dX7_readSource_26 kj_RX7_139 ?_
    refine z_lstore_n hX [(3, .long (-1 : Int64)), (2, .int (((mJ M55 454 h0)).toInt32)), (0, va_rf (some h0)), (1, va_rf p1)] dX7_readSource_29 rfl (by rw [hnL]; decide) rfl ?_
    refine z_aload_n (r := (some h0)) hX dX7_readSource_30 rfl 2 rfl ?_
    refine z_ldc2 (v := (7102823 : Int64)) hX dX7_readSource_31 kj_RX7_141 ?_
    refine z_callVI (As := [.long (7102823 : Int64)]) (rest := []) (ci := 7) hX (ct_X7_isKeyword h) mw_RX7_30 rfl (by decide) rfl (by rfl) (by unfold RoomC; decide) (by decide) dX7_readSource_34 hk58 (fun r59 M60 h => ?_)
    obtain ⟨h1, h2⟩ := h
    refine z_if_eq (tgt := 68) hX dX7_readSource_37 (by decide) (fun hc => ?_) (fun hc => ?_)
    · have h := h1 hc
      refine z_aload_n (r := (some h0)) hX dX7_readSource_68 rfl 2 rfl ?_
      refine z_ldc2 (v := (469786323827 : Int64)) hX dX7_readSource_69 kj_RX7_143 ?_
      obtain ⟨hk64, h⟩ := h
      refine z_callVI (As := [.long (469786323827 : Int64)]) (rest := []) (ci := 7) hX (ct_X7_readKeyword h) mw_RX7_145 rfl (by decide) rfl (by rfl) (by unfold RoomC; decide) (by decide) dX7_readSource_72 hk64 (fun r62 M63 h => ?_)
      obtain ⟨h1, h2⟩ := h
      refine z_if_ne (tgt := 80) hX dX7_readSource_75 (by decide) (fun hc => ?_) (fun hc => ?_)
      · have h := h1 hc
        refine z_loc [2, 3, 1, 0] rfl ?_
        refine z_widen 0 0 (by decide) (by decide) ?_
        exact zb_X7_readSource_80 hX hQ hnL h
      · have h := h2 hc
        refine z_iconst (v := (0 : Int32)) hX dX7_readSource_78 (by decide) ?_
        refine z_widen 5 24 (by decide) (by decide) ?_
        exact y_zret hX hQ dX7_readSource_79 (Or.inl rfl) h
    · have h := h2 hc
      refine z_aload_n (r := (some h0)) hX dX7_readSource_40 rfl 2 rfl ?_
      obtain ⟨hk66, h⟩ := h
      refine gf_RX7_9 (r := (some h0)) hX dX7_readSource_41 rfl hk66 ?_
      obtain ⟨a69, ha70, h⟩ := h
      obtain ⟨hk71, h⟩ := h
      refine z_callVV (As := []) (rest := []) (ci := 4) hX (ct_X4_advance h) mw_RX7_19 rfl (by decide) rfl (by rw [ha70]; rfl) (by unfold RoomC; decide) (by decide) dX7_readSource_44 hk71 (fun M68 h => ?_)
      refine z_aload_n (r := (some h0)) hX dX7_readSource_47 rfl 2 rfl ?_
      refine z_lconst (v := (0 : Int64)) hX dX7_readSource_48 (by decide) ?_
      refine z_ldc2 (v := (999999999999999999 : Int64)) hX dX7_readSource_49 kj_RX7_69 ?_
      obtain ⟨hk75, h⟩ := h
      refine z_callVI (As := [.long (0 : Int64), .long (999999999999999999 : Int64)]) (rest := []) (ci := 7) hX (ct_X7_readNumber h) mw_RX7_71 rfl (by decide) rfl (by rfl) (by unfold RoomC; decide) (by decide) dX7_readSource_52 hk75 (fun r73 M74 h => ?_)
      obtain ⟨h1, h2⟩ := h
      refine z_if_ne (tgt := 60) hX dX7_readSource_55 (by decide) (fun hc => ?_) (fun hc => ?_)
      · have h := h1 hc
        refine z_aload_n (r := (some h0)) hX dX7_readSource_60 rfl 2 rfl ?_
        obtain ⟨hk77, h⟩ := h
        refine gf_RX7_62 (r := (some h0)) hX dX7_readSource_61 rfl hk77 ?_
        refine z_lstore_n hX [(3, .long (mJ M74 454 h0)), (2, .int (((mJ M55 454 h0)).toInt32)), (0, va_rf (some h0)), (1, va_rf p1)] dX7_readSource_64 rfl (by rw [hnL]; decide) rfl ?_
        refine z_goto (tgt := 80) hX dX7_readSource_65 (by decide) ?_
        refine z_loc [2, 3, 1, 0] rfl ?_
        refine z_widen 0 0 (by decide) (by decide) ?_
        exact zb_X7_readSource_80 hX hQ hnL h
      · have h := h2 hc
        refine z_iconst (v := (0 : Int32)) hX dX7_readSource_58 (by decide) ?_
        refine z_widen 5 24 (by decide) (by decide) ?_
        exact y_zret hX hQ dX7_readSource_59 (Or.inl rfl) h
  · have h := h2 hc
    refine z_iconst (v := (0 : Int32)) hX dX7_readSource_18 (by decide) ?_
    refine z_widen 5 24 (by decide) (by decide) ?_
    exact y_zret hX hQ dX7_readSource_19 (Or.inl rfl) h
def rm_X7_readDelay : Room := { frames := 4, cells := 0, slots := 0, locals := 89 }
def bk_X7_readDelay_26 (h0 : Nat) (K : Int32 → Mm → Prop) (M : Mm) : Prop := (K (0 : Int32) M)
set_option maxRecDepth 100000 in
set_option maxHeartbeats 4000000 in
theorem zb_X7_readDelay_26 {X : Cx} {h0 : Nat} {K : Int32 → Mm → Prop} (hX : Ok X cX7_readDelay RX7 rm_X7_readDelay) (hQ : Rq X rm_X7_readDelay (some .boolean) (QI K)) (hnL : X.2.2.2.2.2.2.2.2.2.2.2.2.2.2 = 2) {M : Mm} (h : bk_X7_readDelay_26 h0 K M) : Z X M 0 0 26 [] [] := by
  unfold bk_X7_readDelay_26 at h
  refine z_iconst (v := (0 : Int32)) hX dX7_readDelay_26 (by decide) ?_
  exact y_zret hX hQ dX7_readDelay_27 (Or.inl rfl) h
def wp_X7_readDelay (M : Mm) (h0 : Nat) (p1 : Option Nat) (K : Int32 → Mm → Prop) : Prop := mK M h0 = 8 ∧ ∃ a4, (mR M 448 h0) = some a4 ∧ mK M a4 = 5 ∧ (wp_X4_advance M a4 (fun M3 => mK M3 h0 = 8 ∧ (wp_X7_readInput M3 h0 p1 (fun r8 M9 => ((r8 = 0 → (bk_X7_readDelay_26 h0 K M9)) ∧ (¬ r8 = 0 → mK M9 h0 = 8 ∧ (wp_X7_readNumber M9 h0 (0 : Int64) (999999999999999999 : Int64) (fun r12 M13 => ((¬ r12 = 0 → mK M13 h0 = 8 ∧ ∃ a17, p1 = some a17 ∧ mK M13 a17 = 7 ∧ (wp_X7_readSign (sJ M13 392 a17 (mJ M13 454 h0)) h0 (59 : Int32) (fun r21 M22 => (bz r21 ∧ K r21 M22)))) ∧ (r12 = 0 → (bk_X7_readDelay_26 h0 K M13)))))))))))
set_option maxRecDepth 100000 in
set_option maxHeartbeats 4000000 in
theorem ct_X7_readDelay {M : Mm} {h0 : Nat} {p1 : Option Nat} {K : Int32 → Mm → Prop} (h : wp_X7_readDelay M h0 p1 K) : CtI yX7_readDelay cX7_readDelay 2 (some .boolean) rm_X7_readDelay [.ref h0, va_rf p1] M K := by
  refine ct_any (QI K) (by decide) (by cases p1 <;> exact Nat.le_of_ble_eq_true rfl) (fun X hX hQ hnL hnm => ?_)
  rw [show lv_args 0 [.ref h0, va_rf p1] = [(0, va_rf (some h0)), (1, va_rf p1)] by cases p1 <;> rfl]
  have hX : Ok X cX7_readDelay RX7 rm_X7_readDelay := hX
  unfold wp_X7_readDelay at h
  refine z_aload_n (r := (some h0)) hX dX7_readDelay_0 rfl 0 rfl ?_
  obtain ⟨hk1, h⟩ := h
  refine gf_RX7_9 (r := (some h0)) hX dX7_readDelay_1 rfl hk1 ?_
  obtain ⟨a4, ha5, h⟩ := h
  obtain ⟨hk6, h⟩ := h
  refine z_callVV (As := []) (rest := []) (ci := 4) hX (ct_X4_advance h) mw_RX7_19 rfl (by decide) rfl (by rw [ha5]; rfl) (by unfold RoomC; decide) (by decide) dX7_readDelay_4 hk6 (fun M3 h => ?_)
  refine z_aload_n (r := (some h0)) hX dX7_readDelay_7 rfl 0 rfl ?_
  refine z_aload_n (r := p1) hX dX7_readDelay_8 rfl 1 rfl ?_
  obtain ⟨hk10, h⟩ := h
  refine z_callVI (As := [va_rf p1]) (rest := []) (ci := 7) hX (ct_X7_readInput h) mw_RX7_116 rfl (by decide) rfl (by rfl) (by unfold RoomC; decide) (by decide) dX7_readDelay_9 hk10 (fun r8 M9 h => ?_)
  obtain ⟨h1, h2⟩ := h
  refine z_if_eq (tgt := 26) hX dX7_readDelay_12 (by decide) (fun hc => ?_) (fun hc => ?_)
  · have h := h1 hc
    refine z_loc [] rfl ?_
    exact zb_X7_readDelay_26 hX hQ hnL h
  · have h := h2 hc
    refine z_aload_n (r := (some h0)) hX dX7_readDelay_15 rfl 0 rfl ?_
    refine z_lconst (v := (0 : Int64)) hX dX7_readDelay_16 (by decide) ?_
    refine z_ldc2 (v := (999999999999999999 : Int64)) hX dX7_readDelay_17 kj_RX7_69 ?_
    obtain ⟨hk14, h⟩ := h
    refine z_callVI (As := [.long (0 : Int64), .long (999999999999999999 : Int64)]) (rest := []) (ci := 7) hX (ct_X7_readNumber h) mw_RX7_71 rfl (by decide) rfl (by rfl) (by unfold RoomC; decide) (by decide) dX7_readDelay_20 hk14 (fun r12 M13 h => ?_)
    obtain ⟨h1, h2⟩ := h
    refine z_if_ne (tgt := 28) hX dX7_readDelay_23 (by decide) (fun hc => ?_) (fun hc => ?_)
    · have h := h1 hc
      refine z_aload_n (r := p1) hX dX7_readDelay_28 rfl 1 rfl ?_
      refine z_aload_n (r := (some h0)) hX dX7_readDelay_29 rfl 0 rfl ?_
      obtain ⟨hk16, h⟩ := h
      refine gf_RX7_62 (r := (some h0)) hX dX7_readDelay_30 rfl hk16 ?_
      obtain ⟨a17, ha18, h⟩ := h
      obtain ⟨hk19, h⟩ := h
      refine pf_RX7_161 (r := p1) (v := (mJ M13 454 h0)) hX dX7_readDelay_33 ha18 hk19 ?_
      refine z_aload_n (r := (some h0)) hX dX7_readDelay_36 rfl 0 rfl ?_
      refine z_bipush (v := (59 : Int32)) hX dX7_readDelay_37 (by decide) ?_
      refine z_callVI (As := [.int (59 : Int32)]) (rest := []) (ci := 7) hX (ct_X7_readSign h) mw_RX7_78 rfl (by decide) rfl (by rfl) (by unfold RoomC; decide) (by decide) dX7_readDelay_39 hk16 (fun r21 M22 h => ?_)
      exact y_zret hX hQ dX7_readDelay_42 h.1 h.2
    · have h := h2 hc
      refine z_loc [] rfl ?_
      exact zb_X7_readDelay_26 hX hQ hnL h
def rm_X7_readWindow : Room := { frames := 4, cells := 4, slots := 78, locals := 89 }
def bk_X7_readWindow_48 (h0 : Nat) (K : Int32 → Mm → Prop) (M : Mm) : Prop := (K (0 : Int32) M)
set_option maxRecDepth 100000 in
set_option maxHeartbeats 4000000 in
theorem zb_X7_readWindow_48 {X : Cx} {h0 : Nat} {K : Int32 → Mm → Prop} (hX : Ok X cX7_readWindow RX7 rm_X7_readWindow) (hQ : Rq X rm_X7_readWindow (some .boolean) (QI K)) (hnL : X.2.2.2.2.2.2.2.2.2.2.2.2.2.2 = 6) {M : Mm} (h : bk_X7_readWindow_48 h0 K M) : Z X M 0 0 48 [] [] := by
  unfold bk_X7_readWindow_48 at h
  refine z_iconst (v := (0 : Int32)) hX dX7_readWindow_48 (by decide) ?_
  refine z_widen 4 78 (by decide) (by decide) ?_
  exact y_zret hX hQ dX7_readWindow_49 (Or.inl rfl) h
def bk_X7_readWindow_88 (h0 : Nat) (K : Int32 → Mm → Prop) (M : Mm) : Prop := (K (0 : Int32) M)
set_option maxRecDepth 100000 in
set_option maxHeartbeats 4000000 in
theorem zb_X7_readWindow_88 {X : Cx} {h0 : Nat} {K : Int32 → Mm → Prop} (hX : Ok X cX7_readWindow RX7 rm_X7_readWindow) (hQ : Rq X rm_X7_readWindow (some .boolean) (QI K)) (hnL : X.2.2.2.2.2.2.2.2.2.2.2.2.2.2 = 6) {M : Mm} (h : bk_X7_readWindow_88 h0 K M) : Z X M 0 0 88 [] [] := by
  unfold bk_X7_readWindow_88 at h
  refine z_iconst (v := (0 : Int32)) hX dX7_readWindow_88 (by decide) ?_
  refine z_widen 4 78 (by decide) (by decide) ?_
  exact y_zret hX hQ dX7_readWindow_89 (Or.inl rfl) h
def wp_X7_readWindow (M : Mm) (h0 : Nat) (p1 : Option Nat) (K : Int32 → Mm → Prop) : Prop := mK M h0 = 8 ∧ ∃ a5, (mR (sI M 453 h0 ((mI M 453 h0) + (1 : Int32))) 448 h0) = some a5 ∧ mK (sI M 453 h0 ((mI M 453 h0) + (1 : Int32))) a5 = 5 ∧ (wp_X4_advance (sI M 453 h0 ((mI M 453 h0) + (1 : Int32))) a5 (fun M4 => mK M4 h0 = 8 ∧ (wp_X7_readInput M4 h0 p1 (fun r9 M10 => ((¬ r9 = 0 → mK M10 h0 = 8 ∧ (wp_X7_readKeyword M10 h0 (1936292453 : Int64) (fun r13 M14 => ((r13 = 0 → (bk_X7_readWindow_48 h0 K M14)) ∧ (¬ r13 = 0 → mK M14 h0 = 8 ∧ (wp_X7_readNumber M14 h0 (1 : Int64) (1000000 : Int64) (fun r17 M18 => ((¬ r17 = 0 → mK M18 h0 = 8 ∧ (wp_X7_readKeyword M18 h0 (1937007984 : Int64) (fun r22 M23 => ((r22 = 0 → (bk_X7_readWindow_88 h0 K M23)) ∧ (¬ r22 = 0 → mK M23 h0 = 8 ∧ (wp_X7_readNumber M23 h0 ((((mJ M18 454 h0) + (4 : Int64)) - (1 : Int64)) / (4 : Int64)) (mJ M18 454 h0) (fun r25 M26 => ((¬ r25 = 0 → (∀ q29, mK M26 q29 = 0 → mK (nw M26 q29 10) h0 = 8 ∧ (wp_X9_init (nw M26 q29 10) q29 (mJ M18 454 h0) (mJ (nw M26 q29 10) 454 h0) (fun M34 => ∃ a36, p1 = some a36 ∧ mK M34 a36 = 7 ∧ mK (sR M34 395 a36 (some q29)) h0 = 8 ∧ (wp_X7_readSign (sR M34 395 a36 (some q29)) h0 (59 : Int32) (fun r40 M41 => (bz r40 ∧ K r40 M41))))))) ∧ (r25 = 0 → (bk_X7_readWindow_88 h0 K M26)))))))))) ∧ (r17 = 0 → (bk_X7_readWindow_48 h0 K M18)))))))))) ∧ (r9 = 0 → (K (0 : Int32) M10)))))))
set_option maxRecDepth 100000 in
set_option maxHeartbeats 4000000 in
theorem ct_X7_readWindow {M : Mm} {h0 : Nat} {p1 : Option Nat} {K : Int32 → Mm → Prop} (h : wp_X7_readWindow M h0 p1 K) : CtI yX7_readWindow cX7_readWindow 6 (some .boolean) rm_X7_readWindow [.ref h0, va_rf p1] M K := by
  refine ct_any (QI K) (by decide) (by cases p1 <;> exact Nat.le_of_ble_eq_true rfl) (fun X hX hQ hnL hnm => ?_)
  rw [show lv_args 0 [.ref h0, va_rf p1] = [(0, va_rf (some h0)), (1, va_rf p1)] by cases p1 <;> rfl]
  have hX : Ok X cX7_readWindow RX7 rm_X7_readWindow := hX
  unfold wp_X7_readWindow at h
  refine z_aload_n (r := (some h0)) hX dX7_readWindow_0 rfl 0 rfl ?_
  refine z_dup hX dX7_readWindow_1 (cat_rf _) ?_
  obtain ⟨hk1, h⟩ := h
  refine gf_RX7_129 (r := (some h0)) hX dX7_readWindow_2 rfl hk1 ?_
  refine z_iconst (v := (1 : Int32)) hX dX7_readWindow_5 (by decide) ?_
  refine z_iadd hX dX7_readWindow_6 ?_
  refine pf_RX7_129 (r := (some h0)) (v := ((mI M 453 h0) + (1 : Int32))) hX dX7_readWindow_7 rfl hk1 ?_
  refine z_aload_n (r := (some h0)) hX dX7_readWindow_10 rfl 0 rfl ?_
  refine gf_RX7_9 (r := (some h0)) hX dX7_readWindow_11 rfl hk1 ?_
  obtain ⟨a5, ha6, h⟩ := h
  obtain ⟨hk7, h⟩ := h
  refine z_callVV (As := []) (rest := []) (ci := 4) hX (ct_X4_advance h) mw_RX7_19 rfl (by decide) rfl (by rw [ha6]; rfl) (by unfold RoomC; decide) (by decide) dX7_readWindow_14 hk7 (fun M4 h => ?_)
  refine z_aload_n (r := (some h0)) hX dX7_readWindow_17 rfl 0 rfl ?_
  refine z_aload_n (r := p1) hX dX7_readWindow_18 rfl 1 rfl ?_
  obtain ⟨hk11, h⟩ := h
  refine z_callVI (As := [va_rf p1]) (rest := []) (ci := 7) hX (ct_X7_readInput h) mw_RX7_116 rfl (by decide) rfl (by rfl) (by unfold RoomC; decide) (by decide) dX7_readWindow_19 hk11 (fun r9 M10 h => ?_)
  obtain ⟨h1, h2⟩ := h
  refine z_if_ne (tgt := 27) hX dX7_readWindow_22 (by decide) (fun hc => ?_) (fun hc => ?_)
  · have h := h1 hc
    refine z_aload_n (r := (some h0)) hX dX7_readWindow_27 rfl 0 rfl ?_
    refine z_ldc2 (v := (1936292453 : Int64)) hX dX7_readWindow_28 kj_RX7_186 ?_
    obtain ⟨hk15, h⟩ := h
    refine z_callVI (As := [.long (1936292453 : Int64)]) (rest := []) (ci := 7) hX (ct_X7_readKeyword h) mw_RX7_145 rfl (by decide) rfl (by rfl) (by unfold RoomC; decide) (by decide) dX7_readWindow_31 hk15 (fun r13 M14 h => ?_)
    obtain ⟨h1, h2⟩ := h
    refine z_if_eq (tgt := 48) hX dX7_readWindow_34 (by decide) (fun hc => ?_) (fun hc => ?_)
    · have h := h1 hc
      refine z_loc [] rfl ?_
      refine z_widen 0 0 (by decide) (by decide) ?_
      exact zb_X7_readWindow_48 hX hQ hnL h
    · have h := h2 hc
      refine z_aload_n (r := (some h0)) hX dX7_readWindow_37 rfl 0 rfl ?_
      refine z_lconst (v := (1 : Int64)) hX dX7_readWindow_38 (by decide) ?_
      refine z_ldc2 (v := (1000000 : Int64)) hX dX7_readWindow_39 kj_RX7_188 ?_
      obtain ⟨hk19, h⟩ := h
      refine z_callVI (As := [.long (1 : Int64), .long (1000000 : Int64)]) (rest := []) (ci := 7) hX (ct_X7_readNumber h) mw_RX7_71 rfl (by decide) rfl (by rfl) (by unfold RoomC; decide) (by decide) dX7_readWindow_42 hk19 (fun r17 M18 h => ?_)
      obtain ⟨h1, h2⟩ := h
      refine z_if_ne (tgt := 50) hX dX7_readWindow_45 (by decide) (fun hc => ?_) (fun hc => ?_)
      · have h := h1 hc
        refine z_aload_n (r := (some h0)) hX dX7_readWindow_50 rfl 0 rfl ?_
        obtain ⟨hk21, h⟩ := h
        refine gf_RX7_62 (r := (some h0)) hX dX7_readWindow_51 rfl hk21 ?_
        refine z_lstore_n (i := 2) hX [(2, .long (mJ M18 454 h0)), (0, va_rf (some h0)), (1, va_rf p1)] dX7_readWindow_54 rfl (by rw [hnL]; decide) (by simp [cat_rf]) ?_
        refine z_lload_n hX dX7_readWindow_55 rfl 0 rfl ?_
        refine z_ldc2 (v := (4 : Int64)) hX dX7_readWindow_56 kj_RX7_135 ?_
        refine z_ladd hX dX7_readWindow_59 ?_
        refine z_lconst (v := (1 : Int64)) hX dX7_readWindow_60 (by decide) ?_
        refine z_lsub hX dX7_readWindow_61 ?_
        refine z_ldc2 (v := (4 : Int64)) hX dX7_readWindow_62 kj_RX7_135 ?_
        refine z_ldiv hX dX7_readWindow_65 (by decide) ?_
        refine z_lstore hX [(4, .long ((((mJ M18 454 h0) + (4 : Int64)) - (1 : Int64)) / (4 : Int64))), (2, .long (mJ M18 454 h0)), (0, va_rf (some h0)), (1, va_rf p1)] dX7_readWindow_66 (by rw [hnL]; decide) rfl ?_
        refine z_aload_n (r := (some h0)) hX dX7_readWindow_68 rfl 2 rfl ?_
        refine z_ldc2 (v := (1937007984 : Int64)) hX dX7_readWindow_69 kj_RX7_190 ?_
        refine z_callVI (As := [.long (1937007984 : Int64)]) (rest := []) (ci := 7) hX (ct_X7_readKeyword h) mw_RX7_145 rfl (by decide) rfl (by rfl) (by unfold RoomC; decide) (by decide) dX7_readWindow_72 hk21 (fun r22 M23 h => ?_)
        obtain ⟨h1, h2⟩ := h
        refine z_if_eq (tgt := 88) hX dX7_readWindow_75 (by decide) (fun hc => ?_) (fun hc => ?_)
        · have h := h1 hc
          refine z_loc [] rfl ?_
          refine z_widen 0 0 (by decide) (by decide) ?_
          exact zb_X7_readWindow_88 hX hQ hnL h
        · have h := h2 hc
          refine z_aload_n (r := (some h0)) hX dX7_readWindow_78 rfl 2 rfl ?_
          refine z_lload hX dX7_readWindow_79 0 rfl ?_
          refine z_lload_n hX dX7_readWindow_81 rfl 1 rfl ?_
          obtain ⟨hk27, h⟩ := h
          refine z_callVI (As := [.long ((((mJ M18 454 h0) + (4 : Int64)) - (1 : Int64)) / (4 : Int64)), .long (mJ M18 454 h0)]) (rest := []) (ci := 7) hX (ct_X7_readNumber h) mw_RX7_71 rfl (by decide) rfl (by rfl) (by unfold RoomC; decide) (by decide) dX7_readWindow_82 hk27 (fun r25 M26 h => ?_)
          obtain ⟨h1, h2⟩ := h
          refine z_if_ne (tgt := 90) hX dX7_readWindow_85 (by decide) (fun hc => ?_) (fun hc => ?_)
          · have h := h1 hc
            refine z_aload_n (r := p1) hX dX7_readWindow_90 rfl 3 rfl ?_
            refine nq_RX7_192 hX dX7_readWindow_91 (by decide) (by decide) (fun q29 hq30 => ?_)
            have h := h q29 hq30
            refine z_dup hX dX7_readWindow_94 (cat_rf _) ?_
            refine z_lload_n hX dX7_readWindow_95 rfl 1 rfl ?_
            refine z_aload_n (r := (some h0)) hX dX7_readWindow_96 rfl 2 rfl ?_
            obtain ⟨hk32, h⟩ := h
            refine gf_RX7_62 (r := (some h0)) hX dX7_readWindow_97 rfl hk32 ?_
            refine z_callIV (As := [.long (mJ M18 454 h0), .long (mJ (nw M26 q29 10) 454 h0)]) (rest := [va_rf (some q29), va_rf p1]) hX (ct_X9_init h) mw_RX7_194 rfl (by rfl) (by unfold RoomC; decide) (by simp only [List.map_cons, List.map_nil, List.sum_cons, List.sum_nil, cat_rf, cat_i, cat_j]; decide) dX7_readWindow_100 (fun M34 h => ?_)
            obtain ⟨a36, ha37, h⟩ := h
            obtain ⟨hk38, h⟩ := h
            refine pf_RX7_197 (r := p1) (v := (some q29)) hX dX7_readWindow_103 ha37 hk38 ?_
            refine z_aload_n (r := (some h0)) hX dX7_readWindow_106 rfl 2 rfl ?_
            refine z_bipush (v := (59 : Int32)) hX dX7_readWindow_107 (by decide) ?_
            obtain ⟨hk42, h⟩ := h
            refine z_callVI (As := [.int (59 : Int32)]) (rest := []) (ci := 7) hX (ct_X7_readSign h) mw_RX7_78 rfl (by decide) rfl (by rfl) (by unfold RoomC; decide) (by decide) dX7_readWindow_109 hk42 (fun r40 M41 h => ?_)
            refine z_widen 4 78 (by decide) (by decide) ?_
            exact y_zret hX hQ dX7_readWindow_112 h.1 h.2
          · have h := h2 hc
            refine z_loc [] rfl ?_
            refine z_widen 0 0 (by decide) (by decide) ?_
            exact zb_X7_readWindow_88 hX hQ hnL h
      · have h := h2 hc
        refine z_loc [] rfl ?_
        refine z_widen 0 0 (by decide) (by decide) ?_
        exact zb_X7_readWindow_48 hX hQ hnL h
  · have h := h2 hc
    refine z_iconst (v := (0 : Int32)) hX dX7_readWindow_25 (by decide) ?_
    refine z_widen 4 78 (by decide) (by decide) ?_
    exact y_zret hX hQ dX7_readWindow_26 (Or.inl rfl) h
def rm_X11_statement : Room := { frames := 9, cells := 0, slots := 0, locals := 227 }
def bk_X11_statement_218 (h0 : Nat) (K : Mm → Prop) (s0 : Int32) (s1 : Int32) (s2 : Int32) (s3 : Option Nat) (M : Mm) : Prop := ∃ a1, s3 = some a1 ∧ isA M a1 1 ∧ vp_in s2 (aN M a1) ∧ (K (tI M a1 (s2).toNatClampNeg (s1 + s0)))
set_option maxRecDepth 100000 in
set_option maxHeartbeats 4000000 in
theorem zb_X11_statement_218 {X : Cx} {h0 : Nat} {K : Mm → Prop} (hX : Ok X cX11_statement RX11 rm_X11_statement) (hQ : Rq X rm_X11_statement none (QV K)) (hnL : X.2.2.2.2.2.2.2.2.2.2.2.2.2.2 = 5) {s0 : Int32} {s1 : Int32} {s2 : Int32} {s3 : Option Nat} {M : Mm} (h : bk_X11_statement_218 h0 K s0 s1 s2 s3 M) : Z X M 0 0 218 [] [.int s0, .int s1, .int s2, va_rf s3] := by
  unfold bk_X11_statement_218 at h
  refine z_iadd hX dX11_statement_218 ?_
  obtain ⟨a1, ha2, h⟩ := h
  obtain ⟨hk3, h⟩ := h
  obtain ⟨hc4, h⟩ := h
  refine y_iast (r := s3) hX dX11_statement_219 ha2 hk3 hc4 ?_
  exact z_vret hX hQ dX11_statement_220 h
def bk_X11_statement_193 (h0 : Nat) (K : Mm → Prop) (M : Mm) : Prop := mK M h0 = 12 ∧ (wp_X11_takeSign M h0 (59 : Int32) (fun M6 => mK M6 h0 = 12 ∧ ∃ a10, (mR M6 729 h0) = some a10 ∧ isA M6 a10 1 ∧ vp_in (0 : Int32) (aN M6 a10) ∧ (wp_X11_good M6 h0 (fun r14 M15 => ((r14 = 0 → (bk_X11_statement_218 h0 K (0 : Int32) (aI M6 a10 ((0 : Int32)).toNatClampNeg) (0 : Int32) (mR M6 729 h0) M15)) ∧ (¬ r14 = 0 → (bk_X11_statement_218 h0 K (1 : Int32) (aI M6 a10 ((0 : Int32)).toNatClampNeg) (0 : Int32) (mR M6 729 h0) M15)))))))
set_option maxRecDepth 100000 in
set_option maxHeartbeats 4000000 in
theorem zb_X11_statement_193 {X : Cx} {h0 : Nat} {K : Mm → Prop} (hX : Ok X cX11_statement RX11 rm_X11_statement) (hQ : Rq X rm_X11_statement none (QV K)) (hnL : X.2.2.2.2.2.2.2.2.2.2.2.2.2.2 = 5) {M : Mm} (h : bk_X11_statement_193 h0 K M) : Z X M 0 0 193 [(0, va_rf (some h0))] [] := by
  unfold bk_X11_statement_193 at h
  refine z_aload_n (r := (some h0)) hX dX11_statement_193 rfl 0 rfl ?_
  refine z_bipush (v := (59 : Int32)) hX dX11_statement_194 (by decide) ?_
  obtain ⟨hk7, h⟩ := h
  refine z_callVV (As := [.int (59 : Int32)]) (rest := []) (ci := 11) hX (ct_X11_takeSign h) mw_RX11_213 rfl (by decide) rfl (by rfl) (by unfold RoomC; decide) (by decide) dX11_statement_196 hk7 (fun M6 h => ?_)
  refine z_aload_n (r := (some h0)) hX dX11_statement_199 rfl 0 rfl ?_
  obtain ⟨hk9, h⟩ := h
  refine gf_RX11_60 (r := (some h0)) hX dX11_statement_200 rfl hk9 ?_
  refine z_iconst (v := (0 : Int32)) hX dX11_statement_203 (by decide) ?_
  refine z_dup2_11 hX dX11_statement_204 rfl (cat_rf _) ?_
  obtain ⟨a10, ha11, h⟩ := h
  obtain ⟨hk12, h⟩ := h
  obtain ⟨hc13, h⟩ := h
  refine y_iald (r := (mR M6 729 h0)) hX dX11_statement_205 ha11 hk12 hc13 ?_
  refine z_aload_n (r := (some h0)) hX dX11_statement_206 rfl 0 rfl ?_
  refine z_callVI (As := []) (rest := [.int (aI M6 a10 ((0 : Int32)).toNatClampNeg), .int (0 : Int32), va_rf (mR M6 729 h0)]) (ci := 11) hX (ct_X11_good h) mw_RX11_190 rfl (by decide) rfl (by rfl) (by unfold RoomC; decide) (by simp only [List.map_cons, List.map_nil, List.sum_cons, List.sum_nil, cat_rf, cat_i, cat_j]; decide) dX11_statement_207 hk9 (fun r14 M15 h => ?_)
  obtain ⟨h1, h2⟩ := h
  refine z_if_eq (tgt := 217) hX dX11_statement_210 (by decide) (fun hc => ?_) (fun hc => ?_)
  · have h := h1 hc
    refine z_iconst (v := (0 : Int32)) hX dX11_statement_217 (by decide) ?_
    refine z_loc [] rfl ?_
    exact zb_X11_statement_218 hX hQ hnL h
  · have h := h2 hc
    refine z_iconst (v := (1 : Int32)) hX dX11_statement_213 (by decide) ?_
    refine z_goto (tgt := 218) hX dX11_statement_214 (by decide) ?_
    refine z_loc [] rfl ?_
    exact zb_X11_statement_218 hX hQ hnL h
def bk_X11_statement_74 (h0 : Nat) (K : Mm → Prop) (l1 : Int64) (l3 : Int32) (M : Mm) : Prop := mK M h0 = 12 ∧ (wp_X11_good M h0 (fun r17 M18 => ((¬ r17 = 0 → mK M18 h0 = 12 ∧ ∃ a22, (mR M18 729 h0) = some a22 ∧ isA M18 a22 1 ∧ vp_in (0 : Int32) (aN M18 a22) ∧ ∃ a26, (mR M18 716 h0) = some a26 ∧ isA M18 a26 2 ∧ vp_in (aI M18 a22 ((0 : Int32)).toNatClampNeg) (aN M18 a26) ∧ ∃ a30, (mR (tJ M18 a26 ((aI M18 a22 ((0 : Int32)).toNatClampNeg)).toNatClampNeg l1) 717 h0) = some a30 ∧ isA (tJ M18 a26 ((aI M18 a22 ((0 : Int32)).toNatClampNeg)).toNatClampNeg l1) a30 1 ∧ vp_in (aI M18 a22 ((0 : Int32)).toNatClampNeg) (aN (tJ M18 a26 ((aI M18 a22 ((0 : Int32)).toNatClampNeg)).toNatClampNeg l1) a30) ∧ ∃ a34, (mR (tI (tJ M18 a26 ((aI M18 a22 ((0 : Int32)).toNatClampNeg)).toNatClampNeg l1) a30 ((aI M18 a22 ((0 : Int32)).toNatClampNeg)).toNatClampNeg l3) 724 h0) = some a34 ∧ isA (tI (tJ M18 a26 ((aI M18 a22 ((0 : Int32)).toNatClampNeg)).toNatClampNeg l1) a30 ((aI M18 a22 ((0 : Int32)).toNatClampNeg)).toNatClampNeg l3) a34 1 ∧ vp_in (aI M18 a22 ((0 : Int32)).toNatClampNeg) (aN (tI (tJ M18 a26 ((aI M18 a22 ((0 : Int32)).toNatClampNeg)).toNatClampNeg l1) a30 ((aI M18 a22 ((0 : Int32)).toNatClampNeg)).toNatClampNeg l3) a34) ∧ ∃ a38, (mR (tI (tI (tJ M18 a26 ((aI M18 a22 ((0 : Int32)).toNatClampNeg)).toNatClampNeg l1) a30 ((aI M18 a22 ((0 : Int32)).toNatClampNeg)).toNatClampNeg l3) a34 ((aI M18 a22 ((0 : Int32)).toNatClampNeg)).toNatClampNeg (0 : Int32)) 726 h0) = some a38 ∧ isA (tI (tI (tJ M18 a26 ((aI M18 a22 ((0 : Int32)).toNatClampNeg)).toNatClampNeg l1) a30 ((aI M18 a22 ((0 : Int32)).toNatClampNeg)).toNatClampNeg l3) a34 ((aI M18 a22 ((0 : Int32)).toNatClampNeg)).toNatClampNeg (0 : Int32)) a38 1 ∧ vp_in (aI M18 a22 ((0 : Int32)).toNatClampNeg) (aN (tI (tI (tJ M18 a26 ((aI M18 a22 ((0 : Int32)).toNatClampNeg)).toNatClampNeg l1) a30 ((aI M18 a22 ((0 : Int32)).toNatClampNeg)).toNatClampNeg l3) a34 ((aI M18 a22 ((0 : Int32)).toNatClampNeg)).toNatClampNeg (0 : Int32)) a38) ∧ ∃ a42, (mR (tI (tI (tI (tJ M18 a26 ((aI M18 a22 ((0 : Int32)).toNatClampNeg)).toNatClampNeg l1) a30 ((aI M18 a22 ((0 : Int32)).toNatClampNeg)).toNatClampNeg l3) a34 ((aI M18 a22 ((0 : Int32)).toNatClampNeg)).toNatClampNeg (0 : Int32)) a38 ((aI M18 a22 ((0 : Int32)).toNatClampNeg)).toNatClampNeg (-1 : Int32)) 718 h0) = some a42 ∧ isA (tI (tI (tI (tJ M18 a26 ((aI M18 a22 ((0 : Int32)).toNatClampNeg)).toNatClampNeg l1) a30 ((aI M18 a22 ((0 : Int32)).toNatClampNeg)).toNatClampNeg l3) a34 ((aI M18 a22 ((0 : Int32)).toNatClampNeg)).toNatClampNeg (0 : Int32)) a38 ((aI M18 a22 ((0 : Int32)).toNatClampNeg)).toNatClampNeg (-1 : Int32)) a42 1 ∧ vp_in (aI M18 a22 ((0 : Int32)).toNatClampNeg) (aN (tI (tI (tI (tJ M18 a26 ((aI M18 a22 ((0 : Int32)).toNatClampNeg)).toNatClampNeg l1) a30 ((aI M18 a22 ((0 : Int32)).toNatClampNeg)).toNatClampNeg l3) a34 ((aI M18 a22 ((0 : Int32)).toNatClampNeg)).toNatClampNeg (0 : Int32)) a38 ((aI M18 a22 ((0 : Int32)).toNatClampNeg)).toNatClampNeg (-1 : Int32)) a42) ∧ ∃ a46, (mR (tI (tI (tI (tI (tJ M18 a26 ((aI M18 a22 ((0 : Int32)).toNatClampNeg)).toNatClampNeg l1) a30 ((aI M18 a22 ((0 : Int32)).toNatClampNeg)).toNatClampNeg l3) a34 ((aI M18 a22 ((0 : Int32)).toNatClampNeg)).toNatClampNeg (0 : Int32)) a38 ((aI M18 a22 ((0 : Int32)).toNatClampNeg)).toNatClampNeg (-1 : Int32)) a42 ((aI M18 a22 ((0 : Int32)).toNatClampNeg)).toNatClampNeg (0 : Int32)) 722 h0) = some a46 ∧ isA (tI (tI (tI (tI (tJ M18 a26 ((aI M18 a22 ((0 : Int32)).toNatClampNeg)).toNatClampNeg l1) a30 ((aI M18 a22 ((0 : Int32)).toNatClampNeg)).toNatClampNeg l3) a34 ((aI M18 a22 ((0 : Int32)).toNatClampNeg)).toNatClampNeg (0 : Int32)) a38 ((aI M18 a22 ((0 : Int32)).toNatClampNeg)).toNatClampNeg (-1 : Int32)) a42 ((aI M18 a22 ((0 : Int32)).toNatClampNeg)).toNatClampNeg (0 : Int32)) a46 1 ∧ vp_in (aI M18 a22 ((0 : Int32)).toNatClampNeg) (aN (tI (tI (tI (tI (tJ M18 a26 ((aI M18 a22 ((0 : Int32)).toNatClampNeg)).toNatClampNeg l1) a30 ((aI M18 a22 ((0 : Int32)).toNatClampNeg)).toNatClampNeg l3) a34 ((aI M18 a22 ((0 : Int32)).toNatClampNeg)).toNatClampNeg (0 : Int32)) a38 ((aI M18 a22 ((0 : Int32)).toNatClampNeg)).toNatClampNeg (-1 : Int32)) a42 ((aI M18 a22 ((0 : Int32)).toNatClampNeg)).toNatClampNeg (0 : Int32)) a46) ∧ ∃ a50, (mR (tI (tI (tI (tI (tI (tJ M18 a26 ((aI M18 a22 ((0 : Int32)).toNatClampNeg)).toNatClampNeg l1) a30 ((aI M18 a22 ((0 : Int32)).toNatClampNeg)).toNatClampNeg l3) a34 ((aI M18 a22 ((0 : Int32)).toNatClampNeg)).toNatClampNeg (0 : Int32)) a38 ((aI M18 a22 ((0 : Int32)).toNatClampNeg)).toNatClampNeg (-1 : Int32)) a42 ((aI M18 a22 ((0 : Int32)).toNatClampNeg)).toNatClampNeg (0 : Int32)) a46 ((aI M18 a22 ((0 : Int32)).toNatClampNeg)).toNatClampNeg (0 : Int32)) 723 h0) = some a50 ∧ isA (tI (tI (tI (tI (tI (tJ M18 a26 ((aI M18 a22 ((0 : Int32)).toNatClampNeg)).toNatClampNeg l1) a30 ((aI M18 a22 ((0 : Int32)).toNatClampNeg)).toNatClampNeg l3) a34 ((aI M18 a22 ((0 : Int32)).toNatClampNeg)).toNatClampNeg (0 : Int32)) a38 ((aI M18 a22 ((0 : Int32)).toNatClampNeg)).toNatClampNeg (-1 : Int32)) a42 ((aI M18 a22 ((0 : Int32)).toNatClampNeg)).toNatClampNeg (0 : Int32)) a46 ((aI M18 a22 ((0 : Int32)).toNatClampNeg)).toNatClampNeg (0 : Int32)) a50 1 ∧ vp_in (aI M18 a22 ((0 : Int32)).toNatClampNeg) (aN (tI (tI (tI (tI (tI (tJ M18 a26 ((aI M18 a22 ((0 : Int32)).toNatClampNeg)).toNatClampNeg l1) a30 ((aI M18 a22 ((0 : Int32)).toNatClampNeg)).toNatClampNeg l3) a34 ((aI M18 a22 ((0 : Int32)).toNatClampNeg)).toNatClampNeg (0 : Int32)) a38 ((aI M18 a22 ((0 : Int32)).toNatClampNeg)).toNatClampNeg (-1 : Int32)) a42 ((aI M18 a22 ((0 : Int32)).toNatClampNeg)).toNatClampNeg (0 : Int32)) a46 ((aI M18 a22 ((0 : Int32)).toNatClampNeg)).toNatClampNeg (0 : Int32)) a50) ∧ ∃ a54, (mR (tI (tI (tI (tI (tI (tI (tJ M18 a26 ((aI M18 a22 ((0 : Int32)).toNatClampNeg)).toNatClampNeg l1) a30 ((aI M18 a22 ((0 : Int32)).toNatClampNeg)).toNatClampNeg l3) a34 ((aI M18 a22 ((0 : Int32)).toNatClampNeg)).toNatClampNeg (0 : Int32)) a38 ((aI M18 a22 ((0 : Int32)).toNatClampNeg)).toNatClampNeg (-1 : Int32)) a42 ((aI M18 a22 ((0 : Int32)).toNatClampNeg)).toNatClampNeg (0 : Int32)) a46 ((aI M18 a22 ((0 : Int32)).toNatClampNeg)).toNatClampNeg (0 : Int32)) a50 ((aI M18 a22 ((0 : Int32)).toNatClampNeg)).toNatClampNeg (-1 : Int32)) 719 h0) = some a54 ∧ isA (tI (tI (tI (tI (tI (tI (tJ M18 a26 ((aI M18 a22 ((0 : Int32)).toNatClampNeg)).toNatClampNeg l1) a30 ((aI M18 a22 ((0 : Int32)).toNatClampNeg)).toNatClampNeg l3) a34 ((aI M18 a22 ((0 : Int32)).toNatClampNeg)).toNatClampNeg (0 : Int32)) a38 ((aI M18 a22 ((0 : Int32)).toNatClampNeg)).toNatClampNeg (-1 : Int32)) a42 ((aI M18 a22 ((0 : Int32)).toNatClampNeg)).toNatClampNeg (0 : Int32)) a46 ((aI M18 a22 ((0 : Int32)).toNatClampNeg)).toNatClampNeg (0 : Int32)) a50 ((aI M18 a22 ((0 : Int32)).toNatClampNeg)).toNatClampNeg (-1 : Int32)) a54 3 ∧ vp_in (aI M18 a22 ((0 : Int32)).toNatClampNeg) (aN (tI (tI (tI (tI (tI (tI (tJ M18 a26 ((aI M18 a22 ((0 : Int32)).toNatClampNeg)).toNatClampNeg l1) a30 ((aI M18 a22 ((0 : Int32)).toNatClampNeg)).toNatClampNeg l3) a34 ((aI M18 a22 ((0 : Int32)).toNatClampNeg)).toNatClampNeg (0 : Int32)) a38 ((aI M18 a22 ((0 : Int32)).toNatClampNeg)).toNatClampNeg (-1 : Int32)) a42 ((aI M18 a22 ((0 : Int32)).toNatClampNeg)).toNatClampNeg (0 : Int32)) a46 ((aI M18 a22 ((0 : Int32)).toNatClampNeg)).toNatClampNeg (0 : Int32)) a50 ((aI M18 a22 ((0 : Int32)).toNatClampNeg)).toNatClampNeg (-1 : Int32)) a54) ∧ ∃ a58, (mR (tI (tI (tI (tI (tI (tI (tI (tJ M18 a26 ((aI M18 a22 ((0 : Int32)).toNatClampNeg)).toNatClampNeg l1) a30 ((aI M18 a22 ((0 : Int32)).toNatClampNeg)).toNatClampNeg l3) a34 ((aI M18 a22 ((0 : Int32)).toNatClampNeg)).toNatClampNeg (0 : Int32)) a38 ((aI M18 a22 ((0 : Int32)).toNatClampNeg)).toNatClampNeg (-1 : Int32)) a42 ((aI M18 a22 ((0 : Int32)).toNatClampNeg)).toNatClampNeg (0 : Int32)) a46 ((aI M18 a22 ((0 : Int32)).toNatClampNeg)).toNatClampNeg (0 : Int32)) a50 ((aI M18 a22 ((0 : Int32)).toNatClampNeg)).toNatClampNeg (-1 : Int32)) a54 ((aI M18 a22 ((0 : Int32)).toNatClampNeg)).toNatClampNeg (0 : Int32)) 720 h0) = some a58 ∧ isA (tI (tI (tI (tI (tI (tI (tI (tJ M18 a26 ((aI M18 a22 ((0 : Int32)).toNatClampNeg)).toNatClampNeg l1) a30 ((aI M18 a22 ((0 : Int32)).toNatClampNeg)).toNatClampNeg l3) a34 ((aI M18 a22 ((0 : Int32)).toNatClampNeg)).toNatClampNeg (0 : Int32)) a38 ((aI M18 a22 ((0 : Int32)).toNatClampNeg)).toNatClampNeg (-1 : Int32)) a42 ((aI M18 a22 ((0 : Int32)).toNatClampNeg)).toNatClampNeg (0 : Int32)) a46 ((aI M18 a22 ((0 : Int32)).toNatClampNeg)).toNatClampNeg (0 : Int32)) a50 ((aI M18 a22 ((0 : Int32)).toNatClampNeg)).toNatClampNeg (-1 : Int32)) a54 ((aI M18 a22 ((0 : Int32)).toNatClampNeg)).toNatClampNeg (0 : Int32)) a58 2 ∧ vp_in (aI M18 a22 ((0 : Int32)).toNatClampNeg) (aN (tI (tI (tI (tI (tI (tI (tI (tJ M18 a26 ((aI M18 a22 ((0 : Int32)).toNatClampNeg)).toNatClampNeg l1) a30 ((aI M18 a22 ((0 : Int32)).toNatClampNeg)).toNatClampNeg l3) a34 ((aI M18 a22 ((0 : Int32)).toNatClampNeg)).toNatClampNeg (0 : Int32)) a38 ((aI M18 a22 ((0 : Int32)).toNatClampNeg)).toNatClampNeg (-1 : Int32)) a42 ((aI M18 a22 ((0 : Int32)).toNatClampNeg)).toNatClampNeg (0 : Int32)) a46 ((aI M18 a22 ((0 : Int32)).toNatClampNeg)).toNatClampNeg (0 : Int32)) a50 ((aI M18 a22 ((0 : Int32)).toNatClampNeg)).toNatClampNeg (-1 : Int32)) a54 ((aI M18 a22 ((0 : Int32)).toNatClampNeg)).toNatClampNeg (0 : Int32)) a58) ∧ ∃ a62, (mR (tJ (tI (tI (tI (tI (tI (tI (tI (tJ M18 a26 ((aI M18 a22 ((0 : Int32)).toNatClampNeg)).toNatClampNeg l1) a30 ((aI M18 a22 ((0 : Int32)).toNatClampNeg)).toNatClampNeg l3) a34 ((aI M18 a22 ((0 : Int32)).toNatClampNeg)).toNatClampNeg (0 : Int32)) a38 ((aI M18 a22 ((0 : Int32)).toNatClampNeg)).toNatClampNeg (-1 : Int32)) a42 ((aI M18 a22 ((0 : Int32)).toNatClampNeg)).toNatClampNeg (0 : Int32)) a46 ((aI M18 a22 ((0 : Int32)).toNatClampNeg)).toNatClampNeg (0 : Int32)) a50 ((aI M18 a22 ((0 : Int32)).toNatClampNeg)).toNatClampNeg (-1 : Int32)) a54 ((aI M18 a22 ((0 : Int32)).toNatClampNeg)).toNatClampNeg (0 : Int32)) a58 ((aI M18 a22 ((0 : Int32)).toNatClampNeg)).toNatClampNeg (0 : Int64)) 721 h0) = some a62 ∧ isA (tJ (tI (tI (tI (tI (tI (tI (tI (tJ M18 a26 ((aI M18 a22 ((0 : Int32)).toNatClampNeg)).toNatClampNeg l1) a30 ((aI M18 a22 ((0 : Int32)).toNatClampNeg)).toNatClampNeg l3) a34 ((aI M18 a22 ((0 : Int32)).toNatClampNeg)).toNatClampNeg (0 : Int32)) a38 ((aI M18 a22 ((0 : Int32)).toNatClampNeg)).toNatClampNeg (-1 : Int32)) a42 ((aI M18 a22 ((0 : Int32)).toNatClampNeg)).toNatClampNeg (0 : Int32)) a46 ((aI M18 a22 ((0 : Int32)).toNatClampNeg)).toNatClampNeg (0 : Int32)) a50 ((aI M18 a22 ((0 : Int32)).toNatClampNeg)).toNatClampNeg (-1 : Int32)) a54 ((aI M18 a22 ((0 : Int32)).toNatClampNeg)).toNatClampNeg (0 : Int32)) a58 ((aI M18 a22 ((0 : Int32)).toNatClampNeg)).toNatClampNeg (0 : Int64)) a62 2 ∧ vp_in (aI M18 a22 ((0 : Int32)).toNatClampNeg) (aN (tJ (tI (tI (tI (tI (tI (tI (tI (tJ M18 a26 ((aI M18 a22 ((0 : Int32)).toNatClampNeg)).toNatClampNeg l1) a30 ((aI M18 a22 ((0 : Int32)).toNatClampNeg)).toNatClampNeg l3) a34 ((aI M18 a22 ((0 : Int32)).toNatClampNeg)).toNatClampNeg (0 : Int32)) a38 ((aI M18 a22 ((0 : Int32)).toNatClampNeg)).toNatClampNeg (-1 : Int32)) a42 ((aI M18 a22 ((0 : Int32)).toNatClampNeg)).toNatClampNeg (0 : Int32)) a46 ((aI M18 a22 ((0 : Int32)).toNatClampNeg)).toNatClampNeg (0 : Int32)) a50 ((aI M18 a22 ((0 : Int32)).toNatClampNeg)).toNatClampNeg (-1 : Int32)) a54 ((aI M18 a22 ((0 : Int32)).toNatClampNeg)).toNatClampNeg (0 : Int32)) a58 ((aI M18 a22 ((0 : Int32)).toNatClampNeg)).toNatClampNeg (0 : Int64)) a62) ∧ (wp_X11_next (tJ (tJ (tI (tI (tI (tI (tI (tI (tI (tJ M18 a26 ((aI M18 a22 ((0 : Int32)).toNatClampNeg)).toNatClampNeg l1) a30 ((aI M18 a22 ((0 : Int32)).toNatClampNeg)).toNatClampNeg l3) a34 ((aI M18 a22 ((0 : Int32)).toNatClampNeg)).toNatClampNeg (0 : Int32)) a38 ((aI M18 a22 ((0 : Int32)).toNatClampNeg)).toNatClampNeg (-1 : Int32)) a42 ((aI M18 a22 ((0 : Int32)).toNatClampNeg)).toNatClampNeg (0 : Int32)) a46 ((aI M18 a22 ((0 : Int32)).toNatClampNeg)).toNatClampNeg (0 : Int32)) a50 ((aI M18 a22 ((0 : Int32)).toNatClampNeg)).toNatClampNeg (-1 : Int32)) a54 ((aI M18 a22 ((0 : Int32)).toNatClampNeg)).toNatClampNeg (0 : Int32)) a58 ((aI M18 a22 ((0 : Int32)).toNatClampNeg)).toNatClampNeg (0 : Int64)) a62 ((aI M18 a22 ((0 : Int32)).toNatClampNeg)).toNatClampNeg (0 : Int64)) h0 (fun M67 => mK M67 h0 = 12 ∧ (wp_X11_takeSign M67 h0 (61 : Int32) (fun M70 => mK M70 h0 = 12 ∧ (wp_X11_good M70 h0 (fun r73 M74 => ((r73 = 0 → (bk_X11_statement_193 h0 K M74)) ∧ (¬ r73 = 0 → mK M74 h0 = 12 ∧ (wp_X11_body M74 h0 (aI M18 a22 ((0 : Int32)).toNatClampNeg) (fun M78 => (bk_X11_statement_193 h0 K M78)))))))))))) ∧ (r17 = 0 → (K M18)))))
set_option maxRecDepth 100000 in
set_option maxHeartbeats 4000000 in
theorem zb_X11_statement_74 {X : Cx} {h0 : Nat} {K : Mm → Prop} (hX : Ok X cX11_statement RX11 rm_X11_statement) (hQ : Rq X rm_X11_statement none (QV K)) (hnL : X.2.2.2.2.2.2.2.2.2.2.2.2.2.2 = 5) {l1 : Int64} {l3 : Int32} {M : Mm} (h : bk_X11_statement_74 h0 K l1 l3 M) : Z X M 0 0 74 [(0, va_rf (some h0)), (1, .long l1), (3, .int l3)] [] := by
  unfold bk_X11_statement_74 at h
  refine z_aload_n (r := (some h0)) hX dX11_statement_74 rfl 0 rfl ?_
  obtain ⟨hk19, h⟩ := h
  refine z_callVI (As := []) (rest := []) (ci := 11) hX (ct_X11_good h) mw_RX11_190 rfl (by decide) rfl (by rfl) (by unfold RoomC; decide) (by decide) dX11_statement_75 hk19 (fun r17 M18 h => ?_)
  obtain ⟨h1, h2⟩ := h
  refine z_if_ne (tgt := 82) hX dX11_statement_78 (by decide) (fun hc => ?_) (fun hc => ?_)
  · have h := h1 hc
    refine z_aload_n (r := (some h0)) hX dX11_statement_82 rfl 0 rfl ?_
    obtain ⟨hk21, h⟩ := h
    refine gf_RX11_60 (r := (some h0)) hX dX11_statement_83 rfl hk21 ?_
    refine z_iconst (v := (0 : Int32)) hX dX11_statement_86 (by decide) ?_
    obtain ⟨a22, ha23, h⟩ := h
    obtain ⟨hk24, h⟩ := h
    obtain ⟨hc25, h⟩ := h
    refine y_iald (r := (mR M18 729 h0)) hX dX11_statement_87 ha23 hk24 hc25 ?_
    refine z_istore hX [(4, .int (aI M18 a22 ((0 : Int32)).toNatClampNeg)), (0, va_rf (some h0)), (1, .long l1), (3, .int l3)] dX11_statement_88 (by rw [hnL]; decide) rfl ?_
    refine z_aload_n (r := (some h0)) hX dX11_statement_90 rfl 1 rfl ?_
    refine gf_RX11_19 (r := (some h0)) hX dX11_statement_91 rfl hk21 ?_
    refine z_iload hX dX11_statement_94 0 rfl ?_
    refine z_lload_n hX dX11_statement_96 rfl 2 rfl ?_
    obtain ⟨a26, ha27, h⟩ := h
    obtain ⟨hk28, h⟩ := h
    obtain ⟨hc29, h⟩ := h
    refine y_last (r := (mR M18 716 h0)) hX dX11_statement_97 ha27 hk28 hc29 ?_
    refine z_aload_n (r := (some h0)) hX dX11_statement_98 rfl 1 rfl ?_
    refine gf_RX11_23 (r := (some h0)) hX dX11_statement_99 rfl hk21 ?_
    refine z_iload hX dX11_statement_102 0 rfl ?_
    refine z_iload_n hX dX11_statement_104 rfl 3 rfl ?_
    obtain ⟨a30, ha31, h⟩ := h
    obtain ⟨hk32, h⟩ := h
    obtain ⟨hc33, h⟩ := h
    refine y_iast (r := (mR (tJ M18 a26 ((aI M18 a22 ((0 : Int32)).toNatClampNeg)).toNatClampNeg l1) 717 h0)) hX dX11_statement_105 ha31 hk32 hc33 ?_
    refine z_aload_n (r := (some h0)) hX dX11_statement_106 rfl 1 rfl ?_
    refine gf_RX11_45 (r := (some h0)) hX dX11_statement_107 rfl hk21 ?_
    refine z_iload hX dX11_statement_110 0 rfl ?_
    refine z_iconst (v := (0 : Int32)) hX dX11_statement_112 (by decide) ?_
    obtain ⟨a34, ha35, h⟩ := h
    obtain ⟨hk36, h⟩ := h
    obtain ⟨hc37, h⟩ := h
    refine y_iast (r := (mR (tI (tJ M18 a26 ((aI M18 a22 ((0 : Int32)).toNatClampNeg)).toNatClampNeg l1) a30 ((aI M18 a22 ((0 : Int32)).toNatClampNeg)).toNatClampNeg l3) 724 h0)) hX dX11_statement_113 ha35 hk36 hc37 ?_
    refine z_aload_n (r := (some h0)) hX dX11_statement_114 rfl 1 rfl ?_
    refine gf_RX11_51 (r := (some h0)) hX dX11_statement_115 rfl hk21 ?_
    refine z_iload hX dX11_statement_118 0 rfl ?_
    refine z_iconst (v := (-1 : Int32)) hX dX11_statement_120 (by decide) ?_
    obtain ⟨a38, ha39, h⟩ := h
    obtain ⟨hk40, h⟩ := h
    obtain ⟨hc41, h⟩ := h
    refine y_iast (r := (mR (tI (tI (tJ M18 a26 ((aI M18 a22 ((0 : Int32)).toNatClampNeg)).toNatClampNeg l1) a30 ((aI M18 a22 ((0 : Int32)).toNatClampNeg)).toNatClampNeg l3) a34 ((aI M18 a22 ((0 : Int32)).toNatClampNeg)).toNatClampNeg (0 : Int32)) 726 h0)) hX dX11_statement_121 ha39 hk40 hc41 ?_
    refine z_aload_n (r := (some h0)) hX dX11_statement_122 rfl 1 rfl ?_
    refine gf_RX11_26 (r := (some h0)) hX dX11_statement_123 rfl hk21 ?_
    refine z_iload hX dX11_statement_126 0 rfl ?_
    refine z_iconst (v := (0 : Int32)) hX dX11_statement_128 (by decide) ?_
    obtain ⟨a42, ha43, h⟩ := h
    obtain ⟨hk44, h⟩ := h
    obtain ⟨hc45, h⟩ := h
    refine y_iast (r := (mR (tI (tI (tI (tJ M18 a26 ((aI M18 a22 ((0 : Int32)).toNatClampNeg)).toNatClampNeg l1) a30 ((aI M18 a22 ((0 : Int32)).toNatClampNeg)).toNatClampNeg l3) a34 ((aI M18 a22 ((0 : Int32)).toNatClampNeg)).toNatClampNeg (0 : Int32)) a38 ((aI M18 a22 ((0 : Int32)).toNatClampNeg)).toNatClampNeg (-1 : Int32)) 718 h0)) hX dX11_statement_129 ha43 hk44 hc45 ?_
    refine z_aload_n (r := (some h0)) hX dX11_statement_130 rfl 1 rfl ?_
    refine gf_RX11_39 (r := (some h0)) hX dX11_statement_131 rfl hk21 ?_
    refine z_iload hX dX11_statement_134 0 rfl ?_
    refine z_iconst (v := (0 : Int32)) hX dX11_statement_136 (by decide) ?_
    obtain ⟨a46, ha47, h⟩ := h
    obtain ⟨hk48, h⟩ := h
    obtain ⟨hc49, h⟩ := h
    refine y_iast (r := (mR (tI (tI (tI (tI (tJ M18 a26 ((aI M18 a22 ((0 : Int32)).toNatClampNeg)).toNatClampNeg l1) a30 ((aI M18 a22 ((0 : Int32)).toNatClampNeg)).toNatClampNeg l3) a34 ((aI M18 a22 ((0 : Int32)).toNatClampNeg)).toNatClampNeg (0 : Int32)) a38 ((aI M18 a22 ((0 : Int32)).toNatClampNeg)).toNatClampNeg (-1 : Int32)) a42 ((aI M18 a22 ((0 : Int32)).toNatClampNeg)).toNatClampNeg (0 : Int32)) 722 h0)) hX dX11_statement_137 ha47 hk48 hc49 ?_
    refine z_aload_n (r := (some h0)) hX dX11_statement_138 rfl 1 rfl ?_
    refine gf_RX11_42 (r := (some h0)) hX dX11_statement_139 rfl hk21 ?_
    refine z_iload hX dX11_statement_142 0 rfl ?_
    refine z_iconst (v := (-1 : Int32)) hX dX11_statement_144 (by decide) ?_
    obtain ⟨a50, ha51, h⟩ := h
    obtain ⟨hk52, h⟩ := h
    obtain ⟨hc53, h⟩ := h
    refine y_iast (r := (mR (tI (tI (tI (tI (tI (tJ M18 a26 ((aI M18 a22 ((0 : Int32)).toNatClampNeg)).toNatClampNeg l1) a30 ((aI M18 a22 ((0 : Int32)).toNatClampNeg)).toNatClampNeg l3) a34 ((aI M18 a22 ((0 : Int32)).toNatClampNeg)).toNatClampNeg (0 : Int32)) a38 ((aI M18 a22 ((0 : Int32)).toNatClampNeg)).toNatClampNeg (-1 : Int32)) a42 ((aI M18 a22 ((0 : Int32)).toNatClampNeg)).toNatClampNeg (0 : Int32)) a46 ((aI M18 a22 ((0 : Int32)).toNatClampNeg)).toNatClampNeg (0 : Int32)) 723 h0)) hX dX11_statement_145 ha51 hk52 hc53 ?_
    refine z_aload_n (r := (some h0)) hX dX11_statement_146 rfl 1 rfl ?_
    refine gf_RX11_29 (r := (some h0)) hX dX11_statement_147 rfl hk21 ?_
    refine z_iload hX dX11_statement_150 0 rfl ?_
    refine z_iconst (v := (0 : Int32)) hX dX11_statement_152 (by decide) ?_
    obtain ⟨a54, ha55, h⟩ := h
    obtain ⟨hk56, h⟩ := h
    obtain ⟨hc57, h⟩ := h
    refine y_zast (r := (mR (tI (tI (tI (tI (tI (tI (tJ M18 a26 ((aI M18 a22 ((0 : Int32)).toNatClampNeg)).toNatClampNeg l1) a30 ((aI M18 a22 ((0 : Int32)).toNatClampNeg)).toNatClampNeg l3) a34 ((aI M18 a22 ((0 : Int32)).toNatClampNeg)).toNatClampNeg (0 : Int32)) a38 ((aI M18 a22 ((0 : Int32)).toNatClampNeg)).toNatClampNeg (-1 : Int32)) a42 ((aI M18 a22 ((0 : Int32)).toNatClampNeg)).toNatClampNeg (0 : Int32)) a46 ((aI M18 a22 ((0 : Int32)).toNatClampNeg)).toNatClampNeg (0 : Int32)) a50 ((aI M18 a22 ((0 : Int32)).toNatClampNeg)).toNatClampNeg (-1 : Int32)) 719 h0)) hX dX11_statement_153 ha55 hk56 hc57 (Or.inl rfl)  ?_
    refine z_aload_n (r := (some h0)) hX dX11_statement_154 rfl 1 rfl ?_
    refine gf_RX11_33 (r := (some h0)) hX dX11_statement_155 rfl hk21 ?_
    refine z_iload hX dX11_statement_158 0 rfl ?_
    refine z_lconst (v := (0 : Int64)) hX dX11_statement_160 (by decide) ?_
    obtain ⟨a58, ha59, h⟩ := h
    obtain ⟨hk60, h⟩ := h
    obtain ⟨hc61, h⟩ := h
    refine y_last (r := (mR (tI (tI (tI (tI (tI (tI (tI (tJ M18 a26 ((aI M18 a22 ((0 : Int32)).toNatClampNeg)).toNatClampNeg l1) a30 ((aI M18 a22 ((0 : Int32)).toNatClampNeg)).toNatClampNeg l3) a34 ((aI M18 a22 ((0 : Int32)).toNatClampNeg)).toNatClampNeg (0 : Int32)) a38 ((aI M18 a22 ((0 : Int32)).toNatClampNeg)).toNatClampNeg (-1 : Int32)) a42 ((aI M18 a22 ((0 : Int32)).toNatClampNeg)).toNatClampNeg (0 : Int32)) a46 ((aI M18 a22 ((0 : Int32)).toNatClampNeg)).toNatClampNeg (0 : Int32)) a50 ((aI M18 a22 ((0 : Int32)).toNatClampNeg)).toNatClampNeg (-1 : Int32)) a54 ((aI M18 a22 ((0 : Int32)).toNatClampNeg)).toNatClampNeg (0 : Int32)) 720 h0)) hX dX11_statement_161 ha59 hk60 hc61 ?_
    refine z_aload_n (r := (some h0)) hX dX11_statement_162 rfl 1 rfl ?_
    refine gf_RX11_36 (r := (some h0)) hX dX11_statement_163 rfl hk21 ?_
    refine z_iload hX dX11_statement_166 0 rfl ?_
    refine z_lconst (v := (0 : Int64)) hX dX11_statement_168 (by decide) ?_
    obtain ⟨a62, ha63, h⟩ := h
    obtain ⟨hk64, h⟩ := h
    obtain ⟨hc65, h⟩ := h
    refine y_last (r := (mR (tJ (tI (tI (tI (tI (tI (tI (tI (tJ M18 a26 ((aI M18 a22 ((0 : Int32)).toNatClampNeg)).toNatClampNeg l1) a30 ((aI M18 a22 ((0 : Int32)).toNatClampNeg)).toNatClampNeg l3) a34 ((aI M18 a22 ((0 : Int32)).toNatClampNeg)).toNatClampNeg (0 : Int32)) a38 ((aI M18 a22 ((0 : Int32)).toNatClampNeg)).toNatClampNeg (-1 : Int32)) a42 ((aI M18 a22 ((0 : Int32)).toNatClampNeg)).toNatClampNeg (0 : Int32)) a46 ((aI M18 a22 ((0 : Int32)).toNatClampNeg)).toNatClampNeg (0 : Int32)) a50 ((aI M18 a22 ((0 : Int32)).toNatClampNeg)).toNatClampNeg (-1 : Int32)) a54 ((aI M18 a22 ((0 : Int32)).toNatClampNeg)).toNatClampNeg (0 : Int32)) a58 ((aI M18 a22 ((0 : Int32)).toNatClampNeg)).toNatClampNeg (0 : Int64)) 721 h0)) hX dX11_statement_169 ha63 hk64 hc65 ?_
    refine z_aload_n (r := (some h0)) hX dX11_statement_170 rfl 1 rfl ?_
    refine z_callVV (As := []) (rest := []) (ci := 11) hX (ct_X11_next h) mw_RX11_200 rfl (by decide) rfl (by rfl) (by unfold RoomC; decide) (by decide) dX11_statement_171 hk21 (fun M67 h => ?_)
    refine z_aload_n (r := (some h0)) hX dX11_statement_174 rfl 1 rfl ?_
    refine z_bipush (v := (61 : Int32)) hX dX11_statement_175 (by decide) ?_
    obtain ⟨hk71, h⟩ := h
    refine z_callVV (As := [.int (61 : Int32)]) (rest := []) (ci := 11) hX (ct_X11_takeSign h) mw_RX11_213 rfl (by decide) rfl (by rfl) (by unfold RoomC; decide) (by decide) dX11_statement_177 hk71 (fun M70 h => ?_)
    refine z_aload_n (r := (some h0)) hX dX11_statement_180 rfl 1 rfl ?_
    obtain ⟨hk75, h⟩ := h
    refine z_callVI (As := []) (rest := []) (ci := 11) hX (ct_X11_good h) mw_RX11_190 rfl (by decide) rfl (by rfl) (by unfold RoomC; decide) (by decide) dX11_statement_181 hk75 (fun r73 M74 h => ?_)
    obtain ⟨h1, h2⟩ := h
    refine z_if_eq (tgt := 193) hX dX11_statement_184 (by decide) (fun hc => ?_) (fun hc => ?_)
    · have h := h1 hc
      refine z_loc [1] rfl ?_
      exact zb_X11_statement_193 hX hQ hnL h
    · have h := h2 hc
      refine z_aload_n (r := (some h0)) hX dX11_statement_187 rfl 1 rfl ?_
      refine z_iload hX dX11_statement_188 0 rfl ?_
      obtain ⟨hk79, h⟩ := h
      refine z_callVV (As := [.int (aI M18 a22 ((0 : Int32)).toNatClampNeg)]) (rest := []) (ci := 11) hX (ct_X11_body h) mw_RX11_216 rfl (by decide) rfl (by rfl) (by unfold RoomC; decide) (by decide) dX11_statement_190 hk79 (fun M78 h => ?_)
      refine z_loc [1] rfl ?_
      exact zb_X11_statement_193 hX hQ hnL h
  · have h := h2 hc
    exact z_vret hX hQ dX11_statement_81 h
def wp_X11_statement (M : Mm) (h0 : Nat) (K : Mm → Prop) : Prop := mK M h0 = 12 ∧ (wp_X11_isKeyword M h0 (14 : Int32) (fun r81 M82 => ((r81 = 0 → mK M82 h0 = 12 ∧ (wp_X11_isName M82 h0 (fun r85 M86 => ((¬ r85 = 0 → mK M86 h0 = 12 ∧ (wp_X11_findName M86 h0 (mJ M86 710 h0) (fun r90 M91 => ((r90 < 0 → mK M91 h0 = 12 ∧ ∃ a94, (mR M91 729 h0) = some a94 ∧ isA M91 a94 1 ∧ vp_in (0 : Int32) (aN M91 a94) ∧ ((¬ (aI M91 a94 ((0 : Int32)).toNatClampNeg) = (12 : Int32) → (bk_X11_statement_74 h0 K (mJ M86 710 h0) ((mI M86 707 h0) - (mI M86 709 h0)) M91)) ∧ ((aI M91 a94 ((0 : Int32)).toNatClampNeg) = (12 : Int32) → (wp_X11_fault M91 h0 (6 : Int32) (fun M99 => (bk_X11_statement_74 h0 K (mJ M86 710 h0) ((mI M86 707 h0) - (mI M86 709 h0)) M99)))))) ∧ (¬ r90 < 0 → mK M91 h0 = 12 ∧ (wp_X11_fault M91 h0 (3 : Int32) (fun M102 => (bk_X11_statement_74 h0 K (mJ M86 710 h0) ((mI M86 707 h0) - (mI M86 709 h0)) M102)))))))) ∧ (r85 = 0 → mK M86 h0 = 12 ∧ (wp_X11_misplaced M86 h0 (fun M106 => (K M106)))))))) ∧ (¬ r81 = 0 → mK M82 h0 = 12 ∧ (wp_X11_align M82 h0 (fun M110 => (K M110)))))))
set_option maxRecDepth 100000 in
set_option maxHeartbeats 4000000 in
theorem ct_X11_statement {M : Mm} {h0 : Nat} {K : Mm → Prop} (h : wp_X11_statement M h0 K) : CtV yX11_statement cX11_statement 5 none rm_X11_statement [.ref h0] M K := by
  refine ct_any (QV K) (by decide) (by exact Nat.le_of_ble_eq_true rfl) (fun X hX hQ hnL hnm => ?_)
  rw [show lv_args 0 [.ref h0] = [(0, va_rf (some h0))] by rfl]
  have hX : Ok X cX11_statement RX11 rm_X11_statement := hX
  unfold wp_X11_statement at h
  refine z_aload_n (r := (some h0)) hX dX11_statement_0 rfl 0 rfl ?_
  refine z_bipush (v := (14 : Int32)) hX dX11_statement_1 (by decide) ?_
  obtain ⟨hk83, h⟩ := h
  refine z_callVI (As := [.int (14 : Int32)]) (rest := []) (ci := 11) hX (ct_X11_isKeyword h) mw_RX11_194 rfl (by decide) rfl (by rfl) (by unfold RoomC; decide) (by decide) dX11_statement_3 hk83 (fun r81 M82 h => ?_)
  obtain ⟨h1, h2⟩ := h
  refine z_if_eq (tgt := 14) hX dX11_statement_6 (by decide) (fun hc => ?_) (fun hc => ?_)
  · have h := h1 hc
    refine z_aload_n (r := (some h0)) hX dX11_statement_14 rfl 0 rfl ?_
    obtain ⟨hk87, h⟩ := h
    refine z_callVI (As := []) (rest := []) (ci := 11) hX (ct_X11_isName h) mw_RX11_206 rfl (by decide) rfl (by rfl) (by unfold RoomC; decide) (by decide) dX11_statement_15 hk87 (fun r85 M86 h => ?_)
    obtain ⟨h1, h2⟩ := h
    refine z_if_ne (tgt := 26) hX dX11_statement_18 (by decide) (fun hc => ?_) (fun hc => ?_)
    · have h := h1 hc
      refine z_aload_n (r := (some h0)) hX dX11_statement_26 rfl 0 rfl ?_
      obtain ⟨hk89, h⟩ := h
      refine gf_RX11_140 (r := (some h0)) hX dX11_statement_27 rfl hk89 ?_
      refine z_lstore_n hX [(1, .long (mJ M86 710 h0)), (0, va_rf (some h0))] dX11_statement_30 rfl (by rw [hnL]; decide) rfl ?_
      refine z_aload_n (r := (some h0)) hX dX11_statement_31 rfl 1 rfl ?_
      refine gf_RX11_130 (r := (some h0)) hX dX11_statement_32 rfl hk89 ?_
      refine z_aload_n (r := (some h0)) hX dX11_statement_35 rfl 1 rfl ?_
      refine gf_RX11_137 (r := (some h0)) hX dX11_statement_36 rfl hk89 ?_
      refine z_isub hX dX11_statement_39 ?_
      refine z_istore_n hX [(3, .int ((mI M86 707 h0) - (mI M86 709 h0))), (1, .long (mJ M86 710 h0)), (0, va_rf (some h0))] dX11_statement_40 rfl (by rw [hnL]; decide) rfl ?_
      refine z_aload_n (r := (some h0)) hX dX11_statement_41 rfl 2 rfl ?_
      refine z_lload_n hX dX11_statement_42 rfl 1 rfl ?_
      refine z_callVI (As := [.long (mJ M86 710 h0)]) (rest := []) (ci := 11) hX (ct_X11_findName h) mw_RX11_209 rfl (by decide) rfl (by rfl) (by unfold RoomC; decide) (by decide) dX11_statement_43 hk89 (fun r90 M91 h => ?_)
      obtain ⟨h1, h2⟩ := h
      refine z_if_lt (tgt := 57) hX dX11_statement_46 (by decide) (fun hc => ?_) (fun hc => ?_)
      · have h := h1 hc
        refine z_aload_n (r := (some h0)) hX dX11_statement_57 rfl 2 rfl ?_
        obtain ⟨hk93, h⟩ := h
        refine gf_RX11_60 (r := (some h0)) hX dX11_statement_58 rfl hk93 ?_
        refine z_iconst (v := (0 : Int32)) hX dX11_statement_61 (by decide) ?_
        obtain ⟨a94, ha95, h⟩ := h
        obtain ⟨hk96, h⟩ := h
        obtain ⟨hc97, h⟩ := h
        refine y_iald (r := (mR M91 729 h0)) hX dX11_statement_62 ha95 hk96 hc97 ?_
        refine z_bipush (v := (12 : Int32)) hX dX11_statement_63 (by decide) ?_
        obtain ⟨h1, h2⟩ := h
        refine z_icmp_ne (tgt := 74) hX dX11_statement_65 (by decide) (fun hc => ?_) (fun hc => ?_)
        · have h := h1 hc
          refine z_loc [2, 1, 0] rfl ?_
          exact zb_X11_statement_74 hX hQ hnL h
        · have h := h2 hc
          refine z_aload_n (r := (some h0)) hX dX11_statement_68 rfl 2 rfl ?_
          refine z_bipush (v := (6 : Int32)) hX dX11_statement_69 (by decide) ?_
          refine z_callVV (As := [.int (6 : Int32)]) (rest := []) (ci := 11) hX (ct_X11_fault h) mw_RX11_187 rfl (by decide) rfl (by rfl) (by unfold RoomC; decide) (by decide) dX11_statement_71 hk93 (fun M99 h => ?_)
          refine z_loc [2, 1, 0] rfl ?_
          exact zb_X11_statement_74 hX hQ hnL h
      · have h := h2 hc
        refine z_aload_n (r := (some h0)) hX dX11_statement_49 rfl 2 rfl ?_
        refine z_iconst (v := (3 : Int32)) hX dX11_statement_50 (by decide) ?_
        obtain ⟨hk103, h⟩ := h
        refine z_callVV (As := [.int (3 : Int32)]) (rest := []) (ci := 11) hX (ct_X11_fault h) mw_RX11_187 rfl (by decide) rfl (by rfl) (by unfold RoomC; decide) (by decide) dX11_statement_51 hk103 (fun M102 h => ?_)
        refine z_goto (tgt := 74) hX dX11_statement_54 (by decide) ?_
        refine z_loc [2, 1, 0] rfl ?_
        exact zb_X11_statement_74 hX hQ hnL h
    · have h := h2 hc
      refine z_aload_n (r := (some h0)) hX dX11_statement_21 rfl 0 rfl ?_
      obtain ⟨hk107, h⟩ := h
      refine z_callVV (As := []) (rest := []) (ci := 11) hX (ct_X11_misplaced h) mw_RX11_197 rfl (by decide) rfl (by rfl) (by unfold RoomC; decide) (by decide) dX11_statement_22 hk107 (fun M106 h => ?_)
      exact z_vret hX hQ dX11_statement_25 h
  · have h := h2 hc
    refine z_aload_n (r := (some h0)) hX dX11_statement_9 rfl 0 rfl ?_
    obtain ⟨hk111, h⟩ := h
    refine z_callVV (As := []) (rest := []) (ci := 11) hX (ct_X11_align h) mw_RX11_203 rfl (by decide) rfl (by rfl) (by unfold RoomC; decide) (by decide) dX11_statement_10 hk111 (fun M110 h => ?_)
    exact z_vret hX hQ dX11_statement_13 h
def rm_X11_build : Room := { frames := 10, cells := 0, slots := 0, locals := 251 }
def bk_X11_build_145 (h0 : Nat) (K : Int32 → Mm → Prop) (M : Mm) : Prop := mK M h0 = 12 ∧ (wp_X11_good (sI (sI M 706 h0 (0 : Int32)) 714 h0 (mI (sI M 706 h0 (0 : Int32)) 712 h0)) h0 (fun r4 M5 => ((¬ r4 = 0 → mK M5 h0 = 12 ∧ (wp_X11_stand M5 h0 (fun M8 => mK M8 h0 = 12 ∧ ∃ a12, (mR M8 729 h0) = some a12 ∧ isA M8 a12 1 ∧ vp_in (1 : Int32) (aN M8 a12) ∧ (K (aI M8 a12 ((1 : Int32)).toNatClampNeg) M8)))) ∧ (r4 = 0 → mK M5 h0 = 12 ∧ (K ((-10 : Int32) - (mI M5 713 h0)) M5)))))
set_option maxRecDepth 100000 in
set_option maxHeartbeats 4000000 in
theorem zb_X11_build_145 {X : Cx} {h0 : Nat} {K : Int32 → Mm → Prop} (hX : Ok X cX11_build RX11 rm_X11_build) (hQ : Rq X rm_X11_build (some .int) (QI K)) (hnL : X.2.2.2.2.2.2.2.2.2.2.2.2.2.2 = 3) {M : Mm} (h : bk_X11_build_145 h0 K M) : Z X M 0 0 145 [(0, va_rf (some h0))] [] := by
  unfold bk_X11_build_145 at h
  refine z_aload_n (r := (some h0)) hX dX11_build_145 rfl 0 rfl ?_
  refine z_iconst (v := (0 : Int32)) hX dX11_build_146 (by decide) ?_
  obtain ⟨hk1, h⟩ := h
  refine pf_RX11_127 (r := (some h0)) (v := (0 : Int32)) hX dX11_build_147 rfl hk1 ?_
  refine z_aload_n (r := (some h0)) hX dX11_build_150 rfl 0 rfl ?_
  refine z_aload_n (r := (some h0)) hX dX11_build_151 rfl 0 rfl ?_
  refine gf_RX11_181 (r := (some h0)) hX dX11_build_152 rfl hk1 ?_
  refine pf_RX11_265 (r := (some h0)) (v := (mI (sI M 706 h0 (0 : Int32)) 712 h0)) hX dX11_build_155 rfl hk1 ?_
  refine z_aload_n (r := (some h0)) hX dX11_build_158 rfl 0 rfl ?_
  refine z_callVI (As := []) (rest := []) (ci := 11) hX (ct_X11_good h) mw_RX11_190 rfl (by decide) rfl (by rfl) (by unfold RoomC; decide) (by decide) dX11_build_159 hk1 (fun r4 M5 h => ?_)
  obtain ⟨h1, h2⟩ := h
  refine z_if_ne (tgt := 173) hX dX11_build_162 (by decide) (fun hc => ?_) (fun hc => ?_)
  · have h := h1 hc
    refine z_aload_n (r := (some h0)) hX dX11_build_173 rfl 0 rfl ?_
    obtain ⟨hk9, h⟩ := h
    refine z_callVV (As := []) (rest := []) (ci := 11) hX (ct_X11_stand h) mw_RX11_268 rfl (by decide) rfl (by rfl) (by unfold RoomC; decide) (by decide) dX11_build_174 hk9 (fun M8 h => ?_)
    refine z_aload_n (r := (some h0)) hX dX11_build_177 rfl 0 rfl ?_
    obtain ⟨hk11, h⟩ := h
    refine gf_RX11_60 (r := (some h0)) hX dX11_build_178 rfl hk11 ?_
    refine z_iconst (v := (1 : Int32)) hX dX11_build_181 (by decide) ?_
    obtain ⟨a12, ha13, h⟩ := h
    obtain ⟨hk14, h⟩ := h
    obtain ⟨hc15, h⟩ := h
    refine y_iald (r := (mR M8 729 h0)) hX dX11_build_182 ha13 hk14 hc15 ?_
    exact z_iret hX hQ dX11_build_183 h
  · have h := h2 hc
    refine z_bipush (v := (-10 : Int32)) hX dX11_build_165 (by decide) ?_
    refine z_aload_n (r := (some h0)) hX dX11_build_167 rfl 0 rfl ?_
    obtain ⟨hk16, h⟩ := h
    refine gf_RX11_184 (r := (some h0)) hX dX11_build_168 rfl hk16 ?_
    refine z_isub hX dX11_build_171 ?_
    exact z_iret hX hQ dX11_build_172 h
def bk_X11_build_139 (h0 : Nat) (R65 : Int32 → Mm → Prop) (K : Int32 → Mm → Prop) (l1 : Int32) (M : Mm) : Prop := (R65 (l1 + 1) M)
set_option maxRecDepth 100000 in
set_option maxHeartbeats 4000000 in
theorem zb_X11_build_139 {X : Cx} {h0 : Nat} {R65 : Int32 → Mm → Prop} {K : Int32 → Mm → Prop} (hX : Ok X cX11_build RX11 rm_X11_build) (hQ : Rq X rm_X11_build (some .int) (QI K)) (hnL : X.2.2.2.2.2.2.2.2.2.2.2.2.2.2 = 3) (hR65 : ∀ l1 M, R65 l1 M → Z X M 0 0 65 [(0, va_rf (some h0)), (1, .int l1)] []) {l1 : Int32} {M : Mm} (h : bk_X11_build_139 h0 R65 K l1 M) : Z X M 0 0 139 [(0, va_rf (some h0)), (1, .int l1)] [] := by
  unfold bk_X11_build_139 at h
  refine z_iinc (v := (l1 + 1)) hX [(1, .int (l1 + 1)), (0, va_rf (some h0))] dX11_build_139 1 rfl rfl (by rw [hnL]; decide) rfl ?_
  refine z_goto (tgt := 65) hX dX11_build_142 (by decide) ?_
  refine z_loc [1, 0] rfl ?_
  exact hR65 _ _ h
def bk_X11_build_135 (h0 : Nat) (R65 : Int32 → Mm → Prop) (K : Int32 → Mm → Prop) (l1 : Int32) (M : Mm) : Prop := mK M h0 = 12 ∧ (wp_X11_statement M h0 (fun M18 => (bk_X11_build_139 h0 R65 K l1 M18)))
set_option maxRecDepth 100000 in
set_option maxHeartbeats 4000000 in
theorem zb_X11_build_135 {X : Cx} {h0 : Nat} {R65 : Int32 → Mm → Prop} {K : Int32 → Mm → Prop} (hX : Ok X cX11_build RX11 rm_X11_build) (hQ : Rq X rm_X11_build (some .int) (QI K)) (hnL : X.2.2.2.2.2.2.2.2.2.2.2.2.2.2 = 3) (hR65 : ∀ l1 M, R65 l1 M → Z X M 0 0 65 [(0, va_rf (some h0)), (1, .int l1)] []) {l1 : Int32} {M : Mm} (h : bk_X11_build_135 h0 R65 K l1 M) : Z X M 0 0 135 [(0, va_rf (some h0)), (1, .int l1)] [] := by
  unfold bk_X11_build_135 at h
  refine z_aload_n (r := (some h0)) hX dX11_build_135 rfl 0 rfl ?_
  obtain ⟨hk19, h⟩ := h
  refine z_callVV (As := []) (rest := []) (ci := 11) hX (ct_X11_statement h) mw_RX11_262 rfl (by decide) rfl (by rfl) (by unfold RoomC; decide) (by decide) dX11_build_136 hk19 (fun M18 h => ?_)
  exact zb_X11_build_139 hX hQ hnL hR65 h
def bk_X11_build_115 (h0 : Nat) (R65 : Int32 → Mm → Prop) (K : Int32 → Mm → Prop) (l1 : Int32) (s0 : Int32) (M : Mm) : Prop := ((¬ l1 = (20 : Int32) → (bk_X11_build_135 h0 R65 K l1 M)) ∧ (l1 = (20 : Int32) → ((s0 = 0 → (bk_X11_build_135 h0 R65 K l1 M)) ∧ (¬ s0 = 0 → mK M h0 = 12 ∧ (wp_X11_fault M h0 (6 : Int32) (fun M22 => (bk_X11_build_139 h0 R65 K l1 M22)))))))
set_option maxRecDepth 100000 in
set_option maxHeartbeats 4000000 in
theorem zb_X11_build_115 {X : Cx} {h0 : Nat} {R65 : Int32 → Mm → Prop} {K : Int32 → Mm → Prop} (hX : Ok X cX11_build RX11 rm_X11_build) (hQ : Rq X rm_X11_build (some .int) (QI K)) (hnL : X.2.2.2.2.2.2.2.2.2.2.2.2.2.2 = 3) (hR65 : ∀ l1 M, R65 l1 M → Z X M 0 0 65 [(0, va_rf (some h0)), (1, .int l1)] []) {l1 : Int32} {s0 : Int32} {M : Mm} (h : bk_X11_build_115 h0 R65 K l1 s0 M) : Z X M 0 0 115 [(0, va_rf (some h0)), (1, .int l1)] [.int s0] := by
  unfold bk_X11_build_115 at h
  refine z_istore_n hX [(2, .int s0), (0, va_rf (some h0)), (1, .int l1)] dX11_build_115 rfl (by rw [hnL]; decide) rfl ?_
  refine z_iload_n hX dX11_build_116 rfl 2 rfl ?_
  refine z_bipush (v := (20 : Int32)) hX dX11_build_117 (by decide) ?_
  obtain ⟨h1, h2⟩ := h
  refine z_icmp_ne (tgt := 135) hX dX11_build_119 (by decide) (fun hc => ?_) (fun hc => ?_)
  · have h := h1 hc
    refine z_loc [1, 2] rfl ?_
    exact zb_X11_build_135 hX hQ hnL hR65 h
  · have h := h2 hc
    refine z_iload_n hX dX11_build_122 rfl 0 rfl ?_
    obtain ⟨h1, h2⟩ := h
    refine z_if_eq (tgt := 135) hX dX11_build_123 (by decide) (fun hc => ?_) (fun hc => ?_)
    · have h := h1 hc
      refine z_loc [1, 2] rfl ?_
      exact zb_X11_build_135 hX hQ hnL hR65 h
    · have h := h2 hc
      refine z_aload_n (r := (some h0)) hX dX11_build_126 rfl 1 rfl ?_
      refine z_bipush (v := (6 : Int32)) hX dX11_build_127 (by decide) ?_
      obtain ⟨hk23, h⟩ := h
      refine z_callVV (As := [.int (6 : Int32)]) (rest := []) (ci := 11) hX (ct_X11_fault h) mw_RX11_187 rfl (by decide) rfl (by rfl) (by unfold RoomC; decide) (by decide) dX11_build_129 hk23 (fun M22 h => ?_)
      refine z_goto (tgt := 139) hX dX11_build_132 (by decide) ?_
      refine z_loc [1, 2] rfl ?_
      exact zb_X11_build_139 hX hQ hnL hR65 h
def bk_X11_build_110 (h0 : Nat) (R65 : Int32 → Mm → Prop) (K : Int32 → Mm → Prop) (l1 : Int32) (M : Mm) : Prop := (bk_X11_build_115 h0 R65 K l1 (1 : Int32) M)
set_option maxRecDepth 100000 in
set_option maxHeartbeats 4000000 in
theorem zb_X11_build_110 {X : Cx} {h0 : Nat} {R65 : Int32 → Mm → Prop} {K : Int32 → Mm → Prop} (hX : Ok X cX11_build RX11 rm_X11_build) (hQ : Rq X rm_X11_build (some .int) (QI K)) (hnL : X.2.2.2.2.2.2.2.2.2.2.2.2.2.2 = 3) (hR65 : ∀ l1 M, R65 l1 M → Z X M 0 0 65 [(0, va_rf (some h0)), (1, .int l1)] []) {l1 : Int32} {M : Mm} (h : bk_X11_build_110 h0 R65 K l1 M) : Z X M 0 0 110 [(0, va_rf (some h0)), (1, .int l1)] [] := by
  unfold bk_X11_build_110 at h
  refine z_iconst (v := (1 : Int32)) hX dX11_build_110 (by decide) ?_
  refine z_goto (tgt := 115) hX dX11_build_111 (by decide) ?_
  exact zb_X11_build_115 hX hQ hnL hR65 h
def bk_X11_build_114 (h0 : Nat) (R65 : Int32 → Mm → Prop) (K : Int32 → Mm → Prop) (l1 : Int32) (M : Mm) : Prop := (bk_X11_build_115 h0 R65 K l1 (0 : Int32) M)
set_option maxRecDepth 100000 in
set_option maxHeartbeats 4000000 in
theorem zb_X11_build_114 {X : Cx} {h0 : Nat} {R65 : Int32 → Mm → Prop} {K : Int32 → Mm → Prop} (hX : Ok X cX11_build RX11 rm_X11_build) (hQ : Rq X rm_X11_build (some .int) (QI K)) (hnL : X.2.2.2.2.2.2.2.2.2.2.2.2.2.2 = 3) (hR65 : ∀ l1 M, R65 l1 M → Z X M 0 0 65 [(0, va_rf (some h0)), (1, .int l1)] []) {l1 : Int32} {M : Mm} (h : bk_X11_build_114 h0 R65 K l1 M) : Z X M 0 0 114 [(0, va_rf (some h0)), (1, .int l1)] [] := by
  unfold bk_X11_build_114 at h
  refine z_iconst (v := (0 : Int32)) hX dX11_build_114 (by decide) ?_
  exact zb_X11_build_115 hX hQ hnL hR65 h
def bk_X11_build_83 (h0 : Nat) (R65 : Int32 → Mm → Prop) (K : Int32 → Mm → Prop) (l1 : Int32) (M : Mm) : Prop := mK M h0 = 12 ∧ (wp_X11_isKeyword M h0 (14 : Int32) (fun r25 M26 => ((¬ r25 = 0 → (bk_X11_build_110 h0 R65 K l1 M26)) ∧ (r25 = 0 → mK M26 h0 = 12 ∧ (wp_X11_isName M26 h0 (fun r29 M30 => ((r29 = 0 → (bk_X11_build_114 h0 R65 K l1 M30)) ∧ (¬ r29 = 0 → mK M30 h0 = 12 ∧ (wp_X11_findName M30 h0 (mJ M30 710 h0) (fun r34 M35 => ((0 ≤ r34 → (bk_X11_build_114 h0 R65 K l1 M35)) ∧ (¬ 0 ≤ r34 → (bk_X11_build_110 h0 R65 K l1 M35)))))))))))))
set_option maxRecDepth 100000 in
set_option maxHeartbeats 4000000 in
theorem zb_X11_build_83 {X : Cx} {h0 : Nat} {R65 : Int32 → Mm → Prop} {K : Int32 → Mm → Prop} (hX : Ok X cX11_build RX11 rm_X11_build) (hQ : Rq X rm_X11_build (some .int) (QI K)) (hnL : X.2.2.2.2.2.2.2.2.2.2.2.2.2.2 = 3) (hR65 : ∀ l1 M, R65 l1 M → Z X M 0 0 65 [(0, va_rf (some h0)), (1, .int l1)] []) {l1 : Int32} {M : Mm} (h : bk_X11_build_83 h0 R65 K l1 M) : Z X M 0 0 83 [(0, va_rf (some h0)), (1, .int l1)] [] := by
  unfold bk_X11_build_83 at h
  refine z_aload_n (r := (some h0)) hX dX11_build_83 rfl 0 rfl ?_
  refine z_bipush (v := (14 : Int32)) hX dX11_build_84 (by decide) ?_
  obtain ⟨hk27, h⟩ := h
  refine z_callVI (As := [.int (14 : Int32)]) (rest := []) (ci := 11) hX (ct_X11_isKeyword h) mw_RX11_194 rfl (by decide) rfl (by rfl) (by unfold RoomC; decide) (by decide) dX11_build_86 hk27 (fun r25 M26 h => ?_)
  obtain ⟨h1, h2⟩ := h
  refine z_if_ne (tgt := 110) hX dX11_build_89 (by decide) (fun hc => ?_) (fun hc => ?_)
  · have h := h1 hc
    exact zb_X11_build_110 hX hQ hnL hR65 h
  · have h := h2 hc
    refine z_aload_n (r := (some h0)) hX dX11_build_92 rfl 0 rfl ?_
    obtain ⟨hk31, h⟩ := h
    refine z_callVI (As := []) (rest := []) (ci := 11) hX (ct_X11_isName h) mw_RX11_206 rfl (by decide) rfl (by rfl) (by unfold RoomC; decide) (by decide) dX11_build_93 hk31 (fun r29 M30 h => ?_)
    obtain ⟨h1, h2⟩ := h
    refine z_if_eq (tgt := 114) hX dX11_build_96 (by decide) (fun hc => ?_) (fun hc => ?_)
    · have h := h1 hc
      exact zb_X11_build_114 hX hQ hnL hR65 h
    · have h := h2 hc
      refine z_aload_n (r := (some h0)) hX dX11_build_99 rfl 0 rfl ?_
      refine z_aload_n (r := (some h0)) hX dX11_build_100 rfl 0 rfl ?_
      obtain ⟨hk33, h⟩ := h
      refine gf_RX11_140 (r := (some h0)) hX dX11_build_101 rfl hk33 ?_
      refine z_callVI (As := [.long (mJ M30 710 h0)]) (rest := []) (ci := 11) hX (ct_X11_findName h) mw_RX11_209 rfl (by decide) rfl (by rfl) (by unfold RoomC; decide) (by decide) dX11_build_104 hk33 (fun r34 M35 h => ?_)
      obtain ⟨h1, h2⟩ := h
      refine z_if_ge (tgt := 114) hX dX11_build_107 (by decide) (fun hc => ?_) (fun hc => ?_)
      · have h := h1 hc
        exact zb_X11_build_114 hX hQ hnL hR65 h
      · have h := h2 hc
        exact zb_X11_build_110 hX hQ hnL hR65 h
def lp_X11_build_65 (h0 : Nat) (K : Int32 → Mm → Prop) : Nat → Int32 → Mm → Prop
  | 0, _, _ => False
  | n + 1, l1, M => mK M h0 = 12 ∧ (wp_X11_good M h0 (fun r37 M38 => ((r37 = 0 → (bk_X11_build_145 h0 K M38)) ∧ (¬ r37 = 0 → ((l1 = 0 → (bk_X11_build_83 h0 (lp_X11_build_65 h0 K n) K l1 M38)) ∧ (¬ l1 = 0 → mK M38 h0 = 12 ∧ (((mI M38 708 h0) = 0 → (bk_X11_build_145 h0 K M38)) ∧ (¬ (mI M38 708 h0) = 0 → (bk_X11_build_83 h0 (lp_X11_build_65 h0 K n) K l1 M38)))))))))
set_option maxRecDepth 100000 in
set_option maxHeartbeats 4000000 in
theorem zl_X11_build_65 {X : Cx} {h0 : Nat} {K : Int32 → Mm → Prop} (hX : Ok X cX11_build RX11 rm_X11_build) (hQ : Rq X rm_X11_build (some .int) (QI K)) (hnL : X.2.2.2.2.2.2.2.2.2.2.2.2.2.2 = 3) : ∀ (n : Nat) (l1 : Int32) (M : Mm), lp_X11_build_65 h0 K n l1 M → Z X M 0 0 65 [(0, va_rf (some h0)), (1, .int l1)] [] := by
  intro n
  induction n with
  | zero =>
    intro l1 M h
    exact False.elim h
  | succ n hR65 =>
    intro l1 M h
    refine z_aload_n (r := (some h0)) hX dX11_build_65 rfl 0 rfl ?_
    obtain ⟨hk39, h⟩ := h
    refine z_callVI (As := []) (rest := []) (ci := 11) hX (ct_X11_good h) mw_RX11_190 rfl (by decide) rfl (by rfl) (by unfold RoomC; decide) (by decide) dX11_build_66 hk39 (fun r37 M38 h => ?_)
    obtain ⟨h1, h2⟩ := h
    refine z_if_eq (tgt := 145) hX dX11_build_69 (by decide) (fun hc => ?_) (fun hc => ?_)
    · have h := h1 hc
      refine z_loc [0] rfl ?_
      exact zb_X11_build_145 hX hQ hnL h
    · have h := h2 hc
      refine z_iload_n hX dX11_build_72 rfl 1 rfl ?_
      obtain ⟨h1, h2⟩ := h
      refine z_if_eq (tgt := 83) hX dX11_build_73 (by decide) (fun hc => ?_) (fun hc => ?_)
      · have h := h1 hc
        exact zb_X11_build_83 hX hQ hnL hR65 h
      · have h := h2 hc
        refine z_aload_n (r := (some h0)) hX dX11_build_76 rfl 0 rfl ?_
        obtain ⟨hk41, h⟩ := h
        refine gf_RX11_147 (r := (some h0)) hX dX11_build_77 rfl hk41 ?_
        obtain ⟨h1, h2⟩ := h
        refine z_if_eq (tgt := 145) hX dX11_build_80 (by decide) (fun hc => ?_) (fun hc => ?_)
        · have h := h1 hc
          refine z_loc [0] rfl ?_
          exact zb_X11_build_145 hX hQ hnL h
        · have h := h2 hc
          exact zb_X11_build_83 hX hQ hnL hR65 h
def lp_X11_build_34 (h0 : Nat) (K : Int32 → Mm → Prop) : Nat → Int32 → Mm → Prop
  | 0, _, _ => False
  | n + 1, l1, M => (((4 : Int32) ≤ l1 → mK M h0 = 12 ∧ (wp_X11_next M h0 (fun M43 => (∃ kk, lp_X11_build_65 h0 K kk (0 : Int32) M43)))) ∧ (¬ (4 : Int32) ≤ l1 → mK M h0 = 12 ∧ ∃ a47, (mR M 727 h0) = some a47 ∧ isA M a47 3 ∧ vp_in l1 (aN M a47) ∧ ∃ a51, (mR (tI M a47 (l1).toNatClampNeg (0 : Int32)) 728 h0) = some a51 ∧ isA (tI M a47 (l1).toNatClampNeg (0 : Int32)) a51 2 ∧ vp_in l1 (aN (tI M a47 (l1).toNatClampNeg (0 : Int32)) a51) ∧ ((lp_X11_build_34 h0 K n) (l1 + 1) (tJ (tI M a47 (l1).toNatClampNeg (0 : Int32)) a51 (l1).toNatClampNeg (0 : Int64)))))
set_option maxRecDepth 100000 in
set_option maxHeartbeats 4000000 in
theorem zl_X11_build_34 {X : Cx} {h0 : Nat} {K : Int32 → Mm → Prop} (hX : Ok X cX11_build RX11 rm_X11_build) (hQ : Rq X rm_X11_build (some .int) (QI K)) (hnL : X.2.2.2.2.2.2.2.2.2.2.2.2.2.2 = 3) : ∀ (n : Nat) (l1 : Int32) (M : Mm), lp_X11_build_34 h0 K n l1 M → Z X M 0 0 34 [(0, va_rf (some h0)), (1, .int l1)] [] := by
  intro n
  induction n with
  | zero =>
    intro l1 M h
    exact False.elim h
  | succ n hR34 =>
    intro l1 M h
    refine z_iload_n hX dX11_build_34 rfl 1 rfl ?_
    refine z_iconst (v := (4 : Int32)) hX dX11_build_35 (by decide) ?_
    obtain ⟨h1, h2⟩ := h
    refine z_icmp_ge (tgt := 59) hX dX11_build_36 (by decide) (fun hc => ?_) (fun hc => ?_)
    · have h := h1 hc
      refine z_aload_n (r := (some h0)) hX dX11_build_59 rfl 0 rfl ?_
      obtain ⟨hk44, h⟩ := h
      refine z_callVV (As := []) (rest := []) (ci := 11) hX (ct_X11_next h) mw_RX11_200 rfl (by decide) rfl (by rfl) (by unfold RoomC; decide) (by decide) dX11_build_60 hk44 (fun M43 h => ?_)
      refine z_iconst (v := (0 : Int32)) hX dX11_build_63 (by decide) ?_
      refine z_istore_n hX [(1, .int (0 : Int32)), (0, va_rf (some h0))] dX11_build_64 rfl (by rw [hnL]; decide) rfl ?_
      refine z_loc [1, 0] rfl ?_
      obtain ⟨n, h⟩ := h
      exact zl_X11_build_65 hX hQ hnL n _ _ h
    · have h := h2 hc
      refine z_aload_n (r := (some h0)) hX dX11_build_39 rfl 0 rfl ?_
      obtain ⟨hk46, h⟩ := h
      refine gf_RX11_54 (r := (some h0)) hX dX11_build_40 rfl hk46 ?_
      refine z_iload_n hX dX11_build_43 rfl 1 rfl ?_
      refine z_iconst (v := (0 : Int32)) hX dX11_build_44 (by decide) ?_
      obtain ⟨a47, ha48, h⟩ := h
      obtain ⟨hk49, h⟩ := h
      obtain ⟨hc50, h⟩ := h
      refine y_zast (r := (mR M 727 h0)) hX dX11_build_45 ha48 hk49 hc50 (Or.inl rfl)  ?_
      refine z_aload_n (r := (some h0)) hX dX11_build_46 rfl 0 rfl ?_
      refine gf_RX11_57 (r := (some h0)) hX dX11_build_47 rfl hk46 ?_
      refine z_iload_n hX dX11_build_50 rfl 1 rfl ?_
      refine z_lconst (v := (0 : Int64)) hX dX11_build_51 (by decide) ?_
      obtain ⟨a51, ha52, h⟩ := h
      obtain ⟨hk53, h⟩ := h
      obtain ⟨hc54, h⟩ := h
      refine y_last (r := (mR (tI M a47 (l1).toNatClampNeg (0 : Int32)) 728 h0)) hX dX11_build_52 ha52 hk53 hc54 ?_
      refine z_iinc (v := (l1 + 1)) hX [(1, .int (l1 + 1)), (0, va_rf (some h0))] dX11_build_53 1 rfl rfl (by rw [hnL]; decide) rfl ?_
      refine z_goto (tgt := 34) hX dX11_build_56 (by decide) ?_
      refine z_loc [1, 0] rfl ?_
      exact hR34 _ _ h
def wp_X11_build (M : Mm) (h0 : Nat) (K : Int32 → Mm → Prop) : Prop := mK M h0 = 12 ∧ ∃ a59, (mR (sI (sI (sI M 704 h0 (0 : Int32)) 707 h0 (0 : Int32)) 712 h0 (0 : Int32)) 729 h0) = some a59 ∧ isA (sI (sI (sI M 704 h0 (0 : Int32)) 707 h0 (0 : Int32)) 712 h0 (0 : Int32)) a59 1 ∧ vp_in (0 : Int32) (aN (sI (sI (sI M 704 h0 (0 : Int32)) 707 h0 (0 : Int32)) 712 h0 (0 : Int32)) a59) ∧ (∃ kk, lp_X11_build_34 h0 K kk (0 : Int32) (sI (sI (tI (sI (sI (sI M 704 h0 (0 : Int32)) 707 h0 (0 : Int32)) 712 h0 (0 : Int32)) a59 ((0 : Int32)).toNatClampNeg (0 : Int32)) 730 h0 (0 : Int32)) 731 h0 (0 : Int32)))
set_option maxRecDepth 100000 in
set_option maxHeartbeats 4000000 in
theorem ct_X11_build {M : Mm} {h0 : Nat} {K : Int32 → Mm → Prop} (h : wp_X11_build M h0 K) : CtI yX11_build cX11_build 3 (some .int) rm_X11_build [.ref h0] M K := by
  refine ct_any (QI K) (by decide) (by exact Nat.le_of_ble_eq_true rfl) (fun X hX hQ hnL hnm => ?_)
  rw [show lv_args 0 [.ref h0] = [(0, va_rf (some h0))] by rfl]
  have hX : Ok X cX11_build RX11 rm_X11_build := hX
  unfold wp_X11_build at h
  refine z_aload_n (r := (some h0)) hX dX11_build_0 rfl 0 rfl ?_
  refine z_iconst (v := (0 : Int32)) hX dX11_build_1 (by decide) ?_
  obtain ⟨hk55, h⟩ := h
  refine pf_RX11_123 (r := (some h0)) (v := (0 : Int32)) hX dX11_build_2 rfl hk55 ?_
  refine z_aload_n (r := (some h0)) hX dX11_build_5 rfl 0 rfl ?_
  refine z_iconst (v := (0 : Int32)) hX dX11_build_6 (by decide) ?_
  refine pf_RX11_130 (r := (some h0)) (v := (0 : Int32)) hX dX11_build_7 rfl hk55 ?_
  refine z_aload_n (r := (some h0)) hX dX11_build_10 rfl 0 rfl ?_
  refine z_iconst (v := (0 : Int32)) hX dX11_build_11 (by decide) ?_
  refine pf_RX11_181 (r := (some h0)) (v := (0 : Int32)) hX dX11_build_12 rfl hk55 ?_
  refine z_aload_n (r := (some h0)) hX dX11_build_15 rfl 0 rfl ?_
  refine gf_RX11_60 (r := (some h0)) hX dX11_build_16 rfl hk55 ?_
  refine z_iconst (v := (0 : Int32)) hX dX11_build_19 (by decide) ?_
  refine z_iconst (v := (0 : Int32)) hX dX11_build_20 (by decide) ?_
  obtain ⟨a59, ha60, h⟩ := h
  obtain ⟨hk61, h⟩ := h
  obtain ⟨hc62, h⟩ := h
  refine y_iast (r := (mR (sI (sI (sI M 704 h0 (0 : Int32)) 707 h0 (0 : Int32)) 712 h0 (0 : Int32)) 729 h0)) hX dX11_build_21 ha60 hk61 hc62 ?_
  refine z_aload_n (r := (some h0)) hX dX11_build_22 rfl 0 rfl ?_
  refine z_iconst (v := (0 : Int32)) hX dX11_build_23 (by decide) ?_
  refine pf_RX11_246 (r := (some h0)) (v := (0 : Int32)) hX dX11_build_24 rfl hk55 ?_
  refine z_aload_n (r := (some h0)) hX dX11_build_27 rfl 0 rfl ?_
  refine z_iconst (v := (0 : Int32)) hX dX11_build_28 (by decide) ?_
  refine pf_RX11_257 (r := (some h0)) (v := (0 : Int32)) hX dX11_build_29 rfl hk55 ?_
  refine z_iconst (v := (0 : Int32)) hX dX11_build_32 (by decide) ?_
  refine z_istore_n hX [(1, .int (0 : Int32)), (0, va_rf (some h0))] dX11_build_33 rfl (by rw [hnL]; decide) rfl ?_
  refine z_loc [1, 0] rfl ?_
  obtain ⟨n, h⟩ := h
  exact zl_X11_build_34 hX hQ hnL n _ _ h
def rm_X1_takeRow : Room := { frames := 309, cells := 0, slots := 0, locals := 12210 }
def bk_X1_takeRow_37 (h0 : Nat) (K : Int32 → Mm → Prop) (l1 : Option Nat) (l3 : Int64) (l5 : Int32) (M : Mm) : Prop := mK M h0 = 2 ∧ ∃ a2, l1 = some a2 ∧ mK M a2 = 7 ∧ ∃ a7, (mR M 65 h0) = some a7 ∧ mK M a7 = 4 ∧ (wp_X3_note M a7 (mI M 384 a2) l3 l5 (1 : Int32) (fun M6 => (K (0 : Int32) M6)))
set_option maxRecDepth 100000 in
set_option maxHeartbeats 4000000 in
theorem zb_X1_takeRow_37 {X : Cx} {h0 : Nat} {K : Int32 → Mm → Prop} (hX : Ok X cX1_takeRow RX1 rm_X1_takeRow) (hQ : Rq X rm_X1_takeRow (some .int) (QI K)) (hnL : X.2.2.2.2.2.2.2.2.2.2.2.2.2.2 = 7) {l1 : Option Nat} {l3 : Int64} {l5 : Int32} {M : Mm} (h : bk_X1_takeRow_37 h0 K l1 l3 l5 M) : Z X M 0 0 37 [(0, va_rf (some h0)), (1, va_rf l1), (3, .long l3), (5, .int l5)] [] := by
  unfold bk_X1_takeRow_37 at h
  refine z_aload_n (r := (some h0)) hX dX1_takeRow_37 rfl 0 rfl ?_
  obtain ⟨hk1, h⟩ := h
  refine gf_RX1_15 (r := (some h0)) hX dX1_takeRow_38 rfl hk1 ?_
  refine z_aload_n (r := l1) hX dX1_takeRow_41 rfl 1 rfl ?_
  obtain ⟨a2, ha3, h⟩ := h
  obtain ⟨hk4, h⟩ := h
  refine gf_RX1_101 (r := l1) hX dX1_takeRow_42 ha3 hk4 ?_
  refine z_lload_n hX dX1_takeRow_45 rfl 2 rfl ?_
  refine z_iload hX dX1_takeRow_46 3 rfl ?_
  refine z_iconst (v := (1 : Int32)) hX dX1_takeRow_48 (by decide) ?_
  obtain ⟨a7, ha8, h⟩ := h
  obtain ⟨hk9, h⟩ := h
  refine z_callVV (As := [.int (mI M 384 a2), .long l3, .int l5, .int (1 : Int32)]) (rest := []) (ci := 3) hX (ct_X3_note h) mw_RX1_104 rfl (by decide) rfl (by rw [ha8]; rfl) (by unfold RoomC; decide) (by decide) dX1_takeRow_49 hk9 (fun M6 h => ?_)
  refine z_iconst (v := (0 : Int32)) hX dX1_takeRow_52 (by decide) ?_
  exact z_iret hX hQ dX1_takeRow_53 h
def bk_X1_takeRow_95 (h0 : Nat) (K : Int32 → Mm → Prop) (M : Mm) : Prop := (K (1 : Int32) M)
set_option maxRecDepth 100000 in
set_option maxHeartbeats 4000000 in
theorem zb_X1_takeRow_95 {X : Cx} {h0 : Nat} {K : Int32 → Mm → Prop} (hX : Ok X cX1_takeRow RX1 rm_X1_takeRow) (hQ : Rq X rm_X1_takeRow (some .int) (QI K)) (hnL : X.2.2.2.2.2.2.2.2.2.2.2.2.2.2 = 7) {M : Mm} (h : bk_X1_takeRow_95 h0 K M) : Z X M 0 0 95 [] [] := by
  unfold bk_X1_takeRow_95 at h
  refine z_iconst (v := (1 : Int32)) hX dX1_takeRow_95 (by decide) ?_
  exact z_iret hX hQ dX1_takeRow_96 h
def wp_X1_takeRow (M : Mm) (h0 : Nat) (p1 : Option Nat) (p2 : Int32) (p3 : Int64) (p4 : Int32) (K : Int32 → Mm → Prop) : Prop := ∃ a11, p1 = some a11 ∧ mK M a11 = 7 ∧ mK M h0 = 2 ∧ ∃ a17, (mR M 393 a11) = some a17 ∧ mK M a17 = 6 ∧ (wp_X5_hear M a17 p2 (mI M 70 h0) (fun M16 => mK M16 a17 = 6 ∧ ∃ a22, (mR M16 325 a17) = some a22 ∧ isA M16 a22 2 ∧ vp_in p2 (aN M16 a22) ∧ ((p3 ≤ (aJ M16 a22 (p2).toNatClampNeg) → (bk_X1_takeRow_37 h0 K p1 p3 p4 M16)) ∧ (¬ p3 ≤ (aJ M16 a22 (p2).toNatClampNeg) → mK M16 a11 = 7 ∧ (((mJ M16 390 a11) < p3 → mK M16 h0 = 2 ∧ (wp_X1_passOn 30 M16 h0 p1 p3 p4 (1 : Int32) (0 : Int32) (fun M28 => mK M28 a17 = 6 ∧ (((mJ M28 321 a17) = (-1 : Int64) → (bk_X1_takeRow_95 h0 K M28)) ∧ (¬ (mJ M28 321 a17) = (-1 : Int64) → (wp_X10_together M28 p3 ((-(mJ M28 321 a17)) - (1 : Int64)) (fun r32 M33 => mK M33 a17 = 6 ∧ (wp_X5_raise M33 a17 p2 r32 (fun r35 M36 => (bk_X1_takeRow_95 h0 K M36)))))))))) ∧ (¬ (mJ M16 390 a11) < p3 → (bk_X1_takeRow_37 h0 K p1 p3 p4 M16)))))))
set_option maxRecDepth 100000 in
set_option maxHeartbeats 4000000 in
theorem ct_X1_takeRow {M : Mm} {h0 : Nat} {p1 : Option Nat} {p2 : Int32} {p3 : Int64} {p4 : Int32} {K : Int32 → Mm → Prop} (h : wp_X1_takeRow M h0 p1 p2 p3 p4 K) : CtI yX1_takeRow cX1_takeRow 7 (some .int) rm_X1_takeRow [.ref h0, va_rf p1, .int p2, .long p3, .int p4] M K := by
  refine ct_any (QI K) (by decide) (by cases p1 <;> exact Nat.le_of_ble_eq_true rfl) (fun X hX hQ hnL hnm => ?_)
  rw [show lv_args 0 [.ref h0, va_rf p1, .int p2, .long p3, .int p4] = [(0, va_rf (some h0)), (1, va_rf p1), (2, .int p2), (3, .long p3), (5, .int p4)] by cases p1 <;> rfl]
  have hX : Ok X cX1_takeRow RX1 rm_X1_takeRow := hX
  unfold wp_X1_takeRow at h
  refine z_aload_n (r := p1) hX dX1_takeRow_0 rfl 1 rfl ?_
  obtain ⟨a11, ha12, h⟩ := h
  obtain ⟨hk13, h⟩ := h
  refine gf_RX1_60 (r := p1) hX dX1_takeRow_1 ha12 hk13 ?_
  refine z_astore (r := (mR M 393 a11)) hX [(6, va_rf (mR M 393 a11)), (0, va_rf (some h0)), (1, va_rf p1), (2, .int p2), (3, .long p3), (5, .int p4)] dX1_takeRow_4 (by rw [hnL]; decide) rfl ?_
  refine z_aload (r := (mR M 393 a11)) hX dX1_takeRow_6 0 rfl ?_
  refine z_iload_n hX dX1_takeRow_8 rfl 3 rfl ?_
  refine z_aload_n (r := (some h0)) hX dX1_takeRow_9 rfl 1 rfl ?_
  obtain ⟨hk14, h⟩ := h
  refine gf_RX1_91 (r := (some h0)) hX dX1_takeRow_10 rfl hk14 ?_
  obtain ⟨a17, ha18, h⟩ := h
  obtain ⟨hk19, h⟩ := h
  refine z_callVV (As := [.int p2, .int (mI M 70 h0)]) (rest := []) (ci := 5) hX (ct_X5_hear h) mw_RX1_94 rfl (by decide) rfl (by rw [ha18]; rfl) (by unfold RoomC; decide) (by decide) dX1_takeRow_13 hk19 (fun M16 h => ?_)
  refine z_lload_n hX dX1_takeRow_16 rfl 4 rfl ?_
  refine z_aload (r := (mR M 393 a11)) hX dX1_takeRow_17 0 rfl ?_
  obtain ⟨hk21, h⟩ := h
  refine gf_RX1_74 (r := (mR M 393 a11)) hX dX1_takeRow_19 ha18 hk21 ?_
  refine z_iload_n hX dX1_takeRow_22 rfl 3 rfl ?_
  obtain ⟨a22, ha23, h⟩ := h
  obtain ⟨hk24, h⟩ := h
  obtain ⟨hc25, h⟩ := h
  refine y_lald (r := (mR M16 325 a17)) hX dX1_takeRow_23 ha23 hk24 hc25 ?_
  refine z_lcmp hX dX1_takeRow_24 ?_
  obtain ⟨h1, h2⟩ := h
  refine z_if_le (tgt := 37) hX dX1_takeRow_25 (by decide) (fun hc => ?_) (fun hc => ?_)
  · have h := h1 ((lg_cmp_le _ _).mp hc)
    refine z_loc [1, 2, 4, 5] rfl ?_
    exact zb_X1_takeRow_37 hX hQ hnL h
  · have h := h2 (fun q => hc ((lg_cmp_le _ _).mpr q))
    refine z_lload_n hX dX1_takeRow_28 rfl 4 rfl ?_
    refine z_aload_n (r := p1) hX dX1_takeRow_29 rfl 2 rfl ?_
    obtain ⟨hk26, h⟩ := h
    refine gf_RX1_98 (r := p1) hX dX1_takeRow_30 ha12 hk26 ?_
    refine z_lcmp hX dX1_takeRow_33 ?_
    obtain ⟨h1, h2⟩ := h
    refine z_if_gt (tgt := 54) hX dX1_takeRow_34 (by decide) (fun hc => ?_) (fun hc => ?_)
    · have h := h1 ((lg_cmp_gt _ _).mp hc)
      refine z_aload_n (r := (some h0)) hX dX1_takeRow_54 rfl 1 rfl ?_
      refine z_aload_n (r := p1) hX dX1_takeRow_55 rfl 2 rfl ?_
      refine z_lload_n hX dX1_takeRow_56 rfl 4 rfl ?_
      refine z_iload hX dX1_takeRow_57 5 rfl ?_
      refine z_iconst (v := (1 : Int32)) hX dX1_takeRow_59 (by decide) ?_
      refine z_iconst (v := (0 : Int32)) hX dX1_takeRow_60 (by decide) ?_
      obtain ⟨hk29, h⟩ := h
      refine z_callVV (As := [va_rf p1, .long p3, .int p4, .int (1 : Int32), .int (0 : Int32)]) (rest := []) (ci := 1) hX (ct_X1_passOn 30 h) mw_RX1_110 rfl (by decide) rfl (by rfl) (by unfold RoomC; decide) (by decide) dX1_takeRow_61 hk29 (fun M28 h => ?_)
      refine z_aload (r := (mR M 393 a11)) hX dX1_takeRow_64 0 rfl ?_
      obtain ⟨hk31, h⟩ := h
      refine gf_RX1_114 (r := (mR M 393 a11)) hX dX1_takeRow_66 ha18 hk31 ?_
      refine z_ldc2 (v := (-1 : Int64)) hX dX1_takeRow_69 kj_RX1_28 ?_
      refine z_lcmp hX dX1_takeRow_72 ?_
      obtain ⟨h1, h2⟩ := h
      refine z_if_eq (tgt := 95) hX dX1_takeRow_73 (by decide) (fun hc => ?_) (fun hc => ?_)
      · have h := h1 ((lg_cmp_eq _ _).mp hc)
        refine z_loc [] rfl ?_
        exact zb_X1_takeRow_95 hX hQ hnL h
      · have h := h2 (fun q => hc ((lg_cmp_eq _ _).mpr q))
        refine z_aload (r := (mR M 393 a11)) hX dX1_takeRow_76 0 rfl ?_
        refine z_iload_n hX dX1_takeRow_78 rfl 3 rfl ?_
        refine z_lload_n hX dX1_takeRow_79 rfl 4 rfl ?_
        refine z_aload (r := (mR M 393 a11)) hX dX1_takeRow_80 0 rfl ?_
        refine gf_RX1_114 (r := (mR M 393 a11)) hX dX1_takeRow_82 ha18 hk31 ?_
        refine z_lneg hX dX1_takeRow_85 ?_
        refine z_lconst (v := (1 : Int64)) hX dX1_takeRow_86 (by decide) ?_
        refine z_lsub hX dX1_takeRow_87 ?_
        refine z_callNJ (As := [.long p3, .long ((-(mJ M28 321 a17)) - (1 : Int64))]) (rest := [.int p2, va_rf (mR M 393 a11)]) hX (ct_X10_together h) mw_RX1_77 rfl (by rfl) (by unfold RoomC; decide) (by simp only [List.map_cons, List.map_nil, List.sum_cons, List.sum_nil, cat_rf, cat_i, cat_j]; decide) dX1_takeRow_88 (fun r32 M33 h => ?_)
        obtain ⟨hk37, h⟩ := h
        refine z_callVI (As := [.int p2, .long r32]) (rest := []) (ci := 5) hX (ct_X5_raise h) mw_RX1_117 rfl (by decide) rfl (by rw [ha18]; rfl) (by unfold RoomC; decide) (by decide) dX1_takeRow_91 hk37 (fun r35 M36 h => ?_)
        refine z_pop hX dX1_takeRow_94 rfl ?_
        refine z_loc [] rfl ?_
        exact zb_X1_takeRow_95 hX hQ hnL h
    · have h := h2 (fun q => hc ((lg_cmp_gt _ _).mpr q))
      refine z_loc [1, 2, 4, 5] rfl ?_
      exact zb_X1_takeRow_37 hX hQ hnL h
def rm_X1_emit : Room := { frames := 309, cells := 0, slots := 0, locals := 12210 }
def wp_X1_emit (M : Mm) (h0 : Nat) (p1 : Int32) (p2 : Int32) (K : Mm → Prop) : Prop := mK M h0 = 2 ∧ ∃ a2, (mR M 68 h0) = some a2 ∧ mK M a2 = 9 ∧ ∃ a5, (mR M 512 a2) = some a5 ∧ isA M a5 1 ∧ vp_in p1 (aN M a5) ∧ ∃ a9, (mR M 66 h0) = some a9 ∧ isA M a9 4 ∧ vp_in (aI M a5 (p1).toNatClampNeg) (aN M a9) ∧ ∃ a13, (mR M 513 a2) = some a13 ∧ isA M a13 2 ∧ vp_in p1 (aN M a13) ∧ (wp_X1_passOn 30 M h0 (aR M a9 ((aI M a5 (p1).toNatClampNeg)).toNatClampNeg) (aJ M a13 (p1).toNatClampNeg) p2 (1 : Int32) (0 : Int32) (fun M18 => (K M18)))
set_option maxRecDepth 100000 in
set_option maxHeartbeats 4000000 in
theorem ct_X1_emit {M : Mm} {h0 : Nat} {p1 : Int32} {p2 : Int32} {K : Mm → Prop} (h : wp_X1_emit M h0 p1 p2 K) : CtV yX1_emit cX1_emit 3 none rm_X1_emit [.ref h0, .int p1, .int p2] M K := by
  refine ct_any (QV K) (by decide) (by exact Nat.le_of_ble_eq_true rfl) (fun X hX hQ hnL hnm => ?_)
  rw [show lv_args 0 [.ref h0, .int p1, .int p2] = [(0, va_rf (some h0)), (1, .int p1), (2, .int p2)] by rfl]
  have hX : Ok X cX1_emit RX1 rm_X1_emit := hX
  unfold wp_X1_emit at h
  refine z_aload_n (r := (some h0)) hX dX1_emit_0 rfl 0 rfl ?_
  refine z_aload_n (r := (some h0)) hX dX1_emit_1 rfl 0 rfl ?_
  obtain ⟨hk1, h⟩ := h
  refine gf_RX1_20 (r := (some h0)) hX dX1_emit_2 rfl hk1 ?_
  refine z_aload_n (r := (some h0)) hX dX1_emit_5 rfl 0 rfl ?_
  refine gf_RX1_33 (r := (some h0)) hX dX1_emit_6 rfl hk1 ?_
  obtain ⟨a2, ha3, h⟩ := h
  obtain ⟨hk4, h⟩ := h
  refine gf_RX1_129 (r := (mR M 68 h0)) hX dX1_emit_9 ha3 hk4 ?_
  refine z_iload_n hX dX1_emit_12 rfl 1 rfl ?_
  obtain ⟨a5, ha6, h⟩ := h
  obtain ⟨hk7, h⟩ := h
  obtain ⟨hc8, h⟩ := h
  refine y_iald (r := (mR M 512 a2)) hX dX1_emit_13 ha6 hk7 hc8 ?_
  obtain ⟨a9, ha10, h⟩ := h
  obtain ⟨hk11, h⟩ := h
  obtain ⟨hc12, h⟩ := h
  refine y_aldq (r := (mR M 66 h0)) hX dX1_emit_14 ha10 hk11 hc12 ?_
  refine z_aload_n (r := (some h0)) hX dX1_emit_15 rfl 0 rfl ?_
  refine gf_RX1_33 (r := (some h0)) hX dX1_emit_16 rfl hk1 ?_
  refine gf_RX1_132 (r := (mR M 68 h0)) hX dX1_emit_19 ha3 hk4 ?_
  refine z_iload_n hX dX1_emit_22 rfl 1 rfl ?_
  obtain ⟨a13, ha14, h⟩ := h
  obtain ⟨hk15, h⟩ := h
  obtain ⟨hc16, h⟩ := h
  refine y_lald (r := (mR M 513 a2)) hX dX1_emit_23 ha14 hk15 hc16 ?_
  refine z_iload_n hX dX1_emit_24 rfl 2 rfl ?_
  refine z_iconst (v := (1 : Int32)) hX dX1_emit_25 (by decide) ?_
  refine z_iconst (v := (0 : Int32)) hX dX1_emit_26 (by decide) ?_
  refine z_callVV (As := [va_rf (aR M a9 ((aI M a5 (p1).toNatClampNeg)).toNatClampNeg), .long (aJ M a13 (p1).toNatClampNeg), .int p2, .int (1 : Int32), .int (0 : Int32)]) (rest := []) (ci := 1) hX (ct_X1_passOn 30 h) mw_RX1_110 rfl (by decide) rfl (by rfl) (by unfold RoomC; decide) (by decide) dX1_emit_27 hk1 (fun M18 h => ?_)
  exact z_vret hX hQ dX1_emit_30 h
def rm_X1_reckon : Room := { frames := 310, cells := 0, slots := 0, locals := 12237 }
def bk_X1_reckon_80 (h0 : Nat) (R2 : Int32 → Mm → Prop) (K : Mm → Prop) (l1 : Int32) (M : Mm) : Prop := (R2 (l1 + 1) M)
set_option maxRecDepth 100000 in
set_option maxHeartbeats 4000000 in
theorem zb_X1_reckon_80 {X : Cx} {h0 : Nat} {R2 : Int32 → Mm → Prop} {K : Mm → Prop} (hX : Ok X cX1_reckon RX1 rm_X1_reckon) (hQ : Rq X rm_X1_reckon none (QV K)) (hnL : X.2.2.2.2.2.2.2.2.2.2.2.2.2.2 = 5) (hR2 : ∀ l1 M, R2 l1 M → Z X M 0 0 2 [(0, va_rf (some h0)), (1, .int l1)] []) {l1 : Int32} {M : Mm} (h : bk_X1_reckon_80 h0 R2 K l1 M) : Z X M 0 0 80 [(0, va_rf (some h0)), (1, .int l1)] [] := by
  unfold bk_X1_reckon_80 at h
  refine z_iinc (v := (l1 + 1)) hX [(1, .int (l1 + 1)), (0, va_rf (some h0))] dX1_reckon_80 1 rfl rfl (by rw [hnL]; decide) rfl ?_
  refine z_goto (tgt := 2) hX dX1_reckon_83 (by decide) ?_
  refine z_loc [1, 0] rfl ?_
  exact hR2 _ _ h
def bk_X1_reckon_66 (h0 : Nat) (R2 : Int32 → Mm → Prop) (K : Mm → Prop) (l1 : Int32) (l2 : Option Nat) (M : Mm) : Prop := ∃ a1, l2 = some a1 ∧ mK M a1 = 7 ∧ (((mR M 394 a1) = none → (bk_X1_reckon_80 h0 R2 K l1 M)) ∧ (∀ a4, (mR M 394 a1) = some a4 → mK M a4 = 3 ∧ (wp_X2_dropFar M a4 (fun M7 => (bk_X1_reckon_80 h0 R2 K l1 M7)))))
set_option maxRecDepth 100000 in
set_option maxHeartbeats 4000000 in
theorem zb_X1_reckon_66 {X : Cx} {h0 : Nat} {R2 : Int32 → Mm → Prop} {K : Mm → Prop} (hX : Ok X cX1_reckon RX1 rm_X1_reckon) (hQ : Rq X rm_X1_reckon none (QV K)) (hnL : X.2.2.2.2.2.2.2.2.2.2.2.2.2.2 = 5) (hR2 : ∀ l1 M, R2 l1 M → Z X M 0 0 2 [(0, va_rf (some h0)), (1, .int l1)] []) {l1 : Int32} {l2 : Option Nat} {M : Mm} (h : bk_X1_reckon_66 h0 R2 K l1 l2 M) : Z X M 0 0 66 [(0, va_rf (some h0)), (1, .int l1), (2, va_rf l2)] [] := by
  unfold bk_X1_reckon_66 at h
  refine z_aload_n (r := l2) hX dX1_reckon_66 rfl 2 rfl ?_
  obtain ⟨a1, ha2, h⟩ := h
  obtain ⟨hk3, h⟩ := h
  refine gf_RX1_155 (r := l2) hX dX1_reckon_67 ha2 hk3 ?_
  obtain ⟨h1, h2⟩ := h
  refine z_ifnull (r := (mR M 394 a1)) (tgt := 80) hX dX1_reckon_70 (by decide) (fun hc => ?_) (fun a4 ha5 => ?_)
  · have h := h1 hc
    refine z_loc [0, 1] rfl ?_
    exact zb_X1_reckon_80 hX hQ hnL hR2 h
  · have h := h2 a4 ha5
    refine z_aload_n (r := l2) hX dX1_reckon_73 rfl 2 rfl ?_
    refine gf_RX1_155 (r := l2) hX dX1_reckon_74 ha2 hk3 ?_
    obtain ⟨hk8, h⟩ := h
    refine z_callVV (As := []) (rest := []) (ci := 2) hX (ct_X2_dropFar h) mw_RX1_206 rfl (by decide) rfl (by rw [ha5]; rfl) (by unfold RoomC; decide) (by decide) dX1_reckon_77 hk8 (fun M7 h => ?_)
    refine z_loc [0, 1] rfl ?_
    exact zb_X1_reckon_80 hX hQ hnL hR2 h
def bk_X1_reckon_54 (h0 : Nat) (R2 : Int32 → Mm → Prop) (K : Mm → Prop) (l1 : Int32) (l2 : Option Nat) (M : Mm) : Prop := ∃ a10, l2 = some a10 ∧ mK M a10 = 7 ∧ (((mR M 395 a10) = none → (bk_X1_reckon_66 h0 R2 K l1 l2 M)) ∧ (∀ a13, (mR M 395 a10) = some a13 → mK M h0 = 2 ∧ (wp_X1_closeSums M h0 l2 (fun M16 => (bk_X1_reckon_66 h0 R2 K l1 l2 M16)))))
set_option maxRecDepth 100000 in
set_option maxHeartbeats 4000000 in
theorem zb_X1_reckon_54 {X : Cx} {h0 : Nat} {R2 : Int32 → Mm → Prop} {K : Mm → Prop} (hX : Ok X cX1_reckon RX1 rm_X1_reckon) (hQ : Rq X rm_X1_reckon none (QV K)) (hnL : X.2.2.2.2.2.2.2.2.2.2.2.2.2.2 = 5) (hR2 : ∀ l1 M, R2 l1 M → Z X M 0 0 2 [(0, va_rf (some h0)), (1, .int l1)] []) {l1 : Int32} {l2 : Option Nat} {M : Mm} (h : bk_X1_reckon_54 h0 R2 K l1 l2 M) : Z X M 0 0 54 [(0, va_rf (some h0)), (1, .int l1), (2, va_rf l2)] [] := by
  unfold bk_X1_reckon_54 at h
  refine z_aload_n (r := l2) hX dX1_reckon_54 rfl 2 rfl ?_
  obtain ⟨a10, ha11, h⟩ := h
  obtain ⟨hk12, h⟩ := h
  refine gf_RX1_142 (r := l2) hX dX1_reckon_55 ha11 hk12 ?_
  obtain ⟨h1, h2⟩ := h
  refine z_ifnull (r := (mR M 395 a10)) (tgt := 66) hX dX1_reckon_58 (by decide) (fun hc => ?_) (fun a13 ha14 => ?_)
  · have h := h1 hc
    exact zb_X1_reckon_66 hX hQ hnL hR2 h
  · have h := h2 a13 ha14
    refine z_aload_n (r := (some h0)) hX dX1_reckon_61 rfl 0 rfl ?_
    refine z_aload_n (r := l2) hX dX1_reckon_62 rfl 2 rfl ?_
    obtain ⟨hk17, h⟩ := h
    refine z_callVV (As := [va_rf l2]) (rest := []) (ci := 1) hX (ct_X1_closeSums h) mw_RX1_202 rfl (by decide) rfl (by rfl) (by unfold RoomC; decide) (by decide) dX1_reckon_63 hk17 (fun M16 h => ?_)
    exact zb_X1_reckon_66 hX hQ hnL hR2 h
def bk_X1_reckon_37 (h0 : Nat) (R2 : Int32 → Mm → Prop) (K : Mm → Prop) (l1 : Int32) (l2 : Option Nat) (l3 : Int64) (s0 : Int32) (s1 : Option Nat) (M : Mm) : Prop := ∃ a19, s1 = some a19 ∧ mK M a19 = 7 ∧ bz s0 ∧ ∃ a24, l2 = some a24 ∧ mK (sI M 391 a19 s0) a24 = 7 ∧ ((l3 ≤ (mJ (sI M 391 a19 s0) 390 a24) → (bk_X1_reckon_54 h0 R2 K l1 l2 (sI M 391 a19 s0))) ∧ (¬ l3 ≤ (mJ (sI M 391 a19 s0) 390 a24) → (bk_X1_reckon_54 h0 R2 K l1 l2 (sJ (sI M 391 a19 s0) 390 a24 l3))))
set_option maxRecDepth 100000 in
set_option maxHeartbeats 4000000 in
theorem zb_X1_reckon_37 {X : Cx} {h0 : Nat} {R2 : Int32 → Mm → Prop} {K : Mm → Prop} (hX : Ok X cX1_reckon RX1 rm_X1_reckon) (hQ : Rq X rm_X1_reckon none (QV K)) (hnL : X.2.2.2.2.2.2.2.2.2.2.2.2.2.2 = 5) (hR2 : ∀ l1 M, R2 l1 M → Z X M 0 0 2 [(0, va_rf (some h0)), (1, .int l1)] []) {l1 : Int32} {l2 : Option Nat} {l3 : Int64} {s0 : Int32} {s1 : Option Nat} {M : Mm} (h : bk_X1_reckon_37 h0 R2 K l1 l2 l3 s0 s1 M) : Z X M 0 0 37 [(0, va_rf (some h0)), (1, .int l1), (2, va_rf l2), (3, .long l3)] [.int s0, va_rf s1] := by
  unfold bk_X1_reckon_37 at h
  obtain ⟨a19, ha20, h⟩ := h
  obtain ⟨hk21, h⟩ := h
  obtain ⟨hc22, h⟩ := h
  refine pf_RX1_198 (r := s1) (v := s0) hX dX1_reckon_37 ha20 hc22 hk21 ?_
  refine z_lload_n hX dX1_reckon_40 rfl 3 rfl ?_
  refine z_aload_n (r := l2) hX dX1_reckon_41 rfl 2 rfl ?_
  obtain ⟨a24, ha25, h⟩ := h
  obtain ⟨hk26, h⟩ := h
  refine gf_RX1_98 (r := l2) hX dX1_reckon_42 ha25 hk26 ?_
  refine z_lcmp hX dX1_reckon_45 ?_
  obtain ⟨h1, h2⟩ := h
  refine z_if_le (tgt := 54) hX dX1_reckon_46 (by decide) (fun hc => ?_) (fun hc => ?_)
  · have h := h1 ((lg_cmp_le _ _).mp hc)
    refine z_loc [0, 1, 2] rfl ?_
    exact zb_X1_reckon_54 hX hQ hnL hR2 h
  · have h := h2 (fun q => hc ((lg_cmp_le _ _).mpr q))
    refine z_aload_n (r := l2) hX dX1_reckon_49 rfl 2 rfl ?_
    refine z_lload_n hX dX1_reckon_50 rfl 3 rfl ?_
    refine pf_RX1_98 (r := l2) (v := l3) hX dX1_reckon_51 ha25 hk26 ?_
    refine z_loc [0, 1, 2] rfl ?_
    exact zb_X1_reckon_54 hX hQ hnL hR2 h
def lp_X1_reckon_2 (h0 : Nat) (K : Mm → Prop) : Nat → Int32 → Mm → Prop
  | 0, _, _ => False
  | n + 1, l1, M => mK M h0 = 2 ∧ (((mI M 69 h0) ≤ l1 → (K M)) ∧ (¬ (mI M 69 h0) ≤ l1 → ∃ a29, (mR M 66 h0) = some a29 ∧ isA M a29 4 ∧ vp_in l1 (aN M a29) ∧ (wp_X1_goalOf M h0 (aR M a29 (l1).toNatClampNeg) (fun r33 M34 => ((¬ r33 = (-9000000000000000001 : Int64) → (bk_X1_reckon_37 h0 (lp_X1_reckon_2 h0 K n) K l1 (aR M a29 (l1).toNatClampNeg) r33 (0 : Int32) (aR M a29 (l1).toNatClampNeg) M34)) ∧ (r33 = (-9000000000000000001 : Int64) → (bk_X1_reckon_37 h0 (lp_X1_reckon_2 h0 K n) K l1 (aR M a29 (l1).toNatClampNeg) r33 (1 : Int32) (aR M a29 (l1).toNatClampNeg) M34)))))))
set_option maxRecDepth 100000 in
set_option maxHeartbeats 4000000 in
theorem zl_X1_reckon_2 {X : Cx} {h0 : Nat} {K : Mm → Prop} (hX : Ok X cX1_reckon RX1 rm_X1_reckon) (hQ : Rq X rm_X1_reckon none (QV K)) (hnL : X.2.2.2.2.2.2.2.2.2.2.2.2.2.2 = 5) : ∀ (n : Nat) (l1 : Int32) (M : Mm), lp_X1_reckon_2 h0 K n l1 M → Z X M 0 0 2 [(0, va_rf (some h0)), (1, .int l1)] [] := by
  intro n
  induction n with
  | zero =>
    intro l1 M h
    exact False.elim h
  | succ n hR2 =>
    intro l1 M h
    refine z_iload_n hX dX1_reckon_2 rfl 1 rfl ?_
    refine z_aload_n (r := (some h0)) hX dX1_reckon_3 rfl 0 rfl ?_
    obtain ⟨hk28, h⟩ := h
    refine gf_RX1_37 (r := (some h0)) hX dX1_reckon_4 rfl hk28 ?_
    obtain ⟨h1, h2⟩ := h
    refine z_icmp_ge (tgt := 86) hX dX1_reckon_7 (by decide) (fun hc => ?_) (fun hc => ?_)
    · have h := h1 hc
      exact z_vret hX hQ dX1_reckon_86 h
    · have h := h2 hc
      refine z_aload_n (r := (some h0)) hX dX1_reckon_10 rfl 0 rfl ?_
      refine gf_RX1_20 (r := (some h0)) hX dX1_reckon_11 rfl hk28 ?_
      refine z_iload_n hX dX1_reckon_14 rfl 1 rfl ?_
      obtain ⟨a29, ha30, h⟩ := h
      obtain ⟨hk31, h⟩ := h
      obtain ⟨hc32, h⟩ := h
      refine y_aldq (r := (mR M 66 h0)) hX dX1_reckon_15 ha30 hk31 hc32 ?_
      refine z_astore_n (r := (aR M a29 (l1).toNatClampNeg)) hX [(2, va_rf (aR M a29 (l1).toNatClampNeg)), (0, va_rf (some h0)), (1, .int l1)] dX1_reckon_16 rfl (by rw [hnL]; decide) rfl ?_
      refine z_aload_n (r := (some h0)) hX dX1_reckon_17 rfl 1 rfl ?_
      refine z_aload_n (r := (aR M a29 (l1).toNatClampNeg)) hX dX1_reckon_18 rfl 0 rfl ?_
      refine z_callVJ (As := [va_rf (aR M a29 (l1).toNatClampNeg)]) (rest := []) (ci := 1) hX (ct_X1_goalOf h) mw_RX1_192 rfl (by decide) rfl (by rfl) (by unfold RoomC; decide) (by decide) dX1_reckon_19 hk28 (fun r33 M34 h => ?_)
      refine z_lstore_n (i := 3) hX [(3, .long r33), (2, va_rf (aR M a29 (l1).toNatClampNeg)), (0, va_rf (some h0)), (1, .int l1)] dX1_reckon_22 rfl (by rw [hnL]; decide) (by simp [cat_rf]) ?_
      refine z_aload_n (r := (aR M a29 (l1).toNatClampNeg)) hX dX1_reckon_23 rfl 1 rfl ?_
      refine z_lload_n hX dX1_reckon_24 rfl 0 rfl ?_
      refine z_ldc2 (v := (-9000000000000000001 : Int64)) hX dX1_reckon_25 kj_RX1_196 ?_
      refine z_lcmp hX dX1_reckon_28 ?_
      obtain ⟨h1, h2⟩ := h
      refine z_if_ne (tgt := 36) hX dX1_reckon_29 (by decide) (fun hc => ?_) (fun hc => ?_)
      · have h := h1 (fun q => hc ((lg_cmp_eq _ _).mpr q))
        refine z_iconst (v := (0 : Int32)) hX dX1_reckon_36 (by decide) ?_
        refine z_loc [2, 3, 1, 0] rfl ?_
        exact zb_X1_reckon_37 hX hQ hnL hR2 h
      · have h := h2 ((lg_cmp_eq _ _).mp hc)
        refine z_iconst (v := (1 : Int32)) hX dX1_reckon_32 (by decide) ?_
        refine z_goto (tgt := 37) hX dX1_reckon_33 (by decide) ?_
        refine z_loc [2, 3, 1, 0] rfl ?_
        exact zb_X1_reckon_37 hX hQ hnL hR2 h
def wp_X1_reckon (M : Mm) (h0 : Nat) (K : Mm → Prop) : Prop := (∃ kk, lp_X1_reckon_2 h0 K kk (0 : Int32) M)
set_option maxRecDepth 100000 in
set_option maxHeartbeats 4000000 in
theorem ct_X1_reckon {M : Mm} {h0 : Nat} {K : Mm → Prop} (h : wp_X1_reckon M h0 K) : CtV yX1_reckon cX1_reckon 5 none rm_X1_reckon [.ref h0] M K := by
  refine ct_any (QV K) (by decide) (by exact Nat.le_of_ble_eq_true rfl) (fun X hX hQ hnL hnm => ?_)
  rw [show lv_args 0 [.ref h0] = [(0, va_rf (some h0))] by rfl]
  have hX : Ok X cX1_reckon RX1 rm_X1_reckon := hX
  unfold wp_X1_reckon at h
  refine z_iconst (v := (0 : Int32)) hX dX1_reckon_0 (by decide) ?_
  refine z_istore_n hX [(1, .int (0 : Int32)), (0, va_rf (some h0))] dX1_reckon_1 rfl (by rw [hnL]; decide) rfl ?_
  refine z_loc [1, 0] rfl ?_
  obtain ⟨n, h⟩ := h
  exact zl_X1_reckon_2 hX hQ hnL n _ _ h
def rm_X10_row : Room := { frames := 311, cells := 0, slots := 0, locals := 12261 }
def bk_X10_row_28 (h0 : Nat) (K : Int32 → Mm → Prop) (M : Mm) : Prop := (K (-1 : Int32) M)
set_option maxRecDepth 100000 in
set_option maxHeartbeats 4000000 in
theorem zb_X10_row_28 {X : Cx} {h0 : Nat} {K : Int32 → Mm → Prop} (hX : Ok X cX10_row RX10 rm_X10_row) (hQ : Rq X rm_X10_row (some .int) (QI K)) (hnL : X.2.2.2.2.2.2.2.2.2.2.2.2.2.2 = 9) {M : Mm} (h : bk_X10_row_28 h0 K M) : Z X M 0 0 28 [] [] := by
  unfold bk_X10_row_28 at h
  refine z_iconst (v := (-1 : Int32)) hX dX10_row_28 (by decide) ?_
  exact z_iret hX hQ dX10_row_29 h
def wp_X10_row (M : Mm) (h0 : Nat) (p1 : Int32) (p2 : Int32) (p3 : Int64) (p4 : Int32) (K : Int32 → Mm → Prop) : Prop := mK M h0 = 11 ∧ (wp_X10_sourceWith M h0 p1 p2 (fun r1 M2 => ((r1 = none → (bk_X10_row_28 h0 K M2)) ∧ (∀ a5, r1 = some a5 → (wp_X10_isTime M2 p3 (fun r7 M8 => ((r7 = 0 → (bk_X10_row_28 h0 K M8)) ∧ (¬ r7 = 0 → (wp_X10_isKey M8 p4 (fun r10 M11 => ((¬ r10 = 0 → mK M11 h0 = 11 ∧ mK M11 a5 = 7 ∧ ∃ a17, (mR M11 644 h0) = some a17 ∧ mK M11 a17 = 2 ∧ (wp_X1_refusalOf M11 a17 (mR M11 393 a5) p2 (fun r15 M16 => ((r15 = 0 → mK M16 h0 = 11 ∧ ∃ a24, (mR M16 644 h0) = some a24 ∧ mK M16 a24 = 2 ∧ (wp_X1_takeRow M16 a24 r1 p2 p3 p4 (fun r22 M23 => mK M23 h0 = 11 ∧ ∃ a31, (mR M23 644 h0) = some a31 ∧ mK M23 a31 = 2 ∧ (wp_X1_reckon M23 a31 (fun M30 => (K r22 M30)))))) ∧ (¬ r15 = 0 → (K r15 M16)))))) ∧ (r10 = 0 → (bk_X10_row_28 h0 K M11)))))))))))))
set_option maxRecDepth 100000 in
set_option maxHeartbeats 4000000 in
theorem ct_X10_row {M : Mm} {h0 : Nat} {p1 : Int32} {p2 : Int32} {p3 : Int64} {p4 : Int32} {K : Int32 → Mm → Prop} (h : wp_X10_row M h0 p1 p2 p3 p4 K) : CtI yX10_row cX10_row 9 (some .int) rm_X10_row [.ref h0, .int p1, .int p2, .long p3, .int p4] M K := by
  refine ct_any (QI K) (by decide) (by exact Nat.le_of_ble_eq_true rfl) (fun X hX hQ hnL hnm => ?_)
  rw [show lv_args 0 [.ref h0, .int p1, .int p2, .long p3, .int p4] = [(0, va_rf (some h0)), (1, .int p1), (2, .int p2), (3, .long p3), (5, .int p4)] by rfl]
  have hX : Ok X cX10_row RX10 rm_X10_row := hX
  unfold wp_X10_row at h
  refine z_aload_n (r := (some h0)) hX dX10_row_0 rfl 0 rfl ?_
  refine z_iload_n hX dX10_row_1 rfl 1 rfl ?_
  refine z_iload_n hX dX10_row_2 rfl 2 rfl ?_
  obtain ⟨hk3, h⟩ := h
  refine z_callVR (As := [.int p1, .int p2]) (rest := []) (ci := 10) hX (ct_X10_sourceWith h) mw_RX10_76 rfl (by decide) rfl (by rfl) (by unfold RoomC; decide) (by decide) dX10_row_3 hk3 (fun r1 M2 h => ?_)
  refine z_astore (r := r1) hX [(6, va_rf r1), (0, va_rf (some h0)), (1, .int p1), (2, .int p2), (3, .long p3), (5, .int p4)] dX10_row_6 (by rw [hnL]; decide) rfl ?_
  refine z_aload (r := r1) hX dX10_row_8 0 rfl ?_
  obtain ⟨h1, h2⟩ := h
  refine z_ifnull (r := r1) (tgt := 28) hX dX10_row_10 (by decide) (fun hc => ?_) (fun a5 ha6 => ?_)
  · have h := h1 hc
    refine z_loc [] rfl ?_
    exact zb_X10_row_28 hX hQ hnL h
  · have h := h2 a5 ha6
    refine z_lload_n hX dX10_row_13 rfl 4 rfl ?_
    refine z_callSI (As := [.long p3]) (rest := []) hX (ct_X10_isTime h) mw_RX10_80 rfl (by rfl) (by unfold RoomC; decide) (by decide) dX10_row_14 (fun r7 M8 h => ?_)
    obtain ⟨h1, h2⟩ := h
    refine z_if_eq (tgt := 28) hX dX10_row_17 (by decide) (fun hc => ?_) (fun hc => ?_)
    · have h := h1 hc
      refine z_loc [] rfl ?_
      exact zb_X10_row_28 hX hQ hnL h
    · have h := h2 hc
      refine z_iload hX dX10_row_20 5 rfl ?_
      refine z_callSI (As := [.int p4]) (rest := []) hX (ct_X10_isKey h) mw_RX10_84 rfl (by rfl) (by unfold RoomC; decide) (by decide) dX10_row_22 (fun r10 M11 h => ?_)
      obtain ⟨h1, h2⟩ := h
      refine z_if_ne (tgt := 30) hX dX10_row_25 (by decide) (fun hc => ?_) (fun hc => ?_)
      · have h := h1 hc
        refine z_aload_n (r := (some h0)) hX dX10_row_30 rfl 1 rfl ?_
        obtain ⟨hk13, h⟩ := h
        refine gf_RX10_31 (r := (some h0)) hX dX10_row_31 rfl hk13 ?_
        refine z_aload (r := r1) hX dX10_row_34 0 rfl ?_
        obtain ⟨hk14, h⟩ := h
        refine gf_RX10_88 (r := r1) hX dX10_row_36 ha6 hk14 ?_
        refine z_iload_n hX dX10_row_39 rfl 3 rfl ?_
        obtain ⟨a17, ha18, h⟩ := h
        obtain ⟨hk19, h⟩ := h
        refine z_callVI (As := [va_rf (mR M11 393 a5), .int p2]) (rest := []) (ci := 1) hX (ct_X1_refusalOf h) mw_RX10_94 rfl (by decide) rfl (by rw [ha18]; rfl) (by unfold RoomC; decide) (by decide) dX10_row_40 hk19 (fun r15 M16 h => ?_)
        refine z_istore (i := 7) hX [(7, .int r15), (6, va_rf r1), (0, va_rf (some h0)), (1, .int p1), (2, .int p2), (3, .long p3), (5, .int p4)] dX10_row_43 (by rw [hnL]; decide) (by simp [cat_rf]) ?_
        refine z_iload hX dX10_row_45 0 rfl ?_
        obtain ⟨h1, h2⟩ := h
        refine z_if_eq (tgt := 53) hX dX10_row_47 (by decide) (fun hc => ?_) (fun hc => ?_)
        · have h := h1 hc
          refine z_aload_n (r := (some h0)) hX dX10_row_53 rfl 2 rfl ?_
          obtain ⟨hk21, h⟩ := h
          refine gf_RX10_31 (r := (some h0)) hX dX10_row_54 rfl hk21 ?_
          refine z_aload (r := r1) hX dX10_row_57 1 rfl ?_
          refine z_iload_n hX dX10_row_59 rfl 4 rfl ?_
          refine z_lload_n hX dX10_row_60 rfl 5 rfl ?_
          refine z_iload hX dX10_row_61 6 rfl ?_
          obtain ⟨a24, ha25, h⟩ := h
          obtain ⟨hk26, h⟩ := h
          refine z_callVI (As := [va_rf r1, .int p2, .long p3, .int p4]) (rest := []) (ci := 1) hX (ct_X1_takeRow h) mw_RX10_98 rfl (by decide) rfl (by rw [ha25]; rfl) (by unfold RoomC; decide) (by decide) dX10_row_63 hk26 (fun r22 M23 h => ?_)
          refine z_istore hX [(8, .int r22), (7, .int r15), (6, va_rf r1), (0, va_rf (some h0)), (1, .int p1), (2, .int p2), (3, .long p3), (5, .int p4)] dX10_row_66 (by rw [hnL]; decide) rfl ?_
          refine z_aload_n (r := (some h0)) hX dX10_row_68 rfl 3 rfl ?_
          obtain ⟨hk28, h⟩ := h
          refine gf_RX10_31 (r := (some h0)) hX dX10_row_69 rfl hk28 ?_
          obtain ⟨a31, ha32, h⟩ := h
          obtain ⟨hk33, h⟩ := h
          refine z_callVV (As := []) (rest := []) (ci := 1) hX (ct_X1_reckon h) mw_RX10_102 rfl (by decide) rfl (by rw [ha32]; rfl) (by unfold RoomC; decide) (by decide) dX10_row_72 hk33 (fun M30 h => ?_)
          refine z_iload hX dX10_row_75 0 rfl ?_
          exact z_iret hX hQ dX10_row_77 h
        · have h := h2 hc
          refine z_iload hX dX10_row_50 0 rfl ?_
          exact z_iret hX hQ dX10_row_52 h
      · have h := h2 hc
        refine z_loc [] rfl ?_
        exact zb_X10_row_28 hX hQ hnL h
def rm_X10_mark : Room := { frames := 311, cells := 0, slots := 0, locals := 12261 }
def bk_X10_mark_20 (h0 : Nat) (K : Int32 → Mm → Prop) (M : Mm) : Prop := (K (-1 : Int32) M)
set_option maxRecDepth 100000 in
set_option maxHeartbeats 4000000 in
theorem zb_X10_mark_20 {X : Cx} {h0 : Nat} {K : Int32 → Mm → Prop} (hX : Ok X cX10_mark RX10 rm_X10_mark) (hQ : Rq X rm_X10_mark (some .int) (QI K)) (hnL : X.2.2.2.2.2.2.2.2.2.2.2.2.2.2 = 8) {M : Mm} (h : bk_X10_mark_20 h0 K M) : Z X M 0 0 20 [] [] := by
  unfold bk_X10_mark_20 at h
  refine z_iconst (v := (-1 : Int32)) hX dX10_mark_20 (by decide) ?_
  exact z_iret hX hQ dX10_mark_21 h
def bk_X10_mark_90 (h0 : Nat) (K : Int32 → Mm → Prop) (s0 : Int32) (M : Mm) : Prop := (K s0 M)
set_option maxRecDepth 100000 in
set_option maxHeartbeats 4000000 in
theorem zb_X10_mark_90 {X : Cx} {h0 : Nat} {K : Int32 → Mm → Prop} (hX : Ok X cX10_mark RX10 rm_X10_mark) (hQ : Rq X rm_X10_mark (some .int) (QI K)) (hnL : X.2.2.2.2.2.2.2.2.2.2.2.2.2.2 = 8) {s0 : Int32} {M : Mm} (h : bk_X10_mark_90 h0 K s0 M) : Z X M 0 0 90 [] [.int s0] := by
  unfold bk_X10_mark_90 at h
  exact z_iret hX hQ dX10_mark_90 h
def wp_X10_mark (M : Mm) (h0 : Nat) (p1 : Int32) (p2 : Int32) (p3 : Int64) (K : Int32 → Mm → Prop) : Prop := mK M h0 = 11 ∧ (wp_X10_sourceWith M h0 p1 p2 (fun r1 M2 => ((r1 = none → (bk_X10_mark_20 h0 K M2)) ∧ (∀ a5, r1 = some a5 → (wp_X10_isTime M2 p3 (fun r7 M8 => ((¬ r7 = 0 → mK M8 h0 = 11 ∧ mK M8 a5 = 7 ∧ ∃ a14, (mR M8 644 h0) = some a14 ∧ mK M8 a14 = 2 ∧ (wp_X1_refusalOf M8 a14 (mR M8 393 a5) p2 (fun r12 M13 => ((r12 = 0 → mK M13 a5 = 7 ∧ mK M13 h0 = 11 ∧ ∃ a20, (mR M13 644 h0) = some a20 ∧ mK M13 a20 = 2 ∧ ∃ a25, (mR M13 393 a5) = some a25 ∧ mK M13 a25 = 6 ∧ (wp_X5_hear M13 a25 p2 (mI M13 70 a20) (fun M24 => mK M24 a5 = 7 ∧ ∃ a32, (mR M24 393 a5) = some a32 ∧ mK M24 a32 = 6 ∧ (wp_X5_raise M24 a32 p2 p3 (fun r30 M31 => mK M31 h0 = 11 ∧ ∃ a39, (mR M31 644 h0) = some a39 ∧ mK M31 a39 = 2 ∧ (wp_X1_reckon M31 a39 (fun M38 => ((r30 = 0 → (bk_X10_mark_90 h0 K (0 : Int32) M38)) ∧ (¬ r30 = 0 → (bk_X10_mark_90 h0 K (1 : Int32) M38)))))))))) ∧ (¬ r12 = 0 → (K r12 M13)))))) ∧ (r7 = 0 → (bk_X10_mark_20 h0 K M8)))))))))
set_option maxRecDepth 100000 in
set_option maxHeartbeats 4000000 in
theorem ct_X10_mark {M : Mm} {h0 : Nat} {p1 : Int32} {p2 : Int32} {p3 : Int64} {K : Int32 → Mm → Prop} (h : wp_X10_mark M h0 p1 p2 p3 K) : CtI yX10_mark cX10_mark 8 (some .int) rm_X10_mark [.ref h0, .int p1, .int p2, .long p3] M K := by
  refine ct_any (QI K) (by decide) (by exact Nat.le_of_ble_eq_true rfl) (fun X hX hQ hnL hnm => ?_)
  rw [show lv_args 0 [.ref h0, .int p1, .int p2, .long p3] = [(0, va_rf (some h0)), (1, .int p1), (2, .int p2), (3, .long p3)] by rfl]
  have hX : Ok X cX10_mark RX10 rm_X10_mark := hX
  unfold wp_X10_mark at h
  refine z_aload_n (r := (some h0)) hX dX10_mark_0 rfl 0 rfl ?_
  refine z_iload_n hX dX10_mark_1 rfl 1 rfl ?_
  refine z_iload_n hX dX10_mark_2 rfl 2 rfl ?_
  obtain ⟨hk3, h⟩ := h
  refine z_callVR (As := [.int p1, .int p2]) (rest := []) (ci := 10) hX (ct_X10_sourceWith h) mw_RX10_76 rfl (by decide) rfl (by rfl) (by unfold RoomC; decide) (by decide) dX10_mark_3 hk3 (fun r1 M2 h => ?_)
  refine z_astore (r := r1) hX [(5, va_rf r1), (0, va_rf (some h0)), (1, .int p1), (2, .int p2), (3, .long p3)] dX10_mark_6 (by rw [hnL]; decide) rfl ?_
  refine z_aload (r := r1) hX dX10_mark_8 0 rfl ?_
  obtain ⟨h1, h2⟩ := h
  refine z_ifnull (r := r1) (tgt := 20) hX dX10_mark_10 (by decide) (fun hc => ?_) (fun a5 ha6 => ?_)
  · have h := h1 hc
    refine z_loc [] rfl ?_
    exact zb_X10_mark_20 hX hQ hnL h
  · have h := h2 a5 ha6
    refine z_lload_n hX dX10_mark_13 rfl 4 rfl ?_
    refine z_callSI (As := [.long p3]) (rest := []) hX (ct_X10_isTime h) mw_RX10_80 rfl (by rfl) (by unfold RoomC; decide) (by decide) dX10_mark_14 (fun r7 M8 h => ?_)
    obtain ⟨h1, h2⟩ := h
    refine z_if_ne (tgt := 22) hX dX10_mark_17 (by decide) (fun hc => ?_) (fun hc => ?_)
    · have h := h1 hc
      refine z_aload_n (r := (some h0)) hX dX10_mark_22 rfl 1 rfl ?_
      obtain ⟨hk10, h⟩ := h
      refine gf_RX10_31 (r := (some h0)) hX dX10_mark_23 rfl hk10 ?_
      refine z_aload (r := r1) hX dX10_mark_26 0 rfl ?_
      obtain ⟨hk11, h⟩ := h
      refine gf_RX10_88 (r := r1) hX dX10_mark_28 ha6 hk11 ?_
      refine z_iload_n hX dX10_mark_31 rfl 3 rfl ?_
      obtain ⟨a14, ha15, h⟩ := h
      obtain ⟨hk16, h⟩ := h
      refine z_callVI (As := [va_rf (mR M8 393 a5), .int p2]) (rest := []) (ci := 1) hX (ct_X1_refusalOf h) mw_RX10_94 rfl (by decide) rfl (by rw [ha15]; rfl) (by unfold RoomC; decide) (by decide) dX10_mark_32 hk16 (fun r12 M13 h => ?_)
      refine z_istore (i := 6) hX [(6, .int r12), (5, va_rf r1), (0, va_rf (some h0)), (1, .int p1), (2, .int p2), (3, .long p3)] dX10_mark_35 (by rw [hnL]; decide) (by simp [cat_rf]) ?_
      refine z_iload hX dX10_mark_37 0 rfl ?_
      obtain ⟨h1, h2⟩ := h
      refine z_if_eq (tgt := 45) hX dX10_mark_39 (by decide) (fun hc => ?_) (fun hc => ?_)
      · have h := h1 hc
        refine z_aload (r := r1) hX dX10_mark_45 1 rfl ?_
        obtain ⟨hk18, h⟩ := h
        refine gf_RX10_88 (r := r1) hX dX10_mark_47 ha6 hk18 ?_
        refine z_iload_n hX dX10_mark_50 rfl 4 rfl ?_
        refine z_aload_n (r := (some h0)) hX dX10_mark_51 rfl 2 rfl ?_
        obtain ⟨hk19, h⟩ := h
        refine gf_RX10_31 (r := (some h0)) hX dX10_mark_52 rfl hk19 ?_
        obtain ⟨a20, ha21, h⟩ := h
        obtain ⟨hk22, h⟩ := h
        refine gf_RX10_105 (r := (mR M13 644 h0)) hX dX10_mark_55 ha21 hk22 ?_
        obtain ⟨a25, ha26, h⟩ := h
        obtain ⟨hk27, h⟩ := h
        refine z_callVV (As := [.int p2, .int (mI M13 70 a20)]) (rest := []) (ci := 5) hX (ct_X5_hear h) mw_RX10_108 rfl (by decide) rfl (by rw [ha26]; rfl) (by unfold RoomC; decide) (by decide) dX10_mark_58 hk27 (fun M24 h => ?_)
        refine z_aload (r := r1) hX dX10_mark_61 1 rfl ?_
        obtain ⟨hk29, h⟩ := h
        refine gf_RX10_88 (r := r1) hX dX10_mark_63 ha6 hk29 ?_
        refine z_iload_n hX dX10_mark_66 rfl 4 rfl ?_
        refine z_lload_n hX dX10_mark_67 rfl 5 rfl ?_
        obtain ⟨a32, ha33, h⟩ := h
        obtain ⟨hk34, h⟩ := h
        refine z_callVI (As := [.int p2, .long p3]) (rest := []) (ci := 5) hX (ct_X5_raise h) mw_RX10_114 rfl (by decide) rfl (by rw [ha33]; rfl) (by unfold RoomC; decide) (by decide) dX10_mark_68 hk34 (fun r30 M31 h => ?_)
        refine z_istore hX [(7, .int r30), (6, .int r12), (5, va_rf r1), (0, va_rf (some h0)), (1, .int p1), (2, .int p2), (3, .long p3)] dX10_mark_71 (by rw [hnL]; decide) rfl ?_
        refine z_aload_n (r := (some h0)) hX dX10_mark_73 rfl 3 rfl ?_
        obtain ⟨hk36, h⟩ := h
        refine gf_RX10_31 (r := (some h0)) hX dX10_mark_74 rfl hk36 ?_
        obtain ⟨a39, ha40, h⟩ := h
        obtain ⟨hk41, h⟩ := h
        refine z_callVV (As := []) (rest := []) (ci := 1) hX (ct_X1_reckon h) mw_RX10_102 rfl (by decide) rfl (by rw [ha40]; rfl) (by unfold RoomC; decide) (by decide) dX10_mark_77 hk41 (fun M38 h => ?_)
        refine z_iload hX dX10_mark_80 0 rfl ?_
        obtain ⟨h1, h2⟩ := h
        refine z_if_eq (tgt := 89) hX dX10_mark_82 (by decide) (fun hc => ?_) (fun hc => ?_)
        · have h := h1 hc
          refine z_iconst (v := (0 : Int32)) hX dX10_mark_89 (by decide) ?_
          refine z_loc [] rfl ?_
          exact zb_X10_mark_90 hX hQ hnL h
        · have h := h2 hc
          refine z_iconst (v := (1 : Int32)) hX dX10_mark_85 (by decide) ?_
          refine z_goto (tgt := 90) hX dX10_mark_86 (by decide) ?_
          refine z_loc [] rfl ?_
          exact zb_X10_mark_90 hX hQ hnL h
      · have h := h2 hc
        refine z_iload hX dX10_mark_42 0 rfl ?_
        exact z_iret hX hQ dX10_mark_44 h
    · have h := h2 hc
      refine z_loc [] rfl ?_
      exact zb_X10_mark_20 hX hQ hnL h
def rm_X10_end : Room := { frames := 311, cells := 0, slots := 0, locals := 12261 }
def wp_X10_end (M : Mm) (h0 : Nat) (p1 : Int32) (p2 : Int32) (K : Int32 → Mm → Prop) : Prop := mK M h0 = 11 ∧ (wp_X10_sourceWith M h0 p1 p2 (fun r1 M2 => ((r1 = none → (K (-1 : Int32) M2)) ∧ (∀ a5, r1 = some a5 → mK M2 a5 = 7 ∧ ∃ a8, (mR M2 393 a5) = some a8 ∧ mK M2 a8 = 6 ∧ ∃ a11, (mR M2 324 a8) = some a11 ∧ isA M2 a11 1 ∧ vp_in p2 (aN M2 a11) ∧ ((¬ (aI M2 a11 (p2).toNatClampNeg) = (2 : Int32) → (wp_X5_finish M2 a8 p2 (fun M16 => mK M16 h0 = 11 ∧ ∃ a21, (mR M16 644 h0) = some a21 ∧ mK M16 a21 = 2 ∧ (wp_X1_reckon M16 a21 (fun M20 => (K (1 : Int32) M20)))))) ∧ ((aI M2 a11 (p2).toNatClampNeg) = (2 : Int32) → (K (-2 : Int32) M2)))))))
set_option maxRecDepth 100000 in
set_option maxHeartbeats 4000000 in
theorem ct_X10_end {M : Mm} {h0 : Nat} {p1 : Int32} {p2 : Int32} {K : Int32 → Mm → Prop} (h : wp_X10_end M h0 p1 p2 K) : CtI yX10_end cX10_end 4 (some .int) rm_X10_end [.ref h0, .int p1, .int p2] M K := by
  refine ct_any (QI K) (by decide) (by exact Nat.le_of_ble_eq_true rfl) (fun X hX hQ hnL hnm => ?_)
  rw [show lv_args 0 [.ref h0, .int p1, .int p2] = [(0, va_rf (some h0)), (1, .int p1), (2, .int p2)] by rfl]
  have hX : Ok X cX10_end RX10 rm_X10_end := hX
  unfold wp_X10_end at h
  refine z_aload_n (r := (some h0)) hX dX10_end_0 rfl 0 rfl ?_
  refine z_iload_n hX dX10_end_1 rfl 1 rfl ?_
  refine z_iload_n hX dX10_end_2 rfl 2 rfl ?_
  obtain ⟨hk3, h⟩ := h
  refine z_callVR (As := [.int p1, .int p2]) (rest := []) (ci := 10) hX (ct_X10_sourceWith h) mw_RX10_76 rfl (by decide) rfl (by rfl) (by unfold RoomC; decide) (by decide) dX10_end_3 hk3 (fun r1 M2 h => ?_)
  refine z_astore_n (r := r1) hX [(3, va_rf r1), (0, va_rf (some h0)), (1, .int p1), (2, .int p2)] dX10_end_6 rfl (by rw [hnL]; decide) rfl ?_
  refine z_aload_n (r := r1) hX dX10_end_7 rfl 0 rfl ?_
  obtain ⟨h1, h2⟩ := h
  refine z_ifnonnull (r := r1) (tgt := 13) hX dX10_end_8 (by decide) (fun a5 ha6 => ?_) (fun hc => ?_)
  · have h := h2 a5 ha6
    refine z_aload_n (r := r1) hX dX10_end_13 rfl 0 rfl ?_
    obtain ⟨hk7, h⟩ := h
    refine gf_RX10_88 (r := r1) hX dX10_end_14 ha6 hk7 ?_
    obtain ⟨a8, ha9, h⟩ := h
    obtain ⟨hk10, h⟩ := h
    refine gf_RX10_118 (r := (mR M2 393 a5)) hX dX10_end_17 ha9 hk10 ?_
    refine z_iload_n hX dX10_end_20 rfl 3 rfl ?_
    obtain ⟨a11, ha12, h⟩ := h
    obtain ⟨hk13, h⟩ := h
    obtain ⟨hc14, h⟩ := h
    refine y_iald (r := (mR M2 324 a8)) hX dX10_end_21 ha12 hk13 hc14 ?_
    refine z_iconst (v := (2 : Int32)) hX dX10_end_22 (by decide) ?_
    obtain ⟨h1, h2⟩ := h
    refine z_icmp_ne (tgt := 29) hX dX10_end_23 (by decide) (fun hc => ?_) (fun hc => ?_)
    · have h := h1 hc
      refine z_aload_n (r := r1) hX dX10_end_29 rfl 0 rfl ?_
      refine gf_RX10_88 (r := r1) hX dX10_end_30 ha6 hk7 ?_
      refine z_iload_n hX dX10_end_33 rfl 3 rfl ?_
      refine z_callVV (As := [.int p2]) (rest := []) (ci := 5) hX (ct_X5_finish h) mw_RX10_122 rfl (by decide) rfl (by rw [ha9]; rfl) (by unfold RoomC; decide) (by decide) dX10_end_34 hk10 (fun M16 h => ?_)
      refine z_aload_n (r := (some h0)) hX dX10_end_37 rfl 1 rfl ?_
      obtain ⟨hk18, h⟩ := h
      refine gf_RX10_31 (r := (some h0)) hX dX10_end_38 rfl hk18 ?_
      obtain ⟨a21, ha22, h⟩ := h
      obtain ⟨hk23, h⟩ := h
      refine z_callVV (As := []) (rest := []) (ci := 1) hX (ct_X1_reckon h) mw_RX10_102 rfl (by decide) rfl (by rw [ha22]; rfl) (by unfold RoomC; decide) (by decide) dX10_end_41 hk23 (fun M20 h => ?_)
      refine z_iconst (v := (1 : Int32)) hX dX10_end_44 (by decide) ?_
      exact z_iret hX hQ dX10_end_45 h
    · have h := h2 hc
      refine z_bipush (v := (-2 : Int32)) hX dX10_end_26 (by decide) ?_
      exact z_iret hX hQ dX10_end_28 h
  · have h := h1 hc
    refine z_iconst (v := (-1 : Int32)) hX dX10_end_11 (by decide) ?_
    exact z_iret hX hQ dX10_end_12 h
def rm_X10_idle : Room := { frames := 311, cells := 0, slots := 0, locals := 12261 }
def bk_X10_idle_87 (h0 : Nat) (K : Int32 → Mm → Prop) (M : Mm) : Prop := mK M h0 = 11 ∧ ∃ a4, (mR M 644 h0) = some a4 ∧ mK M a4 = 2 ∧ (wp_X1_reckon M a4 (fun M3 => (K (1 : Int32) M3)))
set_option maxRecDepth 100000 in
set_option maxHeartbeats 4000000 in
theorem zb_X10_idle_87 {X : Cx} {h0 : Nat} {K : Int32 → Mm → Prop} (hX : Ok X cX10_idle RX10 rm_X10_idle) (hQ : Rq X rm_X10_idle (some .int) (QI K)) (hnL : X.2.2.2.2.2.2.2.2.2.2.2.2.2.2 = 6) {M : Mm} (h : bk_X10_idle_87 h0 K M) : Z X M 0 0 87 [(0, va_rf (some h0))] [] := by
  unfold bk_X10_idle_87 at h
  refine z_aload_n (r := (some h0)) hX dX10_idle_87 rfl 0 rfl ?_
  obtain ⟨hk1, h⟩ := h
  refine gf_RX10_31 (r := (some h0)) hX dX10_idle_88 rfl hk1 ?_
  obtain ⟨a4, ha5, h⟩ := h
  obtain ⟨hk6, h⟩ := h
  refine z_callVV (As := []) (rest := []) (ci := 1) hX (ct_X1_reckon h) mw_RX10_102 rfl (by decide) rfl (by rw [ha5]; rfl) (by unfold RoomC; decide) (by decide) dX10_idle_91 hk6 (fun M3 h => ?_)
  refine z_iconst (v := (1 : Int32)) hX dX10_idle_94 (by decide) ?_
  exact z_iret hX hQ dX10_idle_95 h
def bk_X10_idle_47 (h0 : Nat) (K : Int32 → Mm → Prop) (l2 : Int32) (l3 : Int32) (l4 : Option Nat) (s0 : Int32) (M : Mm) : Prop := ((¬ s0 = l3 → ((l3 = 0 → ∃ a8, l4 = some a8 ∧ mK M a8 = 7 ∧ mK M h0 = 11 ∧ ∃ a12, (mR M 644 h0) = some a12 ∧ mK M a12 = 2 ∧ ∃ a17, (mR M 393 a8) = some a17 ∧ mK M a17 = 6 ∧ (wp_X5_hear M a17 l2 (mI M 70 a12) (fun M16 => (bk_X10_idle_87 h0 K M16)))) ∧ (¬ l3 = 0 → ∃ a21, l4 = some a21 ∧ mK M a21 = 7 ∧ ∃ a24, (mR M 393 a21) = some a24 ∧ mK M a24 = 6 ∧ ∃ a27, (mR M 324 a24) = some a27 ∧ isA M a27 1 ∧ vp_in l2 (aN M a27) ∧ (bk_X10_idle_87 h0 K (tI M a27 (l2).toNatClampNeg (1 : Int32)))))) ∧ (s0 = l3 → (K (0 : Int32) M)))
set_option maxRecDepth 100000 in
set_option maxHeartbeats 4000000 in
theorem zb_X10_idle_47 {X : Cx} {h0 : Nat} {K : Int32 → Mm → Prop} (hX : Ok X cX10_idle RX10 rm_X10_idle) (hQ : Rq X rm_X10_idle (some .int) (QI K)) (hnL : X.2.2.2.2.2.2.2.2.2.2.2.2.2.2 = 6) {l2 : Int32} {l3 : Int32} {l4 : Option Nat} {s0 : Int32} {M : Mm} (h : bk_X10_idle_47 h0 K l2 l3 l4 s0 M) : Z X M 0 0 47 [(0, va_rf (some h0)), (2, .int l2), (3, .int l3), (4, va_rf l4)] [.int s0] := by
  unfold bk_X10_idle_47 at h
  refine z_iload_n hX dX10_idle_47 rfl 2 rfl ?_
  obtain ⟨h1, h2⟩ := h
  refine z_icmp_ne (tgt := 53) hX dX10_idle_48 (by decide) (fun hc => ?_) (fun hc => ?_)
  · have h := h1 hc
    refine z_iload_n hX dX10_idle_53 rfl 2 rfl ?_
    obtain ⟨h1, h2⟩ := h
    refine z_if_eq (tgt := 71) hX dX10_idle_54 (by decide) (fun hc => ?_) (fun hc => ?_)
    · have h := h1 hc
      refine z_aload (r := l4) hX dX10_idle_71 3 rfl ?_
      obtain ⟨a8, ha9, h⟩ := h
      obtain ⟨hk10, h⟩ := h
      refine gf_RX10_88 (r := l4) hX dX10_idle_73 ha9 hk10 ?_
      refine z_iload_n hX dX10_idle_76 rfl 1 rfl ?_
      refine z_aload_n (r := (some h0)) hX dX10_idle_77 rfl 0 rfl ?_
      obtain ⟨hk11, h⟩ := h
      refine gf_RX10_31 (r := (some h0)) hX dX10_idle_78 rfl hk11 ?_
      obtain ⟨a12, ha13, h⟩ := h
      obtain ⟨hk14, h⟩ := h
      refine gf_RX10_105 (r := (mR M 644 h0)) hX dX10_idle_81 ha13 hk14 ?_
      obtain ⟨a17, ha18, h⟩ := h
      obtain ⟨hk19, h⟩ := h
      refine z_callVV (As := [.int l2, .int (mI M 70 a12)]) (rest := []) (ci := 5) hX (ct_X5_hear h) mw_RX10_108 rfl (by decide) rfl (by rw [ha18]; rfl) (by unfold RoomC; decide) (by decide) dX10_idle_84 hk19 (fun M16 h => ?_)
      refine z_loc [0] rfl ?_
      exact zb_X10_idle_87 hX hQ hnL h
    · have h := h2 hc
      refine z_aload (r := l4) hX dX10_idle_57 3 rfl ?_
      obtain ⟨a21, ha22, h⟩ := h
      obtain ⟨hk23, h⟩ := h
      refine gf_RX10_88 (r := l4) hX dX10_idle_59 ha22 hk23 ?_
      obtain ⟨a24, ha25, h⟩ := h
      obtain ⟨hk26, h⟩ := h
      refine gf_RX10_118 (r := (mR M 393 a21)) hX dX10_idle_62 ha25 hk26 ?_
      refine z_iload_n hX dX10_idle_65 rfl 1 rfl ?_
      refine z_iconst (v := (1 : Int32)) hX dX10_idle_66 (by decide) ?_
      obtain ⟨a27, ha28, h⟩ := h
      obtain ⟨hk29, h⟩ := h
      obtain ⟨hc30, h⟩ := h
      refine y_iast (r := (mR M 324 a24)) hX dX10_idle_67 ha28 hk29 hc30 ?_
      refine z_goto (tgt := 87) hX dX10_idle_68 (by decide) ?_
      refine z_loc [0] rfl ?_
      exact zb_X10_idle_87 hX hQ hnL h
  · have h := h2 hc
    refine z_iconst (v := (0 : Int32)) hX dX10_idle_51 (by decide) ?_
    exact z_iret hX hQ dX10_idle_52 h
def wp_X10_idle (M : Mm) (h0 : Nat) (p1 : Int32) (p2 : Int32) (p3 : Int32) (K : Int32 → Mm → Prop) : Prop := mK M h0 = 11 ∧ (wp_X10_sourceWith M h0 p1 p2 (fun r31 M32 => ((r31 = none → (K (-1 : Int32) M32)) ∧ (∀ a35, r31 = some a35 → mK M32 a35 = 7 ∧ ∃ a38, (mR M32 393 a35) = some a38 ∧ mK M32 a38 = 6 ∧ ∃ a41, (mR M32 324 a38) = some a41 ∧ isA M32 a41 1 ∧ vp_in p2 (aN M32 a41) ∧ ((¬ (aI M32 a41 (p2).toNatClampNeg) = (2 : Int32) → ((¬ (aI M32 a41 (p2).toNatClampNeg) = (1 : Int32) → (bk_X10_idle_47 h0 K p2 p3 r31 (0 : Int32) M32)) ∧ ((aI M32 a41 (p2).toNatClampNeg) = (1 : Int32) → (bk_X10_idle_47 h0 K p2 p3 r31 (1 : Int32) M32)))) ∧ ((aI M32 a41 (p2).toNatClampNeg) = (2 : Int32) → (K (-2 : Int32) M32)))))))
set_option maxRecDepth 100000 in
set_option maxHeartbeats 4000000 in
theorem ct_X10_idle {M : Mm} {h0 : Nat} {p1 : Int32} {p2 : Int32} {p3 : Int32} {K : Int32 → Mm → Prop} (h : wp_X10_idle M h0 p1 p2 p3 K) : CtI yX10_idle cX10_idle 6 (some .int) rm_X10_idle [.ref h0, .int p1, .int p2, .int p3] M K := by
  refine ct_any (QI K) (by decide) (by exact Nat.le_of_ble_eq_true rfl) (fun X hX hQ hnL hnm => ?_)
  rw [show lv_args 0 [.ref h0, .int p1, .int p2, .int p3] = [(0, va_rf (some h0)), (1, .int p1), (2, .int p2), (3, .int p3)] by rfl]
  have hX : Ok X cX10_idle RX10 rm_X10_idle := hX
  unfold wp_X10_idle at h
  refine z_aload_n (r := (some h0)) hX dX10_idle_0 rfl 0 rfl ?_
  refine z_iload_n hX dX10_idle_1 rfl 1 rfl ?_
  refine z_iload_n hX dX10_idle_2 rfl 2 rfl ?_
  obtain ⟨hk33, h⟩ := h
  refine z_callVR (As := [.int p1, .int p2]) (rest := []) (ci := 10) hX (ct_X10_sourceWith h) mw_RX10_76 rfl (by decide) rfl (by rfl) (by unfold RoomC; decide) (by decide) dX10_idle_3 hk33 (fun r31 M32 h => ?_)
  refine z_astore (r := r31) hX [(4, va_rf r31), (0, va_rf (some h0)), (1, .int p1), (2, .int p2), (3, .int p3)] dX10_idle_6 (by rw [hnL]; decide) rfl ?_
  refine z_aload (r := r31) hX dX10_idle_8 0 rfl ?_
  obtain ⟨h1, h2⟩ := h
  refine z_ifnonnull (r := r31) (tgt := 15) hX dX10_idle_10 (by decide) (fun a35 ha36 => ?_) (fun hc => ?_)
  · have h := h2 a35 ha36
    refine z_aload (r := r31) hX dX10_idle_15 0 rfl ?_
    obtain ⟨hk37, h⟩ := h
    refine gf_RX10_88 (r := r31) hX dX10_idle_17 ha36 hk37 ?_
    obtain ⟨a38, ha39, h⟩ := h
    obtain ⟨hk40, h⟩ := h
    refine gf_RX10_118 (r := (mR M32 393 a35)) hX dX10_idle_20 ha39 hk40 ?_
    refine z_iload_n hX dX10_idle_23 rfl 3 rfl ?_
    obtain ⟨a41, ha42, h⟩ := h
    obtain ⟨hk43, h⟩ := h
    obtain ⟨hc44, h⟩ := h
    refine y_iald (r := (mR M32 324 a38)) hX dX10_idle_24 ha42 hk43 hc44 ?_
    refine z_istore (i := 5) hX [(5, .int (aI M32 a41 (p2).toNatClampNeg)), (4, va_rf r31), (0, va_rf (some h0)), (1, .int p1), (2, .int p2), (3, .int p3)] dX10_idle_25 (by rw [hnL]; decide) (by simp [cat_rf]) ?_
    refine z_iload hX dX10_idle_27 0 rfl ?_
    refine z_iconst (v := (2 : Int32)) hX dX10_idle_29 (by decide) ?_
    obtain ⟨h1, h2⟩ := h
    refine z_icmp_ne (tgt := 36) hX dX10_idle_30 (by decide) (fun hc => ?_) (fun hc => ?_)
    · have h := h1 hc
      refine z_iload hX dX10_idle_36 0 rfl ?_
      refine z_iconst (v := (1 : Int32)) hX dX10_idle_38 (by decide) ?_
      obtain ⟨h1, h2⟩ := h
      refine z_icmp_ne (tgt := 46) hX dX10_idle_39 (by decide) (fun hc => ?_) (fun hc => ?_)
      · have h := h1 hc
        refine z_iconst (v := (0 : Int32)) hX dX10_idle_46 (by decide) ?_
        refine z_loc [2, 4, 5, 1] rfl ?_
        exact zb_X10_idle_47 hX hQ hnL h
      · have h := h2 hc
        refine z_iconst (v := (1 : Int32)) hX dX10_idle_42 (by decide) ?_
        refine z_goto (tgt := 47) hX dX10_idle_43 (by decide) ?_
        refine z_loc [2, 4, 5, 1] rfl ?_
        exact zb_X10_idle_47 hX hQ hnL h
    · have h := h2 hc
      refine z_bipush (v := (-2 : Int32)) hX dX10_idle_33 (by decide) ?_
      exact z_iret hX hQ dX10_idle_35 h
  · have h := h1 hc
    refine z_iconst (v := (-1 : Int32)) hX dX10_idle_13 (by decide) ?_
    exact z_iret hX hQ dX10_idle_14 h
def rm_X10_turn : Room := { frames := 311, cells := 0, slots := 0, locals := 12261 }
def bk_X10_turn_19 (h0 : Nat) (K : Int32 → Mm → Prop) (M : Mm) : Prop := (K (-1 : Int32) M)
set_option maxRecDepth 100000 in
set_option maxHeartbeats 4000000 in
theorem zb_X10_turn_19 {X : Cx} {h0 : Nat} {K : Int32 → Mm → Prop} (hX : Ok X cX10_turn RX10 rm_X10_turn) (hQ : Rq X rm_X10_turn (some .int) (QI K)) (hnL : X.2.2.2.2.2.2.2.2.2.2.2.2.2.2 = 3) {M : Mm} (h : bk_X10_turn_19 h0 K M) : Z X M 0 0 19 [] [] := by
  unfold bk_X10_turn_19 at h
  refine z_iconst (v := (-1 : Int32)) hX dX10_turn_19 (by decide) ?_
  exact z_iret hX hQ dX10_turn_20 h
def wp_X10_turn (M : Mm) (h0 : Nat) (p1 : Int32) (K : Int32 → Mm → Prop) : Prop := mK M h0 = 11 ∧ (((mR M 644 h0) = none → (bk_X10_turn_19 h0 K M)) ∧ (∀ a2, (mR M 644 h0) = some a2 → ((p1 < (1 : Int32) → (bk_X10_turn_19 h0 K M)) ∧ (¬ p1 < (1 : Int32) → ((p1 ≤ (1000 : Int32) → mK M a2 = 2 ∧ (wp_X1_goOn M a2 p1 (fun r4 M5 => mK M5 h0 = 11 ∧ ∃ a11, (mR M5 644 h0) = some a11 ∧ mK M5 a11 = 2 ∧ (wp_X1_reckon M5 a11 (fun M10 => (K r4 M10)))))) ∧ (¬ p1 ≤ (1000 : Int32) → (bk_X10_turn_19 h0 K M)))))))
set_option maxRecDepth 100000 in
set_option maxHeartbeats 4000000 in
theorem ct_X10_turn {M : Mm} {h0 : Nat} {p1 : Int32} {K : Int32 → Mm → Prop} (h : wp_X10_turn M h0 p1 K) : CtI yX10_turn cX10_turn 3 (some .int) rm_X10_turn [.ref h0, .int p1] M K := by
  refine ct_any (QI K) (by decide) (by exact Nat.le_of_ble_eq_true rfl) (fun X hX hQ hnL hnm => ?_)
  rw [show lv_args 0 [.ref h0, .int p1] = [(0, va_rf (some h0)), (1, .int p1)] by rfl]
  have hX : Ok X cX10_turn RX10 rm_X10_turn := hX
  unfold wp_X10_turn at h
  refine z_aload_n (r := (some h0)) hX dX10_turn_0 rfl 0 rfl ?_
  obtain ⟨hk1, h⟩ := h
  refine gf_RX10_31 (r := (some h0)) hX dX10_turn_1 rfl hk1 ?_
  obtain ⟨h1, h2⟩ := h
  refine z_ifnull (r := (mR M 644 h0)) (tgt := 19) hX dX10_turn_4 (by decide) (fun hc => ?_) (fun a2 ha3 => ?_)
  · have h := h1 hc
    refine z_loc [] rfl ?_
    exact zb_X10_turn_19 hX hQ hnL h
  · have h := h2 a2 ha3
    refine z_iload_n hX dX10_turn_7 rfl 1 rfl ?_
    refine z_iconst (v := (1 : Int32)) hX dX10_turn_8 (by decide) ?_
    obtain ⟨h1, h2⟩ := h
    refine z_icmp_lt (tgt := 19) hX dX10_turn_9 (by decide) (fun hc => ?_) (fun hc => ?_)
    · have h := h1 hc
      refine z_loc [] rfl ?_
      exact zb_X10_turn_19 hX hQ hnL h
    · have h := h2 hc
      refine z_iload_n hX dX10_turn_12 rfl 1 rfl ?_
      refine z_sipush (v := (1000 : Int32)) hX dX10_turn_13 (by decide) ?_
      obtain ⟨h1, h2⟩ := h
      refine z_icmp_le (tgt := 21) hX dX10_turn_16 (by decide) (fun hc => ?_) (fun hc => ?_)
      · have h := h1 hc
        refine z_aload_n (r := (some h0)) hX dX10_turn_21 rfl 0 rfl ?_
        refine gf_RX10_31 (r := (some h0)) hX dX10_turn_22 rfl hk1 ?_
        refine z_iload_n hX dX10_turn_25 rfl 1 rfl ?_
        obtain ⟨hk6, h⟩ := h
        refine z_callVI (As := [.int p1]) (rest := []) (ci := 1) hX (ct_X1_goOn h) mw_RX10_125 rfl (by decide) rfl (by rw [ha3]; rfl) (by unfold RoomC; decide) (by decide) dX10_turn_26 hk6 (fun r4 M5 h => ?_)
        refine z_istore_n hX [(2, .int r4), (0, va_rf (some h0)), (1, .int p1)] dX10_turn_29 rfl (by rw [hnL]; decide) rfl ?_
        refine z_aload_n (r := (some h0)) hX dX10_turn_30 rfl 1 rfl ?_
        obtain ⟨hk8, h⟩ := h
        refine gf_RX10_31 (r := (some h0)) hX dX10_turn_31 rfl hk8 ?_
        obtain ⟨a11, ha12, h⟩ := h
        obtain ⟨hk13, h⟩ := h
        refine z_callVV (As := []) (rest := []) (ci := 1) hX (ct_X1_reckon h) mw_RX10_102 rfl (by decide) rfl (by rw [ha12]; rfl) (by unfold RoomC; decide) (by decide) dX10_turn_34 hk13 (fun M10 h => ?_)
        refine z_iload_n hX dX10_turn_37 rfl 0 rfl ?_
        exact z_iret hX hQ dX10_turn_38 h
      · have h := h2 hc
        refine z_loc [] rfl ?_
        exact zb_X10_turn_19 hX hQ hnL h
def rm_X10_hold : Room := { frames := 311, cells := 0, slots := 0, locals := 12261 }
def bk_X10_hold_31 (h0 : Nat) (K : Int32 → Mm → Prop) (M : Mm) : Prop := (K (-1 : Int32) M)
set_option maxRecDepth 100000 in
set_option maxHeartbeats 4000000 in
theorem zb_X10_hold_31 {X : Cx} {h0 : Nat} {K : Int32 → Mm → Prop} (hX : Ok X cX10_hold RX10 rm_X10_hold) (hQ : Rq X rm_X10_hold (some .int) (QI K)) (hnL : X.2.2.2.2.2.2.2.2.2.2.2.2.2.2 = 6) {M : Mm} (h : bk_X10_hold_31 h0 K M) : Z X M 0 0 31 [] [] := by
  unfold bk_X10_hold_31 at h
  refine z_iconst (v := (-1 : Int32)) hX dX10_hold_31 (by decide) ?_
  exact z_iret hX hQ dX10_hold_32 h
def wp_X10_hold (M : Mm) (h0 : Nat) (p1 : Int32) (p2 : Int64) (K : Int32 → Mm → Prop) : Prop := mK M h0 = 11 ∧ (wp_X10_streamOrNull M h0 p1 (fun r1 M2 => ((r1 = none → (bk_X10_hold_31 h0 K M2)) ∧ (∀ a5, r1 = some a5 → mK M2 a5 = 7 ∧ ((¬ (mJ M2 386 a5) = (1752132708 : Int64) → (bk_X10_hold_31 h0 K M2)) ∧ ((mJ M2 386 a5) = (1752132708 : Int64) → (wp_X10_isTime M2 p2 (fun r8 M9 => ((¬ r8 = 0 → mK M9 h0 = 11 ∧ ∃ a12, (mR M9 644 h0) = some a12 ∧ mK M9 a12 = 2 ∧ ∃ a15, (mR M9 68 a12) = some a15 ∧ mK M9 a15 = 9 ∧ (((mI M9 515 a15) < (60 : Int32) → mK M9 a5 = 7 ∧ (((mJ M9 390 a5) < p2 → (wp_X8_give M9 a15 p1 p2 (fun r19 M20 => mK M20 h0 = 11 ∧ ∃ a25, (mR M20 644 h0) = some a25 ∧ mK M20 a25 = 2 ∧ (wp_X1_reckon M20 a25 (fun M24 => (K r19 M24)))))) ∧ (¬ (mJ M9 390 a5) < p2 → (K (-5 : Int32) M9)))) ∧ (¬ (mI M9 515 a15) < (60 : Int32) → (K (-4 : Int32) M9)))) ∧ (r8 = 0 → (bk_X10_hold_31 h0 K M9)))))))))))
set_option maxRecDepth 100000 in
set_option maxHeartbeats 4000000 in
theorem ct_X10_hold {M : Mm} {h0 : Nat} {p1 : Int32} {p2 : Int64} {K : Int32 → Mm → Prop} (h : wp_X10_hold M h0 p1 p2 K) : CtI yX10_hold cX10_hold 6 (some .int) rm_X10_hold [.ref h0, .int p1, .long p2] M K := by
  refine ct_any (QI K) (by decide) (by exact Nat.le_of_ble_eq_true rfl) (fun X hX hQ hnL hnm => ?_)
  rw [show lv_args 0 [.ref h0, .int p1, .long p2] = [(0, va_rf (some h0)), (1, .int p1), (2, .long p2)] by rfl]
  have hX : Ok X cX10_hold RX10 rm_X10_hold := hX
  unfold wp_X10_hold at h
  refine z_aload_n (r := (some h0)) hX dX10_hold_0 rfl 0 rfl ?_
  refine z_iload_n hX dX10_hold_1 rfl 1 rfl ?_
  obtain ⟨hk3, h⟩ := h
  refine z_callVR (As := [.int p1]) (rest := []) (ci := 10) hX (ct_X10_streamOrNull h) mw_RX10_129 rfl (by decide) rfl (by rfl) (by unfold RoomC; decide) (by decide) dX10_hold_2 hk3 (fun r1 M2 h => ?_)
  refine z_astore (r := r1) hX [(4, va_rf r1), (0, va_rf (some h0)), (1, .int p1), (2, .long p2)] dX10_hold_5 (by rw [hnL]; decide) rfl ?_
  refine z_aload (r := r1) hX dX10_hold_7 0 rfl ?_
  obtain ⟨h1, h2⟩ := h
  refine z_ifnull (r := r1) (tgt := 31) hX dX10_hold_9 (by decide) (fun hc => ?_) (fun a5 ha6 => ?_)
  · have h := h1 hc
    refine z_loc [] rfl ?_
    exact zb_X10_hold_31 hX hQ hnL h
  · have h := h2 a5 ha6
    refine z_aload (r := r1) hX dX10_hold_12 0 rfl ?_
    obtain ⟨hk7, h⟩ := h
    refine gf_RX10_133 (r := r1) hX dX10_hold_14 ha6 hk7 ?_
    refine z_ldc2 (v := (1752132708 : Int64)) hX dX10_hold_17 kj_RX10_137 ?_
    refine z_lcmp hX dX10_hold_20 ?_
    obtain ⟨h1, h2⟩ := h
    refine z_if_ne (tgt := 31) hX dX10_hold_21 (by decide) (fun hc => ?_) (fun hc => ?_)
    · have h := h1 (fun q => hc ((lg_cmp_eq _ _).mpr q))
      refine z_loc [] rfl ?_
      exact zb_X10_hold_31 hX hQ hnL h
    · have h := h2 ((lg_cmp_eq _ _).mp hc)
      refine z_lload_n hX dX10_hold_24 rfl 3 rfl ?_
      refine z_callSI (As := [.long p2]) (rest := []) hX (ct_X10_isTime h) mw_RX10_80 rfl (by rfl) (by unfold RoomC; decide) (by decide) dX10_hold_25 (fun r8 M9 h => ?_)
      obtain ⟨h1, h2⟩ := h
      refine z_if_ne (tgt := 33) hX dX10_hold_28 (by decide) (fun hc => ?_) (fun hc => ?_)
      · have h := h1 hc
        refine z_aload_n (r := (some h0)) hX dX10_hold_33 rfl 1 rfl ?_
        obtain ⟨hk11, h⟩ := h
        refine gf_RX10_31 (r := (some h0)) hX dX10_hold_34 rfl hk11 ?_
        obtain ⟨a12, ha13, h⟩ := h
        obtain ⟨hk14, h⟩ := h
        refine gf_RX10_139 (r := (mR M9 644 h0)) hX dX10_hold_37 ha13 hk14 ?_
        obtain ⟨a15, ha16, h⟩ := h
        obtain ⟨hk17, h⟩ := h
        refine gf_RX10_143 (r := (mR M9 68 a12)) hX dX10_hold_40 ha16 hk17 ?_
        refine z_bipush (v := (60 : Int32)) hX dX10_hold_43 (by decide) ?_
        obtain ⟨h1, h2⟩ := h
        refine z_icmp_lt (tgt := 51) hX dX10_hold_45 (by decide) (fun hc => ?_) (fun hc => ?_)
        · have h := h1 hc
          refine z_lload_n hX dX10_hold_51 rfl 3 rfl ?_
          refine z_aload (r := r1) hX dX10_hold_52 0 rfl ?_
          obtain ⟨hk18, h⟩ := h
          refine gf_RX10_148 (r := r1) hX dX10_hold_54 ha6 hk18 ?_
          refine z_lcmp hX dX10_hold_57 ?_
          obtain ⟨h1, h2⟩ := h
          refine z_if_gt (tgt := 64) hX dX10_hold_58 (by decide) (fun hc => ?_) (fun hc => ?_)
          · have h := h1 ((lg_cmp_gt _ _).mp hc)
            refine z_aload_n (r := (some h0)) hX dX10_hold_64 rfl 1 rfl ?_
            refine gf_RX10_31 (r := (some h0)) hX dX10_hold_65 rfl hk11 ?_
            refine gf_RX10_139 (r := (mR M9 644 h0)) hX dX10_hold_68 ha13 hk14 ?_
            refine z_iload_n hX dX10_hold_71 rfl 2 rfl ?_
            refine z_lload_n hX dX10_hold_72 rfl 3 rfl ?_
            refine z_callVI (As := [.int p1, .long p2]) (rest := []) (ci := 8) hX (ct_X8_give h) mw_RX10_151 rfl (by decide) rfl (by rw [ha16]; rfl) (by unfold RoomC; decide) (by decide) dX10_hold_73 hk17 (fun r19 M20 h => ?_)
            refine z_istore (i := 5) hX [(5, .int r19), (4, va_rf r1), (0, va_rf (some h0)), (1, .int p1), (2, .long p2)] dX10_hold_76 (by rw [hnL]; decide) (by simp [cat_rf]) ?_
            refine z_aload_n (r := (some h0)) hX dX10_hold_78 rfl 2 rfl ?_
            obtain ⟨hk22, h⟩ := h
            refine gf_RX10_31 (r := (some h0)) hX dX10_hold_79 rfl hk22 ?_
            obtain ⟨a25, ha26, h⟩ := h
            obtain ⟨hk27, h⟩ := h
            refine z_callVV (As := []) (rest := []) (ci := 1) hX (ct_X1_reckon h) mw_RX10_102 rfl (by decide) rfl (by rw [ha26]; rfl) (by unfold RoomC; decide) (by decide) dX10_hold_82 hk27 (fun M24 h => ?_)
            refine z_iload hX dX10_hold_85 0 rfl ?_
            exact z_iret hX hQ dX10_hold_87 h
          · have h := h2 (fun q => hc ((lg_cmp_gt _ _).mpr q))
            refine z_bipush (v := (-5 : Int32)) hX dX10_hold_61 (by decide) ?_
            exact z_iret hX hQ dX10_hold_63 h
        · have h := h2 hc
          refine z_bipush (v := (-4 : Int32)) hX dX10_hold_48 (by decide) ?_
          exact z_iret hX hQ dX10_hold_50 h
      · have h := h2 hc
        refine z_loc [] rfl ?_
        exact zb_X10_hold_31 hX hQ hnL h
