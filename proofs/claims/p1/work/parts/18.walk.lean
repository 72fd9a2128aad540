def rm_X11_findKeyword : Room := { frames := 0, cells := 0, slots := 0, locals := 0 }
def lp_X11_findKeyword_4 (h0 : Nat) (K : Mm → Prop) : Nat → Int32 → Int32 → Int32 → Mm → Prop
  | 0, _, _, _, _ => False
  | n + 1, l1, l2, l3, M => False
set_option maxRecDepth 100000 in
set_option maxHeartbeats 4000000 in
theorem zl_X11_findKeyword_4 {X : Cx} {h0 : Nat} {K : Mm → Prop} (hX : Ok X cX11_findKeyword RX11 rm_X11_findKeyword) (hQ : Rq X rm_X11_findKeyword none (QV K)) (hnL : X.2.2.2.2.2.2.2.2.2.2.2.2.2.2 = 7) : ∀ (n : Nat) (l1 : Int32) (l2 : Int32) (l3 : Int32) (M : Mm), lp_X11_findKeyword_4 h0 K n l1 l2 l3 M → Z X M 0 0 4 [(0, va_rf (some h0)), (1, .int l1), (2, .int l2), (3, .int l3)] [] := by
  intro n
  induction n with
  | zero =>
    intro l1 l2 l3 M h
    exact False.elim h
  | succ n hR4 =>
    intro l1 l2 l3 M h
    refine z_iload_n hX dX11_findKeyword_4 rfl 3 rfl ?_
    exact False.elim h
def wp_X11_findKeyword (M : Mm) (h0 : Nat) (p1 : Int32) (K : Mm → Prop) : Prop := (∃ kk, lp_X11_findKeyword_4 h0 K kk p1 (0 : Int32) (0 : Int32) M)
set_option maxRecDepth 100000 in
set_option maxHeartbeats 4000000 in
theorem ct_X11_findKeyword {M : Mm} {h0 : Nat} {p1 : Int32} {K : Mm → Prop} (h : wp_X11_findKeyword M h0 p1 K) : CtV yX11_findKeyword cX11_findKeyword 7 none rm_X11_findKeyword [.ref h0, .int p1] M K := by
  refine ct_any (QV K) (by decide) (by exact Nat.le_of_ble_eq_true rfl) (fun X hX hQ hnL hnm => ?_)
  rw [show lv_args 0 [.ref h0, .int p1] = [(0, va_rf (some h0)), (1, .int p1)] by rfl]
  have hX : Ok X cX11_findKeyword RX11 rm_X11_findKeyword := hX
  unfold wp_X11_findKeyword at h
  refine z_iconst (v := (0 : Int32)) hX dX11_findKeyword_0 (by decide) ?_
  refine z_istore_n hX [(2, .int (0 : Int32)), (0, va_rf (some h0)), (1, .int p1)] dX11_findKeyword_1 rfl (by rw [hnL]; decide) rfl ?_
  refine z_iconst (v := (0 : Int32)) hX dX11_findKeyword_2 (by decide) ?_
  refine z_istore_n hX [(3, .int (0 : Int32)), (2, .int (0 : Int32)), (0, va_rf (some h0)), (1, .int p1)] dX11_findKeyword_3 rfl (by rw [hnL]; decide) rfl ?_
  refine z_loc [2, 3, 1, 0] rfl ?_
  obtain ⟨n, h⟩ := h
  exact zl_X11_findKeyword_4 hX hQ hnL n _ _ _ _ h
def rm_X11_next : Room := { frames := 1, cells := 0, slots := 0, locals := 26 }
def bk_X11_next_338 (h0 : Nat) (K : Mm → Prop) (M : Mm) : Prop := (K M)
set_option maxRecDepth 100000 in
set_option maxHeartbeats 4000000 in
theorem zb_X11_next_338 {X : Cx} {h0 : Nat} {K : Mm → Prop} (hX : Ok X cX11_next RX11 rm_X11_next) (hQ : Rq X rm_X11_next none (QV K)) (hnL : X.2.2.2.2.2.2.2.2.2.2.2.2.2.2 = 3) {M : Mm} (h : bk_X11_next_338 h0 K M) : Z X M 0 0 338 [] [] := by
  unfold bk_X11_next_338 at h
  exact z_vret hX hQ dX11_next_338 h
def bk_X11_next_319 (h0 : Nat) (K : Mm → Prop) (l1 : Int32) (s0 : Int32) (s1 : Option Nat) (M : Mm) : Prop := ∃ a1, s1 = some a1 ∧ mK M a1 = 12 ∧ mK (sI M 708 a1 s0) h0 = 12 ∧ (bk_X11_next_338 h0 K (sI (sJ (sI M 708 a1 s0) 710 h0 ((l1).toInt64)) 707 h0 ((mI (sJ (sI M 708 a1 s0) 710 h0 ((l1).toInt64)) 707 h0) + (1 : Int32))))
set_option maxRecDepth 100000 in
set_option maxHeartbeats 4000000 in
theorem zb_X11_next_319 {X : Cx} {h0 : Nat} {K : Mm → Prop} (hX : Ok X cX11_next RX11 rm_X11_next) (hQ : Rq X rm_X11_next none (QV K)) (hnL : X.2.2.2.2.2.2.2.2.2.2.2.2.2.2 = 3) {l1 : Int32} {s0 : Int32} {s1 : Option Nat} {M : Mm} (h : bk_X11_next_319 h0 K l1 s0 s1 M) : Z X M 0 0 319 [(0, va_rf (some h0)), (1, .int l1)] [.int s0, va_rf s1] := by
  unfold bk_X11_next_319 at h
  obtain ⟨a1, ha2, h⟩ := h
  obtain ⟨hk3, h⟩ := h
  refine pf_RX11_147 (r := s1) (v := s0) hX dX11_next_319 ha2 hk3 ?_
  refine z_aload_n (r := (some h0)) hX dX11_next_322 rfl 0 rfl ?_
  refine z_iload_n hX dX11_next_323 rfl 1 rfl ?_
  refine z_i2l hX dX11_next_324 ?_
  obtain ⟨hk5, h⟩ := h
  refine pf_RX11_140 (r := (some h0)) (v := ((l1).toInt64)) hX dX11_next_325 rfl hk5 ?_
  refine z_aload_n (r := (some h0)) hX dX11_next_328 rfl 0 rfl ?_
  refine z_dup hX dX11_next_329 (cat_rf _) ?_
  refine gf_RX11_130 (r := (some h0)) hX dX11_next_330 rfl hk5 ?_
  refine z_iconst (v := (1 : Int32)) hX dX11_next_333 (by decide) ?_
  refine z_iadd hX dX11_next_334 ?_
  refine pf_RX11_130 (r := (some h0)) (v := ((mI (sJ (sI M 708 a1 s0) 710 h0 ((l1).toInt64)) 707 h0) + (1 : Int32))) hX dX11_next_335 rfl hk5 ?_
  refine z_loc [] rfl ?_
  exact zb_X11_next_338 hX hQ hnL h
def bk_X11_next_314 (h0 : Nat) (K : Mm → Prop) (l1 : Int32) (s0 : Option Nat) (M : Mm) : Prop := (bk_X11_next_319 h0 K l1 (3 : Int32) s0 M)
set_option maxRecDepth 100000 in
set_option maxHeartbeats 4000000 in
theorem zb_X11_next_314 {X : Cx} {h0 : Nat} {K : Mm → Prop} (hX : Ok X cX11_next RX11 rm_X11_next) (hQ : Rq X rm_X11_next none (QV K)) (hnL : X.2.2.2.2.2.2.2.2.2.2.2.2.2.2 = 3) {l1 : Int32} {s0 : Option Nat} {M : Mm} (h : bk_X11_next_314 h0 K l1 s0 M) : Z X M 0 0 314 [(0, va_rf (some h0)), (1, .int l1)] [va_rf s0] := by
  unfold bk_X11_next_314 at h
  refine z_iconst (v := (3 : Int32)) hX dX11_next_314 (by decide) ?_
  refine z_goto (tgt := 319) hX dX11_next_315 (by decide) ?_
  exact zb_X11_next_319 hX hQ hnL h
def bk_X11_next_289 (h0 : Nat) (K : Mm → Prop) (s0 : Int32) (s1 : Option Nat) (M : Mm) : Prop := ∃ a8, s1 = some a8 ∧ mK M a8 = 12 ∧ (bk_X11_next_338 h0 K (sI M 708 a8 s0))
set_option maxRecDepth 100000 in
set_option maxHeartbeats 4000000 in
theorem zb_X11_next_289 {X : Cx} {h0 : Nat} {K : Mm → Prop} (hX : Ok X cX11_next RX11 rm_X11_next) (hQ : Rq X rm_X11_next none (QV K)) (hnL : X.2.2.2.2.2.2.2.2.2.2.2.2.2.2 = 3) {s0 : Int32} {s1 : Option Nat} {M : Mm} (h : bk_X11_next_289 h0 K s0 s1 M) : Z X M 0 0 289 [] [.int s0, va_rf s1] := by
  unfold bk_X11_next_289 at h
  obtain ⟨a8, ha9, h⟩ := h
  obtain ⟨hk10, h⟩ := h
  refine pf_RX11_147 (r := s1) (v := s0) hX dX11_next_289 ha9 hk10 ?_
  refine z_goto (tgt := 338) hX dX11_next_292 (by decide) ?_
  exact zb_X11_next_338 hX hQ hnL h
def bk_X11_next_258 (h0 : Nat) (R208 : Int32 → Mm → Prop) (K : Mm → Prop) (l2 : Int32) (s0 : Int64) (s1 : Option Nat) (M : Mm) : Prop := ∃ a12, s1 = some a12 ∧ mK M a12 = 12 ∧ mK (sJ M 710 a12 s0) h0 = 12 ∧ (R208 (l2 + 1) (sI (sJ M 710 a12 s0) 707 h0 ((mI (sJ M 710 a12 s0) 707 h0) + (1 : Int32))))
set_option maxRecDepth 100000 in
set_option maxHeartbeats 4000000 in
theorem zb_X11_next_258 {X : Cx} {h0 : Nat} {R208 : Int32 → Mm → Prop} {K : Mm → Prop} (hX : Ok X cX11_next RX11 rm_X11_next) (hQ : Rq X rm_X11_next none (QV K)) (hnL : X.2.2.2.2.2.2.2.2.2.2.2.2.2.2 = 3) (hR208 : ∀ l2 M, R208 l2 M → Z X M 0 0 208 [(0, va_rf (some h0)), (2, .int l2)] []) {l2 : Int32} {s0 : Int64} {s1 : Option Nat} {M : Mm} (h : bk_X11_next_258 h0 R208 K l2 s0 s1 M) : Z X M 0 0 258 [(0, va_rf (some h0)), (2, .int l2)] [.long s0, va_rf s1] := by
  unfold bk_X11_next_258 at h
  obtain ⟨a12, ha13, h⟩ := h
  obtain ⟨hk14, h⟩ := h
  refine pf_RX11_140 (r := s1) (v := s0) hX dX11_next_258 ha13 hk14 ?_
  refine z_aload_n (r := (some h0)) hX dX11_next_261 rfl 0 rfl ?_
  refine z_dup hX dX11_next_262 (cat_rf _) ?_
  obtain ⟨hk16, h⟩ := h
  refine gf_RX11_130 (r := (some h0)) hX dX11_next_263 rfl hk16 ?_
  refine z_iconst (v := (1 : Int32)) hX dX11_next_266 (by decide) ?_
  refine z_iadd hX dX11_next_267 ?_
  refine pf_RX11_130 (r := (some h0)) (v := ((mI (sJ M 710 a12 s0) 707 h0) + (1 : Int32))) hX dX11_next_268 rfl hk16 ?_
  refine z_iinc (v := (l2 + 1)) hX [(2, .int (l2 + 1)), (0, va_rf (some h0))] dX11_next_271 1 rfl rfl (by rw [hnL]; decide) rfl ?_
  refine z_goto (tgt := 208) hX dX11_next_274 (by decide) ?_
  refine z_loc [1, 0] rfl ?_
  exact hR208 _ _ h
def lp_X11_next_208 (h0 : Nat) (K : Mm → Prop) : Nat → Int32 → Mm → Prop
  | 0, _, _ => False
  | n + 1, l2, M => mK M h0 = 12 ∧ (wp_X11_byteAt M h0 (mI M 707 h0) (fun r19 M20 => (wp_X11_isDigit M20 r19 (fun r22 M23 => ((r22 = 0 → ((l2 ≤ (18 : Int32) → (bk_X11_next_289 h0 K (2 : Int32) (some h0) M23)) ∧ (¬ l2 ≤ (18 : Int32) → (bk_X11_next_289 h0 K (4 : Int32) (some h0) M23)))) ∧ (¬ r22 = 0 → (((18 : Int32) ≤ l2 → mK M23 h0 = 12 ∧ (bk_X11_next_258 h0 (lp_X11_next_208 h0 K n) K l2 (mJ M23 710 h0) (some h0) M23)) ∧ (¬ (18 : Int32) ≤ l2 → mK M23 h0 = 12 ∧ (wp_X11_byteAt M23 h0 (mI M23 707 h0) (fun r27 M28 => (bk_X11_next_258 h0 (lp_X11_next_208 h0 K n) K l2 ((((10 : Int64) * (mJ M23 710 h0)) + ((r27).toInt64)) - (48 : Int64)) (some h0) M28)))))))))))
set_option maxRecDepth 100000 in
set_option maxHeartbeats 4000000 in
theorem zl_X11_next_208 {X : Cx} {h0 : Nat} {K : Mm → Prop} (hX : Ok X cX11_next RX11 rm_X11_next) (hQ : Rq X rm_X11_next none (QV K)) (hnL : X.2.2.2.2.2.2.2.2.2.2.2.2.2.2 = 3) : ∀ (n : Nat) (l2 : Int32) (M : Mm), lp_X11_next_208 h0 K n l2 M → Z X M 0 0 208 [(0, va_rf (some h0)), (2, .int l2)] [] := by
  intro n
  induction n with
  | zero =>
    intro l2 M h
    exact False.elim h
  | succ n hR208 =>
    intro l2 M h
    refine z_aload_n (r := (some h0)) hX dX11_next_208 rfl 0 rfl ?_
    refine z_aload_n (r := (some h0)) hX dX11_next_209 rfl 0 rfl ?_
    obtain ⟨hk18, h⟩ := h
    refine gf_RX11_130 (r := (some h0)) hX dX11_next_210 rfl hk18 ?_
    refine z_callVI (As := [.int (mI M 707 h0)]) (rest := []) (ci := 11) hX (ct_X11_byteAt h) mw_RX11_133 rfl (by decide) rfl (by rfl) (by unfold RoomC; decide) (by decide) dX11_next_213 hk18 (fun r19 M20 h => ?_)
    refine z_callSI (As := [.int r19]) (rest := []) hX (ct_X11_isDigit h) mw_RX11_158 rfl (by rfl) (by unfold RoomC; decide) (by decide) dX11_next_216 (fun r22 M23 h => ?_)
    obtain ⟨h1, h2⟩ := h
    refine z_if_eq (tgt := 277) hX dX11_next_219 (by decide) (fun hc => ?_) (fun hc => ?_)
    · have h := h1 hc
      refine z_aload_n (r := (some h0)) hX dX11_next_277 rfl 0 rfl ?_
      refine z_iload_n hX dX11_next_278 rfl 1 rfl ?_
      refine z_bipush (v := (18 : Int32)) hX dX11_next_279 (by decide) ?_
      obtain ⟨h1, h2⟩ := h
      refine z_icmp_le (tgt := 288) hX dX11_next_281 (by decide) (fun hc => ?_) (fun hc => ?_)
      · have h := h1 hc
        refine z_iconst (v := (2 : Int32)) hX dX11_next_288 (by decide) ?_
        refine z_loc [] rfl ?_
        exact zb_X11_next_289 hX hQ hnL h
      · have h := h2 hc
        refine z_iconst (v := (4 : Int32)) hX dX11_next_284 (by decide) ?_
        refine z_goto (tgt := 289) hX dX11_next_285 (by decide) ?_
        refine z_loc [] rfl ?_
        exact zb_X11_next_289 hX hQ hnL h
    · have h := h2 hc
      refine z_aload_n (r := (some h0)) hX dX11_next_222 rfl 0 rfl ?_
      refine z_iload_n hX dX11_next_223 rfl 1 rfl ?_
      refine z_bipush (v := (18 : Int32)) hX dX11_next_224 (by decide) ?_
      obtain ⟨h1, h2⟩ := h
      refine z_icmp_ge (tgt := 254) hX dX11_next_226 (by decide) (fun hc => ?_) (fun hc => ?_)
      · have h := h1 hc
        refine z_aload_n (r := (some h0)) hX dX11_next_254 rfl 0 rfl ?_
        obtain ⟨hk25, h⟩ := h
        refine gf_RX11_140 (r := (some h0)) hX dX11_next_255 rfl hk25 ?_
        exact zb_X11_next_258 hX hQ hnL hR208 h
      · have h := h2 hc
        refine z_ldc2 (v := (10 : Int64)) hX dX11_next_229 kj_RX11_161 ?_
        refine z_aload_n (r := (some h0)) hX dX11_next_232 rfl 0 rfl ?_
        obtain ⟨hk26, h⟩ := h
        refine gf_RX11_140 (r := (some h0)) hX dX11_next_233 rfl hk26 ?_
        refine z_lmul hX dX11_next_236 ?_
        refine z_aload_n (r := (some h0)) hX dX11_next_237 rfl 0 rfl ?_
        refine z_aload_n (r := (some h0)) hX dX11_next_238 rfl 0 rfl ?_
        refine gf_RX11_130 (r := (some h0)) hX dX11_next_239 rfl hk26 ?_
        refine z_callVI (As := [.int (mI M23 707 h0)]) (rest := [.long ((10 : Int64) * (mJ M23 710 h0)), va_rf (some h0)]) (ci := 11) hX (ct_X11_byteAt h) mw_RX11_133 rfl (by decide) rfl (by rfl) (by unfold RoomC; decide) (by simp only [List.map_cons, List.map_nil, List.sum_cons, List.sum_nil, cat_rf, cat_i, cat_j]; decide) dX11_next_242 hk26 (fun r27 M28 h => ?_)
        refine z_i2l hX dX11_next_245 ?_
        refine z_ladd hX dX11_next_246 ?_
        refine z_ldc2 (v := (48 : Int64)) hX dX11_next_247 kj_RX11_163 ?_
        refine z_lsub hX dX11_next_250 ?_
        refine z_goto (tgt := 258) hX dX11_next_251 (by decide) ?_
        exact zb_X11_next_258 hX hQ hnL hR208 h
def bk_X11_next_190 (h0 : Nat) (K : Mm → Prop) (l2 : Int32) (s0 : Int32) (s1 : Option Nat) (M : Mm) : Prop := ∃ a30, s1 = some a30 ∧ mK M a30 = 12 ∧ mK (sI M 708 a30 s0) h0 = 12 ∧ (wp_X11_findKeyword (sI M 708 a30 s0) h0 l2 (fun M35 => (bk_X11_next_338 h0 K M35)))
set_option maxRecDepth 100000 in
set_option maxHeartbeats 4000000 in
theorem zb_X11_next_190 {X : Cx} {h0 : Nat} {K : Mm → Prop} (hX : Ok X cX11_next RX11 rm_X11_next) (hQ : Rq X rm_X11_next none (QV K)) (hnL : X.2.2.2.2.2.2.2.2.2.2.2.2.2.2 = 3) {l2 : Int32} {s0 : Int32} {s1 : Option Nat} {M : Mm} (h : bk_X11_next_190 h0 K l2 s0 s1 M) : Z X M 0 0 190 [(0, va_rf (some h0)), (2, .int l2)] [.int s0, va_rf s1] := by
  unfold bk_X11_next_190 at h
  obtain ⟨a30, ha31, h⟩ := h
  obtain ⟨hk32, h⟩ := h
  refine pf_RX11_147 (r := s1) (v := s0) hX dX11_next_190 ha31 hk32 ?_
  refine z_aload_n (r := (some h0)) hX dX11_next_193 rfl 0 rfl ?_
  refine z_iload_n hX dX11_next_194 rfl 1 rfl ?_
  obtain ⟨hk36, h⟩ := h
  refine z_callVV (As := [.int l2]) (rest := []) (ci := 11) hX (ct_X11_findKeyword h) mw_RX11_154 rfl (by decide) rfl (by rfl) (by unfold RoomC; decide) (by decide) dX11_next_195 hk36 (fun M35 h => ?_)
  refine z_goto (tgt := 338) hX dX11_next_198 (by decide) ?_
  refine z_loc [] rfl ?_
  exact zb_X11_next_338 hX hQ hnL h
def bk_X11_next_159 (h0 : Nat) (R110 : Int32 → Mm → Prop) (K : Mm → Prop) (l2 : Int32) (s0 : Int64) (s1 : Option Nat) (M : Mm) : Prop := ∃ a38, s1 = some a38 ∧ mK M a38 = 12 ∧ mK (sJ M 710 a38 s0) h0 = 12 ∧ (R110 (l2 + 1) (sI (sJ M 710 a38 s0) 707 h0 ((mI (sJ M 710 a38 s0) 707 h0) + (1 : Int32))))
set_option maxRecDepth 100000 in
set_option maxHeartbeats 4000000 in
theorem zb_X11_next_159 {X : Cx} {h0 : Nat} {R110 : Int32 → Mm → Prop} {K : Mm → Prop} (hX : Ok X cX11_next RX11 rm_X11_next) (hQ : Rq X rm_X11_next none (QV K)) (hnL : X.2.2.2.2.2.2.2.2.2.2.2.2.2.2 = 3) (hR110 : ∀ l2 M, R110 l2 M → Z X M 0 0 110 [(0, va_rf (some h0)), (2, .int l2)] []) {l2 : Int32} {s0 : Int64} {s1 : Option Nat} {M : Mm} (h : bk_X11_next_159 h0 R110 K l2 s0 s1 M) : Z X M 0 0 159 [(0, va_rf (some h0)), (2, .int l2)] [.long s0, va_rf s1] := by
  unfold bk_X11_next_159 at h
  obtain ⟨a38, ha39, h⟩ := h
  obtain ⟨hk40, h⟩ := h
  refine pf_RX11_140 (r := s1) (v := s0) hX dX11_next_159 ha39 hk40 ?_
  refine z_aload_n (r := (some h0)) hX dX11_next_162 rfl 0 rfl ?_
  refine z_dup hX dX11_next_163 (cat_rf _) ?_
  obtain ⟨hk42, h⟩ := h
  refine gf_RX11_130 (r := (some h0)) hX dX11_next_164 rfl hk42 ?_
  refine z_iconst (v := (1 : Int32)) hX dX11_next_167 (by decide) ?_
  refine z_iadd hX dX11_next_168 ?_
  refine pf_RX11_130 (r := (some h0)) (v := ((mI (sJ M 710 a38 s0) 707 h0) + (1 : Int32))) hX dX11_next_169 rfl hk42 ?_
  refine z_iinc (v := (l2 + 1)) hX [(2, .int (l2 + 1)), (0, va_rf (some h0))] dX11_next_172 1 rfl rfl (by rw [hnL]; decide) rfl ?_
  refine z_goto (tgt := 110) hX dX11_next_175 (by decide) ?_
  refine z_loc [1, 0] rfl ?_
  exact hR110 _ _ h
def lp_X11_next_110 (h0 : Nat) (K : Mm → Prop) : Nat → Int32 → Mm → Prop
  | 0, _, _ => False
  | n + 1, l2, M => mK M h0 = 12 ∧ (wp_X11_byteAt M h0 (mI M 707 h0) (fun r45 M46 => (wp_X11_isLetter M46 r45 (fun r48 M49 => ((r48 = 0 → ((l2 ≤ (8 : Int32) → (bk_X11_next_190 h0 K l2 (1 : Int32) (some h0) M49)) ∧ (¬ l2 ≤ (8 : Int32) → (bk_X11_next_190 h0 K l2 (4 : Int32) (some h0) M49)))) ∧ (¬ r48 = 0 → (((8 : Int32) ≤ l2 → mK M49 h0 = 12 ∧ (bk_X11_next_159 h0 (lp_X11_next_110 h0 K n) K l2 (mJ M49 710 h0) (some h0) M49)) ∧ (¬ (8 : Int32) ≤ l2 → mK M49 h0 = 12 ∧ (wp_X11_byteAt M49 h0 (mI M49 707 h0) (fun r53 M54 => (bk_X11_next_159 h0 (lp_X11_next_110 h0 K n) K l2 (((mJ M49 710 h0) <<< (((5 : Int32)).toInt64 &&& 63)) ||| ((((r53 - (97 : Int32)) + (1 : Int32))).toInt64)) (some h0) M54)))))))))))
set_option maxRecDepth 100000 in
set_option maxHeartbeats 4000000 in
theorem zl_X11_next_110 {X : Cx} {h0 : Nat} {K : Mm → Prop} (hX : Ok X cX11_next RX11 rm_X11_next) (hQ : Rq X rm_X11_next none (QV K)) (hnL : X.2.2.2.2.2.2.2.2.2.2.2.2.2.2 = 3) : ∀ (n : Nat) (l2 : Int32) (M : Mm), lp_X11_next_110 h0 K n l2 M → Z X M 0 0 110 [(0, va_rf (some h0)), (2, .int l2)] [] := by
  intro n
  induction n with
  | zero =>
    intro l2 M h
    exact False.elim h
  | succ n hR110 =>
    intro l2 M h
    refine z_aload_n (r := (some h0)) hX dX11_next_110 rfl 0 rfl ?_
    refine z_aload_n (r := (some h0)) hX dX11_next_111 rfl 0 rfl ?_
    obtain ⟨hk44, h⟩ := h
    refine gf_RX11_130 (r := (some h0)) hX dX11_next_112 rfl hk44 ?_
    refine z_callVI (As := [.int (mI M 707 h0)]) (rest := []) (ci := 11) hX (ct_X11_byteAt h) mw_RX11_133 rfl (by decide) rfl (by rfl) (by unfold RoomC; decide) (by decide) dX11_next_115 hk44 (fun r45 M46 h => ?_)
    refine z_callSI (As := [.int r45]) (rest := []) hX (ct_X11_isLetter h) mw_RX11_150 rfl (by rfl) (by unfold RoomC; decide) (by decide) dX11_next_118 (fun r48 M49 h => ?_)
    obtain ⟨h1, h2⟩ := h
    refine z_if_eq (tgt := 178) hX dX11_next_121 (by decide) (fun hc => ?_) (fun hc => ?_)
    · have h := h1 hc
      refine z_aload_n (r := (some h0)) hX dX11_next_178 rfl 0 rfl ?_
      refine z_iload_n hX dX11_next_179 rfl 1 rfl ?_
      refine z_bipush (v := (8 : Int32)) hX dX11_next_180 (by decide) ?_
      obtain ⟨h1, h2⟩ := h
      refine z_icmp_le (tgt := 189) hX dX11_next_182 (by decide) (fun hc => ?_) (fun hc => ?_)
      · have h := h1 hc
        refine z_iconst (v := (1 : Int32)) hX dX11_next_189 (by decide) ?_
        exact zb_X11_next_190 hX hQ hnL h
      · have h := h2 hc
        refine z_iconst (v := (4 : Int32)) hX dX11_next_185 (by decide) ?_
        refine z_goto (tgt := 190) hX dX11_next_186 (by decide) ?_
        exact zb_X11_next_190 hX hQ hnL h
    · have h := h2 hc
      refine z_aload_n (r := (some h0)) hX dX11_next_124 rfl 0 rfl ?_
      refine z_iload_n hX dX11_next_125 rfl 1 rfl ?_
      refine z_bipush (v := (8 : Int32)) hX dX11_next_126 (by decide) ?_
      obtain ⟨h1, h2⟩ := h
      refine z_icmp_ge (tgt := 155) hX dX11_next_128 (by decide) (fun hc => ?_) (fun hc => ?_)
      · have h := h1 hc
        refine z_aload_n (r := (some h0)) hX dX11_next_155 rfl 0 rfl ?_
        obtain ⟨hk51, h⟩ := h
        refine gf_RX11_140 (r := (some h0)) hX dX11_next_156 rfl hk51 ?_
        exact zb_X11_next_159 hX hQ hnL hR110 h
      · have h := h2 hc
        refine z_aload_n (r := (some h0)) hX dX11_next_131 rfl 0 rfl ?_
        obtain ⟨hk52, h⟩ := h
        refine gf_RX11_140 (r := (some h0)) hX dX11_next_132 rfl hk52 ?_
        refine z_iconst (v := (5 : Int32)) hX dX11_next_135 (by decide) ?_
        refine z_lshl hX dX11_next_136 ?_
        refine z_aload_n (r := (some h0)) hX dX11_next_137 rfl 0 rfl ?_
        refine z_aload_n (r := (some h0)) hX dX11_next_138 rfl 0 rfl ?_
        refine gf_RX11_130 (r := (some h0)) hX dX11_next_139 rfl hk52 ?_
        refine z_callVI (As := [.int (mI M49 707 h0)]) (rest := [.long ((mJ M49 710 h0) <<< (((5 : Int32)).toInt64 &&& 63)), va_rf (some h0)]) (ci := 11) hX (ct_X11_byteAt h) mw_RX11_133 rfl (by decide) rfl (by rfl) (by unfold RoomC; decide) (by simp only [List.map_cons, List.map_nil, List.sum_cons, List.sum_nil, cat_rf, cat_i, cat_j]; decide) dX11_next_142 hk52 (fun r53 M54 h => ?_)
        refine z_bipush (v := (97 : Int32)) hX dX11_next_145 (by decide) ?_
        refine z_isub hX dX11_next_147 ?_
        refine z_iconst (v := (1 : Int32)) hX dX11_next_148 (by decide) ?_
        refine z_iadd hX dX11_next_149 ?_
        refine z_i2l hX dX11_next_150 ?_
        refine z_lor hX dX11_next_151 ?_
        refine z_goto (tgt := 159) hX dX11_next_152 (by decide) ?_
        exact zb_X11_next_159 hX hQ hnL hR110 h
def bk_X11_next_66 (h0 : Nat) (K : Mm → Prop) (l1 : Int32) (M : Mm) : Prop := mK M h0 = 12 ∧ (((mI (sI (sJ (sI M 709 h0 (mI M 707 h0)) 710 h0 (0 : Int64)) 711 h0 (-1 : Int32)) 707 h0) < (mI (sI (sJ (sI M 709 h0 (mI M 707 h0)) 710 h0 (0 : Int64)) 711 h0 (-1 : Int32)) 706 h0) → (wp_X11_isLetter (sI (sJ (sI M 709 h0 (mI M 707 h0)) 710 h0 (0 : Int64)) 711 h0 (-1 : Int32)) l1 (fun r60 M61 => ((r60 = 0 → (wp_X11_isDigit M61 l1 (fun r63 M64 => ((r63 = 0 → ((l1 = (61 : Int32) → (bk_X11_next_314 h0 K l1 (some h0) M64)) ∧ (¬ l1 = (61 : Int32) → ((l1 = (59 : Int32) → (bk_X11_next_314 h0 K l1 (some h0) M64)) ∧ (¬ l1 = (59 : Int32) → ((¬ l1 = (45 : Int32) → (bk_X11_next_319 h0 K l1 (4 : Int32) (some h0) M64)) ∧ (l1 = (45 : Int32) → (bk_X11_next_314 h0 K l1 (some h0) M64)))))))) ∧ (¬ r63 = 0 → (∃ kk, lp_X11_next_208 h0 K kk (0 : Int32) M64)))))) ∧ (¬ r60 = 0 → (∃ kk, lp_X11_next_110 h0 K kk (0 : Int32) M61)))))) ∧ (¬ (mI (sI (sJ (sI M 709 h0 (mI M 707 h0)) 710 h0 (0 : Int64)) 711 h0 (-1 : Int32)) 707 h0) < (mI (sI (sJ (sI M 709 h0 (mI M 707 h0)) 710 h0 (0 : Int64)) 711 h0 (-1 : Int32)) 706 h0) → (K (sI (sI (sJ (sI M 709 h0 (mI M 707 h0)) 710 h0 (0 : Int64)) 711 h0 (-1 : Int32)) 708 h0 (0 : Int32)))))
set_option maxRecDepth 100000 in
set_option maxHeartbeats 4000000 in
theorem zb_X11_next_66 {X : Cx} {h0 : Nat} {K : Mm → Prop} (hX : Ok X cX11_next RX11 rm_X11_next) (hQ : Rq X rm_X11_next none (QV K)) (hnL : X.2.2.2.2.2.2.2.2.2.2.2.2.2.2 = 3) {l1 : Int32} {M : Mm} (h : bk_X11_next_66 h0 K l1 M) : Z X M 0 0 66 [(0, va_rf (some h0)), (1, .int l1)] [] := by
  unfold bk_X11_next_66 at h
  refine z_aload_n (r := (some h0)) hX dX11_next_66 rfl 0 rfl ?_
  refine z_aload_n (r := (some h0)) hX dX11_next_67 rfl 0 rfl ?_
  obtain ⟨hk56, h⟩ := h
  refine gf_RX11_130 (r := (some h0)) hX dX11_next_68 rfl hk56 ?_
  refine pf_RX11_137 (r := (some h0)) (v := (mI M 707 h0)) hX dX11_next_71 rfl hk56 ?_
  refine z_aload_n (r := (some h0)) hX dX11_next_74 rfl 0 rfl ?_
  refine z_lconst (v := (0 : Int64)) hX dX11_next_75 (by decide) ?_
  refine pf_RX11_140 (r := (some h0)) (v := (0 : Int64)) hX dX11_next_76 rfl hk56 ?_
  refine z_aload_n (r := (some h0)) hX dX11_next_79 rfl 0 rfl ?_
  refine z_iconst (v := (-1 : Int32)) hX dX11_next_80 (by decide) ?_
  refine pf_RX11_144 (r := (some h0)) (v := (-1 : Int32)) hX dX11_next_81 rfl hk56 ?_
  refine z_aload_n (r := (some h0)) hX dX11_next_84 rfl 0 rfl ?_
  refine gf_RX11_130 (r := (some h0)) hX dX11_next_85 rfl hk56 ?_
  refine z_aload_n (r := (some h0)) hX dX11_next_88 rfl 0 rfl ?_
  refine gf_RX11_127 (r := (some h0)) hX dX11_next_89 rfl hk56 ?_
  obtain ⟨h1, h2⟩ := h
  refine z_icmp_lt (tgt := 101) hX dX11_next_92 (by decide) (fun hc => ?_) (fun hc => ?_)
  · have h := h1 hc
    refine z_iconst (v := (0 : Int32)) hX dX11_next_101 (by decide) ?_
    refine z_istore_n hX [(2, .int (0 : Int32)), (0, va_rf (some h0)), (1, .int l1)] dX11_next_102 rfl (by rw [hnL]; decide) rfl ?_
    refine z_iload_n hX dX11_next_103 rfl 2 rfl ?_
    refine z_callSI (As := [.int l1]) (rest := []) hX (ct_X11_isLetter h) mw_RX11_150 rfl (by rfl) (by unfold RoomC; decide) (by decide) dX11_next_104 (fun r60 M61 h => ?_)
    obtain ⟨h1, h2⟩ := h
    refine z_if_eq (tgt := 201) hX dX11_next_107 (by decide) (fun hc => ?_) (fun hc => ?_)
    · have h := h1 hc
      refine z_iload_n hX dX11_next_201 rfl 2 rfl ?_
      refine z_callSI (As := [.int l1]) (rest := []) hX (ct_X11_isDigit h) mw_RX11_158 rfl (by rfl) (by unfold RoomC; decide) (by decide) dX11_next_202 (fun r63 M64 h => ?_)
      obtain ⟨h1, h2⟩ := h
      refine z_if_eq (tgt := 295) hX dX11_next_205 (by decide) (fun hc => ?_) (fun hc => ?_)
      · have h := h1 hc
        refine z_aload_n (r := (some h0)) hX dX11_next_295 rfl 1 rfl ?_
        refine z_iload_n hX dX11_next_296 rfl 2 rfl ?_
        refine z_bipush (v := (61 : Int32)) hX dX11_next_297 (by decide) ?_
        obtain ⟨h1, h2⟩ := h
        refine z_icmp_eq (tgt := 314) hX dX11_next_299 (by decide) (fun hc => ?_) (fun hc => ?_)
        · have h := h1 hc
          refine z_loc [1, 2] rfl ?_
          exact zb_X11_next_314 hX hQ hnL h
        · have h := h2 hc
          refine z_iload_n hX dX11_next_302 rfl 2 rfl ?_
          refine z_bipush (v := (59 : Int32)) hX dX11_next_303 (by decide) ?_
          obtain ⟨h1, h2⟩ := h
          refine z_icmp_eq (tgt := 314) hX dX11_next_305 (by decide) (fun hc => ?_) (fun hc => ?_)
          · have h := h1 hc
            refine z_loc [1, 2] rfl ?_
            exact zb_X11_next_314 hX hQ hnL h
          · have h := h2 hc
            refine z_iload_n hX dX11_next_308 rfl 2 rfl ?_
            refine z_bipush (v := (45 : Int32)) hX dX11_next_309 (by decide) ?_
            obtain ⟨h1, h2⟩ := h
            refine z_icmp_ne (tgt := 318) hX dX11_next_311 (by decide) (fun hc => ?_) (fun hc => ?_)
            · have h := h1 hc
              refine z_iconst (v := (4 : Int32)) hX dX11_next_318 (by decide) ?_
              refine z_loc [1, 2] rfl ?_
              exact zb_X11_next_319 hX hQ hnL h
            · have h := h2 hc
              refine z_loc [1, 2] rfl ?_
              exact zb_X11_next_314 hX hQ hnL h
      · have h := h2 hc
        refine z_loc [1, 0] rfl ?_
        obtain ⟨n, h⟩ := h
        exact zl_X11_next_208 hX hQ hnL n _ _ h
    · have h := h2 hc
      refine z_loc [1, 0] rfl ?_
      obtain ⟨n, h⟩ := h
      exact zl_X11_next_110 hX hQ hnL n _ _ h
  · have h := h2 hc
    refine z_aload_n (r := (some h0)) hX dX11_next_95 rfl 0 rfl ?_
    refine z_iconst (v := (0 : Int32)) hX dX11_next_96 (by decide) ?_
    refine pf_RX11_147 (r := (some h0)) (v := (0 : Int32)) hX dX11_next_97 rfl hk56 ?_
    exact z_vret hX hQ dX11_next_100 h
def bk_X11_next_44 (h0 : Nat) (R9 : Int32 → Mm → Prop) (K : Mm → Prop) (M : Mm) : Prop := mK M h0 = 12 ∧ (wp_X11_byteAt (sI M 707 h0 ((mI M 707 h0) + (1 : Int32))) h0 (mI (sI M 707 h0 ((mI M 707 h0) + (1 : Int32))) 707 h0) (fun r69 M70 => (R9 r69 M70)))
set_option maxRecDepth 100000 in
set_option maxHeartbeats 4000000 in
theorem zb_X11_next_44 {X : Cx} {h0 : Nat} {R9 : Int32 → Mm → Prop} {K : Mm → Prop} (hX : Ok X cX11_next RX11 rm_X11_next) (hQ : Rq X rm_X11_next none (QV K)) (hnL : X.2.2.2.2.2.2.2.2.2.2.2.2.2.2 = 3) (hR9 : ∀ l1 M, R9 l1 M → Z X M 0 0 9 [(0, va_rf (some h0)), (1, .int l1)] []) {M : Mm} (h : bk_X11_next_44 h0 R9 K M) : Z X M 0 0 44 [(0, va_rf (some h0))] [] := by
  unfold bk_X11_next_44 at h
  refine z_aload_n (r := (some h0)) hX dX11_next_44 rfl 0 rfl ?_
  refine z_dup hX dX11_next_45 (cat_rf _) ?_
  obtain ⟨hk67, h⟩ := h
  refine gf_RX11_130 (r := (some h0)) hX dX11_next_46 rfl hk67 ?_
  refine z_iconst (v := (1 : Int32)) hX dX11_next_49 (by decide) ?_
  refine z_iadd hX dX11_next_50 ?_
  refine pf_RX11_130 (r := (some h0)) (v := ((mI M 707 h0) + (1 : Int32))) hX dX11_next_51 rfl hk67 ?_
  refine z_aload_n (r := (some h0)) hX dX11_next_54 rfl 0 rfl ?_
  refine z_aload_n (r := (some h0)) hX dX11_next_55 rfl 0 rfl ?_
  refine gf_RX11_130 (r := (some h0)) hX dX11_next_56 rfl hk67 ?_
  refine z_callVI (As := [.int (mI (sI M 707 h0 ((mI M 707 h0) + (1 : Int32))) 707 h0)]) (rest := []) (ci := 11) hX (ct_X11_byteAt h) mw_RX11_133 rfl (by decide) rfl (by rfl) (by unfold RoomC; decide) (by decide) dX11_next_59 hk67 (fun r69 M70 h => ?_)
  refine z_istore_n hX [(1, .int r69), (0, va_rf (some h0))] dX11_next_62 rfl (by rw [hnL]; decide) rfl ?_
  refine z_goto (tgt := 9) hX dX11_next_63 (by decide) ?_
  refine z_loc [1, 0] rfl ?_
  exact hR9 _ _ h
def lp_X11_next_9 (h0 : Nat) (K : Mm → Prop) : Nat → Int32 → Mm → Prop
  | 0, _, _ => False
  | n + 1, l1, M => mK M h0 = 12 ∧ (((mI M 706 h0) ≤ (mI M 707 h0) → (bk_X11_next_66 h0 K l1 M)) ∧ (¬ (mI M 706 h0) ≤ (mI M 707 h0) → ((l1 = (9 : Int32) → (bk_X11_next_44 h0 (lp_X11_next_9 h0 K n) K M)) ∧ (¬ l1 = (9 : Int32) → ((l1 = (10 : Int32) → (bk_X11_next_44 h0 (lp_X11_next_9 h0 K n) K M)) ∧ (¬ l1 = (10 : Int32) → ((l1 = (13 : Int32) → (bk_X11_next_44 h0 (lp_X11_next_9 h0 K n) K M)) ∧ (¬ l1 = (13 : Int32) → ((¬ l1 = (32 : Int32) → (bk_X11_next_66 h0 K l1 M)) ∧ (l1 = (32 : Int32) → (bk_X11_next_44 h0 (lp_X11_next_9 h0 K n) K M)))))))))))
set_option maxRecDepth 100000 in
set_option maxHeartbeats 4000000 in
theorem zl_X11_next_9 {X : Cx} {h0 : Nat} {K : Mm → Prop} (hX : Ok X cX11_next RX11 rm_X11_next) (hQ : Rq X rm_X11_next none (QV K)) (hnL : X.2.2.2.2.2.2.2.2.2.2.2.2.2.2 = 3) : ∀ (n : Nat) (l1 : Int32) (M : Mm), lp_X11_next_9 h0 K n l1 M → Z X M 0 0 9 [(0, va_rf (some h0)), (1, .int l1)] [] := by
  intro n
  induction n with
  | zero =>
    intro l1 M h
    exact False.elim h
  | succ n hR9 =>
    intro l1 M h
    refine z_aload_n (r := (some h0)) hX dX11_next_9 rfl 0 rfl ?_
    obtain ⟨hk72, h⟩ := h
    refine gf_RX11_130 (r := (some h0)) hX dX11_next_10 rfl hk72 ?_
    refine z_aload_n (r := (some h0)) hX dX11_next_13 rfl 0 rfl ?_
    refine gf_RX11_127 (r := (some h0)) hX dX11_next_14 rfl hk72 ?_
    obtain ⟨h1, h2⟩ := h
    refine z_icmp_ge (tgt := 66) hX dX11_next_17 (by decide) (fun hc => ?_) (fun hc => ?_)
    · have h := h1 hc
      exact zb_X11_next_66 hX hQ hnL h
    · have h := h2 hc
      refine z_iload_n hX dX11_next_20 rfl 1 rfl ?_
      refine z_bipush (v := (9 : Int32)) hX dX11_next_21 (by decide) ?_
      obtain ⟨h1, h2⟩ := h
      refine z_icmp_eq (tgt := 44) hX dX11_next_23 (by decide) (fun hc => ?_) (fun hc => ?_)
      · have h := h1 hc
        refine z_loc [0] rfl ?_
        exact zb_X11_next_44 hX hQ hnL hR9 h
      · have h := h2 hc
        refine z_iload_n hX dX11_next_26 rfl 1 rfl ?_
        refine z_bipush (v := (10 : Int32)) hX dX11_next_27 (by decide) ?_
        obtain ⟨h1, h2⟩ := h
        refine z_icmp_eq (tgt := 44) hX dX11_next_29 (by decide) (fun hc => ?_) (fun hc => ?_)
        · have h := h1 hc
          refine z_loc [0] rfl ?_
          exact zb_X11_next_44 hX hQ hnL hR9 h
        · have h := h2 hc
          refine z_iload_n hX dX11_next_32 rfl 1 rfl ?_
          refine z_bipush (v := (13 : Int32)) hX dX11_next_33 (by decide) ?_
          obtain ⟨h1, h2⟩ := h
          refine z_icmp_eq (tgt := 44) hX dX11_next_35 (by decide) (fun hc => ?_) (fun hc => ?_)
          · have h := h1 hc
            refine z_loc [0] rfl ?_
            exact zb_X11_next_44 hX hQ hnL hR9 h
          · have h := h2 hc
            refine z_iload_n hX dX11_next_38 rfl 1 rfl ?_
            refine z_bipush (v := (32 : Int32)) hX dX11_next_39 (by decide) ?_
            obtain ⟨h1, h2⟩ := h
            refine z_icmp_ne (tgt := 66) hX dX11_next_41 (by decide) (fun hc => ?_) (fun hc => ?_)
            · have h := h1 hc
              exact zb_X11_next_66 hX hQ hnL h
            · have h := h2 hc
              refine z_loc [0] rfl ?_
              exact zb_X11_next_44 hX hQ hnL hR9 h
def wp_X11_next (M : Mm) (h0 : Nat) (K : Mm → Prop) : Prop := mK M h0 = 12 ∧ (wp_X11_byteAt M h0 (mI M 707 h0) (fun r74 M75 => (∃ kk, lp_X11_next_9 h0 K kk r74 M75)))
set_option maxRecDepth 100000 in
set_option maxHeartbeats 4000000 in
theorem ct_X11_next {M : Mm} {h0 : Nat} {K : Mm → Prop} (h : wp_X11_next M h0 K) : CtV yX11_next cX11_next 3 none rm_X11_next [.ref h0] M K := by
  refine ct_any (QV K) (by decide) (by exact Nat.le_of_ble_eq_true rfl) (fun X hX hQ hnL hnm => ?_)
  rw [show lv_args 0 [.ref h0] = [(0, va_rf (some h0))] by rfl]
  have hX : Ok X cX11_next RX11 rm_X11_next := hX
  unfold wp_X11_next at h
  refine z_aload_n (r := (some h0)) hX dX11_next_0 rfl 0 rfl ?_
  refine z_aload_n (r := (some h0)) hX dX11_next_1 rfl 0 rfl ?_
  obtain ⟨hk73, h⟩ := h
  refine gf_RX11_130 (r := (some h0)) hX dX11_next_2 rfl hk73 ?_
  refine z_callVI (As := [.int (mI M 707 h0)]) (rest := []) (ci := 11) hX (ct_X11_byteAt h) mw_RX11_133 rfl (by decide) rfl (by rfl) (by unfold RoomC; decide) (by decide) dX11_next_5 hk73 (fun r74 M75 h => ?_)
  refine z_istore_n hX [(1, .int r74), (0, va_rf (some h0))] dX11_next_8 rfl (by rw [hnL]; decide) rfl ?_
  refine z_loc [1, 0] rfl ?_
  obtain ⟨n, h⟩ := h
  exact zl_X11_next_9 hX hQ hnL n _ _ h
def rm_X11_takeKeyword : Room := { frames := 2, cells := 0, slots := 0, locals := 48 }
def bk_X11_takeKeyword_30 (h0 : Nat) (K : Mm → Prop) (M : Mm) : Prop := (K M)
set_option maxRecDepth 100000 in
set_option maxHeartbeats 4000000 in
theorem zb_X11_takeKeyword_30 {X : Cx} {h0 : Nat} {K : Mm → Prop} (hX : Ok X cX11_takeKeyword RX11 rm_X11_takeKeyword) (hQ : Rq X rm_X11_takeKeyword none (QV K)) (hnL : X.2.2.2.2.2.2.2.2.2.2.2.2.2.2 = 2) {M : Mm} (h : bk_X11_takeKeyword_30 h0 K M) : Z X M 0 0 30 [] [] := by
  unfold bk_X11_takeKeyword_30 at h
  exact z_vret hX hQ dX11_takeKeyword_30 h
def bk_X11_takeKeyword_19 (h0 : Nat) (K : Mm → Prop) (M : Mm) : Prop := mK M h0 = 12 ∧ (wp_X11_good M h0 (fun r1 M2 => ((r1 = 0 → (bk_X11_takeKeyword_30 h0 K M2)) ∧ (¬ r1 = 0 → mK M2 h0 = 12 ∧ (wp_X11_next M2 h0 (fun M6 => (bk_X11_takeKeyword_30 h0 K M6)))))))
set_option maxRecDepth 100000 in
set_option maxHeartbeats 4000000 in
theorem zb_X11_takeKeyword_19 {X : Cx} {h0 : Nat} {K : Mm → Prop} (hX : Ok X cX11_takeKeyword RX11 rm_X11_takeKeyword) (hQ : Rq X rm_X11_takeKeyword none (QV K)) (hnL : X.2.2.2.2.2.2.2.2.2.2.2.2.2.2 = 2) {M : Mm} (h : bk_X11_takeKeyword_19 h0 K M) : Z X M 0 0 19 [(0, va_rf (some h0))] [] := by
  unfold bk_X11_takeKeyword_19 at h
  refine z_aload_n (r := (some h0)) hX dX11_takeKeyword_19 rfl 0 rfl ?_
  obtain ⟨hk3, h⟩ := h
  refine z_callVI (As := []) (rest := []) (ci := 11) hX (ct_X11_good h) mw_RX11_190 rfl (by decide) rfl (by rfl) (by unfold RoomC; decide) (by decide) dX11_takeKeyword_20 hk3 (fun r1 M2 h => ?_)
  obtain ⟨h1, h2⟩ := h
  refine z_if_eq (tgt := 30) hX dX11_takeKeyword_23 (by decide) (fun hc => ?_) (fun hc => ?_)
  · have h := h1 hc
    refine z_loc [] rfl ?_
    exact zb_X11_takeKeyword_30 hX hQ hnL h
  · have h := h2 hc
    refine z_aload_n (r := (some h0)) hX dX11_takeKeyword_26 rfl 0 rfl ?_
    obtain ⟨hk7, h⟩ := h
    refine z_callVV (As := []) (rest := []) (ci := 11) hX (ct_X11_next h) mw_RX11_200 rfl (by decide) rfl (by rfl) (by unfold RoomC; decide) (by decide) dX11_takeKeyword_27 hk7 (fun M6 h => ?_)
    refine z_loc [] rfl ?_
    exact zb_X11_takeKeyword_30 hX hQ hnL h
def wp_X11_takeKeyword (M : Mm) (h0 : Nat) (p1 : Int32) (K : Mm → Prop) : Prop := mK M h0 = 12 ∧ (wp_X11_good M h0 (fun r9 M10 => ((r9 = 0 → (bk_X11_takeKeyword_19 h0 K M10)) ∧ (¬ r9 = 0 → mK M10 h0 = 12 ∧ (wp_X11_isKeyword M10 h0 p1 (fun r13 M14 => ((¬ r13 = 0 → (bk_X11_takeKeyword_19 h0 K M14)) ∧ (r13 = 0 → mK M14 h0 = 12 ∧ (wp_X11_misplaced M14 h0 (fun M18 => (bk_X11_takeKeyword_19 h0 K M18)))))))))))
set_option maxRecDepth 100000 in
set_option maxHeartbeats 4000000 in
theorem ct_X11_takeKeyword {M : Mm} {h0 : Nat} {p1 : Int32} {K : Mm → Prop} (h : wp_X11_takeKeyword M h0 p1 K) : CtV yX11_takeKeyword cX11_takeKeyword 2 none rm_X11_takeKeyword [.ref h0, .int p1] M K := by
  refine ct_any (QV K) (by decide) (by exact Nat.le_of_ble_eq_true rfl) (fun X hX hQ hnL hnm => ?_)
  rw [show lv_args 0 [.ref h0, .int p1] = [(0, va_rf (some h0)), (1, .int p1)] by rfl]
  have hX : Ok X cX11_takeKeyword RX11 rm_X11_takeKeyword := hX
  unfold wp_X11_takeKeyword at h
  refine z_aload_n (r := (some h0)) hX dX11_takeKeyword_0 rfl 0 rfl ?_
  obtain ⟨hk11, h⟩ := h
  refine z_callVI (As := []) (rest := []) (ci := 11) hX (ct_X11_good h) mw_RX11_190 rfl (by decide) rfl (by rfl) (by unfold RoomC; decide) (by decide) dX11_takeKeyword_1 hk11 (fun r9 M10 h => ?_)
  obtain ⟨h1, h2⟩ := h
  refine z_if_eq (tgt := 19) hX dX11_takeKeyword_4 (by decide) (fun hc => ?_) (fun hc => ?_)
  · have h := h1 hc
    refine z_loc [0] rfl ?_
    exact zb_X11_takeKeyword_19 hX hQ hnL h
  · have h := h2 hc
    refine z_aload_n (r := (some h0)) hX dX11_takeKeyword_7 rfl 0 rfl ?_
    refine z_iload_n hX dX11_takeKeyword_8 rfl 1 rfl ?_
    obtain ⟨hk15, h⟩ := h
    refine z_callVI (As := [.int p1]) (rest := []) (ci := 11) hX (ct_X11_isKeyword h) mw_RX11_194 rfl (by decide) rfl (by rfl) (by unfold RoomC; decide) (by decide) dX11_takeKeyword_9 hk15 (fun r13 M14 h => ?_)
    obtain ⟨h1, h2⟩ := h
    refine z_if_ne (tgt := 19) hX dX11_takeKeyword_12 (by decide) (fun hc => ?_) (fun hc => ?_)
    · have h := h1 hc
      refine z_loc [0] rfl ?_
      exact zb_X11_takeKeyword_19 hX hQ hnL h
    · have h := h2 hc
      refine z_aload_n (r := (some h0)) hX dX11_takeKeyword_15 rfl 0 rfl ?_
      obtain ⟨hk19, h⟩ := h
      refine z_callVV (As := []) (rest := []) (ci := 11) hX (ct_X11_misplaced h) mw_RX11_197 rfl (by decide) rfl (by rfl) (by unfold RoomC; decide) (by decide) dX11_takeKeyword_16 hk19 (fun M18 h => ?_)
      refine z_loc [0] rfl ?_
      exact zb_X11_takeKeyword_19 hX hQ hnL h
def rm_X11_takeSign : Room := { frames := 2, cells := 0, slots := 0, locals := 48 }
def bk_X11_takeSign_40 (h0 : Nat) (K : Mm → Prop) (M : Mm) : Prop := (K M)
set_option maxRecDepth 100000 in
set_option maxHeartbeats 4000000 in
theorem zb_X11_takeSign_40 {X : Cx} {h0 : Nat} {K : Mm → Prop} (hX : Ok X cX11_takeSign RX11 rm_X11_takeSign) (hQ : Rq X rm_X11_takeSign none (QV K)) (hnL : X.2.2.2.2.2.2.2.2.2.2.2.2.2.2 = 2) {M : Mm} (h : bk_X11_takeSign_40 h0 K M) : Z X M 0 0 40 [] [] := by
  unfold bk_X11_takeSign_40 at h
  exact z_vret hX hQ dX11_takeSign_40 h
def bk_X11_takeSign_29 (h0 : Nat) (K : Mm → Prop) (M : Mm) : Prop := mK M h0 = 12 ∧ (wp_X11_good M h0 (fun r1 M2 => ((r1 = 0 → (bk_X11_takeSign_40 h0 K M2)) ∧ (¬ r1 = 0 → mK M2 h0 = 12 ∧ (wp_X11_next M2 h0 (fun M6 => (bk_X11_takeSign_40 h0 K M6)))))))
set_option maxRecDepth 100000 in
set_option maxHeartbeats 4000000 in
theorem zb_X11_takeSign_29 {X : Cx} {h0 : Nat} {K : Mm → Prop} (hX : Ok X cX11_takeSign RX11 rm_X11_takeSign) (hQ : Rq X rm_X11_takeSign none (QV K)) (hnL : X.2.2.2.2.2.2.2.2.2.2.2.2.2.2 = 2) {M : Mm} (h : bk_X11_takeSign_29 h0 K M) : Z X M 0 0 29 [(0, va_rf (some h0))] [] := by
  unfold bk_X11_takeSign_29 at h
  refine z_aload_n (r := (some h0)) hX dX11_takeSign_29 rfl 0 rfl ?_
  obtain ⟨hk3, h⟩ := h
  refine z_callVI (As := []) (rest := []) (ci := 11) hX (ct_X11_good h) mw_RX11_190 rfl (by decide) rfl (by rfl) (by unfold RoomC; decide) (by decide) dX11_takeSign_30 hk3 (fun r1 M2 h => ?_)
  obtain ⟨h1, h2⟩ := h
  refine z_if_eq (tgt := 40) hX dX11_takeSign_33 (by decide) (fun hc => ?_) (fun hc => ?_)
  · have h := h1 hc
    refine z_loc [] rfl ?_
    exact zb_X11_takeSign_40 hX hQ hnL h
  · have h := h2 hc
    refine z_aload_n (r := (some h0)) hX dX11_takeSign_36 rfl 0 rfl ?_
    obtain ⟨hk7, h⟩ := h
    refine z_callVV (As := []) (rest := []) (ci := 11) hX (ct_X11_next h) mw_RX11_200 rfl (by decide) rfl (by rfl) (by unfold RoomC; decide) (by decide) dX11_takeSign_37 hk7 (fun M6 h => ?_)
    refine z_loc [] rfl ?_
    exact zb_X11_takeSign_40 hX hQ hnL h
def bk_X11_takeSign_25 (h0 : Nat) (K : Mm → Prop) (M : Mm) : Prop := mK M h0 = 12 ∧ (wp_X11_misplaced M h0 (fun M10 => (bk_X11_takeSign_29 h0 K M10)))
set_option maxRecDepth 100000 in
set_option maxHeartbeats 4000000 in
theorem zb_X11_takeSign_25 {X : Cx} {h0 : Nat} {K : Mm → Prop} (hX : Ok X cX11_takeSign RX11 rm_X11_takeSign) (hQ : Rq X rm_X11_takeSign none (QV K)) (hnL : X.2.2.2.2.2.2.2.2.2.2.2.2.2.2 = 2) {M : Mm} (h : bk_X11_takeSign_25 h0 K M) : Z X M 0 0 25 [(0, va_rf (some h0))] [] := by
  unfold bk_X11_takeSign_25 at h
  refine z_aload_n (r := (some h0)) hX dX11_takeSign_25 rfl 0 rfl ?_
  obtain ⟨hk11, h⟩ := h
  refine z_callVV (As := []) (rest := []) (ci := 11) hX (ct_X11_misplaced h) mw_RX11_197 rfl (by decide) rfl (by rfl) (by unfold RoomC; decide) (by decide) dX11_takeSign_26 hk11 (fun M10 h => ?_)
  exact zb_X11_takeSign_29 hX hQ hnL h
def wp_X11_takeSign (M : Mm) (h0 : Nat) (p1 : Int32) (K : Mm → Prop) : Prop := mK M h0 = 12 ∧ (wp_X11_good M h0 (fun r13 M14 => ((r13 = 0 → (bk_X11_takeSign_29 h0 K M14)) ∧ (¬ r13 = 0 → mK M14 h0 = 12 ∧ ((¬ (mI M14 708 h0) = (3 : Int32) → (bk_X11_takeSign_25 h0 K M14)) ∧ ((mI M14 708 h0) = (3 : Int32) → (((mJ M14 710 h0) = ((p1).toInt64) → (bk_X11_takeSign_29 h0 K M14)) ∧ (¬ (mJ M14 710 h0) = ((p1).toInt64) → (bk_X11_takeSign_25 h0 K M14)))))))))
set_option maxRecDepth 100000 in
set_option maxHeartbeats 4000000 in
theorem ct_X11_takeSign {M : Mm} {h0 : Nat} {p1 : Int32} {K : Mm → Prop} (h : wp_X11_takeSign M h0 p1 K) : CtV yX11_takeSign cX11_takeSign 2 none rm_X11_takeSign [.ref h0, .int p1] M K := by
  refine ct_any (QV K) (by decide) (by exact Nat.le_of_ble_eq_true rfl) (fun X hX hQ hnL hnm => ?_)
  rw [show lv_args 0 [.ref h0, .int p1] = [(0, va_rf (some h0)), (1, .int p1)] by rfl]
  have hX : Ok X cX11_takeSign RX11 rm_X11_takeSign := hX
  unfold wp_X11_takeSign at h
  refine z_aload_n (r := (some h0)) hX dX11_takeSign_0 rfl 0 rfl ?_
  obtain ⟨hk15, h⟩ := h
  refine z_callVI (As := []) (rest := []) (ci := 11) hX (ct_X11_good h) mw_RX11_190 rfl (by decide) rfl (by rfl) (by unfold RoomC; decide) (by decide) dX11_takeSign_1 hk15 (fun r13 M14 h => ?_)
  obtain ⟨h1, h2⟩ := h
  refine z_if_eq (tgt := 29) hX dX11_takeSign_4 (by decide) (fun hc => ?_) (fun hc => ?_)
  · have h := h1 hc
    refine z_loc [0] rfl ?_
    exact zb_X11_takeSign_29 hX hQ hnL h
  · have h := h2 hc
    refine z_aload_n (r := (some h0)) hX dX11_takeSign_7 rfl 0 rfl ?_
    obtain ⟨hk17, h⟩ := h
    refine gf_RX11_147 (r := (some h0)) hX dX11_takeSign_8 rfl hk17 ?_
    refine z_iconst (v := (3 : Int32)) hX dX11_takeSign_11 (by decide) ?_
    obtain ⟨h1, h2⟩ := h
    refine z_icmp_ne (tgt := 25) hX dX11_takeSign_12 (by decide) (fun hc => ?_) (fun hc => ?_)
    · have h := h1 hc
      refine z_loc [0] rfl ?_
      exact zb_X11_takeSign_25 hX hQ hnL h
    · have h := h2 hc
      refine z_aload_n (r := (some h0)) hX dX11_takeSign_15 rfl 0 rfl ?_
      refine gf_RX11_140 (r := (some h0)) hX dX11_takeSign_16 rfl hk17 ?_
      refine z_iload_n hX dX11_takeSign_19 rfl 1 rfl ?_
      refine z_i2l hX dX11_takeSign_20 ?_
      refine z_lcmp hX dX11_takeSign_21 ?_
      obtain ⟨h1, h2⟩ := h
      refine z_if_eq (tgt := 29) hX dX11_takeSign_22 (by decide) (fun hc => ?_) (fun hc => ?_)
      · have h := h1 ((lg_cmp_eq _ _).mp hc)
        refine z_loc [0] rfl ?_
        exact zb_X11_takeSign_29 hX hQ hnL h
      · have h := h2 (fun q => hc ((lg_cmp_eq _ _).mpr q))
        refine z_loc [0] rfl ?_
        exact zb_X11_takeSign_25 hX hQ hnL h
def rm_X11_takeNumber : Room := { frames := 2, cells := 0, slots := 0, locals := 48 }
def bk_X11_takeNumber_48 (h0 : Nat) (K : Int64 → Mm → Prop) (M : Mm) : Prop := mK M h0 = 12 ∧ (wp_X11_fault M h0 (5 : Int32) (fun M2 => (K (0 : Int64) M2)))
set_option maxRecDepth 100000 in
set_option maxHeartbeats 4000000 in
theorem zb_X11_takeNumber_48 {X : Cx} {h0 : Nat} {K : Int64 → Mm → Prop} (hX : Ok X cX11_takeNumber RX11 rm_X11_takeNumber) (hQ : Rq X rm_X11_takeNumber (some .long) (QJ K)) (hnL : X.2.2.2.2.2.2.2.2.2.2.2.2.2.2 = 7) {M : Mm} (h : bk_X11_takeNumber_48 h0 K M) : Z X M 0 0 48 [(0, va_rf (some h0))] [] := by
  unfold bk_X11_takeNumber_48 at h
  refine z_aload_n (r := (some h0)) hX dX11_takeNumber_48 rfl 0 rfl ?_
  refine z_iconst (v := (5 : Int32)) hX dX11_takeNumber_49 (by decide) ?_
  obtain ⟨hk3, h⟩ := h
  refine z_callVV (As := [.int (5 : Int32)]) (rest := []) (ci := 11) hX (ct_X11_fault h) mw_RX11_187 rfl (by decide) rfl (by rfl) (by unfold RoomC; decide) (by decide) dX11_takeNumber_50 hk3 (fun M2 h => ?_)
  refine z_lconst (v := (0 : Int64)) hX dX11_takeNumber_53 (by decide) ?_
  exact z_lret hX hQ dX11_takeNumber_54 h
def bk_X11_takeNumber_19 (h0 : Nat) (K : Int64 → Mm → Prop) (l1 : Int64) (l3 : Int64) (M : Mm) : Prop := mK M h0 = 12 ∧ (wp_X11_good M h0 (fun r5 M6 => ((¬ r5 = 0 → mK M6 h0 = 12 ∧ (((mJ M6 710 h0) < l1 → (bk_X11_takeNumber_48 h0 K M6)) ∧ (¬ (mJ M6 710 h0) < l1 → (((mJ M6 710 h0) ≤ l3 → (wp_X11_next M6 h0 (fun M11 => (K (mJ M6 710 h0) M11)))) ∧ (¬ (mJ M6 710 h0) ≤ l3 → (bk_X11_takeNumber_48 h0 K M6)))))) ∧ (r5 = 0 → (K (0 : Int64) M6)))))
set_option maxRecDepth 100000 in
set_option maxHeartbeats 4000000 in
theorem zb_X11_takeNumber_19 {X : Cx} {h0 : Nat} {K : Int64 → Mm → Prop} (hX : Ok X cX11_takeNumber RX11 rm_X11_takeNumber) (hQ : Rq X rm_X11_takeNumber (some .long) (QJ K)) (hnL : X.2.2.2.2.2.2.2.2.2.2.2.2.2.2 = 7) {l1 : Int64} {l3 : Int64} {M : Mm} (h : bk_X11_takeNumber_19 h0 K l1 l3 M) : Z X M 0 0 19 [(0, va_rf (some h0)), (1, .long l1), (3, .long l3)] [] := by
  unfold bk_X11_takeNumber_19 at h
  refine z_aload_n (r := (some h0)) hX dX11_takeNumber_19 rfl 0 rfl ?_
  obtain ⟨hk7, h⟩ := h
  refine z_callVI (As := []) (rest := []) (ci := 11) hX (ct_X11_good h) mw_RX11_190 rfl (by decide) rfl (by rfl) (by unfold RoomC; decide) (by decide) dX11_takeNumber_20 hk7 (fun r5 M6 h => ?_)
  obtain ⟨h1, h2⟩ := h
  refine z_if_ne (tgt := 28) hX dX11_takeNumber_23 (by decide) (fun hc => ?_) (fun hc => ?_)
  · have h := h1 hc
    refine z_aload_n (r := (some h0)) hX dX11_takeNumber_28 rfl 0 rfl ?_
    obtain ⟨hk9, h⟩ := h
    refine gf_RX11_140 (r := (some h0)) hX dX11_takeNumber_29 rfl hk9 ?_
    refine z_lstore hX [(5, .long (mJ M6 710 h0)), (0, va_rf (some h0)), (1, .long l1), (3, .long l3)] dX11_takeNumber_32 (by rw [hnL]; decide) rfl ?_
    refine z_lload hX dX11_takeNumber_34 0 rfl ?_
    refine z_lload_n hX dX11_takeNumber_36 rfl 2 rfl ?_
    refine z_lcmp hX dX11_takeNumber_37 ?_
    obtain ⟨h1, h2⟩ := h
    refine z_if_lt (tgt := 48) hX dX11_takeNumber_38 (by decide) (fun hc => ?_) (fun hc => ?_)
    · have h := h1 ((lg_cmp_lt _ _).mp hc)
      refine z_loc [1] rfl ?_
      exact zb_X11_takeNumber_48 hX hQ hnL h
    · have h := h2 (fun q => hc ((lg_cmp_lt _ _).mpr q))
      refine z_lload hX dX11_takeNumber_41 0 rfl ?_
      refine z_lload_n hX dX11_takeNumber_43 rfl 3 rfl ?_
      refine z_lcmp hX dX11_takeNumber_44 ?_
      obtain ⟨h1, h2⟩ := h
      refine z_if_le (tgt := 55) hX dX11_takeNumber_45 (by decide) (fun hc => ?_) (fun hc => ?_)
      · have h := h1 ((lg_cmp_le _ _).mp hc)
        refine z_aload_n (r := (some h0)) hX dX11_takeNumber_55 rfl 1 rfl ?_
        refine z_callVV (As := []) (rest := []) (ci := 11) hX (ct_X11_next h) mw_RX11_200 rfl (by decide) rfl (by rfl) (by unfold RoomC; decide) (by decide) dX11_takeNumber_56 hk9 (fun M11 h => ?_)
        refine z_lload hX dX11_takeNumber_59 0 rfl ?_
        exact z_lret hX hQ dX11_takeNumber_61 h
      · have h := h2 (fun q => hc ((lg_cmp_le _ _).mpr q))
        refine z_loc [1] rfl ?_
        exact zb_X11_takeNumber_48 hX hQ hnL h
  · have h := h2 hc
    refine z_lconst (v := (0 : Int64)) hX dX11_takeNumber_26 (by decide) ?_
    exact z_lret hX hQ dX11_takeNumber_27 h
def wp_X11_takeNumber (M : Mm) (h0 : Nat) (p1 : Int64) (p2 : Int64) (K : Int64 → Mm → Prop) : Prop := mK M h0 = 12 ∧ (wp_X11_good M h0 (fun r13 M14 => ((r13 = 0 → (bk_X11_takeNumber_19 h0 K p1 p2 M14)) ∧ (¬ r13 = 0 → mK M14 h0 = 12 ∧ (((mI M14 708 h0) = (2 : Int32) → (bk_X11_takeNumber_19 h0 K p1 p2 M14)) ∧ (¬ (mI M14 708 h0) = (2 : Int32) → (wp_X11_misplaced M14 h0 (fun M19 => (bk_X11_takeNumber_19 h0 K p1 p2 M19)))))))))
set_option maxRecDepth 100000 in
set_option maxHeartbeats 4000000 in
theorem ct_X11_takeNumber {M : Mm} {h0 : Nat} {p1 : Int64} {p2 : Int64} {K : Int64 → Mm → Prop} (h : wp_X11_takeNumber M h0 p1 p2 K) : CtJ yX11_takeNumber cX11_takeNumber 7 (some .long) rm_X11_takeNumber [.ref h0, .long p1, .long p2] M K := by
  refine ct_any (QJ K) (by decide) (by exact Nat.le_of_ble_eq_true rfl) (fun X hX hQ hnL hnm => ?_)
  rw [show lv_args 0 [.ref h0, .long p1, .long p2] = [(0, va_rf (some h0)), (1, .long p1), (3, .long p2)] by rfl]
  have hX : Ok X cX11_takeNumber RX11 rm_X11_takeNumber := hX
  unfold wp_X11_takeNumber at h
  refine z_aload_n (r := (some h0)) hX dX11_takeNumber_0 rfl 0 rfl ?_
  obtain ⟨hk15, h⟩ := h
  refine z_callVI (As := []) (rest := []) (ci := 11) hX (ct_X11_good h) mw_RX11_190 rfl (by decide) rfl (by rfl) (by unfold RoomC; decide) (by decide) dX11_takeNumber_1 hk15 (fun r13 M14 h => ?_)
  obtain ⟨h1, h2⟩ := h
  refine z_if_eq (tgt := 19) hX dX11_takeNumber_4 (by decide) (fun hc => ?_) (fun hc => ?_)
  · have h := h1 hc
    exact zb_X11_takeNumber_19 hX hQ hnL h
  · have h := h2 hc
    refine z_aload_n (r := (some h0)) hX dX11_takeNumber_7 rfl 0 rfl ?_
    obtain ⟨hk17, h⟩ := h
    refine gf_RX11_147 (r := (some h0)) hX dX11_takeNumber_8 rfl hk17 ?_
    refine z_iconst (v := (2 : Int32)) hX dX11_takeNumber_11 (by decide) ?_
    obtain ⟨h1, h2⟩ := h
    refine z_icmp_eq (tgt := 19) hX dX11_takeNumber_12 (by decide) (fun hc => ?_) (fun hc => ?_)
    · have h := h1 hc
      exact zb_X11_takeNumber_19 hX hQ hnL h
    · have h := h2 hc
      refine z_aload_n (r := (some h0)) hX dX11_takeNumber_15 rfl 0 rfl ?_
      refine z_callVV (As := []) (rest := []) (ci := 11) hX (ct_X11_misplaced h) mw_RX11_197 rfl (by decide) rfl (by rfl) (by unfold RoomC; decide) (by decide) dX11_takeNumber_16 hk17 (fun M19 h => ?_)
      exact zb_X11_takeNumber_19 hX hQ hnL h
def rm_X11_source : Room := { frames := 3, cells := 0, slots := 0, locals := 74 }
def bk_X11_source_131 (h0 : Nat) (K : Mm → Prop) (M : Mm) : Prop := (K M)
set_option maxRecDepth 100000 in
set_option maxHeartbeats 4000000 in
theorem zb_X11_source_131 {X : Cx} {h0 : Nat} {K : Mm → Prop} (hX : Ok X cX11_source RX11 rm_X11_source) (hQ : Rq X rm_X11_source none (QV K)) (hnL : X.2.2.2.2.2.2.2.2.2.2.2.2.2.2 = 2) {M : Mm} (h : bk_X11_source_131 h0 K M) : Z X M 0 0 131 [] [] := by
  unfold bk_X11_source_131 at h
  exact z_vret hX hQ dX11_source_131 h
def bk_X11_source_97 (h0 : Nat) (K : Mm → Prop) (l1 : Int32) (M : Mm) : Prop := mK M h0 = 12 ∧ (wp_X11_good M h0 (fun r1 M2 => ((r1 = 0 → (bk_X11_source_131 h0 K M2)) ∧ (¬ r1 = 0 → mK M2 h0 = 12 ∧ (wp_X11_isKeyword M2 h0 (4 : Int32) (fun r5 M6 => ((r5 = 0 → (bk_X11_source_131 h0 K M6)) ∧ (¬ r5 = 0 → mK M6 h0 = 12 ∧ (wp_X11_next M6 h0 (fun M10 => mK M10 h0 = 12 ∧ (wp_X11_takeNumber M10 h0 (0 : Int64) (3 : Int64) (fun r14 M15 => ∃ a17, (mR M10 723 h0) = some a17 ∧ isA M15 a17 1 ∧ vp_in l1 (aN M15 a17) ∧ (bk_X11_source_131 h0 K (tI M15 a17 (l1).toNatClampNeg ((r14).toInt32)))))))))))))))
set_option maxRecDepth 100000 in
set_option maxHeartbeats 4000000 in
theorem zb_X11_source_97 {X : Cx} {h0 : Nat} {K : Mm → Prop} (hX : Ok X cX11_source RX11 rm_X11_source) (hQ : Rq X rm_X11_source none (QV K)) (hnL : X.2.2.2.2.2.2.2.2.2.2.2.2.2.2 = 2) {l1 : Int32} {M : Mm} (h : bk_X11_source_97 h0 K l1 M) : Z X M 0 0 97 [(0, va_rf (some h0)), (1, .int l1)] [] := by
  unfold bk_X11_source_97 at h
  refine z_aload_n (r := (some h0)) hX dX11_source_97 rfl 0 rfl ?_
  obtain ⟨hk3, h⟩ := h
  refine z_callVI (As := []) (rest := []) (ci := 11) hX (ct_X11_good h) mw_RX11_190 rfl (by decide) rfl (by rfl) (by unfold RoomC; decide) (by decide) dX11_source_98 hk3 (fun r1 M2 h => ?_)
  obtain ⟨h1, h2⟩ := h
  refine z_if_eq (tgt := 131) hX dX11_source_101 (by decide) (fun hc => ?_) (fun hc => ?_)
  · have h := h1 hc
    refine z_loc [] rfl ?_
    exact zb_X11_source_131 hX hQ hnL h
  · have h := h2 hc
    refine z_aload_n (r := (some h0)) hX dX11_source_104 rfl 0 rfl ?_
    refine z_iconst (v := (4 : Int32)) hX dX11_source_105 (by decide) ?_
    obtain ⟨hk7, h⟩ := h
    refine z_callVI (As := [.int (4 : Int32)]) (rest := []) (ci := 11) hX (ct_X11_isKeyword h) mw_RX11_194 rfl (by decide) rfl (by rfl) (by unfold RoomC; decide) (by decide) dX11_source_106 hk7 (fun r5 M6 h => ?_)
    obtain ⟨h1, h2⟩ := h
    refine z_if_eq (tgt := 131) hX dX11_source_109 (by decide) (fun hc => ?_) (fun hc => ?_)
    · have h := h1 hc
      refine z_loc [] rfl ?_
      exact zb_X11_source_131 hX hQ hnL h
    · have h := h2 hc
      refine z_aload_n (r := (some h0)) hX dX11_source_112 rfl 0 rfl ?_
      obtain ⟨hk11, h⟩ := h
      refine z_callVV (As := []) (rest := []) (ci := 11) hX (ct_X11_next h) mw_RX11_200 rfl (by decide) rfl (by rfl) (by unfold RoomC; decide) (by decide) dX11_source_113 hk11 (fun M10 h => ?_)
      refine z_aload_n (r := (some h0)) hX dX11_source_116 rfl 0 rfl ?_
      obtain ⟨hk13, h⟩ := h
      refine gf_RX11_42 (r := (some h0)) hX dX11_source_117 rfl hk13 ?_
      refine z_iload_n hX dX11_source_120 rfl 1 rfl ?_
      refine z_aload_n (r := (some h0)) hX dX11_source_121 rfl 0 rfl ?_
      refine z_lconst (v := (0 : Int64)) hX dX11_source_122 (by decide) ?_
      refine z_ldc2 (v := (3 : Int64)) hX dX11_source_123 kj_RX11_244 ?_
      refine z_callVJ (As := [.long (0 : Int64), .long (3 : Int64)]) (rest := [.int l1, va_rf (mR M10 723 h0)]) (ci := 11) hX (ct_X11_takeNumber h) mw_RX11_227 rfl (by decide) rfl (by rfl) (by unfold RoomC; decide) (by simp only [List.map_cons, List.map_nil, List.sum_cons, List.sum_nil, cat_rf, cat_i, cat_j]; decide) dX11_source_126 hk13 (fun r14 M15 h => ?_)
      refine z_l2i hX dX11_source_129 ?_
      obtain ⟨a17, ha18, h⟩ := h
      obtain ⟨hk19, h⟩ := h
      obtain ⟨hc20, h⟩ := h
      refine y_iast (r := (mR M10 723 h0)) hX dX11_source_130 ha18 hk19 hc20 ?_
      refine z_loc [] rfl ?_
      exact zb_X11_source_131 hX hQ hnL h
def bk_X11_source_63 (h0 : Nat) (K : Mm → Prop) (l1 : Int32) (M : Mm) : Prop := mK M h0 = 12 ∧ (wp_X11_good M h0 (fun r21 M22 => ((r21 = 0 → (bk_X11_source_97 h0 K l1 M22)) ∧ (¬ r21 = 0 → mK M22 h0 = 12 ∧ (wp_X11_isKeyword M22 h0 (3 : Int32) (fun r25 M26 => ((r25 = 0 → (bk_X11_source_97 h0 K l1 M26)) ∧ (¬ r25 = 0 → mK M26 h0 = 12 ∧ (wp_X11_next M26 h0 (fun M30 => mK M30 h0 = 12 ∧ (wp_X11_takeNumber M30 h0 (1 : Int64) (1000 : Int64) (fun r34 M35 => ∃ a37, (mR M30 722 h0) = some a37 ∧ isA M35 a37 1 ∧ vp_in l1 (aN M35 a37) ∧ (bk_X11_source_97 h0 K l1 (tI M35 a37 (l1).toNatClampNeg ((r34).toInt32)))))))))))))))
set_option maxRecDepth 100000 in
set_option maxHeartbeats 4000000 in
theorem zb_X11_source_63 {X : Cx} {h0 : Nat} {K : Mm → Prop} (hX : Ok X cX11_source RX11 rm_X11_source) (hQ : Rq X rm_X11_source none (QV K)) (hnL : X.2.2.2.2.2.2.2.2.2.2.2.2.2.2 = 2) {l1 : Int32} {M : Mm} (h : bk_X11_source_63 h0 K l1 M) : Z X M 0 0 63 [(0, va_rf (some h0)), (1, .int l1)] [] := by
  unfold bk_X11_source_63 at h
  refine z_aload_n (r := (some h0)) hX dX11_source_63 rfl 0 rfl ?_
  obtain ⟨hk23, h⟩ := h
  refine z_callVI (As := []) (rest := []) (ci := 11) hX (ct_X11_good h) mw_RX11_190 rfl (by decide) rfl (by rfl) (by unfold RoomC; decide) (by decide) dX11_source_64 hk23 (fun r21 M22 h => ?_)
  obtain ⟨h1, h2⟩ := h
  refine z_if_eq (tgt := 97) hX dX11_source_67 (by decide) (fun hc => ?_) (fun hc => ?_)
  · have h := h1 hc
    exact zb_X11_source_97 hX hQ hnL h
  · have h := h2 hc
    refine z_aload_n (r := (some h0)) hX dX11_source_70 rfl 0 rfl ?_
    refine z_iconst (v := (3 : Int32)) hX dX11_source_71 (by decide) ?_
    obtain ⟨hk27, h⟩ := h
    refine z_callVI (As := [.int (3 : Int32)]) (rest := []) (ci := 11) hX (ct_X11_isKeyword h) mw_RX11_194 rfl (by decide) rfl (by rfl) (by unfold RoomC; decide) (by decide) dX11_source_72 hk27 (fun r25 M26 h => ?_)
    obtain ⟨h1, h2⟩ := h
    refine z_if_eq (tgt := 97) hX dX11_source_75 (by decide) (fun hc => ?_) (fun hc => ?_)
    · have h := h1 hc
      exact zb_X11_source_97 hX hQ hnL h
    · have h := h2 hc
      refine z_aload_n (r := (some h0)) hX dX11_source_78 rfl 0 rfl ?_
      obtain ⟨hk31, h⟩ := h
      refine z_callVV (As := []) (rest := []) (ci := 11) hX (ct_X11_next h) mw_RX11_200 rfl (by decide) rfl (by rfl) (by unfold RoomC; decide) (by decide) dX11_source_79 hk31 (fun M30 h => ?_)
      refine z_aload_n (r := (some h0)) hX dX11_source_82 rfl 0 rfl ?_
      obtain ⟨hk33, h⟩ := h
      refine gf_RX11_39 (r := (some h0)) hX dX11_source_83 rfl hk33 ?_
      refine z_iload_n hX dX11_source_86 rfl 1 rfl ?_
      refine z_aload_n (r := (some h0)) hX dX11_source_87 rfl 0 rfl ?_
      refine z_lconst (v := (1 : Int64)) hX dX11_source_88 (by decide) ?_
      refine z_ldc2 (v := (1000 : Int64)) hX dX11_source_89 kj_RX11_242 ?_
      refine z_callVJ (As := [.long (1 : Int64), .long (1000 : Int64)]) (rest := [.int l1, va_rf (mR M30 722 h0)]) (ci := 11) hX (ct_X11_takeNumber h) mw_RX11_227 rfl (by decide) rfl (by rfl) (by unfold RoomC; decide) (by simp only [List.map_cons, List.map_nil, List.sum_cons, List.sum_nil, cat_rf, cat_i, cat_j]; decide) dX11_source_92 hk33 (fun r34 M35 h => ?_)
      refine z_l2i hX dX11_source_95 ?_
      obtain ⟨a37, ha38, h⟩ := h
      obtain ⟨hk39, h⟩ := h
      obtain ⟨hc40, h⟩ := h
      refine y_iast (r := (mR M30 722 h0)) hX dX11_source_96 ha38 hk39 hc40 ?_
      exact zb_X11_source_97 hX hQ hnL h
def bk_X11_source_58 (h0 : Nat) (K : Mm → Prop) (l1 : Int32) (M : Mm) : Prop := mK M h0 = 12 ∧ (wp_X11_takeKeyword M h0 (2 : Int32) (fun M42 => (bk_X11_source_63 h0 K l1 M42)))
set_option maxRecDepth 100000 in
set_option maxHeartbeats 4000000 in
theorem zb_X11_source_58 {X : Cx} {h0 : Nat} {K : Mm → Prop} (hX : Ok X cX11_source RX11 rm_X11_source) (hQ : Rq X rm_X11_source none (QV K)) (hnL : X.2.2.2.2.2.2.2.2.2.2.2.2.2.2 = 2) {l1 : Int32} {M : Mm} (h : bk_X11_source_58 h0 K l1 M) : Z X M 0 0 58 [(0, va_rf (some h0)), (1, .int l1)] [] := by
  unfold bk_X11_source_58 at h
  refine z_aload_n (r := (some h0)) hX dX11_source_58 rfl 0 rfl ?_
  refine z_iconst (v := (2 : Int32)) hX dX11_source_59 (by decide) ?_
  obtain ⟨hk43, h⟩ := h
  refine z_callVV (As := [.int (2 : Int32)]) (rest := []) (ci := 11) hX (ct_X11_takeKeyword h) mw_RX11_239 rfl (by decide) rfl (by rfl) (by unfold RoomC; decide) (by decide) dX11_source_60 hk43 (fun M42 h => ?_)
  exact zb_X11_source_63 hX hQ hnL h
def wp_X11_source (M : Mm) (h0 : Nat) (p1 : Int32) (K : Mm → Prop) : Prop := mK M h0 = 12 ∧ (wp_X11_takeNumber M h0 (1 : Int64) (4 : Int64) (fun r46 M47 => ∃ a49, (mR M 718 h0) = some a49 ∧ isA M47 a49 1 ∧ vp_in p1 (aN M47 a49) ∧ mK (tI M47 a49 (p1).toNatClampNeg ((r46).toInt32)) h0 = 12 ∧ (wp_X11_good (tI M47 a49 (p1).toNatClampNeg ((r46).toInt32)) h0 (fun r53 M54 => ((r53 = 0 → (bk_X11_source_58 h0 K p1 M54)) ∧ (¬ r53 = 0 → mK M54 h0 = 12 ∧ (wp_X11_isKeyword M54 h0 (1 : Int32) (fun r57 M58 => ((r57 = 0 → (bk_X11_source_58 h0 K p1 M58)) ∧ (¬ r57 = 0 → mK M58 h0 = 12 ∧ (wp_X11_next M58 h0 (fun M62 => mK M62 h0 = 12 ∧ ∃ a66, (mR M62 719 h0) = some a66 ∧ isA M62 a66 3 ∧ vp_in p1 (aN M62 a66) ∧ (wp_X11_takeNumber (tI M62 a66 (p1).toNatClampNeg (1 : Int32)) h0 (0 : Int64) (9223372036854775807 : Int64) (fun r70 M71 => ∃ a73, (mR (tI M62 a66 (p1).toNatClampNeg (1 : Int32)) 720 h0) = some a73 ∧ isA M71 a73 2 ∧ vp_in p1 (aN M71 a73) ∧ (bk_X11_source_63 h0 K p1 (tJ M71 a73 (p1).toNatClampNeg r70))))))))))))))))
set_option maxRecDepth 100000 in
set_option maxHeartbeats 4000000 in
theorem ct_X11_source {M : Mm} {h0 : Nat} {p1 : Int32} {K : Mm → Prop} (h : wp_X11_source M h0 p1 K) : CtV yX11_source cX11_source 2 none rm_X11_source [.ref h0, .int p1] M K := by
  refine ct_any (QV K) (by decide) (by exact Nat.le_of_ble_eq_true rfl) (fun X hX hQ hnL hnm => ?_)
  rw [show lv_args 0 [.ref h0, .int p1] = [(0, va_rf (some h0)), (1, .int p1)] by rfl]
  have hX : Ok X cX11_source RX11 rm_X11_source := hX
  unfold wp_X11_source at h
  refine z_aload_n (r := (some h0)) hX dX11_source_0 rfl 0 rfl ?_
  obtain ⟨hk45, h⟩ := h
  refine gf_RX11_26 (r := (some h0)) hX dX11_source_1 rfl hk45 ?_
  refine z_iload_n hX dX11_source_4 rfl 1 rfl ?_
  refine z_aload_n (r := (some h0)) hX dX11_source_5 rfl 0 rfl ?_
  refine z_lconst (v := (1 : Int64)) hX dX11_source_6 (by decide) ?_
  refine z_ldc2 (v := (4 : Int64)) hX dX11_source_7 kj_RX11_237 ?_
  refine z_callVJ (As := [.long (1 : Int64), .long (4 : Int64)]) (rest := [.int p1, va_rf (mR M 718 h0)]) (ci := 11) hX (ct_X11_takeNumber h) mw_RX11_227 rfl (by decide) rfl (by rfl) (by unfold RoomC; decide) (by simp only [List.map_cons, List.map_nil, List.sum_cons, List.sum_nil, cat_rf, cat_i, cat_j]; decide) dX11_source_10 hk45 (fun r46 M47 h => ?_)
  refine z_l2i hX dX11_source_13 ?_
  obtain ⟨a49, ha50, h⟩ := h
  obtain ⟨hk51, h⟩ := h
  obtain ⟨hc52, h⟩ := h
  refine y_iast (r := (mR M 718 h0)) hX dX11_source_14 ha50 hk51 hc52 ?_
  refine z_aload_n (r := (some h0)) hX dX11_source_15 rfl 0 rfl ?_
  obtain ⟨hk55, h⟩ := h
  refine z_callVI (As := []) (rest := []) (ci := 11) hX (ct_X11_good h) mw_RX11_190 rfl (by decide) rfl (by rfl) (by unfold RoomC; decide) (by decide) dX11_source_16 hk55 (fun r53 M54 h => ?_)
  obtain ⟨h1, h2⟩ := h
  refine z_if_eq (tgt := 58) hX dX11_source_19 (by decide) (fun hc => ?_) (fun hc => ?_)
  · have h := h1 hc
    exact zb_X11_source_58 hX hQ hnL h
  · have h := h2 hc
    refine z_aload_n (r := (some h0)) hX dX11_source_22 rfl 0 rfl ?_
    refine z_iconst (v := (1 : Int32)) hX dX11_source_23 (by decide) ?_
    obtain ⟨hk59, h⟩ := h
    refine z_callVI (As := [.int (1 : Int32)]) (rest := []) (ci := 11) hX (ct_X11_isKeyword h) mw_RX11_194 rfl (by decide) rfl (by rfl) (by unfold RoomC; decide) (by decide) dX11_source_24 hk59 (fun r57 M58 h => ?_)
    obtain ⟨h1, h2⟩ := h
    refine z_if_eq (tgt := 58) hX dX11_source_27 (by decide) (fun hc => ?_) (fun hc => ?_)
    · have h := h1 hc
      exact zb_X11_source_58 hX hQ hnL h
    · have h := h2 hc
      refine z_aload_n (r := (some h0)) hX dX11_source_30 rfl 0 rfl ?_
      obtain ⟨hk63, h⟩ := h
      refine z_callVV (As := []) (rest := []) (ci := 11) hX (ct_X11_next h) mw_RX11_200 rfl (by decide) rfl (by rfl) (by unfold RoomC; decide) (by decide) dX11_source_31 hk63 (fun M62 h => ?_)
      refine z_aload_n (r := (some h0)) hX dX11_source_34 rfl 0 rfl ?_
      obtain ⟨hk65, h⟩ := h
      refine gf_RX11_29 (r := (some h0)) hX dX11_source_35 rfl hk65 ?_
      refine z_iload_n hX dX11_source_38 rfl 1 rfl ?_
      refine z_iconst (v := (1 : Int32)) hX dX11_source_39 (by decide) ?_
      obtain ⟨a66, ha67, h⟩ := h
      obtain ⟨hk68, h⟩ := h
      obtain ⟨hc69, h⟩ := h
      refine y_zast (r := (mR M62 719 h0)) hX dX11_source_40 ha67 hk68 hc69 (Or.inr rfl)  ?_
      refine z_aload_n (r := (some h0)) hX dX11_source_41 rfl 0 rfl ?_
      refine gf_RX11_33 (r := (some h0)) hX dX11_source_42 rfl hk65 ?_
      refine z_iload_n hX dX11_source_45 rfl 1 rfl ?_
      refine z_aload_n (r := (some h0)) hX dX11_source_46 rfl 0 rfl ?_
      refine z_lconst (v := (0 : Int64)) hX dX11_source_47 (by decide) ?_
      refine z_ldc2 (v := (9223372036854775807 : Int64)) hX dX11_source_48 kj_RX11_225 ?_
      refine z_callVJ (As := [.long (0 : Int64), .long (9223372036854775807 : Int64)]) (rest := [.int p1, va_rf (mR (tI M62 a66 (p1).toNatClampNeg (1 : Int32)) 720 h0)]) (ci := 11) hX (ct_X11_takeNumber h) mw_RX11_227 rfl (by decide) rfl (by rfl) (by unfold RoomC; decide) (by simp only [List.map_cons, List.map_nil, List.sum_cons, List.sum_nil, cat_rf, cat_i, cat_j]; decide) dX11_source_51 hk65 (fun r70 M71 h => ?_)
      obtain ⟨a73, ha74, h⟩ := h
      obtain ⟨hk75, h⟩ := h
      obtain ⟨hc76, h⟩ := h
      refine y_last (r := (mR (tI M62 a66 (p1).toNatClampNeg (1 : Int32)) 720 h0)) hX dX11_source_54 ha74 hk75 hc76 ?_
      refine z_goto (tgt := 63) hX dX11_source_55 (by decide) ?_
      exact zb_X11_source_63 hX hQ hnL h
def rm_X11_takeInput : Room := { frames := 2, cells := 0, slots := 0, locals := 48 }
def bk_X11_takeInput_48 (h0 : Nat) (K : Mm → Prop) (M : Mm) : Prop := mK M h0 = 12 ∧ (wp_X11_fault M h0 (4 : Int32) (fun M2 => (K M2)))
set_option maxRecDepth 100000 in
set_option maxHeartbeats 4000000 in
theorem zb_X11_takeInput_48 {X : Cx} {h0 : Nat} {K : Mm → Prop} (hX : Ok X cX11_takeInput RX11 rm_X11_takeInput) (hQ : Rq X rm_X11_takeInput none (QV K)) (hnL : X.2.2.2.2.2.2.2.2.2.2.2.2.2.2 = 3) {M : Mm} (h : bk_X11_takeInput_48 h0 K M) : Z X M 0 0 48 [(0, va_rf (some h0))] [] := by
  unfold bk_X11_takeInput_48 at h
  refine z_aload_n (r := (some h0)) hX dX11_takeInput_48 rfl 0 rfl ?_
  refine z_iconst (v := (4 : Int32)) hX dX11_takeInput_49 (by decide) ?_
  obtain ⟨hk3, h⟩ := h
  refine z_callVV (As := [.int (4 : Int32)]) (rest := []) (ci := 11) hX (ct_X11_fault h) mw_RX11_187 rfl (by decide) rfl (by rfl) (by unfold RoomC; decide) (by decide) dX11_takeInput_50 hk3 (fun M2 h => ?_)
  exact z_vret hX hQ dX11_takeInput_53 h
def bk_X11_takeInput_18 (h0 : Nat) (K : Mm → Prop) (l1 : Int32) (M : Mm) : Prop := mK M h0 = 12 ∧ (wp_X11_good M h0 (fun r5 M6 => ((¬ r5 = 0 → mK M6 h0 = 12 ∧ (wp_X11_findName M6 h0 (mJ M6 710 h0) (fun r10 M11 => ((r10 < 0 → (bk_X11_takeInput_48 h0 K M11)) ∧ (¬ r10 < 0 → mK M11 h0 = 12 ∧ ∃ a14, (mR M11 726 h0) = some a14 ∧ isA M11 a14 1 ∧ vp_in r10 (aN M11 a14) ∧ (((aI M11 a14 (r10).toNatClampNeg) < 0 → vp_in r10 (aN M11 a14) ∧ ∃ a19, (mR (tI M11 a14 (r10).toNatClampNeg l1) 724 h0) = some a19 ∧ isA (tI M11 a14 (r10).toNatClampNeg l1) a19 1 ∧ vp_in l1 (aN (tI M11 a14 (r10).toNatClampNeg l1) a19) ∧ ∃ a23, (mR (tI M11 a14 (r10).toNatClampNeg l1) 725 h0) = some a23 ∧ isA (tI M11 a14 (r10).toNatClampNeg l1) a23 1 ∧ vp_in (((4 : Int32) * l1) + (aI (tI M11 a14 (r10).toNatClampNeg l1) a19 (l1).toNatClampNeg)) (aN (tI M11 a14 (r10).toNatClampNeg l1) a23) ∧ ∃ a27, (mR (tI (tI M11 a14 (r10).toNatClampNeg l1) a23 ((((4 : Int32) * l1) + (aI (tI M11 a14 (r10).toNatClampNeg l1) a19 (l1).toNatClampNeg))).toNatClampNeg r10) 724 h0) = some a27 ∧ isA (tI (tI M11 a14 (r10).toNatClampNeg l1) a23 ((((4 : Int32) * l1) + (aI (tI M11 a14 (r10).toNatClampNeg l1) a19 (l1).toNatClampNeg))).toNatClampNeg r10) a27 1 ∧ vp_in l1 (aN (tI (tI M11 a14 (r10).toNatClampNeg l1) a23 ((((4 : Int32) * l1) + (aI (tI M11 a14 (r10).toNatClampNeg l1) a19 (l1).toNatClampNeg))).toNatClampNeg r10) a27) ∧ vp_in l1 (aN (tI (tI M11 a14 (r10).toNatClampNeg l1) a23 ((((4 : Int32) * l1) + (aI (tI M11 a14 (r10).toNatClampNeg l1) a19 (l1).toNatClampNeg))).toNatClampNeg r10) a27) ∧ (wp_X11_next (tI (tI (tI M11 a14 (r10).toNatClampNeg l1) a23 ((((4 : Int32) * l1) + (aI (tI M11 a14 (r10).toNatClampNeg l1) a19 (l1).toNatClampNeg))).toNatClampNeg r10) a27 (l1).toNatClampNeg ((aI (tI (tI M11 a14 (r10).toNatClampNeg l1) a23 ((((4 : Int32) * l1) + (aI (tI M11 a14 (r10).toNatClampNeg l1) a19 (l1).toNatClampNeg))).toNatClampNeg r10) a27 (l1).toNatClampNeg) + (1 : Int32))) h0 (fun M33 => (K M33)))) ∧ (¬ (aI M11 a14 (r10).toNatClampNeg) < 0 → (bk_X11_takeInput_48 h0 K M11)))))))) ∧ (r5 = 0 → (K M6)))))
set_option maxRecDepth 100000 in
set_option maxHeartbeats 4000000 in
theorem zb_X11_takeInput_18 {X : Cx} {h0 : Nat} {K : Mm → Prop} (hX : Ok X cX11_takeInput RX11 rm_X11_takeInput) (hQ : Rq X rm_X11_takeInput none (QV K)) (hnL : X.2.2.2.2.2.2.2.2.2.2.2.2.2.2 = 3) {l1 : Int32} {M : Mm} (h : bk_X11_takeInput_18 h0 K l1 M) : Z X M 0 0 18 [(0, va_rf (some h0)), (1, .int l1)] [] := by
  unfold bk_X11_takeInput_18 at h
  refine z_aload_n (r := (some h0)) hX dX11_takeInput_18 rfl 0 rfl ?_
  obtain ⟨hk7, h⟩ := h
  refine z_callVI (As := []) (rest := []) (ci := 11) hX (ct_X11_good h) mw_RX11_190 rfl (by decide) rfl (by rfl) (by unfold RoomC; decide) (by decide) dX11_takeInput_19 hk7 (fun r5 M6 h => ?_)
  obtain ⟨h1, h2⟩ := h
  refine z_if_ne (tgt := 26) hX dX11_takeInput_22 (by decide) (fun hc => ?_) (fun hc => ?_)
  · have h := h1 hc
    refine z_aload_n (r := (some h0)) hX dX11_takeInput_26 rfl 0 rfl ?_
    refine z_aload_n (r := (some h0)) hX dX11_takeInput_27 rfl 0 rfl ?_
    obtain ⟨hk9, h⟩ := h
    refine gf_RX11_140 (r := (some h0)) hX dX11_takeInput_28 rfl hk9 ?_
    refine z_callVI (As := [.long (mJ M6 710 h0)]) (rest := []) (ci := 11) hX (ct_X11_findName h) mw_RX11_209 rfl (by decide) rfl (by rfl) (by unfold RoomC; decide) (by decide) dX11_takeInput_31 hk9 (fun r10 M11 h => ?_)
    refine z_istore_n hX [(2, .int r10), (0, va_rf (some h0)), (1, .int l1)] dX11_takeInput_34 rfl (by rw [hnL]; decide) rfl ?_
    refine z_iload_n hX dX11_takeInput_35 rfl 0 rfl ?_
    obtain ⟨h1, h2⟩ := h
    refine z_if_lt (tgt := 48) hX dX11_takeInput_36 (by decide) (fun hc => ?_) (fun hc => ?_)
    · have h := h1 hc
      refine z_loc [1] rfl ?_
      exact zb_X11_takeInput_48 hX hQ hnL h
    · have h := h2 hc
      refine z_aload_n (r := (some h0)) hX dX11_takeInput_39 rfl 1 rfl ?_
      obtain ⟨hk13, h⟩ := h
      refine gf_RX11_51 (r := (some h0)) hX dX11_takeInput_40 rfl hk13 ?_
      refine z_iload_n hX dX11_takeInput_43 rfl 0 rfl ?_
      obtain ⟨a14, ha15, h⟩ := h
      obtain ⟨hk16, h⟩ := h
      obtain ⟨hc17, h⟩ := h
      refine y_iald (r := (mR M11 726 h0)) hX dX11_takeInput_44 ha15 hk16 hc17 ?_
      obtain ⟨h1, h2⟩ := h
      refine z_if_lt (tgt := 54) hX dX11_takeInput_45 (by decide) (fun hc => ?_) (fun hc => ?_)
      · have h := h1 hc
        refine z_aload_n (r := (some h0)) hX dX11_takeInput_54 rfl 1 rfl ?_
        refine gf_RX11_51 (r := (some h0)) hX dX11_takeInput_55 rfl hk13 ?_
        refine z_iload_n hX dX11_takeInput_58 rfl 0 rfl ?_
        refine z_iload_n hX dX11_takeInput_59 rfl 2 rfl ?_
        obtain ⟨hc18, h⟩ := h
        refine y_iast (r := (mR M11 726 h0)) hX dX11_takeInput_60 ha15 hk16 hc18 ?_
        refine z_aload_n (r := (some h0)) hX dX11_takeInput_61 rfl 1 rfl ?_
        refine gf_RX11_48 (r := (some h0)) hX dX11_takeInput_62 rfl hk13 ?_
        refine z_iconst (v := (4 : Int32)) hX dX11_takeInput_65 (by decide) ?_
        refine z_iload_n hX dX11_takeInput_66 rfl 2 rfl ?_
        refine z_imul hX dX11_takeInput_67 ?_
        refine z_aload_n (r := (some h0)) hX dX11_takeInput_68 rfl 1 rfl ?_
        refine gf_RX11_45 (r := (some h0)) hX dX11_takeInput_69 rfl hk13 ?_
        refine z_iload_n hX dX11_takeInput_72 rfl 2 rfl ?_
        obtain ⟨a19, ha20, h⟩ := h
        obtain ⟨hk21, h⟩ := h
        obtain ⟨hc22, h⟩ := h
        refine y_iald (r := (mR (tI M11 a14 (r10).toNatClampNeg l1) 724 h0)) hX dX11_takeInput_73 ha20 hk21 hc22 ?_
        refine z_iadd hX dX11_takeInput_74 ?_
        refine z_iload_n hX dX11_takeInput_75 rfl 0 rfl ?_
        obtain ⟨a23, ha24, h⟩ := h
        obtain ⟨hk25, h⟩ := h
        obtain ⟨hc26, h⟩ := h
        refine y_iast (r := (mR (tI M11 a14 (r10).toNatClampNeg l1) 725 h0)) hX dX11_takeInput_76 ha24 hk25 hc26 ?_
        refine z_aload_n (r := (some h0)) hX dX11_takeInput_77 rfl 1 rfl ?_
        refine gf_RX11_45 (r := (some h0)) hX dX11_takeInput_78 rfl hk13 ?_
        refine z_iload_n hX dX11_takeInput_81 rfl 2 rfl ?_
        refine z_dup2_11 hX dX11_takeInput_82 rfl (cat_rf _) ?_
        obtain ⟨a27, ha28, h⟩ := h
        obtain ⟨hk29, h⟩ := h
        obtain ⟨hc30, h⟩ := h
        refine y_iald (r := (mR (tI (tI M11 a14 (r10).toNatClampNeg l1) a23 ((((4 : Int32) * l1) + (aI (tI M11 a14 (r10).toNatClampNeg l1) a19 (l1).toNatClampNeg))).toNatClampNeg r10) 724 h0)) hX dX11_takeInput_83 ha28 hk29 hc30 ?_
        refine z_iconst (v := (1 : Int32)) hX dX11_takeInput_84 (by decide) ?_
        refine z_iadd hX dX11_takeInput_85 ?_
        obtain ⟨hc31, h⟩ := h
        refine y_iast (r := (mR (tI (tI M11 a14 (r10).toNatClampNeg l1) a23 ((((4 : Int32) * l1) + (aI (tI M11 a14 (r10).toNatClampNeg l1) a19 (l1).toNatClampNeg))).toNatClampNeg r10) 724 h0)) hX dX11_takeInput_86 ha28 hk29 hc31 ?_
        refine z_aload_n (r := (some h0)) hX dX11_takeInput_87 rfl 1 rfl ?_
        refine z_callVV (As := []) (rest := []) (ci := 11) hX (ct_X11_next h) mw_RX11_200 rfl (by decide) rfl (by rfl) (by unfold RoomC; decide) (by decide) dX11_takeInput_88 hk13 (fun M33 h => ?_)
        exact z_vret hX hQ dX11_takeInput_91 h
      · have h := h2 hc
        refine z_loc [1] rfl ?_
        exact zb_X11_takeInput_48 hX hQ hnL h
  · have h := h2 hc
    exact z_vret hX hQ dX11_takeInput_25 h
def wp_X11_takeInput (M : Mm) (h0 : Nat) (p1 : Int32) (K : Mm → Prop) : Prop := mK M h0 = 12 ∧ (wp_X11_good M h0 (fun r35 M36 => ((r35 = 0 → (bk_X11_takeInput_18 h0 K p1 M36)) ∧ (¬ r35 = 0 → mK M36 h0 = 12 ∧ (wp_X11_isName M36 h0 (fun r39 M40 => ((¬ r39 = 0 → (bk_X11_takeInput_18 h0 K p1 M40)) ∧ (r39 = 0 → mK M40 h0 = 12 ∧ (wp_X11_misplaced M40 h0 (fun M44 => (bk_X11_takeInput_18 h0 K p1 M44)))))))))))
set_option maxRecDepth 100000 in
set_option maxHeartbeats 4000000 in
theorem ct_X11_takeInput {M : Mm} {h0 : Nat} {p1 : Int32} {K : Mm → Prop} (h : wp_X11_takeInput M h0 p1 K) : CtV yX11_takeInput cX11_takeInput 3 none rm_X11_takeInput [.ref h0, .int p1] M K := by
  refine ct_any (QV K) (by decide) (by exact Nat.le_of_ble_eq_true rfl) (fun X hX hQ hnL hnm => ?_)
  rw [show lv_args 0 [.ref h0, .int p1] = [(0, va_rf (some h0)), (1, .int p1)] by rfl]
  have hX : Ok X cX11_takeInput RX11 rm_X11_takeInput := hX
  unfold wp_X11_takeInput at h
  refine z_aload_n (r := (some h0)) hX dX11_takeInput_0 rfl 0 rfl ?_
  obtain ⟨hk37, h⟩ := h
  refine z_callVI (As := []) (rest := []) (ci := 11) hX (ct_X11_good h) mw_RX11_190 rfl (by decide) rfl (by rfl) (by unfold RoomC; decide) (by decide) dX11_takeInput_1 hk37 (fun r35 M36 h => ?_)
  obtain ⟨h1, h2⟩ := h
  refine z_if_eq (tgt := 18) hX dX11_takeInput_4 (by decide) (fun hc => ?_) (fun hc => ?_)
  · have h := h1 hc
    exact zb_X11_takeInput_18 hX hQ hnL h
  · have h := h2 hc
    refine z_aload_n (r := (some h0)) hX dX11_takeInput_7 rfl 0 rfl ?_
    obtain ⟨hk41, h⟩ := h
    refine z_callVI (As := []) (rest := []) (ci := 11) hX (ct_X11_isName h) mw_RX11_206 rfl (by decide) rfl (by rfl) (by unfold RoomC; decide) (by decide) dX11_takeInput_8 hk41 (fun r39 M40 h => ?_)
    obtain ⟨h1, h2⟩ := h
    refine z_if_ne (tgt := 18) hX dX11_takeInput_11 (by decide) (fun hc => ?_) (fun hc => ?_)
    · have h := h1 hc
      exact zb_X11_takeInput_18 hX hQ hnL h
    · have h := h2 hc
      refine z_aload_n (r := (some h0)) hX dX11_takeInput_14 rfl 0 rfl ?_
      obtain ⟨hk45, h⟩ := h
      refine z_callVV (As := []) (rest := []) (ci := 11) hX (ct_X11_misplaced h) mw_RX11_197 rfl (by decide) rfl (by rfl) (by unfold RoomC; decide) (by decide) dX11_takeInput_15 hk45 (fun M44 h => ?_)
      exact zb_X11_takeInput_18 hX hQ hnL h
def rm_X11_takeSigned : Room := { frames := 2, cells := 0, slots := 0, locals := 48 }
def bk_X11_takeSigned_84 (h0 : Nat) (K : Int64 → Mm → Prop) (l1 : Int64) (s0 : Int64) (M : Mm) : Prop := ((l1 ≤ s0 → mK M h0 = 12 ∧ (wp_X11_next M h0 (fun M2 => (K s0 M2)))) ∧ (¬ l1 ≤ s0 → mK M h0 = 12 ∧ (wp_X11_fault M h0 (5 : Int32) (fun M6 => (K (0 : Int64) M6)))))
set_option maxRecDepth 100000 in
set_option maxHeartbeats 4000000 in
theorem zb_X11_takeSigned_84 {X : Cx} {h0 : Nat} {K : Int64 → Mm → Prop} (hX : Ok X cX11_takeSigned RX11 rm_X11_takeSigned) (hQ : Rq X rm_X11_takeSigned (some .long) (QJ K)) (hnL : X.2.2.2.2.2.2.2.2.2.2.2.2.2.2 = 6) {l1 : Int64} {s0 : Int64} {M : Mm} (h : bk_X11_takeSigned_84 h0 K l1 s0 M) : Z X M 0 0 84 [(0, va_rf (some h0)), (1, .long l1)] [.long s0] := by
  unfold bk_X11_takeSigned_84 at h
  refine z_lstore hX [(4, .long s0), (0, va_rf (some h0)), (1, .long l1)] dX11_takeSigned_84 (by rw [hnL]; decide) rfl ?_
  refine z_lload hX dX11_takeSigned_86 0 rfl ?_
  refine z_lload_n hX dX11_takeSigned_88 rfl 2 rfl ?_
  refine z_lcmp hX dX11_takeSigned_89 ?_
  obtain ⟨h1, h2⟩ := h
  refine z_if_ge (tgt := 100) hX dX11_takeSigned_90 (by decide) (fun hc => ?_) (fun hc => ?_)
  · have h := h1 ((lg_cmp_ge _ _).mp hc)
    refine z_aload_n (r := (some h0)) hX dX11_takeSigned_100 rfl 1 rfl ?_
    obtain ⟨hk3, h⟩ := h
    refine z_callVV (As := []) (rest := []) (ci := 11) hX (ct_X11_next h) mw_RX11_200 rfl (by decide) rfl (by rfl) (by unfold RoomC; decide) (by decide) dX11_takeSigned_101 hk3 (fun M2 h => ?_)
    refine z_lload hX dX11_takeSigned_104 0 rfl ?_
    exact z_lret hX hQ dX11_takeSigned_106 h
  · have h := h2 (fun q => hc ((lg_cmp_ge _ _).mpr q))
    refine z_aload_n (r := (some h0)) hX dX11_takeSigned_93 rfl 1 rfl ?_
    refine z_iconst (v := (5 : Int32)) hX dX11_takeSigned_94 (by decide) ?_
    obtain ⟨hk7, h⟩ := h
    refine z_callVV (As := [.int (5 : Int32)]) (rest := []) (ci := 11) hX (ct_X11_fault h) mw_RX11_187 rfl (by decide) rfl (by rfl) (by unfold RoomC; decide) (by decide) dX11_takeSigned_95 hk7 (fun M6 h => ?_)
    refine z_lconst (v := (0 : Int64)) hX dX11_takeSigned_98 (by decide) ?_
    exact z_lret hX hQ dX11_takeSigned_99 h
def bk_X11_takeSigned_59 (h0 : Nat) (K : Int64 → Mm → Prop) (l1 : Int64) (l3 : Int32) (M : Mm) : Prop := mK M h0 = 12 ∧ (wp_X11_good M h0 (fun r9 M10 => ((¬ r9 = 0 → ((l3 = 0 → mK M10 h0 = 12 ∧ (bk_X11_takeSigned_84 h0 K l1 (mJ M10 710 h0) M10)) ∧ (¬ l3 = 0 → mK M10 h0 = 12 ∧ (bk_X11_takeSigned_84 h0 K l1 (-(mJ M10 710 h0)) M10)))) ∧ (r9 = 0 → (K (0 : Int64) M10)))))
set_option maxRecDepth 100000 in
set_option maxHeartbeats 4000000 in
theorem zb_X11_takeSigned_59 {X : Cx} {h0 : Nat} {K : Int64 → Mm → Prop} (hX : Ok X cX11_takeSigned RX11 rm_X11_takeSigned) (hQ : Rq X rm_X11_takeSigned (some .long) (QJ K)) (hnL : X.2.2.2.2.2.2.2.2.2.2.2.2.2.2 = 6) {l1 : Int64} {l3 : Int32} {M : Mm} (h : bk_X11_takeSigned_59 h0 K l1 l3 M) : Z X M 0 0 59 [(0, va_rf (some h0)), (1, .long l1), (3, .int l3)] [] := by
  unfold bk_X11_takeSigned_59 at h
  refine z_aload_n (r := (some h0)) hX dX11_takeSigned_59 rfl 0 rfl ?_
  obtain ⟨hk11, h⟩ := h
  refine z_callVI (As := []) (rest := []) (ci := 11) hX (ct_X11_good h) mw_RX11_190 rfl (by decide) rfl (by rfl) (by unfold RoomC; decide) (by decide) dX11_takeSigned_60 hk11 (fun r9 M10 h => ?_)
  obtain ⟨h1, h2⟩ := h
  refine z_if_ne (tgt := 68) hX dX11_takeSigned_63 (by decide) (fun hc => ?_) (fun hc => ?_)
  · have h := h1 hc
    refine z_iload_n hX dX11_takeSigned_68 rfl 2 rfl ?_
    obtain ⟨h1, h2⟩ := h
    refine z_if_eq (tgt := 80) hX dX11_takeSigned_69 (by decide) (fun hc => ?_) (fun hc => ?_)
    · have h := h1 hc
      refine z_aload_n (r := (some h0)) hX dX11_takeSigned_80 rfl 0 rfl ?_
      obtain ⟨hk13, h⟩ := h
      refine gf_RX11_140 (r := (some h0)) hX dX11_takeSigned_81 rfl hk13 ?_
      refine z_loc [0, 1] rfl ?_
      exact zb_X11_takeSigned_84 hX hQ hnL h
    · have h := h2 hc
      refine z_aload_n (r := (some h0)) hX dX11_takeSigned_72 rfl 0 rfl ?_
      obtain ⟨hk14, h⟩ := h
      refine gf_RX11_140 (r := (some h0)) hX dX11_takeSigned_73 rfl hk14 ?_
      refine z_lneg hX dX11_takeSigned_76 ?_
      refine z_goto (tgt := 84) hX dX11_takeSigned_77 (by decide) ?_
      refine z_loc [0, 1] rfl ?_
      exact zb_X11_takeSigned_84 hX hQ hnL h
  · have h := h2 hc
    refine z_lconst (v := (0 : Int64)) hX dX11_takeSigned_66 (by decide) ?_
    exact z_lret hX hQ dX11_takeSigned_67 h
def bk_X11_takeSigned_40 (h0 : Nat) (K : Int64 → Mm → Prop) (l1 : Int64) (l3 : Int32) (M : Mm) : Prop := mK M h0 = 12 ∧ (wp_X11_good M h0 (fun r15 M16 => ((r15 = 0 → (bk_X11_takeSigned_59 h0 K l1 l3 M16)) ∧ (¬ r15 = 0 → mK M16 h0 = 12 ∧ (((mI M16 708 h0) = (2 : Int32) → (bk_X11_takeSigned_59 h0 K l1 l3 M16)) ∧ (¬ (mI M16 708 h0) = (2 : Int32) → (wp_X11_misplaced M16 h0 (fun M21 => (bk_X11_takeSigned_59 h0 K l1 l3 M21)))))))))
set_option maxRecDepth 100000 in
set_option maxHeartbeats 4000000 in
theorem zb_X11_takeSigned_40 {X : Cx} {h0 : Nat} {K : Int64 → Mm → Prop} (hX : Ok X cX11_takeSigned RX11 rm_X11_takeSigned) (hQ : Rq X rm_X11_takeSigned (some .long) (QJ K)) (hnL : X.2.2.2.2.2.2.2.2.2.2.2.2.2.2 = 6) {l1 : Int64} {l3 : Int32} {M : Mm} (h : bk_X11_takeSigned_40 h0 K l1 l3 M) : Z X M 0 0 40 [(0, va_rf (some h0)), (1, .long l1), (3, .int l3)] [] := by
  unfold bk_X11_takeSigned_40 at h
  refine z_aload_n (r := (some h0)) hX dX11_takeSigned_40 rfl 0 rfl ?_
  obtain ⟨hk17, h⟩ := h
  refine z_callVI (As := []) (rest := []) (ci := 11) hX (ct_X11_good h) mw_RX11_190 rfl (by decide) rfl (by rfl) (by unfold RoomC; decide) (by decide) dX11_takeSigned_41 hk17 (fun r15 M16 h => ?_)
  obtain ⟨h1, h2⟩ := h
  refine z_if_eq (tgt := 59) hX dX11_takeSigned_44 (by decide) (fun hc => ?_) (fun hc => ?_)
  · have h := h1 hc
    exact zb_X11_takeSigned_59 hX hQ hnL h
  · have h := h2 hc
    refine z_aload_n (r := (some h0)) hX dX11_takeSigned_47 rfl 0 rfl ?_
    obtain ⟨hk19, h⟩ := h
    refine gf_RX11_147 (r := (some h0)) hX dX11_takeSigned_48 rfl hk19 ?_
    refine z_iconst (v := (2 : Int32)) hX dX11_takeSigned_51 (by decide) ?_
    obtain ⟨h1, h2⟩ := h
    refine z_icmp_eq (tgt := 59) hX dX11_takeSigned_52 (by decide) (fun hc => ?_) (fun hc => ?_)
    · have h := h1 hc
      exact zb_X11_takeSigned_59 hX hQ hnL h
    · have h := h2 hc
      refine z_aload_n (r := (some h0)) hX dX11_takeSigned_55 rfl 0 rfl ?_
      refine z_callVV (As := []) (rest := []) (ci := 11) hX (ct_X11_misplaced h) mw_RX11_197 rfl (by decide) rfl (by rfl) (by unfold RoomC; decide) (by decide) dX11_takeSigned_56 hk19 (fun M21 h => ?_)
      exact zb_X11_takeSigned_59 hX hQ hnL h
def bk_X11_takeSigned_31 (h0 : Nat) (K : Int64 → Mm → Prop) (l1 : Int64) (s0 : Int32) (M : Mm) : Prop := ((s0 = 0 → (bk_X11_takeSigned_40 h0 K l1 s0 M)) ∧ (¬ s0 = 0 → mK M h0 = 12 ∧ (wp_X11_next M h0 (fun M24 => (bk_X11_takeSigned_40 h0 K l1 s0 M24)))))
set_option maxRecDepth 100000 in
set_option maxHeartbeats 4000000 in
theorem zb_X11_takeSigned_31 {X : Cx} {h0 : Nat} {K : Int64 → Mm → Prop} (hX : Ok X cX11_takeSigned RX11 rm_X11_takeSigned) (hQ : Rq X rm_X11_takeSigned (some .long) (QJ K)) (hnL : X.2.2.2.2.2.2.2.2.2.2.2.2.2.2 = 6) {l1 : Int64} {s0 : Int32} {M : Mm} (h : bk_X11_takeSigned_31 h0 K l1 s0 M) : Z X M 0 0 31 [(0, va_rf (some h0)), (1, .long l1)] [.int s0] := by
  unfold bk_X11_takeSigned_31 at h
  refine z_istore_n hX [(3, .int s0), (0, va_rf (some h0)), (1, .long l1)] dX11_takeSigned_31 rfl (by rw [hnL]; decide) rfl ?_
  refine z_iload_n hX dX11_takeSigned_32 rfl 0 rfl ?_
  obtain ⟨h1, h2⟩ := h
  refine z_if_eq (tgt := 40) hX dX11_takeSigned_33 (by decide) (fun hc => ?_) (fun hc => ?_)
  · have h := h1 hc
    refine z_loc [1, 2, 0] rfl ?_
    exact zb_X11_takeSigned_40 hX hQ hnL h
  · have h := h2 hc
    refine z_aload_n (r := (some h0)) hX dX11_takeSigned_36 rfl 1 rfl ?_
    obtain ⟨hk25, h⟩ := h
    refine z_callVV (As := []) (rest := []) (ci := 11) hX (ct_X11_next h) mw_RX11_200 rfl (by decide) rfl (by rfl) (by unfold RoomC; decide) (by decide) dX11_takeSigned_37 hk25 (fun M24 h => ?_)
    refine z_loc [1, 2, 0] rfl ?_
    exact zb_X11_takeSigned_40 hX hQ hnL h
def bk_X11_takeSigned_30 (h0 : Nat) (K : Int64 → Mm → Prop) (l1 : Int64) (M : Mm) : Prop := (bk_X11_takeSigned_31 h0 K l1 (0 : Int32) M)
set_option maxRecDepth 100000 in
set_option maxHeartbeats 4000000 in
theorem zb_X11_takeSigned_30 {X : Cx} {h0 : Nat} {K : Int64 → Mm → Prop} (hX : Ok X cX11_takeSigned RX11 rm_X11_takeSigned) (hQ : Rq X rm_X11_takeSigned (some .long) (QJ K)) (hnL : X.2.2.2.2.2.2.2.2.2.2.2.2.2.2 = 6) {l1 : Int64} {M : Mm} (h : bk_X11_takeSigned_30 h0 K l1 M) : Z X M 0 0 30 [(0, va_rf (some h0)), (1, .long l1)] [] := by
  unfold bk_X11_takeSigned_30 at h
  refine z_iconst (v := (0 : Int32)) hX dX11_takeSigned_30 (by decide) ?_
  exact zb_X11_takeSigned_31 hX hQ hnL h
def wp_X11_takeSigned (M : Mm) (h0 : Nat) (p1 : Int64) (K : Int64 → Mm → Prop) : Prop := mK M h0 = 12 ∧ (wp_X11_good M h0 (fun r27 M28 => ((r27 = 0 → (bk_X11_takeSigned_30 h0 K p1 M28)) ∧ (¬ r27 = 0 → mK M28 h0 = 12 ∧ ((¬ (mI M28 708 h0) = (3 : Int32) → (bk_X11_takeSigned_30 h0 K p1 M28)) ∧ ((mI M28 708 h0) = (3 : Int32) → ((¬ (mJ M28 710 h0) = (45 : Int64) → (bk_X11_takeSigned_30 h0 K p1 M28)) ∧ ((mJ M28 710 h0) = (45 : Int64) → (bk_X11_takeSigned_31 h0 K p1 (1 : Int32) M28)))))))))
set_option maxRecDepth 100000 in
set_option maxHeartbeats 4000000 in
theorem ct_X11_takeSigned {M : Mm} {h0 : Nat} {p1 : Int64} {K : Int64 → Mm → Prop} (h : wp_X11_takeSigned M h0 p1 K) : CtJ yX11_takeSigned cX11_takeSigned 6 (some .long) rm_X11_takeSigned [.ref h0, .long p1] M K := by
  refine ct_any (QJ K) (by decide) (by exact Nat.le_of_ble_eq_true rfl) (fun X hX hQ hnL hnm => ?_)
  rw [show lv_args 0 [.ref h0, .long p1] = [(0, va_rf (some h0)), (1, .long p1)] by rfl]
  have hX : Ok X cX11_takeSigned RX11 rm_X11_takeSigned := hX
  unfold wp_X11_takeSigned at h
  refine z_aload_n (r := (some h0)) hX dX11_takeSigned_0 rfl 0 rfl ?_
  obtain ⟨hk29, h⟩ := h
  refine z_callVI (As := []) (rest := []) (ci := 11) hX (ct_X11_good h) mw_RX11_190 rfl (by decide) rfl (by rfl) (by unfold RoomC; decide) (by decide) dX11_takeSigned_1 hk29 (fun r27 M28 h => ?_)
  obtain ⟨h1, h2⟩ := h
  refine z_if_eq (tgt := 30) hX dX11_takeSigned_4 (by decide) (fun hc => ?_) (fun hc => ?_)
  · have h := h1 hc
    exact zb_X11_takeSigned_30 hX hQ hnL h
  · have h := h2 hc
    refine z_aload_n (r := (some h0)) hX dX11_takeSigned_7 rfl 0 rfl ?_
    obtain ⟨hk31, h⟩ := h
    refine gf_RX11_147 (r := (some h0)) hX dX11_takeSigned_8 rfl hk31 ?_
    refine z_iconst (v := (3 : Int32)) hX dX11_takeSigned_11 (by decide) ?_
    obtain ⟨h1, h2⟩ := h
    refine z_icmp_ne (tgt := 30) hX dX11_takeSigned_12 (by decide) (fun hc => ?_) (fun hc => ?_)
    · have h := h1 hc
      exact zb_X11_takeSigned_30 hX hQ hnL h
    · have h := h2 hc
      refine z_aload_n (r := (some h0)) hX dX11_takeSigned_15 rfl 0 rfl ?_
      refine gf_RX11_140 (r := (some h0)) hX dX11_takeSigned_16 rfl hk31 ?_
      refine z_ldc2 (v := (45 : Int64)) hX dX11_takeSigned_19 kj_RX11_255 ?_
      refine z_lcmp hX dX11_takeSigned_22 ?_
      obtain ⟨h1, h2⟩ := h
      refine z_if_ne (tgt := 30) hX dX11_takeSigned_23 (by decide) (fun hc => ?_) (fun hc => ?_)
      · have h := h1 (fun q => hc ((lg_cmp_eq _ _).mpr q))
        exact zb_X11_takeSigned_30 hX hQ hnL h
      · have h := h2 ((lg_cmp_eq _ _).mp hc)
        refine z_iconst (v := (1 : Int32)) hX dX11_takeSigned_26 (by decide) ?_
        refine z_goto (tgt := 31) hX dX11_takeSigned_27 (by decide) ?_
        exact zb_X11_takeSigned_31 hX hQ hnL h
def rm_X11_window : Room := { frames := 3, cells := 0, slots := 0, locals := 74 }
def bk_X11_window_119 (h0 : Nat) (K : Mm → Prop) (l1 : Int32) (M : Mm) : Prop := mK M h0 = 12 ∧ (wp_X11_takeNumber M h0 (1 : Int64) (1000000 : Int64) (fun r2 M3 => ∃ a5, (mR M 721 h0) = some a5 ∧ isA M3 a5 2 ∧ vp_in l1 (aN M3 a5) ∧ (K (tJ M3 a5 (l1).toNatClampNeg r2))))
set_option maxRecDepth 100000 in
set_option maxHeartbeats 4000000 in
theorem zb_X11_window_119 {X : Cx} {h0 : Nat} {K : Mm → Prop} (hX : Ok X cX11_window RX11 rm_X11_window) (hQ : Rq X rm_X11_window none (QV K)) (hnL : X.2.2.2.2.2.2.2.2.2.2.2.2.2.2 = 2) {l1 : Int32} {M : Mm} (h : bk_X11_window_119 h0 K l1 M) : Z X M 0 0 119 [(0, va_rf (some h0)), (1, .int l1)] [] := by
  unfold bk_X11_window_119 at h
  refine z_aload_n (r := (some h0)) hX dX11_window_119 rfl 0 rfl ?_
  obtain ⟨hk1, h⟩ := h
  refine gf_RX11_36 (r := (some h0)) hX dX11_window_120 rfl hk1 ?_
  refine z_iload_n hX dX11_window_123 rfl 1 rfl ?_
  refine z_aload_n (r := (some h0)) hX dX11_window_124 rfl 0 rfl ?_
  refine z_lconst (v := (1 : Int64)) hX dX11_window_125 (by decide) ?_
  refine z_ldc2 (v := (1000000 : Int64)) hX dX11_window_126 kj_RX11_260 ?_
  refine z_callVJ (As := [.long (1 : Int64), .long (1000000 : Int64)]) (rest := [.int l1, va_rf (mR M 721 h0)]) (ci := 11) hX (ct_X11_takeNumber h) mw_RX11_227 rfl (by decide) rfl (by rfl) (by unfold RoomC; decide) (by simp only [List.map_cons, List.map_nil, List.sum_cons, List.sum_nil, cat_rf, cat_i, cat_j]; decide) dX11_window_129 hk1 (fun r2 M3 h => ?_)
  obtain ⟨a5, ha6, h⟩ := h
  obtain ⟨hk7, h⟩ := h
  obtain ⟨hc8, h⟩ := h
  refine y_last (r := (mR M 721 h0)) hX dX11_window_132 ha6 hk7 hc8 ?_
  exact z_vret hX hQ dX11_window_133 h
def bk_X11_window_114 (h0 : Nat) (K : Mm → Prop) (l1 : Int32) (M : Mm) : Prop := mK M h0 = 12 ∧ (wp_X11_fault M h0 (5 : Int32) (fun M10 => (bk_X11_window_119 h0 K l1 M10)))
set_option maxRecDepth 100000 in
set_option maxHeartbeats 4000000 in
theorem zb_X11_window_114 {X : Cx} {h0 : Nat} {K : Mm → Prop} (hX : Ok X cX11_window RX11 rm_X11_window) (hQ : Rq X rm_X11_window none (QV K)) (hnL : X.2.2.2.2.2.2.2.2.2.2.2.2.2.2 = 2) {l1 : Int32} {M : Mm} (h : bk_X11_window_114 h0 K l1 M) : Z X M 0 0 114 [(0, va_rf (some h0)), (1, .int l1)] [] := by
  unfold bk_X11_window_114 at h
  refine z_aload_n (r := (some h0)) hX dX11_window_114 rfl 0 rfl ?_
  refine z_iconst (v := (5 : Int32)) hX dX11_window_115 (by decide) ?_
  obtain ⟨hk11, h⟩ := h
  refine z_callVV (As := [.int (5 : Int32)]) (rest := []) (ci := 11) hX (ct_X11_fault h) mw_RX11_187 rfl (by decide) rfl (by rfl) (by unfold RoomC; decide) (by decide) dX11_window_116 hk11 (fun M10 h => ?_)
  exact zb_X11_window_119 hX hQ hnL h
def wp_X11_window (M : Mm) (h0 : Nat) (p1 : Int32) (K : Mm → Prop) : Prop := mK M h0 = 12 ∧ ((¬ (mI M 731 h0) = (3 : Int32) → (wp_X11_next (sI M 731 h0 ((mI M 731 h0) + (1 : Int32))) h0 (fun M16 => mK M16 h0 = 12 ∧ ∃ a19, (mR M16 715 h0) = some a19 ∧ isA M16 a19 1 ∧ vp_in p1 (aN M16 a19) ∧ (wp_X11_takeInput (tI M16 a19 (p1).toNatClampNeg (5 : Int32)) h0 p1 (fun M24 => mK M24 h0 = 12 ∧ (wp_X11_takeKeyword M24 h0 (12 : Int32) (fun M27 => mK M27 h0 = 12 ∧ (wp_X11_takeNumber M27 h0 (1 : Int64) (1000000 : Int64) (fun r31 M32 => ∃ a34, (mR M27 720 h0) = some a34 ∧ isA M32 a34 2 ∧ vp_in p1 (aN M32 a34) ∧ mK (tJ M32 a34 (p1).toNatClampNeg r31) h0 = 12 ∧ (wp_X11_takeKeyword (tJ M32 a34 (p1).toNatClampNeg r31) h0 (13 : Int32) (fun M39 => mK M39 h0 = 12 ∧ (wp_X11_good M39 h0 (fun r42 M43 => ((r42 = 0 → (bk_X11_window_119 h0 K p1 M43)) ∧ (¬ r42 = 0 → mK M43 h0 = 12 ∧ ((¬ (mI M43 708 h0) = (2 : Int32) → (bk_X11_window_119 h0 K p1 M43)) ∧ ((mI M43 708 h0) = (2 : Int32) → ∃ a47, (mR M43 720 h0) = some a47 ∧ isA M43 a47 2 ∧ vp_in p1 (aN M43 a47) ∧ (((aJ M43 a47 (p1).toNatClampNeg) < (mJ M43 710 h0) → (bk_X11_window_114 h0 K p1 M43)) ∧ (¬ (aJ M43 a47 (p1).toNatClampNeg) < (mJ M43 710 h0) → vp_in p1 (aN M43 a47) ∧ (((aJ M43 a47 (p1).toNatClampNeg) ≤ ((4 : Int64) * (mJ M43 710 h0)) → (bk_X11_window_119 h0 K p1 M43)) ∧ (¬ (aJ M43 a47 (p1).toNatClampNeg) ≤ ((4 : Int64) * (mJ M43 710 h0)) → (bk_X11_window_114 h0 K p1 M43)))))))))))))))))))))) ∧ ((mI M 731 h0) = (3 : Int32) → (wp_X11_fault M h0 (6 : Int32) (fun M53 => (K M53)))))
set_option maxRecDepth 100000 in
set_option maxHeartbeats 4000000 in
theorem ct_X11_window {M : Mm} {h0 : Nat} {p1 : Int32} {K : Mm → Prop} (h : wp_X11_window M h0 p1 K) : CtV yX11_window cX11_window 2 none rm_X11_window [.ref h0, .int p1] M K := by
  refine ct_any (QV K) (by decide) (by exact Nat.le_of_ble_eq_true rfl) (fun X hX hQ hnL hnm => ?_)
  rw [show lv_args 0 [.ref h0, .int p1] = [(0, va_rf (some h0)), (1, .int p1)] by rfl]
  have hX : Ok X cX11_window RX11 rm_X11_window := hX
  unfold wp_X11_window at h
  refine z_aload_n (r := (some h0)) hX dX11_window_0 rfl 0 rfl ?_
  obtain ⟨hk13, h⟩ := h
  refine gf_RX11_257 (r := (some h0)) hX dX11_window_1 rfl hk13 ?_
  refine z_iconst (v := (3 : Int32)) hX dX11_window_4 (by decide) ?_
  obtain ⟨h1, h2⟩ := h
  refine z_icmp_ne (tgt := 15) hX dX11_window_5 (by decide) (fun hc => ?_) (fun hc => ?_)
  · have h := h1 hc
    refine z_aload_n (r := (some h0)) hX dX11_window_15 rfl 0 rfl ?_
    refine z_dup hX dX11_window_16 (cat_rf _) ?_
    refine gf_RX11_257 (r := (some h0)) hX dX11_window_17 rfl hk13 ?_
    refine z_iconst (v := (1 : Int32)) hX dX11_window_20 (by decide) ?_
    refine z_iadd hX dX11_window_21 ?_
    refine pf_RX11_257 (r := (some h0)) (v := ((mI M 731 h0) + (1 : Int32))) hX dX11_window_22 rfl hk13 ?_
    refine z_aload_n (r := (some h0)) hX dX11_window_25 rfl 0 rfl ?_
    refine z_callVV (As := []) (rest := []) (ci := 11) hX (ct_X11_next h) mw_RX11_200 rfl (by decide) rfl (by rfl) (by unfold RoomC; decide) (by decide) dX11_window_26 hk13 (fun M16 h => ?_)
    refine z_aload_n (r := (some h0)) hX dX11_window_29 rfl 0 rfl ?_
    obtain ⟨hk18, h⟩ := h
    refine gf_RX11_15 (r := (some h0)) hX dX11_window_30 rfl hk18 ?_
    refine z_iload_n hX dX11_window_33 rfl 1 rfl ?_
    refine z_iconst (v := (5 : Int32)) hX dX11_window_34 (by decide) ?_
    obtain ⟨a19, ha20, h⟩ := h
    obtain ⟨hk21, h⟩ := h
    obtain ⟨hc22, h⟩ := h
    refine y_iast (r := (mR M16 715 h0)) hX dX11_window_35 ha20 hk21 hc22 ?_
    refine z_aload_n (r := (some h0)) hX dX11_window_36 rfl 0 rfl ?_
    refine z_iload_n hX dX11_window_37 rfl 1 rfl ?_
    refine z_callVV (As := [.int p1]) (rest := []) (ci := 11) hX (ct_X11_takeInput h) mw_RX11_222 rfl (by decide) rfl (by rfl) (by unfold RoomC; decide) (by decide) dX11_window_38 hk18 (fun M24 h => ?_)
    refine z_aload_n (r := (some h0)) hX dX11_window_41 rfl 0 rfl ?_
    refine z_bipush (v := (12 : Int32)) hX dX11_window_42 (by decide) ?_
    obtain ⟨hk28, h⟩ := h
    refine z_callVV (As := [.int (12 : Int32)]) (rest := []) (ci := 11) hX (ct_X11_takeKeyword h) mw_RX11_239 rfl (by decide) rfl (by rfl) (by unfold RoomC; decide) (by decide) dX11_window_44 hk28 (fun M27 h => ?_)
    refine z_aload_n (r := (some h0)) hX dX11_window_47 rfl 0 rfl ?_
    obtain ⟨hk30, h⟩ := h
    refine gf_RX11_33 (r := (some h0)) hX dX11_window_48 rfl hk30 ?_
    refine z_iload_n hX dX11_window_51 rfl 1 rfl ?_
    refine z_aload_n (r := (some h0)) hX dX11_window_52 rfl 0 rfl ?_
    refine z_lconst (v := (1 : Int64)) hX dX11_window_53 (by decide) ?_
    refine z_ldc2 (v := (1000000 : Int64)) hX dX11_window_54 kj_RX11_260 ?_
    refine z_callVJ (As := [.long (1 : Int64), .long (1000000 : Int64)]) (rest := [.int p1, va_rf (mR M27 720 h0)]) (ci := 11) hX (ct_X11_takeNumber h) mw_RX11_227 rfl (by decide) rfl (by rfl) (by unfold RoomC; decide) (by simp only [List.map_cons, List.map_nil, List.sum_cons, List.sum_nil, cat_rf, cat_i, cat_j]; decide) dX11_window_57 hk30 (fun r31 M32 h => ?_)
    obtain ⟨a34, ha35, h⟩ := h
    obtain ⟨hk36, h⟩ := h
    obtain ⟨hc37, h⟩ := h
    refine y_last (r := (mR M27 720 h0)) hX dX11_window_60 ha35 hk36 hc37 ?_
    refine z_aload_n (r := (some h0)) hX dX11_window_61 rfl 0 rfl ?_
    refine z_bipush (v := (13 : Int32)) hX dX11_window_62 (by decide) ?_
    obtain ⟨hk40, h⟩ := h
    refine z_callVV (As := [.int (13 : Int32)]) (rest := []) (ci := 11) hX (ct_X11_takeKeyword h) mw_RX11_239 rfl (by decide) rfl (by rfl) (by unfold RoomC; decide) (by decide) dX11_window_64 hk40 (fun M39 h => ?_)
    refine z_aload_n (r := (some h0)) hX dX11_window_67 rfl 0 rfl ?_
    obtain ⟨hk44, h⟩ := h
    refine z_callVI (As := []) (rest := []) (ci := 11) hX (ct_X11_good h) mw_RX11_190 rfl (by decide) rfl (by rfl) (by unfold RoomC; decide) (by decide) dX11_window_68 hk44 (fun r42 M43 h => ?_)
    obtain ⟨h1, h2⟩ := h
    refine z_if_eq (tgt := 119) hX dX11_window_71 (by decide) (fun hc => ?_) (fun hc => ?_)
    · have h := h1 hc
      exact zb_X11_window_119 hX hQ hnL h
    · have h := h2 hc
      refine z_aload_n (r := (some h0)) hX dX11_window_74 rfl 0 rfl ?_
      obtain ⟨hk46, h⟩ := h
      refine gf_RX11_147 (r := (some h0)) hX dX11_window_75 rfl hk46 ?_
      refine z_iconst (v := (2 : Int32)) hX dX11_window_78 (by decide) ?_
      obtain ⟨h1, h2⟩ := h
      refine z_icmp_ne (tgt := 119) hX dX11_window_79 (by decide) (fun hc => ?_) (fun hc => ?_)
      · have h := h1 hc
        exact zb_X11_window_119 hX hQ hnL h
      · have h := h2 hc
        refine z_aload_n (r := (some h0)) hX dX11_window_82 rfl 0 rfl ?_
        refine gf_RX11_140 (r := (some h0)) hX dX11_window_83 rfl hk46 ?_
        refine z_aload_n (r := (some h0)) hX dX11_window_86 rfl 0 rfl ?_
        refine gf_RX11_33 (r := (some h0)) hX dX11_window_87 rfl hk46 ?_
        refine z_iload_n hX dX11_window_90 rfl 1 rfl ?_
        obtain ⟨a47, ha48, h⟩ := h
        obtain ⟨hk49, h⟩ := h
        obtain ⟨hc50, h⟩ := h
        refine y_lald (r := (mR M43 720 h0)) hX dX11_window_91 ha48 hk49 hc50 ?_
        refine z_lcmp hX dX11_window_92 ?_
        obtain ⟨h1, h2⟩ := h
        refine z_if_gt (tgt := 114) hX dX11_window_93 (by decide) (fun hc => ?_) (fun hc => ?_)
        · have h := h1 ((lg_cmp_gt _ _).mp hc)
          exact zb_X11_window_114 hX hQ hnL h
        · have h := h2 (fun q => hc ((lg_cmp_gt _ _).mpr q))
          refine z_aload_n (r := (some h0)) hX dX11_window_96 rfl 0 rfl ?_
          refine gf_RX11_33 (r := (some h0)) hX dX11_window_97 rfl hk46 ?_
          refine z_iload_n hX dX11_window_100 rfl 1 rfl ?_
          obtain ⟨hc51, h⟩ := h
          refine y_lald (r := (mR M43 720 h0)) hX dX11_window_101 ha48 hk49 hc51 ?_
          refine z_ldc2 (v := (4 : Int64)) hX dX11_window_102 kj_RX11_237 ?_
          refine z_aload_n (r := (some h0)) hX dX11_window_105 rfl 0 rfl ?_
          refine gf_RX11_140 (r := (some h0)) hX dX11_window_106 rfl hk46 ?_
          refine z_lmul hX dX11_window_109 ?_
          refine z_lcmp hX dX11_window_110 ?_
          obtain ⟨h1, h2⟩ := h
          refine z_if_le (tgt := 119) hX dX11_window_111 (by decide) (fun hc => ?_) (fun hc => ?_)
          · have h := h1 ((lg_cmp_le _ _).mp hc)
            exact zb_X11_window_119 hX hQ hnL h
          · have h := h2 (fun q => hc ((lg_cmp_le _ _).mpr q))
            exact zb_X11_window_114 hX hQ hnL h
  · have h := h2 hc
    refine z_aload_n (r := (some h0)) hX dX11_window_8 rfl 0 rfl ?_
    refine z_bipush (v := (6 : Int32)) hX dX11_window_9 (by decide) ?_
    refine z_callVV (As := [.int (6 : Int32)]) (rest := []) (ci := 11) hX (ct_X11_fault h) mw_RX11_187 rfl (by decide) rfl (by rfl) (by unfold RoomC; decide) (by decide) dX11_window_11 hk13 (fun M53 h => ?_)
    exact z_vret hX hQ dX11_window_14 h
def rm_X11_align : Room := { frames := 3, cells := 0, slots := 0, locals := 74 }
def bk_X11_align_94 (h0 : Nat) (K : Mm → Prop) (M : Mm) : Prop := (K M)
set_option maxRecDepth 100000 in
set_option maxHeartbeats 4000000 in
theorem zb_X11_align_94 {X : Cx} {h0 : Nat} {K : Mm → Prop} (hX : Ok X cX11_align RX11 rm_X11_align) (hQ : Rq X rm_X11_align none (QV K)) (hnL : X.2.2.2.2.2.2.2.2.2.2.2.2.2.2 = 4) {M : Mm} (h : bk_X11_align_94 h0 K M) : Z X M 0 0 94 [] [] := by
  unfold bk_X11_align_94 at h
  exact z_vret hX hQ dX11_align_94 h
def bk_X11_align_48 (h0 : Nat) (K : Mm → Prop) (M : Mm) : Prop := mK M h0 = 12 ∧ (wp_X11_takeNumber M h0 (0 : Int64) (3 : Int64) (fun r1 M2 => mK M2 h0 = 12 ∧ (wp_X11_takeNumber M2 h0 (0 : Int64) (9223372036854775807 : Int64) (fun r5 M6 => mK M6 h0 = 12 ∧ (wp_X11_takeSign M6 h0 (59 : Int32) (fun M10 => mK M10 h0 = 12 ∧ (wp_X11_good M10 h0 (fun r13 M14 => ((r13 = 0 → (bk_X11_align_94 h0 K M14)) ∧ (¬ r13 = 0 → mK M14 h0 = 12 ∧ ∃ a18, (mR M14 727 h0) = some a18 ∧ isA M14 a18 3 ∧ vp_in ((r1).toInt32) (aN M14 a18) ∧ ∃ a22, (mR (tI M14 a18 (((r1).toInt32)).toNatClampNeg (1 : Int32)) 728 h0) = some a22 ∧ isA (tI M14 a18 (((r1).toInt32)).toNatClampNeg (1 : Int32)) a22 2 ∧ vp_in ((r1).toInt32) (aN (tI M14 a18 (((r1).toInt32)).toNatClampNeg (1 : Int32)) a22) ∧ (bk_X11_align_94 h0 K (tJ (tI M14 a18 (((r1).toInt32)).toNatClampNeg (1 : Int32)) a22 (((r1).toInt32)).toNatClampNeg r5))))))))))))
set_option maxRecDepth 100000 in
set_option maxHeartbeats 4000000 in
theorem zb_X11_align_48 {X : Cx} {h0 : Nat} {K : Mm → Prop} (hX : Ok X cX11_align RX11 rm_X11_align) (hQ : Rq X rm_X11_align none (QV K)) (hnL : X.2.2.2.2.2.2.2.2.2.2.2.2.2.2 = 4) {M : Mm} (h : bk_X11_align_48 h0 K M) : Z X M 0 0 48 [(0, va_rf (some h0))] [] := by
  unfold bk_X11_align_48 at h
  refine z_aload_n (r := (some h0)) hX dX11_align_48 rfl 0 rfl ?_
  refine z_lconst (v := (0 : Int64)) hX dX11_align_49 (by decide) ?_
  refine z_ldc2 (v := (3 : Int64)) hX dX11_align_50 kj_RX11_244 ?_
  obtain ⟨hk3, h⟩ := h
  refine z_callVJ (As := [.long (0 : Int64), .long (3 : Int64)]) (rest := []) (ci := 11) hX (ct_X11_takeNumber h) mw_RX11_227 rfl (by decide) rfl (by rfl) (by unfold RoomC; decide) (by decide) dX11_align_53 hk3 (fun r1 M2 h => ?_)
  refine z_l2i hX dX11_align_56 ?_
  refine z_istore_n hX [(1, .int ((r1).toInt32)), (0, va_rf (some h0))] dX11_align_57 rfl (by rw [hnL]; decide) rfl ?_
  refine z_aload_n (r := (some h0)) hX dX11_align_58 rfl 1 rfl ?_
  refine z_lconst (v := (0 : Int64)) hX dX11_align_59 (by decide) ?_
  refine z_ldc2 (v := (9223372036854775807 : Int64)) hX dX11_align_60 kj_RX11_225 ?_
  obtain ⟨hk7, h⟩ := h
  refine z_callVJ (As := [.long (0 : Int64), .long (9223372036854775807 : Int64)]) (rest := []) (ci := 11) hX (ct_X11_takeNumber h) mw_RX11_227 rfl (by decide) rfl (by rfl) (by unfold RoomC; decide) (by decide) dX11_align_63 hk7 (fun r5 M6 h => ?_)
  refine z_lstore_n hX [(2, .long r5), (1, .int ((r1).toInt32)), (0, va_rf (some h0))] dX11_align_66 rfl (by rw [hnL]; decide) rfl ?_
  refine z_aload_n (r := (some h0)) hX dX11_align_67 rfl 2 rfl ?_
  refine z_bipush (v := (59 : Int32)) hX dX11_align_68 (by decide) ?_
  obtain ⟨hk11, h⟩ := h
  refine z_callVV (As := [.int (59 : Int32)]) (rest := []) (ci := 11) hX (ct_X11_takeSign h) mw_RX11_213 rfl (by decide) rfl (by rfl) (by unfold RoomC; decide) (by decide) dX11_align_70 hk11 (fun M10 h => ?_)
  refine z_aload_n (r := (some h0)) hX dX11_align_73 rfl 2 rfl ?_
  obtain ⟨hk15, h⟩ := h
  refine z_callVI (As := []) (rest := []) (ci := 11) hX (ct_X11_good h) mw_RX11_190 rfl (by decide) rfl (by rfl) (by unfold RoomC; decide) (by decide) dX11_align_74 hk15 (fun r13 M14 h => ?_)
  obtain ⟨h1, h2⟩ := h
  refine z_if_eq (tgt := 94) hX dX11_align_77 (by decide) (fun hc => ?_) (fun hc => ?_)
  · have h := h1 hc
    refine z_loc [] rfl ?_
    exact zb_X11_align_94 hX hQ hnL h
  · have h := h2 hc
    refine z_aload_n (r := (some h0)) hX dX11_align_80 rfl 2 rfl ?_
    obtain ⟨hk17, h⟩ := h
    refine gf_RX11_54 (r := (some h0)) hX dX11_align_81 rfl hk17 ?_
    refine z_iload_n hX dX11_align_84 rfl 1 rfl ?_
    refine z_iconst (v := (1 : Int32)) hX dX11_align_85 (by decide) ?_
    obtain ⟨a18, ha19, h⟩ := h
    obtain ⟨hk20, h⟩ := h
    obtain ⟨hc21, h⟩ := h
    refine y_zast (r := (mR M14 727 h0)) hX dX11_align_86 ha19 hk20 hc21 (Or.inr rfl)  ?_
    refine z_aload_n (r := (some h0)) hX dX11_align_87 rfl 2 rfl ?_
    refine gf_RX11_57 (r := (some h0)) hX dX11_align_88 rfl hk17 ?_
    refine z_iload_n hX dX11_align_91 rfl 1 rfl ?_
    refine z_lload_n hX dX11_align_92 rfl 0 rfl ?_
    obtain ⟨a22, ha23, h⟩ := h
    obtain ⟨hk24, h⟩ := h
    obtain ⟨hc25, h⟩ := h
    refine y_last (r := (mR (tI M14 a18 (((r1).toInt32)).toNatClampNeg (1 : Int32)) 728 h0)) hX dX11_align_93 ha23 hk24 hc25 ?_
    refine z_loc [] rfl ?_
    exact zb_X11_align_94 hX hQ hnL h
def wp_X11_align (M : Mm) (h0 : Nat) (K : Mm → Prop) : Prop := mK M h0 = 12 ∧ (wp_X11_next M h0 (fun M27 => mK M27 h0 = 12 ∧ (wp_X11_good M27 h0 (fun r30 M31 => ((r30 = 0 → (bk_X11_align_48 h0 K M31)) ∧ (¬ r30 = 0 → mK M31 h0 = 12 ∧ ((¬ (mI M31 708 h0) = (2 : Int32) → (bk_X11_align_48 h0 K M31)) ∧ ((mI M31 708 h0) = (2 : Int32) → (((4 : Int64) ≤ (mJ M31 710 h0) → (bk_X11_align_48 h0 K M31)) ∧ (¬ (4 : Int64) ≤ (mJ M31 710 h0) → ∃ a35, (mR M31 727 h0) = some a35 ∧ isA M31 a35 3 ∧ vp_in (((mJ M31 710 h0)).toInt32) (aN M31 a35) ∧ (((aI M31 a35 ((((mJ M31 710 h0)).toInt32)).toNatClampNeg) = 0 → (bk_X11_align_48 h0 K M31)) ∧ (¬ (aI M31 a35 ((((mJ M31 710 h0)).toInt32)).toNatClampNeg) = 0 → (wp_X11_fault M31 h0 (5 : Int32) (fun M40 => (bk_X11_align_48 h0 K M40)))))))))))))))
set_option maxRecDepth 100000 in
set_option maxHeartbeats 4000000 in
theorem ct_X11_align {M : Mm} {h0 : Nat} {K : Mm → Prop} (h : wp_X11_align M h0 K) : CtV yX11_align cX11_align 4 none rm_X11_align [.ref h0] M K := by
  refine ct_any (QV K) (by decide) (by exact Nat.le_of_ble_eq_true rfl) (fun X hX hQ hnL hnm => ?_)
  rw [show lv_args 0 [.ref h0] = [(0, va_rf (some h0))] by rfl]
  have hX : Ok X cX11_align RX11 rm_X11_align := hX
  unfold wp_X11_align at h
  refine z_aload_n (r := (some h0)) hX dX11_align_0 rfl 0 rfl ?_
  obtain ⟨hk28, h⟩ := h
  refine z_callVV (As := []) (rest := []) (ci := 11) hX (ct_X11_next h) mw_RX11_200 rfl (by decide) rfl (by rfl) (by unfold RoomC; decide) (by decide) dX11_align_1 hk28 (fun M27 h => ?_)
  refine z_aload_n (r := (some h0)) hX dX11_align_4 rfl 0 rfl ?_
  obtain ⟨hk32, h⟩ := h
  refine z_callVI (As := []) (rest := []) (ci := 11) hX (ct_X11_good h) mw_RX11_190 rfl (by decide) rfl (by rfl) (by unfold RoomC; decide) (by decide) dX11_align_5 hk32 (fun r30 M31 h => ?_)
  obtain ⟨h1, h2⟩ := h
  refine z_if_eq (tgt := 48) hX dX11_align_8 (by decide) (fun hc => ?_) (fun hc => ?_)
  · have h := h1 hc
    exact zb_X11_align_48 hX hQ hnL h
  · have h := h2 hc
    refine z_aload_n (r := (some h0)) hX dX11_align_11 rfl 0 rfl ?_
    obtain ⟨hk34, h⟩ := h
    refine gf_RX11_147 (r := (some h0)) hX dX11_align_12 rfl hk34 ?_
    refine z_iconst (v := (2 : Int32)) hX dX11_align_15 (by decide) ?_
    obtain ⟨h1, h2⟩ := h
    refine z_icmp_ne (tgt := 48) hX dX11_align_16 (by decide) (fun hc => ?_) (fun hc => ?_)
    · have h := h1 hc
      exact zb_X11_align_48 hX hQ hnL h
    · have h := h2 hc
      refine z_aload_n (r := (some h0)) hX dX11_align_19 rfl 0 rfl ?_
      refine gf_RX11_140 (r := (some h0)) hX dX11_align_20 rfl hk34 ?_
      refine z_ldc2 (v := (4 : Int64)) hX dX11_align_23 kj_RX11_237 ?_
      refine z_lcmp hX dX11_align_26 ?_
      obtain ⟨h1, h2⟩ := h
      refine z_if_ge (tgt := 48) hX dX11_align_27 (by decide) (fun hc => ?_) (fun hc => ?_)
      · have h := h1 ((lg_cmp_ge _ _).mp hc)
        exact zb_X11_align_48 hX hQ hnL h
      · have h := h2 (fun q => hc ((lg_cmp_ge _ _).mpr q))
        refine z_aload_n (r := (some h0)) hX dX11_align_30 rfl 0 rfl ?_
        refine gf_RX11_54 (r := (some h0)) hX dX11_align_31 rfl hk34 ?_
        refine z_aload_n (r := (some h0)) hX dX11_align_34 rfl 0 rfl ?_
        refine gf_RX11_140 (r := (some h0)) hX dX11_align_35 rfl hk34 ?_
        refine z_l2i hX dX11_align_38 ?_
        obtain ⟨a35, ha36, h⟩ := h
        obtain ⟨hk37, h⟩ := h
        obtain ⟨hc38, h⟩ := h
        refine y_zald (r := (mR M31 727 h0)) hX dX11_align_39 ha36 hk37 hc38 ?_
        obtain ⟨h1, h2⟩ := h
        refine z_if_eq (tgt := 48) hX dX11_align_40 (by decide) (fun hc => ?_) (fun hc => ?_)
        · have h := h1 hc
          exact zb_X11_align_48 hX hQ hnL h
        · have h := h2 hc
          refine z_aload_n (r := (some h0)) hX dX11_align_43 rfl 0 rfl ?_
          refine z_iconst (v := (5 : Int32)) hX dX11_align_44 (by decide) ?_
          refine z_callVV (As := [.int (5 : Int32)]) (rest := []) (ci := 11) hX (ct_X11_fault h) mw_RX11_187 rfl (by decide) rfl (by rfl) (by unfold RoomC; decide) (by decide) dX11_align_45 hk34 (fun M40 h => ?_)
          exact zb_X11_align_48 hX hQ hnL h
def rm_X11_join : Room := { frames := 3, cells := 0, slots := 0, locals := 73 }
def wp_X11_join (M : Mm) (h0 : Nat) (p1 : Int32) (K : Mm → Prop) : Prop := mK M h0 = 12 ∧ ((¬ (mI M 730 h0) = (3 : Int32) → (wp_X11_next (sI M 730 h0 ((mI M 730 h0) + (1 : Int32))) h0 (fun M4 => mK M4 h0 = 12 ∧ ∃ a7, (mR M4 715 h0) = some a7 ∧ isA M4 a7 1 ∧ vp_in p1 (aN M4 a7) ∧ (wp_X11_takeInput (tI M4 a7 (p1).toNatClampNeg (4 : Int32)) h0 p1 (fun M12 => mK M12 h0 = 12 ∧ (wp_X11_takeInput M12 h0 p1 (fun M15 => mK M15 h0 = 12 ∧ (wp_X11_takeKeyword M15 h0 (9 : Int32) (fun M19 => mK M19 h0 = 12 ∧ (wp_X11_takeSigned M19 h0 (-9223372036854775807 : Int64) (fun r23 M24 => ∃ a26, (mR M19 720 h0) = some a26 ∧ isA M24 a26 2 ∧ vp_in p1 (aN M24 a26) ∧ mK (tJ M24 a26 (p1).toNatClampNeg r23) h0 = 12 ∧ (wp_X11_takeKeyword (tJ M24 a26 (p1).toNatClampNeg r23) h0 (10 : Int32) (fun M31 => mK M31 h0 = 12 ∧ ∃ a35, (mR M31 720 h0) = some a35 ∧ isA M31 a35 2 ∧ vp_in p1 (aN M31 a35) ∧ (wp_X11_takeSigned M31 h0 (aJ M31 a35 (p1).toNatClampNeg) (fun r39 M40 => ∃ a42, (mR M31 721 h0) = some a42 ∧ isA M40 a42 2 ∧ vp_in p1 (aN M40 a42) ∧ (K (tJ M40 a42 (p1).toNatClampNeg r39))))))))))))))))) ∧ ((mI M 730 h0) = (3 : Int32) → (wp_X11_fault M h0 (6 : Int32) (fun M47 => (K M47)))))
set_option maxRecDepth 100000 in
set_option maxHeartbeats 4000000 in
theorem ct_X11_join {M : Mm} {h0 : Nat} {p1 : Int32} {K : Mm → Prop} (h : wp_X11_join M h0 p1 K) : CtV yX11_join cX11_join 2 none rm_X11_join [.ref h0, .int p1] M K := by
  refine ct_any (QV K) (by decide) (by exact Nat.le_of_ble_eq_true rfl) (fun X hX hQ hnL hnm => ?_)
  rw [show lv_args 0 [.ref h0, .int p1] = [(0, va_rf (some h0)), (1, .int p1)] by rfl]
  have hX : Ok X cX11_join RX11 rm_X11_join := hX
  unfold wp_X11_join at h
  refine z_aload_n (r := (some h0)) hX dX11_join_0 rfl 0 rfl ?_
  obtain ⟨hk1, h⟩ := h
  refine gf_RX11_246 (r := (some h0)) hX dX11_join_1 rfl hk1 ?_
  refine z_iconst (v := (3 : Int32)) hX dX11_join_4 (by decide) ?_
  obtain ⟨h1, h2⟩ := h
  refine z_icmp_ne (tgt := 15) hX dX11_join_5 (by decide) (fun hc => ?_) (fun hc => ?_)
  · have h := h1 hc
    refine z_aload_n (r := (some h0)) hX dX11_join_15 rfl 0 rfl ?_
    refine z_dup hX dX11_join_16 (cat_rf _) ?_
    refine gf_RX11_246 (r := (some h0)) hX dX11_join_17 rfl hk1 ?_
    refine z_iconst (v := (1 : Int32)) hX dX11_join_20 (by decide) ?_
    refine z_iadd hX dX11_join_21 ?_
    refine pf_RX11_246 (r := (some h0)) (v := ((mI M 730 h0) + (1 : Int32))) hX dX11_join_22 rfl hk1 ?_
    refine z_aload_n (r := (some h0)) hX dX11_join_25 rfl 0 rfl ?_
    refine z_callVV (As := []) (rest := []) (ci := 11) hX (ct_X11_next h) mw_RX11_200 rfl (by decide) rfl (by rfl) (by unfold RoomC; decide) (by decide) dX11_join_26 hk1 (fun M4 h => ?_)
    refine z_aload_n (r := (some h0)) hX dX11_join_29 rfl 0 rfl ?_
    obtain ⟨hk6, h⟩ := h
    refine gf_RX11_15 (r := (some h0)) hX dX11_join_30 rfl hk6 ?_
    refine z_iload_n hX dX11_join_33 rfl 1 rfl ?_
    refine z_iconst (v := (4 : Int32)) hX dX11_join_34 (by decide) ?_
    obtain ⟨a7, ha8, h⟩ := h
    obtain ⟨hk9, h⟩ := h
    obtain ⟨hc10, h⟩ := h
    refine y_iast (r := (mR M4 715 h0)) hX dX11_join_35 ha8 hk9 hc10 ?_
    refine z_aload_n (r := (some h0)) hX dX11_join_36 rfl 0 rfl ?_
    refine z_iload_n hX dX11_join_37 rfl 1 rfl ?_
    refine z_callVV (As := [.int p1]) (rest := []) (ci := 11) hX (ct_X11_takeInput h) mw_RX11_222 rfl (by decide) rfl (by rfl) (by unfold RoomC; decide) (by decide) dX11_join_38 hk6 (fun M12 h => ?_)
    refine z_aload_n (r := (some h0)) hX dX11_join_41 rfl 0 rfl ?_
    refine z_iload_n hX dX11_join_42 rfl 1 rfl ?_
    obtain ⟨hk16, h⟩ := h
    refine z_callVV (As := [.int p1]) (rest := []) (ci := 11) hX (ct_X11_takeInput h) mw_RX11_222 rfl (by decide) rfl (by rfl) (by unfold RoomC; decide) (by decide) dX11_join_43 hk16 (fun M15 h => ?_)
    refine z_aload_n (r := (some h0)) hX dX11_join_46 rfl 0 rfl ?_
    refine z_bipush (v := (9 : Int32)) hX dX11_join_47 (by decide) ?_
    obtain ⟨hk20, h⟩ := h
    refine z_callVV (As := [.int (9 : Int32)]) (rest := []) (ci := 11) hX (ct_X11_takeKeyword h) mw_RX11_239 rfl (by decide) rfl (by rfl) (by unfold RoomC; decide) (by decide) dX11_join_49 hk20 (fun M19 h => ?_)
    refine z_aload_n (r := (some h0)) hX dX11_join_52 rfl 0 rfl ?_
    obtain ⟨hk22, h⟩ := h
    refine gf_RX11_33 (r := (some h0)) hX dX11_join_53 rfl hk22 ?_
    refine z_iload_n hX dX11_join_56 rfl 1 rfl ?_
    refine z_aload_n (r := (some h0)) hX dX11_join_57 rfl 0 rfl ?_
    refine z_ldc2 (v := (-9223372036854775807 : Int64)) hX dX11_join_58 kj_RX11_249 ?_
    refine z_callVJ (As := [.long (-9223372036854775807 : Int64)]) (rest := [.int p1, va_rf (mR M19 720 h0)]) (ci := 11) hX (ct_X11_takeSigned h) mw_RX11_251 rfl (by decide) rfl (by rfl) (by unfold RoomC; decide) (by simp only [List.map_cons, List.map_nil, List.sum_cons, List.sum_nil, cat_rf, cat_i, cat_j]; decide) dX11_join_61 hk22 (fun r23 M24 h => ?_)
    obtain ⟨a26, ha27, h⟩ := h
    obtain ⟨hk28, h⟩ := h
    obtain ⟨hc29, h⟩ := h
    refine y_last (r := (mR M19 720 h0)) hX dX11_join_64 ha27 hk28 hc29 ?_
    refine z_aload_n (r := (some h0)) hX dX11_join_65 rfl 0 rfl ?_
    refine z_bipush (v := (10 : Int32)) hX dX11_join_66 (by decide) ?_
    obtain ⟨hk32, h⟩ := h
    refine z_callVV (As := [.int (10 : Int32)]) (rest := []) (ci := 11) hX (ct_X11_takeKeyword h) mw_RX11_239 rfl (by decide) rfl (by rfl) (by unfold RoomC; decide) (by decide) dX11_join_68 hk32 (fun M31 h => ?_)
    refine z_aload_n (r := (some h0)) hX dX11_join_71 rfl 0 rfl ?_
    obtain ⟨hk34, h⟩ := h
    refine gf_RX11_36 (r := (some h0)) hX dX11_join_72 rfl hk34 ?_
    refine z_iload_n hX dX11_join_75 rfl 1 rfl ?_
    refine z_aload_n (r := (some h0)) hX dX11_join_76 rfl 0 rfl ?_
    refine z_aload_n (r := (some h0)) hX dX11_join_77 rfl 0 rfl ?_
    refine gf_RX11_33 (r := (some h0)) hX dX11_join_78 rfl hk34 ?_
    refine z_iload_n hX dX11_join_81 rfl 1 rfl ?_
    obtain ⟨a35, ha36, h⟩ := h
    obtain ⟨hk37, h⟩ := h
    obtain ⟨hc38, h⟩ := h
    refine y_lald (r := (mR M31 720 h0)) hX dX11_join_82 ha36 hk37 hc38 ?_
    refine z_callVJ (As := [.long (aJ M31 a35 (p1).toNatClampNeg)]) (rest := [.int p1, va_rf (mR M31 721 h0)]) (ci := 11) hX (ct_X11_takeSigned h) mw_RX11_251 rfl (by decide) rfl (by rfl) (by unfold RoomC; decide) (by simp only [List.map_cons, List.map_nil, List.sum_cons, List.sum_nil, cat_rf, cat_i, cat_j]; decide) dX11_join_83 hk34 (fun r39 M40 h => ?_)
    obtain ⟨a42, ha43, h⟩ := h
    obtain ⟨hk44, h⟩ := h
    obtain ⟨hc45, h⟩ := h
    refine y_last (r := (mR M31 721 h0)) hX dX11_join_86 ha43 hk44 hc45 ?_
    exact z_vret hX hQ dX11_join_87 h
  · have h := h2 hc
    refine z_aload_n (r := (some h0)) hX dX11_join_8 rfl 0 rfl ?_
    refine z_bipush (v := (6 : Int32)) hX dX11_join_9 (by decide) ?_
    refine z_callVV (As := [.int (6 : Int32)]) (rest := []) (ci := 11) hX (ct_X11_fault h) mw_RX11_187 rfl (by decide) rfl (by rfl) (by unfold RoomC; decide) (by decide) dX11_join_11 hk1 (fun M47 h => ?_)
    exact z_vret hX hQ dX11_join_14 h
def rm_X11_body : Room := { frames := 4, cells := 0, slots := 0, locals := 95 }
def bk_X11_body_224 (h0 : Nat) (K : Mm → Prop) (M : Mm) : Prop := (K M)
set_option maxRecDepth 100000 in
set_option maxHeartbeats 4000000 in
theorem zb_X11_body_224 {X : Cx} {h0 : Nat} {K : Mm → Prop} (hX : Ok X cX11_body RX11 rm_X11_body) (hQ : Rq X rm_X11_body none (QV K)) (hnL : X.2.2.2.2.2.2.2.2.2.2.2.2.2.2 = 2) {M : Mm} (h : bk_X11_body_224 h0 K M) : Z X M 0 0 224 [] [] := by
  unfold bk_X11_body_224 at h
  exact z_vret hX hQ dX11_body_224 h
def bk_X11_body_220 (h0 : Nat) (K : Mm → Prop) (M : Mm) : Prop := mK M h0 = 12 ∧ (wp_X11_misplaced M h0 (fun M2 => (bk_X11_body_224 h0 K M2)))
set_option maxRecDepth 100000 in
set_option maxHeartbeats 4000000 in
theorem zb_X11_body_220 {X : Cx} {h0 : Nat} {K : Mm → Prop} (hX : Ok X cX11_body RX11 rm_X11_body) (hQ : Rq X rm_X11_body none (QV K)) (hnL : X.2.2.2.2.2.2.2.2.2.2.2.2.2.2 = 2) {M : Mm} (h : bk_X11_body_220 h0 K M) : Z X M 0 0 220 [(0, va_rf (some h0))] [] := by
  unfold bk_X11_body_220 at h
  refine z_aload_n (r := (some h0)) hX dX11_body_220 rfl 0 rfl ?_
  obtain ⟨hk3, h⟩ := h
  refine z_callVV (As := []) (rest := []) (ci := 11) hX (ct_X11_misplaced h) mw_RX11_197 rfl (by decide) rfl (by rfl) (by unfold RoomC; decide) (by decide) dX11_body_221 hk3 (fun M2 h => ?_)
  refine z_loc [] rfl ?_
  exact zb_X11_body_224 hX hQ hnL h
def lp_X11_body_120 (h0 : Nat) (K : Mm → Prop) : Nat → Int32 → Mm → Prop
  | 0, _, _ => False
  | n + 1, l1, M => mK M h0 = 12 ∧ (wp_X11_good M h0 (fun r5 M6 => ((r5 = 0 → (bk_X11_body_224 h0 K M6)) ∧ (¬ r5 = 0 → mK M6 h0 = 12 ∧ ∃ a10, (mR M6 724 h0) = some a10 ∧ isA M6 a10 1 ∧ vp_in l1 (aN M6 a10) ∧ (((4 : Int32) ≤ (aI M6 a10 (l1).toNatClampNeg) → (bk_X11_body_224 h0 K M6)) ∧ (¬ (4 : Int32) ≤ (aI M6 a10 (l1).toNatClampNeg) → (wp_X11_isName M6 h0 (fun r14 M15 => ((r14 = 0 → (bk_X11_body_224 h0 K M15)) ∧ (¬ r14 = 0 → mK M15 h0 = 12 ∧ (wp_X11_takeInput M15 h0 l1 (fun M18 => ((lp_X11_body_120 h0 K n) l1 M18)))))))))))))
set_option maxRecDepth 100000 in
set_option maxHeartbeats 4000000 in
theorem zl_X11_body_120 {X : Cx} {h0 : Nat} {K : Mm → Prop} (hX : Ok X cX11_body RX11 rm_X11_body) (hQ : Rq X rm_X11_body none (QV K)) (hnL : X.2.2.2.2.2.2.2.2.2.2.2.2.2.2 = 2) : ∀ (n : Nat) (l1 : Int32) (M : Mm), lp_X11_body_120 h0 K n l1 M → Z X M 0 0 120 [(0, va_rf (some h0)), (1, .int l1)] [] := by
  intro n
  induction n with
  | zero =>
    intro l1 M h
    exact False.elim h
  | succ n hR120 =>
    intro l1 M h
    refine z_aload_n (r := (some h0)) hX dX11_body_120 rfl 0 rfl ?_
    obtain ⟨hk7, h⟩ := h
    refine z_callVI (As := []) (rest := []) (ci := 11) hX (ct_X11_good h) mw_RX11_190 rfl (by decide) rfl (by rfl) (by unfold RoomC; decide) (by decide) dX11_body_121 hk7 (fun r5 M6 h => ?_)
    obtain ⟨h1, h2⟩ := h
    refine z_if_eq (tgt := 224) hX dX11_body_124 (by decide) (fun hc => ?_) (fun hc => ?_)
    · have h := h1 hc
      refine z_loc [] rfl ?_
      exact zb_X11_body_224 hX hQ hnL h
    · have h := h2 hc
      refine z_aload_n (r := (some h0)) hX dX11_body_127 rfl 0 rfl ?_
      obtain ⟨hk9, h⟩ := h
      refine gf_RX11_45 (r := (some h0)) hX dX11_body_128 rfl hk9 ?_
      refine z_iload_n hX dX11_body_131 rfl 1 rfl ?_
      obtain ⟨a10, ha11, h⟩ := h
      obtain ⟨hk12, h⟩ := h
      obtain ⟨hc13, h⟩ := h
      refine y_iald (r := (mR M6 724 h0)) hX dX11_body_132 ha11 hk12 hc13 ?_
      refine z_iconst (v := (4 : Int32)) hX dX11_body_133 (by decide) ?_
      obtain ⟨h1, h2⟩ := h
      refine z_icmp_ge (tgt := 224) hX dX11_body_134 (by decide) (fun hc => ?_) (fun hc => ?_)
      · have h := h1 hc
        refine z_loc [] rfl ?_
        exact zb_X11_body_224 hX hQ hnL h
      · have h := h2 hc
        refine z_aload_n (r := (some h0)) hX dX11_body_137 rfl 0 rfl ?_
        refine z_callVI (As := []) (rest := []) (ci := 11) hX (ct_X11_isName h) mw_RX11_206 rfl (by decide) rfl (by rfl) (by unfold RoomC; decide) (by decide) dX11_body_138 hk9 (fun r14 M15 h => ?_)
        obtain ⟨h1, h2⟩ := h
        refine z_if_eq (tgt := 224) hX dX11_body_141 (by decide) (fun hc => ?_) (fun hc => ?_)
        · have h := h1 hc
          refine z_loc [] rfl ?_
          exact zb_X11_body_224 hX hQ hnL h
        · have h := h2 hc
          refine z_aload_n (r := (some h0)) hX dX11_body_144 rfl 0 rfl ?_
          refine z_iload_n hX dX11_body_145 rfl 1 rfl ?_
          obtain ⟨hk19, h⟩ := h
          refine z_callVV (As := [.int l1]) (rest := []) (ci := 11) hX (ct_X11_takeInput h) mw_RX11_222 rfl (by decide) rfl (by rfl) (by unfold RoomC; decide) (by decide) dX11_body_146 hk19 (fun M18 h => ?_)
          refine z_goto (tgt := 120) hX dX11_body_149 (by decide) ?_
          exact hR120 _ _ h
def bk_X11_body_16 (h0 : Nat) (K : Mm → Prop) (l1 : Int32) (s0 : Int32) (M : Mm) : Prop := (((s0).toInt < 0 ∨ 11 < (s0).toInt ∨ s0 = 1 ∨ s0 = 2 ∨ s0 = 3 ∨ s0 = 4 ∨ s0 = 9 ∨ s0 = 10 → (bk_X11_body_220 h0 K M)) ∧ (s0 = 0 → mK M h0 = 12 ∧ (wp_X11_next M h0 (fun M22 => mK M22 h0 = 12 ∧ ∃ a26, (mR M22 715 h0) = some a26 ∧ isA M22 a26 1 ∧ vp_in l1 (aN M22 a26) ∧ (wp_X11_source (tI M22 a26 (l1).toNatClampNeg (0 : Int32)) h0 l1 (fun M31 => (bk_X11_body_224 h0 K M31)))))) ∧ (s0 = 5 → mK M h0 = 12 ∧ (wp_X11_next M h0 (fun M34 => mK M34 h0 = 12 ∧ ∃ a38, (mR M34 715 h0) = some a38 ∧ isA M34 a38 1 ∧ vp_in l1 (aN M34 a38) ∧ (wp_X11_takeInput (tI M34 a38 (l1).toNatClampNeg (1 : Int32)) h0 l1 (fun M43 => mK M43 h0 = 12 ∧ (wp_X11_takeInput M43 h0 l1 (fun M46 => (∃ kk, lp_X11_body_120 h0 K kk l1 M46)))))))) ∧ (s0 = 6 → mK M h0 = 12 ∧ (wp_X11_next M h0 (fun M50 => mK M50 h0 = 12 ∧ ∃ a54, (mR M50 715 h0) = some a54 ∧ isA M50 a54 1 ∧ vp_in l1 (aN M50 a54) ∧ (wp_X11_takeInput (tI M50 a54 (l1).toNatClampNeg (2 : Int32)) h0 l1 (fun M59 => mK M59 h0 = 12 ∧ (wp_X11_takeNumber M59 h0 (0 : Int64) (9223372036854775807 : Int64) (fun r62 M63 => ∃ a65, (mR M59 720 h0) = some a65 ∧ isA M63 a65 2 ∧ vp_in l1 (aN M63 a65) ∧ (bk_X11_body_224 h0 K (tJ M63 a65 (l1).toNatClampNeg r62))))))))) ∧ (s0 = 7 → mK M h0 = 12 ∧ (wp_X11_next M h0 (fun M70 => mK M70 h0 = 12 ∧ ∃ a74, (mR M70 715 h0) = some a74 ∧ isA M70 a74 1 ∧ vp_in l1 (aN M70 a74) ∧ (wp_X11_takeInput (tI M70 a74 (l1).toNatClampNeg (3 : Int32)) h0 l1 (fun M79 => (bk_X11_body_224 h0 K M79)))))) ∧ (s0 = 8 → mK M h0 = 12 ∧ (wp_X11_join M h0 l1 (fun M82 => (bk_X11_body_224 h0 K M82)))) ∧ (s0 = 11 → mK M h0 = 12 ∧ (wp_X11_window M h0 l1 (fun M86 => (bk_X11_body_224 h0 K M86)))))
set_option maxRecDepth 100000 in
set_option maxHeartbeats 4000000 in
theorem zb_X11_body_16 {X : Cx} {h0 : Nat} {K : Mm → Prop} (hX : Ok X cX11_body RX11 rm_X11_body) (hQ : Rq X rm_X11_body none (QV K)) (hnL : X.2.2.2.2.2.2.2.2.2.2.2.2.2.2 = 2) {l1 : Int32} {s0 : Int32} {M : Mm} (h : bk_X11_body_16 h0 K l1 s0 M) : Z X M 0 0 16 [(0, va_rf (some h0)), (1, .int l1)] [.int s0] := by
  unfold bk_X11_body_16 at h
  obtain ⟨hD, h1, h2, h3, h4, h5, h6⟩ := h
  by_cases hlo : (s0).toInt < 0 ∨ 11 < (s0).toInt
  · have h := hD (hlo.elim Or.inl (fun q => Or.inr (Or.inl q)))
    refine z_tswD (tgt := 220) hX dX11_body_16 hlo (by decide) ?_
    refine z_loc [0] rfl ?_
    exact zb_X11_body_220 hX hQ hnL h
  · rcases (show (s0).toInt = 0 ∨ (s0).toInt = 1 ∨ (s0).toInt = 2 ∨ (s0).toInt = 3 ∨ (s0).toInt = 4 ∨ (s0).toInt = 5 ∨ (s0).toInt = 6 ∨ (s0).toInt = 7 ∨ (s0).toInt = 8 ∨ (s0).toInt = 9 ∨ (s0).toInt = 10 ∨ (s0).toInt = 11 by omega) with hj | hj | hj | hj | hj | hj | hj | hj | hj | hj | hj | hj
    · have hx9 : s0 = 0 := Int32.toInt_inj.mp (by rw [hj]; rfl)
      have h := h1 hx9
      refine z_tswI (off := 64) (tgt := 80) hX dX11_body_16 (by rw [hx9]; decide) (by rw [hx9]; decide) (by rw [hx9]; rfl) (by decide) ?_
      refine z_aload_n (r := (some h0)) hX dX11_body_80 rfl 0 rfl ?_
      obtain ⟨hk23, h⟩ := h
      refine z_callVV (As := []) (rest := []) (ci := 11) hX (ct_X11_next h) mw_RX11_200 rfl (by decide) rfl (by rfl) (by unfold RoomC; decide) (by decide) dX11_body_81 hk23 (fun M22 h => ?_)
      refine z_aload_n (r := (some h0)) hX dX11_body_84 rfl 0 rfl ?_
      obtain ⟨hk25, h⟩ := h
      refine gf_RX11_15 (r := (some h0)) hX dX11_body_85 rfl hk25 ?_
      refine z_iload_n hX dX11_body_88 rfl 1 rfl ?_
      refine z_iconst (v := (0 : Int32)) hX dX11_body_89 (by decide) ?_
      obtain ⟨a26, ha27, h⟩ := h
      obtain ⟨hk28, h⟩ := h
      obtain ⟨hc29, h⟩ := h
      refine y_iast (r := (mR M22 715 h0)) hX dX11_body_90 ha27 hk28 hc29 ?_
      refine z_aload_n (r := (some h0)) hX dX11_body_91 rfl 0 rfl ?_
      refine z_iload_n hX dX11_body_92 rfl 1 rfl ?_
      refine z_callVV (As := [.int l1]) (rest := []) (ci := 11) hX (ct_X11_source h) mw_RX11_219 rfl (by decide) rfl (by rfl) (by unfold RoomC; decide) (by decide) dX11_body_93 hk25 (fun M31 h => ?_)
      refine z_goto (tgt := 224) hX dX11_body_96 (by decide) ?_
      refine z_loc [] rfl ?_
      exact zb_X11_body_224 hX hQ hnL h
    · have hx9 : s0 = 1 := Int32.toInt_inj.mp (by rw [hj]; rfl)
      have h := hD (Or.inr (Or.inr (Or.inl hx9)))
      refine z_tswI (off := 204) (tgt := 220) hX dX11_body_16 (by rw [hx9]; decide) (by rw [hx9]; decide) (by rw [hx9]; rfl) (by decide) ?_
      refine z_loc [0] rfl ?_
      exact zb_X11_body_220 hX hQ hnL h
    · have hx9 : s0 = 2 := Int32.toInt_inj.mp (by rw [hj]; rfl)
      have h := hD (Or.inr (Or.inr (Or.inr (Or.inl hx9))))
      refine z_tswI (off := 204) (tgt := 220) hX dX11_body_16 (by rw [hx9]; decide) (by rw [hx9]; decide) (by rw [hx9]; rfl) (by decide) ?_
      refine z_loc [0] rfl ?_
      exact zb_X11_body_220 hX hQ hnL h
    · have hx9 : s0 = 3 := Int32.toInt_inj.mp (by rw [hj]; rfl)
      have h := hD (Or.inr (Or.inr (Or.inr (Or.inr (Or.inl hx9)))))
      refine z_tswI (off := 204) (tgt := 220) hX dX11_body_16 (by rw [hx9]; decide) (by rw [hx9]; decide) (by rw [hx9]; rfl) (by decide) ?_
      refine z_loc [0] rfl ?_
      exact zb_X11_body_220 hX hQ hnL h
    · have hx9 : s0 = 4 := Int32.toInt_inj.mp (by rw [hj]; rfl)
      have h := hD (Or.inr (Or.inr (Or.inr (Or.inr (Or.inr (Or.inl hx9))))))
      refine z_tswI (off := 204) (tgt := 220) hX dX11_body_16 (by rw [hx9]; decide) (by rw [hx9]; decide) (by rw [hx9]; rfl) (by decide) ?_
      refine z_loc [0] rfl ?_
      exact zb_X11_body_220 hX hQ hnL h
    · have hx9 : s0 = 5 := Int32.toInt_inj.mp (by rw [hj]; rfl)
      have h := h2 hx9
      refine z_tswI (off := 83) (tgt := 99) hX dX11_body_16 (by rw [hx9]; decide) (by rw [hx9]; decide) (by rw [hx9]; rfl) (by decide) ?_
      refine z_aload_n (r := (some h0)) hX dX11_body_99 rfl 0 rfl ?_
      obtain ⟨hk35, h⟩ := h
      refine z_callVV (As := []) (rest := []) (ci := 11) hX (ct_X11_next h) mw_RX11_200 rfl (by decide) rfl (by rfl) (by unfold RoomC; decide) (by decide) dX11_body_100 hk35 (fun M34 h => ?_)
      refine z_aload_n (r := (some h0)) hX dX11_body_103 rfl 0 rfl ?_
      obtain ⟨hk37, h⟩ := h
      refine gf_RX11_15 (r := (some h0)) hX dX11_body_104 rfl hk37 ?_
      refine z_iload_n hX dX11_body_107 rfl 1 rfl ?_
      refine z_iconst (v := (1 : Int32)) hX dX11_body_108 (by decide) ?_
      obtain ⟨a38, ha39, h⟩ := h
      obtain ⟨hk40, h⟩ := h
      obtain ⟨hc41, h⟩ := h
      refine y_iast (r := (mR M34 715 h0)) hX dX11_body_109 ha39 hk40 hc41 ?_
      refine z_aload_n (r := (some h0)) hX dX11_body_110 rfl 0 rfl ?_
      refine z_iload_n hX dX11_body_111 rfl 1 rfl ?_
      refine z_callVV (As := [.int l1]) (rest := []) (ci := 11) hX (ct_X11_takeInput h) mw_RX11_222 rfl (by decide) rfl (by rfl) (by unfold RoomC; decide) (by decide) dX11_body_112 hk37 (fun M43 h => ?_)
      refine z_aload_n (r := (some h0)) hX dX11_body_115 rfl 0 rfl ?_
      refine z_iload_n hX dX11_body_116 rfl 1 rfl ?_
      obtain ⟨hk47, h⟩ := h
      refine z_callVV (As := [.int l1]) (rest := []) (ci := 11) hX (ct_X11_takeInput h) mw_RX11_222 rfl (by decide) rfl (by rfl) (by unfold RoomC; decide) (by decide) dX11_body_117 hk47 (fun M46 h => ?_)
      obtain ⟨n, h⟩ := h
      exact zl_X11_body_120 hX hQ hnL n _ _ h
    · have hx9 : s0 = 6 := Int32.toInt_inj.mp (by rw [hj]; rfl)
      have h := h3 hx9
      refine z_tswI (off := 136) (tgt := 152) hX dX11_body_16 (by rw [hx9]; decide) (by rw [hx9]; decide) (by rw [hx9]; rfl) (by decide) ?_
      refine z_aload_n (r := (some h0)) hX dX11_body_152 rfl 0 rfl ?_
      obtain ⟨hk51, h⟩ := h
      refine z_callVV (As := []) (rest := []) (ci := 11) hX (ct_X11_next h) mw_RX11_200 rfl (by decide) rfl (by rfl) (by unfold RoomC; decide) (by decide) dX11_body_153 hk51 (fun M50 h => ?_)
      refine z_aload_n (r := (some h0)) hX dX11_body_156 rfl 0 rfl ?_
      obtain ⟨hk53, h⟩ := h
      refine gf_RX11_15 (r := (some h0)) hX dX11_body_157 rfl hk53 ?_
      refine z_iload_n hX dX11_body_160 rfl 1 rfl ?_
      refine z_iconst (v := (2 : Int32)) hX dX11_body_161 (by decide) ?_
      obtain ⟨a54, ha55, h⟩ := h
      obtain ⟨hk56, h⟩ := h
      obtain ⟨hc57, h⟩ := h
      refine y_iast (r := (mR M50 715 h0)) hX dX11_body_162 ha55 hk56 hc57 ?_
      refine z_aload_n (r := (some h0)) hX dX11_body_163 rfl 0 rfl ?_
      refine z_iload_n hX dX11_body_164 rfl 1 rfl ?_
      refine z_callVV (As := [.int l1]) (rest := []) (ci := 11) hX (ct_X11_takeInput h) mw_RX11_222 rfl (by decide) rfl (by rfl) (by unfold RoomC; decide) (by decide) dX11_body_165 hk53 (fun M59 h => ?_)
      refine z_aload_n (r := (some h0)) hX dX11_body_168 rfl 0 rfl ?_
      obtain ⟨hk61, h⟩ := h
      refine gf_RX11_33 (r := (some h0)) hX dX11_body_169 rfl hk61 ?_
      refine z_iload_n hX dX11_body_172 rfl 1 rfl ?_
      refine z_aload_n (r := (some h0)) hX dX11_body_173 rfl 0 rfl ?_
      refine z_lconst (v := (0 : Int64)) hX dX11_body_174 (by decide) ?_
      refine z_ldc2 (v := (9223372036854775807 : Int64)) hX dX11_body_175 kj_RX11_225 ?_
      refine z_callVJ (As := [.long (0 : Int64), .long (9223372036854775807 : Int64)]) (rest := [.int l1, va_rf (mR M59 720 h0)]) (ci := 11) hX (ct_X11_takeNumber h) mw_RX11_227 rfl (by decide) rfl (by rfl) (by unfold RoomC; decide) (by simp only [List.map_cons, List.map_nil, List.sum_cons, List.sum_nil, cat_rf, cat_i, cat_j]; decide) dX11_body_178 hk61 (fun r62 M63 h => ?_)
      obtain ⟨a65, ha66, h⟩ := h
      obtain ⟨hk67, h⟩ := h
      obtain ⟨hc68, h⟩ := h
      refine y_last (r := (mR M59 720 h0)) hX dX11_body_181 ha66 hk67 hc68 ?_
      refine z_goto (tgt := 224) hX dX11_body_182 (by decide) ?_
      refine z_loc [] rfl ?_
      exact zb_X11_body_224 hX hQ hnL h
    · have hx9 : s0 = 7 := Int32.toInt_inj.mp (by rw [hj]; rfl)
      have h := h4 hx9
      refine z_tswI (off := 169) (tgt := 185) hX dX11_body_16 (by rw [hx9]; decide) (by rw [hx9]; decide) (by rw [hx9]; rfl) (by decide) ?_
      refine z_aload_n (r := (some h0)) hX dX11_body_185 rfl 0 rfl ?_
      obtain ⟨hk71, h⟩ := h
      refine z_callVV (As := []) (rest := []) (ci := 11) hX (ct_X11_next h) mw_RX11_200 rfl (by decide) rfl (by rfl) (by unfold RoomC; decide) (by decide) dX11_body_186 hk71 (fun M70 h => ?_)
      refine z_aload_n (r := (some h0)) hX dX11_body_189 rfl 0 rfl ?_
      obtain ⟨hk73, h⟩ := h
      refine gf_RX11_15 (r := (some h0)) hX dX11_body_190 rfl hk73 ?_
      refine z_iload_n hX dX11_body_193 rfl 1 rfl ?_
      refine z_iconst (v := (3 : Int32)) hX dX11_body_194 (by decide) ?_
      obtain ⟨a74, ha75, h⟩ := h
      obtain ⟨hk76, h⟩ := h
      obtain ⟨hc77, h⟩ := h
      refine y_iast (r := (mR M70 715 h0)) hX dX11_body_195 ha75 hk76 hc77 ?_
      refine z_aload_n (r := (some h0)) hX dX11_body_196 rfl 0 rfl ?_
      refine z_iload_n hX dX11_body_197 rfl 1 rfl ?_
      refine z_callVV (As := [.int l1]) (rest := []) (ci := 11) hX (ct_X11_takeInput h) mw_RX11_222 rfl (by decide) rfl (by rfl) (by unfold RoomC; decide) (by decide) dX11_body_198 hk73 (fun M79 h => ?_)
      refine z_goto (tgt := 224) hX dX11_body_201 (by decide) ?_
      refine z_loc [] rfl ?_
      exact zb_X11_body_224 hX hQ hnL h
    · have hx9 : s0 = 8 := Int32.toInt_inj.mp (by rw [hj]; rfl)
      have h := h5 hx9
      refine z_tswI (off := 188) (tgt := 204) hX dX11_body_16 (by rw [hx9]; decide) (by rw [hx9]; decide) (by rw [hx9]; rfl) (by decide) ?_
      refine z_aload_n (r := (some h0)) hX dX11_body_204 rfl 0 rfl ?_
      refine z_iload_n hX dX11_body_205 rfl 1 rfl ?_
      obtain ⟨hk83, h⟩ := h
      refine z_callVV (As := [.int l1]) (rest := []) (ci := 11) hX (ct_X11_join h) mw_RX11_231 rfl (by decide) rfl (by rfl) (by unfold RoomC; decide) (by decide) dX11_body_206 hk83 (fun M82 h => ?_)
      refine z_goto (tgt := 224) hX dX11_body_209 (by decide) ?_
      refine z_loc [] rfl ?_
      exact zb_X11_body_224 hX hQ hnL h
    · have hx9 : s0 = 9 := Int32.toInt_inj.mp (by rw [hj]; rfl)
      have h := hD (Or.inr (Or.inr (Or.inr (Or.inr (Or.inr (Or.inr (Or.inl hx9)))))))
      refine z_tswI (off := 204) (tgt := 220) hX dX11_body_16 (by rw [hx9]; decide) (by rw [hx9]; decide) (by rw [hx9]; rfl) (by decide) ?_
      refine z_loc [0] rfl ?_
      exact zb_X11_body_220 hX hQ hnL h
    · have hx9 : s0 = 10 := Int32.toInt_inj.mp (by rw [hj]; rfl)
      have h := hD (Or.inr (Or.inr (Or.inr (Or.inr (Or.inr (Or.inr (Or.inr (hx9))))))))
      refine z_tswI (off := 204) (tgt := 220) hX dX11_body_16 (by rw [hx9]; decide) (by rw [hx9]; decide) (by rw [hx9]; rfl) (by decide) ?_
      refine z_loc [0] rfl ?_
      exact zb_X11_body_220 hX hQ hnL h
    · have hx9 : s0 = 11 := Int32.toInt_inj.mp (by rw [hj]; rfl)
      have h := h6 hx9
      refine z_tswI (off := 196) (tgt := 212) hX dX11_body_16 (by rw [hx9]; decide) (by rw [hx9]; decide) (by rw [hx9]; rfl) (by decide) ?_
      refine z_aload_n (r := (some h0)) hX dX11_body_212 rfl 0 rfl ?_
      refine z_iload_n hX dX11_body_213 rfl 1 rfl ?_
      obtain ⟨hk87, h⟩ := h
      refine z_callVV (As := [.int l1]) (rest := []) (ci := 11) hX (ct_X11_window h) mw_RX11_234 rfl (by decide) rfl (by rfl) (by unfold RoomC; decide) (by decide) dX11_body_214 hk87 (fun M86 h => ?_)
      refine z_goto (tgt := 224) hX dX11_body_217 (by decide) ?_
      refine z_loc [] rfl ?_
      exact zb_X11_body_224 hX hQ hnL h
def wp_X11_body (M : Mm) (h0 : Nat) (p1 : Int32) (K : Mm → Prop) : Prop := mK M h0 = 12 ∧ ((¬ (mI M 708 h0) = (1 : Int32) → (bk_X11_body_16 h0 K p1 (-1 : Int32) M)) ∧ ((mI M 708 h0) = (1 : Int32) → (bk_X11_body_16 h0 K p1 (mI M 711 h0) M)))
set_option maxRecDepth 100000 in
set_option maxHeartbeats 4000000 in
theorem ct_X11_body {M : Mm} {h0 : Nat} {p1 : Int32} {K : Mm → Prop} (h : wp_X11_body M h0 p1 K) : CtV yX11_body cX11_body 2 none rm_X11_body [.ref h0, .int p1] M K := by
  refine ct_any (QV K) (by decide) (by exact Nat.le_of_ble_eq_true rfl) (fun X hX hQ hnL hnm => ?_)
  rw [show lv_args 0 [.ref h0, .int p1] = [(0, va_rf (some h0)), (1, .int p1)] by rfl]
  have hX : Ok X cX11_body RX11 rm_X11_body := hX
  unfold wp_X11_body at h
  refine z_aload_n (r := (some h0)) hX dX11_body_0 rfl 0 rfl ?_
  obtain ⟨hk89, h⟩ := h
  refine gf_RX11_147 (r := (some h0)) hX dX11_body_1 rfl hk89 ?_
  refine z_iconst (v := (1 : Int32)) hX dX11_body_4 (by decide) ?_
  obtain ⟨h1, h2⟩ := h
  refine z_icmp_ne (tgt := 15) hX dX11_body_5 (by decide) (fun hc => ?_) (fun hc => ?_)
  · have h := h1 hc
    refine z_iconst (v := (-1 : Int32)) hX dX11_body_15 (by decide) ?_
    exact zb_X11_body_16 hX hQ hnL h
  · have h := h2 hc
    refine z_aload_n (r := (some h0)) hX dX11_body_8 rfl 0 rfl ?_
    refine gf_RX11_144 (r := (some h0)) hX dX11_body_9 rfl hk89 ?_
    refine z_goto (tgt := 16) hX dX11_body_12 (by decide) ?_
    exact zb_X11_body_16 hX hQ hnL h
def rm_X11_statement : Room := { frames := 5, cells := 0, slots := 0, locals := 116 }
def bk_X11_statement_218 (h0 : Nat) (K : Mm → Prop) (s0 : Int32) (s1 : Int32) (s2 : Int32) (s3 : Option Nat) (M : Mm) : Prop := ∃ a1, s3 = some a1 ∧ isA M a1 1 ∧ vp_in s2 (aN M a1) ∧ (K (tI M a1 (s2).toNatClampNeg (s1 + s0)))
set_option maxRecDepth 100000 in
set_option maxHeartbeats 4000000 in
theorem zb_X11_statement_218 {X : Cx} {h0 : Nat} {K : Mm → Prop} (hX : Ok X cX11_statement RX11 rm_X11_statement) (hQ : Rq X rm_X11_statement none (QV K)) (hnL : X.2.2.2.2.2.2.2.2.2.2.2.2.2.2 = 5) {s0 : Int32} {s1 : Int32} {s2 : Int32} {s3 : Option Nat} {M : Mm} (h : bk_X11_statement_218 h0 K s0 s1 s2 s3 M) : Z X M 0 0 218 [] [.int s0, .int s1, .int s2, va_rf s3] := by
  unfold bk_X11_statement_218 at h
  refine z_iadd hX dX11_statement_218 ?_
  obtain ⟨a1, ha2, h⟩ := h
  obtain ⟨hk3, h⟩ := h
  obtain ⟨hc4, h⟩ := h
  refine y_iast (r := s3) hX dX11_statement_219 ha2 hk3 hc4 ?_
  exact z_vret hX hQ dX11_statement_220 h
def bk_X11_statement_193 (h0 : Nat) (K : Mm → Prop) (M : Mm) : Prop := mK M h0 = 12 ∧ (wp_X11_takeSign M h0 (59 : Int32) (fun M6 => mK M6 h0 = 12 ∧ ∃ a10, (mR M6 729 h0) = some a10 ∧ isA M6 a10 1 ∧ vp_in (0 : Int32) (aN M6 a10) ∧ (wp_X11_good M6 h0 (fun r14 M15 => ((r14 = 0 → (bk_X11_statement_218 h0 K (0 : Int32) (aI M6 a10 ((0 : Int32)).toNatClampNeg) (0 : Int32) (mR M6 729 h0) M15)) ∧ (¬ r14 = 0 → (bk_X11_statement_218 h0 K (1 : Int32) (aI M6 a10 ((0 : Int32)).toNatClampNeg) (0 : Int32) (mR M6 729 h0) M15)))))))
set_option maxRecDepth 100000 in
set_option maxHeartbeats 4000000 in
theorem zb_X11_statement_193 {X : Cx} {h0 : Nat} {K : Mm → Prop} (hX : Ok X cX11_statement RX11 rm_X11_statement) (hQ : Rq X rm_X11_statement none (QV K)) (hnL : X.2.2.2.2.2.2.2.2.2.2.2.2.2.2 = 5) {M : Mm} (h : bk_X11_statement_193 h0 K M) : Z X M 0 0 193 [(0, va_rf (some h0))] [] := by
  unfold bk_X11_statement_193 at h
  refine z_aload_n (r := (some h0)) hX dX11_statement_193 rfl 0 rfl ?_
  refine z_bipush (v := (59 : Int32)) hX dX11_statement_194 (by decide) ?_
  obtain ⟨hk7, h⟩ := h
  refine z_callVV (As := [.int (59 : Int32)]) (rest := []) (ci := 11) hX (ct_X11_takeSign h) mw_RX11_213 rfl (by decide) rfl (by rfl) (by unfold RoomC; decide) (by decide) dX11_statement_196 hk7 (fun M6 h => ?_)
  refine z_aload_n (r := (some h0)) hX dX11_statement_199 rfl 0 rfl ?_
  obtain ⟨hk9, h⟩ := h
  refine gf_RX11_60 (r := (some h0)) hX dX11_statement_200 rfl hk9 ?_
  refine z_iconst (v := (0 : Int32)) hX dX11_statement_203 (by decide) ?_
  refine z_dup2_11 hX dX11_statement_204 rfl (cat_rf _) ?_
  obtain ⟨a10, ha11, h⟩ := h
  obtain ⟨hk12, h⟩ := h
  obtain ⟨hc13, h⟩ := h
  refine y_iald (r := (mR M6 729 h0)) hX dX11_statement_205 ha11 hk12 hc13 ?_
  refine z_aload_n (r := (some h0)) hX dX11_statement_206 rfl 0 rfl ?_
  refine z_callVI (As := []) (rest := [.int (aI M6 a10 ((0 : Int32)).toNatClampNeg), .int (0 : Int32), va_rf (mR M6 729 h0)]) (ci := 11) hX (ct_X11_good h) mw_RX11_190 rfl (by decide) rfl (by rfl) (by unfold RoomC; decide) (by simp only [List.map_cons, List.map_nil, List.sum_cons, List.sum_nil, cat_rf, cat_i, cat_j]; decide) dX11_statement_207 hk9 (fun r14 M15 h => ?_)
  obtain ⟨h1, h2⟩ := h
  refine z_if_eq (tgt := 217) hX dX11_statement_210 (by decide) (fun hc => ?_) (fun hc => ?_)
  · have h := h1 hc
    refine z_iconst (v := (0 : Int32)) hX dX11_statement_217 (by decide) ?_
    refine z_loc [] rfl ?_
    exact zb_X11_statement_218 hX hQ hnL h
  · have h := h2 hc
    refine z_iconst (v := (1 : Int32)) hX dX11_statement_213 (by decide) ?_
    refine z_goto (tgt := 218) hX dX11_statement_214 (by decide) ?_
    refine z_loc [] rfl ?_
    exact zb_X11_statement_218 hX hQ hnL h
def bk_X11_statement_74 (h0 : Nat) (K : Mm → Prop) (l1 : Int64) (l3 : Int32) (M : Mm) : Prop := mK M h0 = 12 ∧ (wp_X11_good M h0 (fun r17 M18 => ((¬ r17 = 0 → mK M18 h0 = 12 ∧ ∃ a22, (mR M18 729 h0) = some a22 ∧ isA M18 a22 1 ∧ vp_in (0 : Int32) (aN M18 a22) ∧ ∃ a26, (mR M18 716 h0) = some a26 ∧ isA M18 a26 2 ∧ vp_in (aI M18 a22 ((0 : Int32)).toNatClampNeg) (aN M18 a26) ∧ ∃ a30, (mR (tJ M18 a26 ((aI M18 a22 ((0 : Int32)).toNatClampNeg)).toNatClampNeg l1) 717 h0) = some a30 ∧ isA (tJ M18 a26 ((aI M18 a22 ((0 : Int32)).toNatClampNeg)).toNatClampNeg l1) a30 1 ∧ vp_in (aI M18 a22 ((0 : Int32)).toNatClampNeg) (aN (tJ M18 a26 ((aI M18 a22 ((0 : Int32)).toNatClampNeg)).toNatClampNeg l1) a30) ∧ ∃ a34, (mR (tI (tJ M18 a26 ((aI M18 a22 ((0 : Int32)).toNatClampNeg)).toNatClampNeg l1) a30 ((aI M18 a22 ((0 : Int32)).toNatClampNeg)).toNatClampNeg l3) 724 h0) = some a34 ∧ isA (tI (tJ M18 a26 ((aI M18 a22 ((0 : Int32)).toNatClampNeg)).toNatClampNeg l1) a30 ((aI M18 a22 ((0 : Int32)).toNatClampNeg)).toNatClampNeg l3) a34 1 ∧ vp_in (aI M18 a22 ((0 : Int32)).toNatClampNeg) (aN (tI (tJ M18 a26 ((aI M18 a22 ((0 : Int32)).toNatClampNeg)).toNatClampNeg l1) a30 ((aI M18 a22 ((0 : Int32)).toNatClampNeg)).toNatClampNeg l3) a34) ∧ ∃ a38, (mR (tI (tI (tJ M18 a26 ((aI M18 a22 ((0 : Int32)).toNatClampNeg)).toNatClampNeg l1) a30 ((aI M18 a22 ((0 : Int32)).toNatClampNeg)).toNatClampNeg l3) a34 ((aI M18 a22 ((0 : Int32)).toNatClampNeg)).toNatClampNeg (0 : Int32)) 726 h0) = some a38 ∧ isA (tI (tI (tJ M18 a26 ((aI M18 a22 ((0 : Int32)).toNatClampNeg)).toNatClampNeg l1) a30 ((aI M18 a22 ((0 : Int32)).toNatClampNeg)).toNatClampNeg l3) a34 ((aI M18 a22 ((0 : Int32)).toNatClampNeg)).toNatClampNeg (0 : Int32)) a38 1 ∧ vp_in (aI M18 a22 ((0 : Int32)).toNatClampNeg) (aN (tI (tI (tJ M18 a26 ((aI M18 a22 ((0 : Int32)).toNatClampNeg)).toNatClampNeg l1) a30 ((aI M18 a22 ((0 : Int32)).toNatClampNeg)).toNatClampNeg l3) a34 ((aI M18 a22 ((0 : Int32)).toNatClampNeg)).toNatClampNeg (0 : Int32)) a38) ∧ ∃ a42, (mR (tI (tI (tI (tJ M18 a26 ((aI M18 a22 ((0 : Int32)).toNatClampNeg)).toNatClampNeg l1) a30 ((aI M18 a22 ((0 : Int32)).toNatClampNeg)).toNatClampNeg l3) a34 ((aI M18 a22 ((0 : Int32)).toNatClampNeg)).toNatClampNeg (0 : Int32)) a38 ((aI M18 a22 ((0 : Int32)).toNatClampNeg)).toNatClampNeg (-1 : Int32)) 718 h0) = some a42 ∧ isA (tI (tI (tI (tJ M18 a26 ((aI M18 a22 ((0 : Int32)).toNatClampNeg)).toNatClampNeg l1) a30 ((aI M18 a22 ((0 : Int32)).toNatClampNeg)).toNatClampNeg l3) a34 ((aI M18 a22 ((0 : Int32)).toNatClampNeg)).toNatClampNeg (0 : Int32)) a38 ((aI M18 a22 ((0 : Int32)).toNatClampNeg)).toNatClampNeg (-1 : Int32)) a42 1 ∧ vp_in (aI M18 a22 ((0 : Int32)).toNatClampNeg) (aN (tI (tI (tI (tJ M18 a26 ((aI M18 a22 ((0 : Int32)).toNatClampNeg)).toNatClampNeg l1) a30 ((aI M18 a22 ((0 : Int32)).toNatClampNeg)).toNatClampNeg l3) a34 ((aI M18 a22 ((0 : Int32)).toNatClampNeg)).toNatClampNeg (0 : Int32)) a38 ((aI M18 a22 ((0 : Int32)).toNatClampNeg)).toNatClampNeg (-1 : Int32)) a42) ∧ ∃ a46, (mR (tI (tI (tI (tI (tJ M18 a26 ((aI M18 a22 ((0 : Int32)).toNatClampNeg)).toNatClampNeg l1) a30 ((aI M18 a22 ((0 : Int32)).toNatClampNeg)).toNatClampNeg l3) a34 ((aI M18 a22 ((0 : Int32)).toNatClampNeg)).toNatClampNeg (0 : Int32)) a38 ((aI M18 a22 ((0 : Int32)).toNatClampNeg)).toNatClampNeg (-1 : Int32)) a42 ((aI M18 a22 ((0 : Int32)).toNatClampNeg)).toNatClampNeg (0 : Int32)) 722 h0) = some a46 ∧ isA (tI (tI (tI (tI (tJ M18 a26 ((aI M18 a22 ((0 : Int32)).toNatClampNeg)).toNatClampNeg l1) a30 ((aI M18 a22 ((0 : Int32)).toNatClampNeg)).toNatClampNeg l3) a34 ((aI M18 a22 ((0 : Int32)).toNatClampNeg)).toNatClampNeg (0 : Int32)) a38 ((aI M18 a22 ((0 : Int32)).toNatClampNeg)).toNatClampNeg (-1 : Int32)) a42 ((aI M18 a22 ((0 : Int32)).toNatClampNeg)).toNatClampNeg (0 : Int32)) a46 1 ∧ vp_in (aI M18 a22 ((0 : Int32)).toNatClampNeg) (aN (tI (tI (tI (tI (tJ M18 a26 ((aI M18 a22 ((0 : Int32)).toNatClampNeg)).toNatClampNeg l1) a30 ((aI M18 a22 ((0 : Int32)).toNatClampNeg)).toNatClampNeg l3) a34 ((aI M18 a22 ((0 : Int32)).toNatClampNeg)).toNatClampNeg (0 : Int32)) a38 ((aI M18 a22 ((0 : Int32)).toNatClampNeg)).toNatClampNeg (-1 : Int32)) a42 ((aI M18 a22 ((0 : Int32)).toNatClampNeg)).toNatClampNeg (0 : Int32)) a46) ∧ ∃ a50, (mR (tI (tI (tI (tI (tI (tJ M18 a26 ((aI M18 a22 ((0 : Int32)).toNatClampNeg)).toNatClampNeg l1) a30 ((aI M18 a22 ((0 : Int32)).toNatClampNeg)).toNatClampNeg l3) a34 ((aI M18 a22 ((0 : Int32)).toNatClampNeg)).toNatClampNeg (0 : Int32)) a38 ((aI M18 a22 ((0 : Int32)).toNatClampNeg)).toNatClampNeg (-1 : Int32)) a42 ((aI M18 a22 ((0 : Int32)).toNatClampNeg)).toNatClampNeg (0 : Int32)) a46 ((aI M18 a22 ((0 : Int32)).toNatClampNeg)).toNatClampNeg (0 : Int32)) 723 h0) = some a50 ∧ isA (tI (tI (tI (tI (tI (tJ M18 a26 ((aI M18 a22 ((0 : Int32)).toNatClampNeg)).toNatClampNeg l1) a30 ((aI M18 a22 ((0 : Int32)).toNatClampNeg)).toNatClampNeg l3) a34 ((aI M18 a22 ((0 : Int32)).toNatClampNeg)).toNatClampNeg (0 : Int32)) a38 ((aI M18 a22 ((0 : Int32)).toNatClampNeg)).toNatClampNeg (-1 : Int32)) a42 ((aI M18 a22 ((0 : Int32)).toNatClampNeg)).toNatClampNeg (0 : Int32)) a46 ((aI M18 a22 ((0 : Int32)).toNatClampNeg)).toNatClampNeg (0 : Int32)) a50 1 ∧ vp_in (aI M18 a22 ((0 : Int32)).toNatClampNeg) (aN (tI (tI (tI (tI (tI (tJ M18 a26 ((aI M18 a22 ((0 : Int32)).toNatClampNeg)).toNatClampNeg l1) a30 ((aI M18 a22 ((0 : Int32)).toNatClampNeg)).toNatClampNeg l3) a34 ((aI M18 a22 ((0 : Int32)).toNatClampNeg)).toNatClampNeg (0 : Int32)) a38 ((aI M18 a22 ((0 : Int32)).toNatClampNeg)).toNatClampNeg (-1 : Int32)) a42 ((aI M18 a22 ((0 : Int32)).toNatClampNeg)).toNatClampNeg (0 : Int32)) a46 ((aI M18 a22 ((0 : Int32)).toNatClampNeg)).toNatClampNeg (0 : Int32)) a50) ∧ ∃ a54, (mR (tI (tI (tI (tI (tI (tI (tJ M18 a26 ((aI M18 a22 ((0 : Int32)).toNatClampNeg)).toNatClampNeg l1) a30 ((aI M18 a22 ((0 : Int32)).toNatClampNeg)).toNatClampNeg l3) a34 ((aI M18 a22 ((0 : Int32)).toNatClampNeg)).toNatClampNeg (0 : Int32)) a38 ((aI M18 a22 ((0 : Int32)).toNatClampNeg)).toNatClampNeg (-1 : Int32)) a42 ((aI M18 a22 ((0 : Int32)).toNatClampNeg)).toNatClampNeg (0 : Int32)) a46 ((aI M18 a22 ((0 : Int32)).toNatClampNeg)).toNatClampNeg (0 : Int32)) a50 ((aI M18 a22 ((0 : Int32)).toNatClampNeg)).toNatClampNeg (-1 : Int32)) 719 h0) = some a54 ∧ isA (tI (tI (tI (tI (tI (tI (tJ M18 a26 ((aI M18 a22 ((0 : Int32)).toNatClampNeg)).toNatClampNeg l1) a30 ((aI M18 a22 ((0 : Int32)).toNatClampNeg)).toNatClampNeg l3) a34 ((aI M18 a22 ((0 : Int32)).toNatClampNeg)).toNatClampNeg (0 : Int32)) a38 ((aI M18 a22 ((0 : Int32)).toNatClampNeg)).toNatClampNeg (-1 : Int32)) a42 ((aI M18 a22 ((0 : Int32)).toNatClampNeg)).toNatClampNeg (0 : Int32)) a46 ((aI M18 a22 ((0 : Int32)).toNatClampNeg)).toNatClampNeg (0 : Int32)) a50 ((aI M18 a22 ((0 : Int32)).toNatClampNeg)).toNatClampNeg (-1 : Int32)) a54 3 ∧ vp_in (aI M18 a22 ((0 : Int32)).toNatClampNeg) (aN (tI (tI (tI (tI (tI (tI (tJ M18 a26 ((aI M18 a22 ((0 : Int32)).toNatClampNeg)).toNatClampNeg l1) a30 ((aI M18 a22 ((0 : Int32)).toNatClampNeg)).toNatClampNeg l3) a34 ((aI M18 a22 ((0 : Int32)).toNatClampNeg)).toNatClampNeg (0 : Int32)) a38 ((aI M18 a22 ((0 : Int32)).toNatClampNeg)).toNatClampNeg (-1 : Int32)) a42 ((aI M18 a22 ((0 : Int32)).toNatClampNeg)).toNatClampNeg (0 : Int32)) a46 ((aI M18 a22 ((0 : Int32)).toNatClampNeg)).toNatClampNeg (0 : Int32)) a50 ((aI M18 a22 ((0 : Int32)).toNatClampNeg)).toNatClampNeg (-1 : Int32)) a54) ∧ ∃ a58, (mR (tI (tI (tI (tI (tI (tI (tI (tJ M18 a26 ((aI M18 a22 ((0 : Int32)).toNatClampNeg)).toNatClampNeg l1) a30 ((aI M18 a22 ((0 : Int32)).toNatClampNeg)).toNatClampNeg l3) a34 ((aI M18 a22 ((0 : Int32)).toNatClampNeg)).toNatClampNeg (0 : Int32)) a38 ((aI M18 a22 ((0 : Int32)).toNatClampNeg)).toNatClampNeg (-1 : Int32)) a42 ((aI M18 a22 ((0 : Int32)).toNatClampNeg)).toNatClampNeg (0 : Int32)) a46 ((aI M18 a22 ((0 : Int32)).toNatClampNeg)).toNatClampNeg (0 : Int32)) a50 ((aI M18 a22 ((0 : Int32)).toNatClampNeg)).toNatClampNeg (-1 : Int32)) a54 ((aI M18 a22 ((0 : Int32)).toNatClampNeg)).toNatClampNeg (0 : Int32)) 720 h0) = some a58 ∧ isA (tI (tI (tI (tI (tI (tI (tI (tJ M18 a26 ((aI M18 a22 ((0 : Int32)).toNatClampNeg)).toNatClampNeg l1) a30 ((aI M18 a22 ((0 : Int32)).toNatClampNeg)).toNatClampNeg l3) a34 ((aI M18 a22 ((0 : Int32)).toNatClampNeg)).toNatClampNeg (0 : Int32)) a38 ((aI M18 a22 ((0 : Int32)).toNatClampNeg)).toNatClampNeg (-1 : Int32)) a42 ((aI M18 a22 ((0 : Int32)).toNatClampNeg)).toNatClampNeg (0 : Int32)) a46 ((aI M18 a22 ((0 : Int32)).toNatClampNeg)).toNatClampNeg (0 : Int32)) a50 ((aI M18 a22 ((0 : Int32)).toNatClampNeg)).toNatClampNeg (-1 : Int32)) a54 ((aI M18 a22 ((0 : Int32)).toNatClampNeg)).toNatClampNeg (0 : Int32)) a58 2 ∧ vp_in (aI M18 a22 ((0 : Int32)).toNatClampNeg) (aN (tI (tI (tI (tI (tI (tI (tI (tJ M18 a26 ((aI M18 a22 ((0 : Int32)).toNatClampNeg)).toNatClampNeg l1) a30 ((aI M18 a22 ((0 : Int32)).toNatClampNeg)).toNatClampNeg l3) a34 ((aI M18 a22 ((0 : Int32)).toNatClampNeg)).toNatClampNeg (0 : Int32)) a38 ((aI M18 a22 ((0 : Int32)).toNatClampNeg)).toNatClampNeg (-1 : Int32)) a42 ((aI M18 a22 ((0 : Int32)).toNatClampNeg)).toNatClampNeg (0 : Int32)) a46 ((aI M18 a22 ((0 : Int32)).toNatClampNeg)).toNatClampNeg (0 : Int32)) a50 ((aI M18 a22 ((0 : Int32)).toNatClampNeg)).toNatClampNeg (-1 : Int32)) a54 ((aI M18 a22 ((0 : Int32)).toNatClampNeg)).toNatClampNeg (0 : Int32)) a58) ∧ ∃ a62, (mR (tJ (tI (tI (tI (tI (tI (tI (tI (tJ M18 a26 ((aI M18 a22 ((0 : Int32)).toNatClampNeg)).toNatClampNeg l1) a30 ((aI M18 a22 ((0 : Int32)).toNatClampNeg)).toNatClampNeg l3) a34 ((aI M18 a22 ((0 : Int32)).toNatClampNeg)).toNatClampNeg (0 : Int32)) a38 ((aI M18 a22 ((0 : Int32)).toNatClampNeg)).toNatClampNeg (-1 : Int32)) a42 ((aI M18 a22 ((0 : Int32)).toNatClampNeg)).toNatClampNeg (0 : Int32)) a46 ((aI M18 a22 ((0 : Int32)).toNatClampNeg)).toNatClampNeg (0 : Int32)) a50 ((aI M18 a22 ((0 : Int32)).toNatClampNeg)).toNatClampNeg (-1 : Int32)) a54 ((aI M18 a22 ((0 : Int32)).toNatClampNeg)).toNatClampNeg (0 : Int32)) a58 ((aI M18 a22 ((0 : Int32)).toNatClampNeg)).toNatClampNeg (0 : Int64)) 721 h0) = some a62 ∧ isA (tJ (tI (tI (tI (tI (tI (tI (tI (tJ M18 a26 ((aI M18 a22 ((0 : Int32)).toNatClampNeg)).toNatClampNeg l1) a30 ((aI M18 a22 ((0 : Int32)).toNatClampNeg)).toNatClampNeg l3) a34 ((aI M18 a22 ((0 : Int32)).toNatClampNeg)).toNatClampNeg (0 : Int32)) a38 ((aI M18 a22 ((0 : Int32)).toNatClampNeg)).toNatClampNeg (-1 : Int32)) a42 ((aI M18 a22 ((0 : Int32)).toNatClampNeg)).toNatClampNeg (0 : Int32)) a46 ((aI M18 a22 ((0 : Int32)).toNatClampNeg)).toNatClampNeg (0 : Int32)) a50 ((aI M18 a22 ((0 : Int32)).toNatClampNeg)).toNatClampNeg (-1 : Int32)) a54 ((aI M18 a22 ((0 : Int32)).toNatClampNeg)).toNatClampNeg (0 : Int32)) a58 ((aI M18 a22 ((0 : Int32)).toNatClampNeg)).toNatClampNeg (0 : Int64)) a62 2 ∧ vp_in (aI M18 a22 ((0 : Int32)).toNatClampNeg) (aN (tJ (tI (tI (tI (tI (tI (tI (tI (tJ M18 a26 ((aI M18 a22 ((0 : Int32)).toNatClampNeg)).toNatClampNeg l1) a30 ((aI M18 a22 ((0 : Int32)).toNatClampNeg)).toNatClampNeg l3) a34 ((aI M18 a22 ((0 : Int32)).toNatClampNeg)).toNatClampNeg (0 : Int32)) a38 ((aI M18 a22 ((0 : Int32)).toNatClampNeg)).toNatClampNeg (-1 : Int32)) a42 ((aI M18 a22 ((0 : Int32)).toNatClampNeg)).toNatClampNeg (0 : Int32)) a46 ((aI M18 a22 ((0 : Int32)).toNatClampNeg)).toNatClampNeg (0 : Int32)) a50 ((aI M18 a22 ((0 : Int32)).toNatClampNeg)).toNatClampNeg (-1 : Int32)) a54 ((aI M18 a22 ((0 : Int32)).toNatClampNeg)).toNatClampNeg (0 : Int32)) a58 ((aI M18 a22 ((0 : Int32)).toNatClampNeg)).toNatClampNeg (0 : Int64)) a62) ∧ (wp_X11_next (tJ (tJ (tI (tI (tI (tI (tI (tI (tI (tJ M18 a26 ((aI M18 a22 ((0 : Int32)).toNatClampNeg)).toNatClampNeg l1) a30 ((aI M18 a22 ((0 : Int32)).toNatClampNeg)).toNatClampNeg l3) a34 ((aI M18 a22 ((0 : Int32)).toNatClampNeg)).toNatClampNeg (0 : Int32)) a38 ((aI M18 a22 ((0 : Int32)).toNatClampNeg)).toNatClampNeg (-1 : Int32)) a42 ((aI M18 a22 ((0 : Int32)).toNatClampNeg)).toNatClampNeg (0 : Int32)) a46 ((aI M18 a22 ((0 : Int32)).toNatClampNeg)).toNatClampNeg (0 : Int32)) a50 ((aI M18 a22 ((0 : Int32)).toNatClampNeg)).toNatClampNeg (-1 : Int32)) a54 ((aI M18 a22 ((0 : Int32)).toNatClampNeg)).toNatClampNeg (0 : Int32)) a58 ((aI M18 a22 ((0 : Int32)).toNatClampNeg)).toNatClampNeg (0 : Int64)) a62 ((aI M18 a22 ((0 : Int32)).toNatClampNeg)).toNatClampNeg (0 : Int64)) h0 (fun M67 => mK M67 h0 = 12 ∧ (wp_X11_takeSign M67 h0 (61 : Int32) (fun M70 => mK M70 h0 = 12 ∧ (wp_X11_good M70 h0 (fun r73 M74 => ((r73 = 0 → (bk_X11_statement_193 h0 K M74)) ∧ (¬ r73 = 0 → mK M74 h0 = 12 ∧ (wp_X11_body M74 h0 (aI M18 a22 ((0 : Int32)).toNatClampNeg) (fun M78 => (bk_X11_statement_193 h0 K M78)))))))))))) ∧ (r17 = 0 → (K M18)))))
set_option maxRecDepth 100000 in
set_option maxHeartbeats 4000000 in
theorem zb_X11_statement_74 {X : Cx} {h0 : Nat} {K : Mm → Prop} (hX : Ok X cX11_statement RX11 rm_X11_statement) (hQ : Rq X rm_X11_statement none (QV K)) (hnL : X.2.2.2.2.2.2.2.2.2.2.2.2.2.2 = 5) {l1 : Int64} {l3 : Int32} {M : Mm} (h : bk_X11_statement_74 h0 K l1 l3 M) : Z X M 0 0 74 [(0, va_rf (some h0)), (1, .long l1), (3, .int l3)] [] := by
  unfold bk_X11_statement_74 at h
  refine z_aload_n (r := (some h0)) hX dX11_statement_74 rfl 0 rfl ?_
  obtain ⟨hk19, h⟩ := h
  refine z_callVI (As := []) (rest := []) (ci := 11) hX (ct_X11_good h) mw_RX11_190 rfl (by decide) rfl (by rfl) (by unfold RoomC; decide) (by decide) dX11_statement_75 hk19 (fun r17 M18 h => ?_)
  obtain ⟨h1, h2⟩ := h
  refine z_if_ne (tgt := 82) hX dX11_statement_78 (by decide) (fun hc => ?_) (fun hc => ?_)
  · have h := h1 hc
    refine z_aload_n (r := (some h0)) hX dX11_statement_82 rfl 0 rfl ?_
    obtain ⟨hk21, h⟩ := h
    refine gf_RX11_60 (r := (some h0)) hX dX11_statement_83 rfl hk21 ?_
    refine z_iconst (v := (0 : Int32)) hX dX11_statement_86 (by decide) ?_
    obtain ⟨a22, ha23, h⟩ := h
    obtain ⟨hk24, h⟩ := h
    obtain ⟨hc25, h⟩ := h
    refine y_iald (r := (mR M18 729 h0)) hX dX11_statement_87 ha23 hk24 hc25 ?_
    refine z_istore hX [(4, .int (aI M18 a22 ((0 : Int32)).toNatClampNeg)), (0, va_rf (some h0)), (1, .long l1), (3, .int l3)] dX11_statement_88 (by rw [hnL]; decide) rfl ?_
    refine z_aload_n (r := (some h0)) hX dX11_statement_90 rfl 1 rfl ?_
    refine gf_RX11_19 (r := (some h0)) hX dX11_statement_91 rfl hk21 ?_
    refine z_iload hX dX11_statement_94 0 rfl ?_
    refine z_lload_n hX dX11_statement_96 rfl 2 rfl ?_
    obtain ⟨a26, ha27, h⟩ := h
    obtain ⟨hk28, h⟩ := h
    obtain ⟨hc29, h⟩ := h
    refine y_last (r := (mR M18 716 h0)) hX dX11_statement_97 ha27 hk28 hc29 ?_
    refine z_aload_n (r := (some h0)) hX dX11_statement_98 rfl 1 rfl ?_
    refine gf_RX11_23 (r := (some h0)) hX dX11_statement_99 rfl hk21 ?_
    refine z_iload hX dX11_statement_102 0 rfl ?_
    refine z_iload_n hX dX11_statement_104 rfl 3 rfl ?_
    obtain ⟨a30, ha31, h⟩ := h
    obtain ⟨hk32, h⟩ := h
    obtain ⟨hc33, h⟩ := h
    refine y_iast (r := (mR (tJ M18 a26 ((aI M18 a22 ((0 : Int32)).toNatClampNeg)).toNatClampNeg l1) 717 h0)) hX dX11_statement_105 ha31 hk32 hc33 ?_
    refine z_aload_n (r := (some h0)) hX dX11_statement_106 rfl 1 rfl ?_
    refine gf_RX11_45 (r := (some h0)) hX dX11_statement_107 rfl hk21 ?_
    refine z_iload hX dX11_statement_110 0 rfl ?_
    refine z_iconst (v := (0 : Int32)) hX dX11_statement_112 (by decide) ?_
    obtain ⟨a34, ha35, h⟩ := h
    obtain ⟨hk36, h⟩ := h
    obtain ⟨hc37, h⟩ := h
    refine y_iast (r := (mR (tI (tJ M18 a26 ((aI M18 a22 ((0 : Int32)).toNatClampNeg)).toNatClampNeg l1) a30 ((aI M18 a22 ((0 : Int32)).toNatClampNeg)).toNatClampNeg l3) 724 h0)) hX dX11_statement_113 ha35 hk36 hc37 ?_
    refine z_aload_n (r := (some h0)) hX dX11_statement_114 rfl 1 rfl ?_
    refine gf_RX11_51 (r := (some h0)) hX dX11_statement_115 rfl hk21 ?_
    refine z_iload hX dX11_statement_118 0 rfl ?_
    refine z_iconst (v := (-1 : Int32)) hX dX11_statement_120 (by decide) ?_
    obtain ⟨a38, ha39, h⟩ := h
    obtain ⟨hk40, h⟩ := h
    obtain ⟨hc41, h⟩ := h
    refine y_iast (r := (mR (tI (tI (tJ M18 a26 ((aI M18 a22 ((0 : Int32)).toNatClampNeg)).toNatClampNeg l1) a30 ((aI M18 a22 ((0 : Int32)).toNatClampNeg)).toNatClampNeg l3) a34 ((aI M18 a22 ((0 : Int32)).toNatClampNeg)).toNatClampNeg (0 : Int32)) 726 h0)) hX dX11_statement_121 ha39 hk40 hc41 ?_
    refine z_aload_n (r := (some h0)) hX dX11_statement_122 rfl 1 rfl ?_
    refine gf_RX11_26 (r := (some h0)) hX dX11_statement_123 rfl hk21 ?_
    refine z_iload hX dX11_statement_126 0 rfl ?_
    refine z_iconst (v := (0 : Int32)) hX dX11_statement_128 (by decide) ?_
    obtain ⟨a42, ha43, h⟩ := h
    obtain ⟨hk44, h⟩ := h
    obtain ⟨hc45, h⟩ := h
    refine y_iast (r := (mR (tI (tI (tI (tJ M18 a26 ((aI M18 a22 ((0 : Int32)).toNatClampNeg)).toNatClampNeg l1) a30 ((aI M18 a22 ((0 : Int32)).toNatClampNeg)).toNatClampNeg l3) a34 ((aI M18 a22 ((0 : Int32)).toNatClampNeg)).toNatClampNeg (0 : Int32)) a38 ((aI M18 a22 ((0 : Int32)).toNatClampNeg)).toNatClampNeg (-1 : Int32)) 718 h0)) hX dX11_statement_129 ha43 hk44 hc45 ?_
    refine z_aload_n (r := (some h0)) hX dX11_statement_130 rfl 1 rfl ?_
    refine gf_RX11_39 (r := (some h0)) hX dX11_statement_131 rfl hk21 ?_
    refine z_iload hX dX11_statement_134 0 rfl ?_
    refine z_iconst (v := (0 : Int32)) hX dX11_statement_136 (by decide) ?_
    obtain ⟨a46, ha47, h⟩ := h
    obtain ⟨hk48, h⟩ := h
    obtain ⟨hc49, h⟩ := h
    refine y_iast (r := (mR (tI (tI (tI (tI (tJ M18 a26 ((aI M18 a22 ((0 : Int32)).toNatClampNeg)).toNatClampNeg l1) a30 ((aI M18 a22 ((0 : Int32)).toNatClampNeg)).toNatClampNeg l3) a34 ((aI M18 a22 ((0 : Int32)).toNatClampNeg)).toNatClampNeg (0 : Int32)) a38 ((aI M18 a22 ((0 : Int32)).toNatClampNeg)).toNatClampNeg (-1 : Int32)) a42 ((aI M18 a22 ((0 : Int32)).toNatClampNeg)).toNatClampNeg (0 : Int32)) 722 h0)) hX dX11_statement_137 ha47 hk48 hc49 ?_
    refine z_aload_n (r := (some h0)) hX dX11_statement_138 rfl 1 rfl ?_
    refine gf_RX11_42 (r := (some h0)) hX dX11_statement_139 rfl hk21 ?_
    refine z_iload hX dX11_statement_142 0 rfl ?_
    refine z_iconst (v := (-1 : Int32)) hX dX11_statement_144 (by decide) ?_
    obtain ⟨a50, ha51, h⟩ := h
    obtain ⟨hk52, h⟩ := h
    obtain ⟨hc53, h⟩ := h
    refine y_iast (r := (mR (tI (tI (tI (tI (tI (tJ M18 a26 ((aI M18 a22 ((0 : Int32)).toNatClampNeg)).toNatClampNeg l1) a30 ((aI M18 a22 ((0 : Int32)).toNatClampNeg)).toNatClampNeg l3) a34 ((aI M18 a22 ((0 : Int32)).toNatClampNeg)).toNatClampNeg (0 : Int32)) a38 ((aI M18 a22 ((0 : Int32)).toNatClampNeg)).toNatClampNeg (-1 : Int32)) a42 ((aI M18 a22 ((0 : Int32)).toNatClampNeg)).toNatClampNeg (0 : Int32)) a46 ((aI M18 a22 ((0 : Int32)).toNatClampNeg)).toNatClampNeg (0 : Int32)) 723 h0)) hX dX11_statement_145 ha51 hk52 hc53 ?_
    refine z_aload_n (r := (some h0)) hX dX11_statement_146 rfl 1 rfl ?_
    refine gf_RX11_29 (r := (some h0)) hX dX11_statement_147 rfl hk21 ?_
    refine z_iload hX dX11_statement_150 0 rfl ?_
    refine z_iconst (v := (0 : Int32)) hX dX11_statement_152 (by decide) ?_
    obtain ⟨a54, ha55, h⟩ := h
    obtain ⟨hk56, h⟩ := h
    obtain ⟨hc57, h⟩ := h
    refine y_zast (r := (mR (tI (tI (tI (tI (tI (tI (tJ M18 a26 ((aI M18 a22 ((0 : Int32)).toNatClampNeg)).toNatClampNeg l1) a30 ((aI M18 a22 ((0 : Int32)).toNatClampNeg)).toNatClampNeg l3) a34 ((aI M18 a22 ((0 : Int32)).toNatClampNeg)).toNatClampNeg (0 : Int32)) a38 ((aI M18 a22 ((0 : Int32)).toNatClampNeg)).toNatClampNeg (-1 : Int32)) a42 ((aI M18 a22 ((0 : Int32)).toNatClampNeg)).toNatClampNeg (0 : Int32)) a46 ((aI M18 a22 ((0 : Int32)).toNatClampNeg)).toNatClampNeg (0 : Int32)) a50 ((aI M18 a22 ((0 : Int32)).toNatClampNeg)).toNatClampNeg (-1 : Int32)) 719 h0)) hX dX11_statement_153 ha55 hk56 hc57 (Or.inl rfl)  ?_
    refine z_aload_n (r := (some h0)) hX dX11_statement_154 rfl 1 rfl ?_
    refine gf_RX11_33 (r := (some h0)) hX dX11_statement_155 rfl hk21 ?_
    refine z_iload hX dX11_statement_158 0 rfl ?_
    refine z_lconst (v := (0 : Int64)) hX dX11_statement_160 (by decide) ?_
    obtain ⟨a58, ha59, h⟩ := h
    obtain ⟨hk60, h⟩ := h
    obtain ⟨hc61, h⟩ := h
    refine y_last (r := (mR (tI (tI (tI (tI (tI (tI (tI (tJ M18 a26 ((aI M18 a22 ((0 : Int32)).toNatClampNeg)).toNatClampNeg l1) a30 ((aI M18 a22 ((0 : Int32)).toNatClampNeg)).toNatClampNeg l3) a34 ((aI M18 a22 ((0 : Int32)).toNatClampNeg)).toNatClampNeg (0 : Int32)) a38 ((aI M18 a22 ((0 : Int32)).toNatClampNeg)).toNatClampNeg (-1 : Int32)) a42 ((aI M18 a22 ((0 : Int32)).toNatClampNeg)).toNatClampNeg (0 : Int32)) a46 ((aI M18 a22 ((0 : Int32)).toNatClampNeg)).toNatClampNeg (0 : Int32)) a50 ((aI M18 a22 ((0 : Int32)).toNatClampNeg)).toNatClampNeg (-1 : Int32)) a54 ((aI M18 a22 ((0 : Int32)).toNatClampNeg)).toNatClampNeg (0 : Int32)) 720 h0)) hX dX11_statement_161 ha59 hk60 hc61 ?_
    refine z_aload_n (r := (some h0)) hX dX11_statement_162 rfl 1 rfl ?_
    refine gf_RX11_36 (r := (some h0)) hX dX11_statement_163 rfl hk21 ?_
    refine z_iload hX dX11_statement_166 0 rfl ?_
    refine z_lconst (v := (0 : Int64)) hX dX11_statement_168 (by decide) ?_
    obtain ⟨a62, ha63, h⟩ := h
    obtain ⟨hk64, h⟩ := h
    obtain ⟨hc65, h⟩ := h
    refine y_last (r := (mR (tJ (tI (tI (tI (tI (tI (tI (tI (tJ M18 a26 ((aI M18 a22 ((0 : Int32)).toNatClampNeg)).toNatClampNeg l1) a30 ((aI M18 a22 ((0 : Int32)).toNatClampNeg)).toNatClampNeg l3) a34 ((aI M18 a22 ((0 : Int32)).toNatClampNeg)).toNatClampNeg (0 : Int32)) a38 ((aI M18 a22 ((0 : Int32)).toNatClampNeg)).toNatClampNeg (-1 : Int32)) a42 ((aI M18 a22 ((0 : Int32)).toNatClampNeg)).toNatClampNeg (0 : Int32)) a46 ((aI M18 a22 ((0 : Int32)).toNatClampNeg)).toNatClampNeg (0 : Int32)) a50 ((aI M18 a22 ((0 : Int32)).toNatClampNeg)).toNatClampNeg (-1 : Int32)) a54 ((aI M18 a22 ((0 : Int32)).toNatClampNeg)).toNatClampNeg (0 : Int32)) a58 ((aI M18 a22 ((0 : Int32)).toNatClampNeg)).toNatClampNeg (0 : Int64)) 721 h0)) hX dX11_statement_169 ha63 hk64 hc65 ?_
    refine z_aload_n (r := (some h0)) hX dX11_statement_170 rfl 1 rfl ?_
    refine z_callVV (As := []) (rest := []) (ci := 11) hX (ct_X11_next h) mw_RX11_200 rfl (by decide) rfl (by rfl) (by unfold RoomC; decide) (by decide) dX11_statement_171 hk21 (fun M67 h => ?_)
    refine z_aload_n (r := (some h0)) hX dX11_statement_174 rfl 1 rfl ?_
    refine z_bipush (v := (61 : Int32)) hX dX11_statement_175 (by decide) ?_
    obtain ⟨hk71, h⟩ := h
    refine z_callVV (As := [.int (61 : Int32)]) (rest := []) (ci := 11) hX (ct_X11_takeSign h) mw_RX11_213 rfl (by decide) rfl (by rfl) (by unfold RoomC; decide) (by decide) dX11_statement_177 hk71 (fun M70 h => ?_)
    refine z_aload_n (r := (some h0)) hX dX11_statement_180 rfl 1 rfl ?_
    obtain ⟨hk75, h⟩ := h
    refine z_callVI (As := []) (rest := []) (ci := 11) hX (ct_X11_good h) mw_RX11_190 rfl (by decide) rfl (by rfl) (by unfold RoomC; decide) (by decide) dX11_statement_181 hk75 (fun r73 M74 h => ?_)
    obtain ⟨h1, h2⟩ := h
    refine z_if_eq (tgt := 193) hX dX11_statement_184 (by decide) (fun hc => ?_) (fun hc => ?_)
    · have h := h1 hc
      refine z_loc [1] rfl ?_
      exact zb_X11_statement_193 hX hQ hnL h
    · have h := h2 hc
      refine z_aload_n (r := (some h0)) hX dX11_statement_187 rfl 1 rfl ?_
      refine z_iload hX dX11_statement_188 0 rfl ?_
      obtain ⟨hk79, h⟩ := h
      refine z_callVV (As := [.int (aI M18 a22 ((0 : Int32)).toNatClampNeg)]) (rest := []) (ci := 11) hX (ct_X11_body h) mw_RX11_216 rfl (by decide) rfl (by rfl) (by unfold RoomC; decide) (by decide) dX11_statement_190 hk79 (fun M78 h => ?_)
      refine z_loc [1] rfl ?_
      exact zb_X11_statement_193 hX hQ hnL h
  · have h := h2 hc
    exact z_vret hX hQ dX11_statement_81 h
def wp_X11_statement (M : Mm) (h0 : Nat) (K : Mm → Prop) : Prop := mK M h0 = 12 ∧ (wp_X11_isKeyword M h0 (14 : Int32) (fun r81 M82 => ((r81 = 0 → mK M82 h0 = 12 ∧ (wp_X11_isName M82 h0 (fun r85 M86 => ((¬ r85 = 0 → mK M86 h0 = 12 ∧ (wp_X11_findName M86 h0 (mJ M86 710 h0) (fun r90 M91 => ((r90 < 0 → mK M91 h0 = 12 ∧ ∃ a94, (mR M91 729 h0) = some a94 ∧ isA M91 a94 1 ∧ vp_in (0 : Int32) (aN M91 a94) ∧ ((¬ (aI M91 a94 ((0 : Int32)).toNatClampNeg) = (12 : Int32) → (bk_X11_statement_74 h0 K (mJ M86 710 h0) ((mI M86 707 h0) - (mI M86 709 h0)) M91)) ∧ ((aI M91 a94 ((0 : Int32)).toNatClampNeg) = (12 : Int32) → (wp_X11_fault M91 h0 (6 : Int32) (fun M99 => (bk_X11_statement_74 h0 K (mJ M86 710 h0) ((mI M86 707 h0) - (mI M86 709 h0)) M99)))))) ∧ (¬ r90 < 0 → mK M91 h0 = 12 ∧ (wp_X11_fault M91 h0 (3 : Int32) (fun M102 => (bk_X11_statement_74 h0 K (mJ M86 710 h0) ((mI M86 707 h0) - (mI M86 709 h0)) M102)))))))) ∧ (r85 = 0 → mK M86 h0 = 12 ∧ (wp_X11_misplaced M86 h0 (fun M106 => (K M106)))))))) ∧ (¬ r81 = 0 → mK M82 h0 = 12 ∧ (wp_X11_align M82 h0 (fun M110 => (K M110)))))))
set_option maxRecDepth 100000 in
set_option maxHeartbeats 4000000 in
theorem ct_X11_statement {M : Mm} {h0 : Nat} {K : Mm → Prop} (h : wp_X11_statement M h0 K) : CtV yX11_statement cX11_statement 5 none rm_X11_statement [.ref h0] M K := by
  refine ct_any (QV K) (by decide) (by exact Nat.le_of_ble_eq_true rfl) (fun X hX hQ hnL hnm => ?_)
  rw [show lv_args 0 [.ref h0] = [(0, va_rf (some h0))] by rfl]
  have hX : Ok X cX11_statement RX11 rm_X11_statement := hX
  unfold wp_X11_statement at h
  refine z_aload_n (r := (some h0)) hX dX11_statement_0 rfl 0 rfl ?_
  refine z_bipush (v := (14 : Int32)) hX dX11_statement_1 (by decide) ?_
  obtain ⟨hk83, h⟩ := h
  refine z_callVI (As := [.int (14 : Int32)]) (rest := []) (ci := 11) hX (ct_X11_isKeyword h) mw_RX11_194 rfl (by decide) rfl (by rfl) (by unfold RoomC; decide) (by decide) dX11_statement_3 hk83 (fun r81 M82 h => ?_)
  obtain ⟨h1, h2⟩ := h
  refine z_if_eq (tgt := 14) hX dX11_statement_6 (by decide) (fun hc => ?_) (fun hc => ?_)
  · have h := h1 hc
    refine z_aload_n (r := (some h0)) hX dX11_statement_14 rfl 0 rfl ?_
    obtain ⟨hk87, h⟩ := h
    refine z_callVI (As := []) (rest := []) (ci := 11) hX (ct_X11_isName h) mw_RX11_206 rfl (by decide) rfl (by rfl) (by unfold RoomC; decide) (by decide) dX11_statement_15 hk87 (fun r85 M86 h => ?_)
    obtain ⟨h1, h2⟩ := h
    refine z_if_ne (tgt := 26) hX dX11_statement_18 (by decide) (fun hc => ?_) (fun hc => ?_)
    · have h := h1 hc
      refine z_aload_n (r := (some h0)) hX dX11_statement_26 rfl 0 rfl ?_
      obtain ⟨hk89, h⟩ := h
      refine gf_RX11_140 (r := (some h0)) hX dX11_statement_27 rfl hk89 ?_
      refine z_lstore_n hX [(1, .long (mJ M86 710 h0)), (0, va_rf (some h0))] dX11_statement_30 rfl (by rw [hnL]; decide) rfl ?_
      refine z_aload_n (r := (some h0)) hX dX11_statement_31 rfl 1 rfl ?_
      refine gf_RX11_130 (r := (some h0)) hX dX11_statement_32 rfl hk89 ?_
      refine z_aload_n (r := (some h0)) hX dX11_statement_35 rfl 1 rfl ?_
      refine gf_RX11_137 (r := (some h0)) hX dX11_statement_36 rfl hk89 ?_
      refine z_isub hX dX11_statement_39 ?_
      refine z_istore_n hX [(3, .int ((mI M86 707 h0) - (mI M86 709 h0))), (1, .long (mJ M86 710 h0)), (0, va_rf (some h0))] dX11_statement_40 rfl (by rw [hnL]; decide) rfl ?_
      refine z_aload_n (r := (some h0)) hX dX11_statement_41 rfl 2 rfl ?_
      refine z_lload_n hX dX11_statement_42 rfl 1 rfl ?_
      refine z_callVI (As := [.long (mJ M86 710 h0)]) (rest := []) (ci := 11) hX (ct_X11_findName h) mw_RX11_209 rfl (by decide) rfl (by rfl) (by unfold RoomC; decide) (by decide) dX11_statement_43 hk89 (fun r90 M91 h => ?_)
      obtain ⟨h1, h2⟩ := h
      refine z_if_lt (tgt := 57) hX dX11_statement_46 (by decide) (fun hc => ?_) (fun hc => ?_)
      · have h := h1 hc
        refine z_aload_n (r := (some h0)) hX dX11_statement_57 rfl 2 rfl ?_
        obtain ⟨hk93, h⟩ := h
        refine gf_RX11_60 (r := (some h0)) hX dX11_statement_58 rfl hk93 ?_
        refine z_iconst (v := (0 : Int32)) hX dX11_statement_61 (by decide) ?_
        obtain ⟨a94, ha95, h⟩ := h
        obtain ⟨hk96, h⟩ := h
        obtain ⟨hc97, h⟩ := h
        refine y_iald (r := (mR M91 729 h0)) hX dX11_statement_62 ha95 hk96 hc97 ?_
        refine z_bipush (v := (12 : Int32)) hX dX11_statement_63 (by decide) ?_
        obtain ⟨h1, h2⟩ := h
        refine z_icmp_ne (tgt := 74) hX dX11_statement_65 (by decide) (fun hc => ?_) (fun hc => ?_)
        · have h := h1 hc
          refine z_loc [2, 1, 0] rfl ?_
          exact zb_X11_statement_74 hX hQ hnL h
        · have h := h2 hc
          refine z_aload_n (r := (some h0)) hX dX11_statement_68 rfl 2 rfl ?_
          refine z_bipush (v := (6 : Int32)) hX dX11_statement_69 (by decide) ?_
          refine z_callVV (As := [.int (6 : Int32)]) (rest := []) (ci := 11) hX (ct_X11_fault h) mw_RX11_187 rfl (by decide) rfl (by rfl) (by unfold RoomC; decide) (by decide) dX11_statement_71 hk93 (fun M99 h => ?_)
          refine z_loc [2, 1, 0] rfl ?_
          exact zb_X11_statement_74 hX hQ hnL h
      · have h := h2 hc
        refine z_aload_n (r := (some h0)) hX dX11_statement_49 rfl 2 rfl ?_
        refine z_iconst (v := (3 : Int32)) hX dX11_statement_50 (by decide) ?_
        obtain ⟨hk103, h⟩ := h
        refine z_callVV (As := [.int (3 : Int32)]) (rest := []) (ci := 11) hX (ct_X11_fault h) mw_RX11_187 rfl (by decide) rfl (by rfl) (by unfold RoomC; decide) (by decide) dX11_statement_51 hk103 (fun M102 h => ?_)
        refine z_goto (tgt := 74) hX dX11_statement_54 (by decide) ?_
        refine z_loc [2, 1, 0] rfl ?_
        exact zb_X11_statement_74 hX hQ hnL h
    · have h := h2 hc
      refine z_aload_n (r := (some h0)) hX dX11_statement_21 rfl 0 rfl ?_
      obtain ⟨hk107, h⟩ := h
      refine z_callVV (As := []) (rest := []) (ci := 11) hX (ct_X11_misplaced h) mw_RX11_197 rfl (by decide) rfl (by rfl) (by unfold RoomC; decide) (by decide) dX11_statement_22 hk107 (fun M106 h => ?_)
      exact z_vret hX hQ dX11_statement_25 h
  · have h := h2 hc
    refine z_aload_n (r := (some h0)) hX dX11_statement_9 rfl 0 rfl ?_
    obtain ⟨hk111, h⟩ := h
    refine z_callVV (As := []) (rest := []) (ci := 11) hX (ct_X11_align h) mw_RX11_203 rfl (by decide) rfl (by rfl) (by unfold RoomC; decide) (by decide) dX11_statement_10 hk111 (fun M110 h => ?_)
    exact z_vret hX hQ dX11_statement_13 h
def rm_X11_build : Room := { frames := 6, cells := 0, slots := 0, locals := 140 }
def bk_X11_build_145 (h0 : Nat) (K : Int32 → Mm → Prop) (M : Mm) : Prop := mK M h0 = 12 ∧ (wp_X11_good (sI (sI M 706 h0 (0 : Int32)) 714 h0 (mI (sI M 706 h0 (0 : Int32)) 712 h0)) h0 (fun r4 M5 => ((¬ r4 = 0 → mK M5 h0 = 12 ∧ (wp_X11_stand M5 h0 (fun M8 => mK M8 h0 = 12 ∧ ∃ a12, (mR M8 729 h0) = some a12 ∧ isA M8 a12 1 ∧ vp_in (1 : Int32) (aN M8 a12) ∧ (K (aI M8 a12 ((1 : Int32)).toNatClampNeg) M8)))) ∧ (r4 = 0 → mK M5 h0 = 12 ∧ (K ((-10 : Int32) - (mI M5 713 h0)) M5)))))
set_option maxRecDepth 100000 in
set_option maxHeartbeats 4000000 in
theorem zb_X11_build_145 {X : Cx} {h0 : Nat} {K : Int32 → Mm → Prop} (hX : Ok X cX11_build RX11 rm_X11_build) (hQ : Rq X rm_X11_build (some .int) (QI K)) (hnL : X.2.2.2.2.2.2.2.2.2.2.2.2.2.2 = 3) {M : Mm} (h : bk_X11_build_145 h0 K M) : Z X M 0 0 145 [(0, va_rf (some h0))] [] := by
  unfold bk_X11_build_145 at h
  refine z_aload_n (r := (some h0)) hX dX11_build_145 rfl 0 rfl ?_
  refine z_iconst (v := (0 : Int32)) hX dX11_build_146 (by decide) ?_
  obtain ⟨hk1, h⟩ := h
  refine pf_RX11_127 (r := (some h0)) (v := (0 : Int32)) hX dX11_build_147 rfl hk1 ?_
  refine z_aload_n (r := (some h0)) hX dX11_build_150 rfl 0 rfl ?_
  refine z_aload_n (r := (some h0)) hX dX11_build_151 rfl 0 rfl ?_
  refine gf_RX11_181 (r := (some h0)) hX dX11_build_152 rfl hk1 ?_
  refine pf_RX11_265 (r := (some h0)) (v := (mI (sI M 706 h0 (0 : Int32)) 712 h0)) hX dX11_build_155 rfl hk1 ?_
  refine z_aload_n (r := (some h0)) hX dX11_build_158 rfl 0 rfl ?_
  refine z_callVI (As := []) (rest := []) (ci := 11) hX (ct_X11_good h) mw_RX11_190 rfl (by decide) rfl (by rfl) (by unfold RoomC; decide) (by decide) dX11_build_159 hk1 (fun r4 M5 h => ?_)
  obtain ⟨h1, h2⟩ := h
  refine z_if_ne (tgt := 173) hX dX11_build_162 (by decide) (fun hc => ?_) (fun hc => ?_)
  · have h := h1 hc
    refine z_aload_n (r := (some h0)) hX dX11_build_173 rfl 0 rfl ?_
    obtain ⟨hk9, h⟩ := h
    refine z_callVV (As := []) (rest := []) (ci := 11) hX (ct_X11_stand h) mw_RX11_268 rfl (by decide) rfl (by rfl) (by unfold RoomC; decide) (by decide) dX11_build_174 hk9 (fun M8 h => ?_)
    refine z_aload_n (r := (some h0)) hX dX11_build_177 rfl 0 rfl ?_
    obtain ⟨hk11, h⟩ := h
    refine gf_RX11_60 (r := (some h0)) hX dX11_build_178 rfl hk11 ?_
    refine z_iconst (v := (1 : Int32)) hX dX11_build_181 (by decide) ?_
    obtain ⟨a12, ha13, h⟩ := h
    obtain ⟨hk14, h⟩ := h
    obtain ⟨hc15, h⟩ := h
    refine y_iald (r := (mR M8 729 h0)) hX dX11_build_182 ha13 hk14 hc15 ?_
    exact z_iret hX hQ dX11_build_183 h
  · have h := h2 hc
    refine z_bipush (v := (-10 : Int32)) hX dX11_build_165 (by decide) ?_
    refine z_aload_n (r := (some h0)) hX dX11_build_167 rfl 0 rfl ?_
    obtain ⟨hk16, h⟩ := h
    refine gf_RX11_184 (r := (some h0)) hX dX11_build_168 rfl hk16 ?_
    refine z_isub hX dX11_build_171 ?_
    exact z_iret hX hQ dX11_build_172 h
def bk_X11_build_139 (h0 : Nat) (R65 : Int32 → Mm → Prop) (K : Int32 → Mm → Prop) (l1 : Int32) (M : Mm) : Prop := (R65 (l1 + 1) M)
set_option maxRecDepth 100000 in
set_option maxHeartbeats 4000000 in
theorem zb_X11_build_139 {X : Cx} {h0 : Nat} {R65 : Int32 → Mm → Prop} {K : Int32 → Mm → Prop} (hX : Ok X cX11_build RX11 rm_X11_build) (hQ : Rq X rm_X11_build (some .int) (QI K)) (hnL : X.2.2.2.2.2.2.2.2.2.2.2.2.2.2 = 3) (hR65 : ∀ l1 M, R65 l1 M → Z X M 0 0 65 [(0, va_rf (some h0)), (1, .int l1)] []) {l1 : Int32} {M : Mm} (h : bk_X11_build_139 h0 R65 K l1 M) : Z X M 0 0 139 [(0, va_rf (some h0)), (1, .int l1)] [] := by
  unfold bk_X11_build_139 at h
  refine z_iinc (v := (l1 + 1)) hX [(1, .int (l1 + 1)), (0, va_rf (some h0))] dX11_build_139 1 rfl rfl (by rw [hnL]; decide) rfl ?_
  refine z_goto (tgt := 65) hX dX11_build_142 (by decide) ?_
  refine z_loc [1, 0] rfl ?_
  exact hR65 _ _ h
def bk_X11_build_135 (h0 : Nat) (R65 : Int32 → Mm → Prop) (K : Int32 → Mm → Prop) (l1 : Int32) (M : Mm) : Prop := mK M h0 = 12 ∧ (wp_X11_statement M h0 (fun M18 => (bk_X11_build_139 h0 R65 K l1 M18)))
set_option maxRecDepth 100000 in
set_option maxHeartbeats 4000000 in
theorem zb_X11_build_135 {X : Cx} {h0 : Nat} {R65 : Int32 → Mm → Prop} {K : Int32 → Mm → Prop} (hX : Ok X cX11_build RX11 rm_X11_build) (hQ : Rq X rm_X11_build (some .int) (QI K)) (hnL : X.2.2.2.2.2.2.2.2.2.2.2.2.2.2 = 3) (hR65 : ∀ l1 M, R65 l1 M → Z X M 0 0 65 [(0, va_rf (some h0)), (1, .int l1)] []) {l1 : Int32} {M : Mm} (h : bk_X11_build_135 h0 R65 K l1 M) : Z X M 0 0 135 [(0, va_rf (some h0)), (1, .int l1)] [] := by
  unfold bk_X11_build_135 at h
  refine z_aload_n (r := (some h0)) hX dX11_build_135 rfl 0 rfl ?_
  obtain ⟨hk19, h⟩ := h
  refine z_callVV (As := []) (rest := []) (ci := 11) hX (ct_X11_statement h) mw_RX11_262 rfl (by decide) rfl (by rfl) (by unfold RoomC; decide) (by decide) dX11_build_136 hk19 (fun M18 h => ?_)
  exact zb_X11_build_139 hX hQ hnL hR65 h
def bk_X11_build_115 (h0 : Nat) (R65 : Int32 → Mm → Prop) (K : Int32 → Mm → Prop) (l1 : Int32) (s0 : Int32) (M : Mm) : Prop := ((¬ l1 = (20 : Int32) → (bk_X11_build_135 h0 R65 K l1 M)) ∧ (l1 = (20 : Int32) → ((s0 = 0 → (bk_X11_build_135 h0 R65 K l1 M)) ∧ (¬ s0 = 0 → mK M h0 = 12 ∧ (wp_X11_fault M h0 (6 : Int32) (fun M22 => (bk_X11_build_139 h0 R65 K l1 M22)))))))
set_option maxRecDepth 100000 in
set_option maxHeartbeats 4000000 in
theorem zb_X11_build_115 {X : Cx} {h0 : Nat} {R65 : Int32 → Mm → Prop} {K : Int32 → Mm → Prop} (hX : Ok X cX11_build RX11 rm_X11_build) (hQ : Rq X rm_X11_build (some .int) (QI K)) (hnL : X.2.2.2.2.2.2.2.2.2.2.2.2.2.2 = 3) (hR65 : ∀ l1 M, R65 l1 M → Z X M 0 0 65 [(0, va_rf (some h0)), (1, .int l1)] []) {l1 : Int32} {s0 : Int32} {M : Mm} (h : bk_X11_build_115 h0 R65 K l1 s0 M) : Z X M 0 0 115 [(0, va_rf (some h0)), (1, .int l1)] [.int s0] := by
  unfold bk_X11_build_115 at h
  refine z_istore_n hX [(2, .int s0), (0, va_rf (some h0)), (1, .int l1)] dX11_build_115 rfl (by rw [hnL]; decide) rfl ?_
  refine z_iload_n hX dX11_build_116 rfl 2 rfl ?_
  refine z_bipush (v := (20 : Int32)) hX dX11_build_117 (by decide) ?_
  obtain ⟨h1, h2⟩ := h
  refine z_icmp_ne (tgt := 135) hX dX11_build_119 (by decide) (fun hc => ?_) (fun hc => ?_)
  · have h := h1 hc
    refine z_loc [1, 2] rfl ?_
    exact zb_X11_build_135 hX hQ hnL hR65 h
  · have h := h2 hc
    refine z_iload_n hX dX11_build_122 rfl 0 rfl ?_
    obtain ⟨h1, h2⟩ := h
    refine z_if_eq (tgt := 135) hX dX11_build_123 (by decide) (fun hc => ?_) (fun hc => ?_)
    · have h := h1 hc
      refine z_loc [1, 2] rfl ?_
      exact zb_X11_build_135 hX hQ hnL hR65 h
    · have h := h2 hc
      refine z_aload_n (r := (some h0)) hX dX11_build_126 rfl 1 rfl ?_
      refine z_bipush (v := (6 : Int32)) hX dX11_build_127 (by decide) ?_
      obtain ⟨hk23, h⟩ := h
      refine z_callVV (As := [.int (6 : Int32)]) (rest := []) (ci := 11) hX (ct_X11_fault h) mw_RX11_187 rfl (by decide) rfl (by rfl) (by unfold RoomC; decide) (by decide) dX11_build_129 hk23 (fun M22 h => ?_)
      refine z_goto (tgt := 139) hX dX11_build_132 (by decide) ?_
      refine z_loc [1, 2] rfl ?_
      exact zb_X11_build_139 hX hQ hnL hR65 h
def bk_X11_build_110 (h0 : Nat) (R65 : Int32 → Mm → Prop) (K : Int32 → Mm → Prop) (l1 : Int32) (M : Mm) : Prop := (bk_X11_build_115 h0 R65 K l1 (1 : Int32) M)
set_option maxRecDepth 100000 in
set_option maxHeartbeats 4000000 in
theorem zb_X11_build_110 {X : Cx} {h0 : Nat} {R65 : Int32 → Mm → Prop} {K : Int32 → Mm → Prop} (hX : Ok X cX11_build RX11 rm_X11_build) (hQ : Rq X rm_X11_build (some .int) (QI K)) (hnL : X.2.2.2.2.2.2.2.2.2.2.2.2.2.2 = 3) (hR65 : ∀ l1 M, R65 l1 M → Z X M 0 0 65 [(0, va_rf (some h0)), (1, .int l1)] []) {l1 : Int32} {M : Mm} (h : bk_X11_build_110 h0 R65 K l1 M) : Z X M 0 0 110 [(0, va_rf (some h0)), (1, .int l1)] [] := by
  unfold bk_X11_build_110 at h
  refine z_iconst (v := (1 : Int32)) hX dX11_build_110 (by decide) ?_
  refine z_goto (tgt := 115) hX dX11_build_111 (by decide) ?_
  exact zb_X11_build_115 hX hQ hnL hR65 h
def bk_X11_build_114 (h0 : Nat) (R65 : Int32 → Mm → Prop) (K : Int32 → Mm → Prop) (l1 : Int32) (M : Mm) : Prop := (bk_X11_build_115 h0 R65 K l1 (0 : Int32) M)
set_option maxRecDepth 100000 in
set_option maxHeartbeats 4000000 in
theorem zb_X11_build_114 {X : Cx} {h0 : Nat} {R65 : Int32 → Mm → Prop} {K : Int32 → Mm → Prop} (hX : Ok X cX11_build RX11 rm_X11_build) (hQ : Rq X rm_X11_build (some .int) (QI K)) (hnL : X.2.2.2.2.2.2.2.2.2.2.2.2.2.2 = 3) (hR65 : ∀ l1 M, R65 l1 M → Z X M 0 0 65 [(0, va_rf (some h0)), (1, .int l1)] []) {l1 : Int32} {M : Mm} (h : bk_X11_build_114 h0 R65 K l1 M) : Z X M 0 0 114 [(0, va_rf (some h0)), (1, .int l1)] [] := by
  unfold bk_X11_build_114 at h
  refine z_iconst (v := (0 : Int32)) hX dX11_build_114 (by decide) ?_
  exact zb_X11_build_115 hX hQ hnL hR65 h
def bk_X11_build_83 (h0 : Nat) (R65 : Int32 → Mm → Prop) (K : Int32 → Mm → Prop) (l1 : Int32) (M : Mm) : Prop := mK M h0 = 12 ∧ (wp_X11_isKeyword M h0 (14 : Int32) (fun r25 M26 => ((¬ r25 = 0 → (bk_X11_build_110 h0 R65 K l1 M26)) ∧ (r25 = 0 → mK M26 h0 = 12 ∧ (wp_X11_isName M26 h0 (fun r29 M30 => ((r29 = 0 → (bk_X11_build_114 h0 R65 K l1 M30)) ∧ (¬ r29 = 0 → mK M30 h0 = 12 ∧ (wp_X11_findName M30 h0 (mJ M30 710 h0) (fun r34 M35 => ((0 ≤ r34 → (bk_X11_build_114 h0 R65 K l1 M35)) ∧ (¬ 0 ≤ r34 → (bk_X11_build_110 h0 R65 K l1 M35)))))))))))))
set_option maxRecDepth 100000 in
set_option maxHeartbeats 4000000 in
theorem zb_X11_build_83 {X : Cx} {h0 : Nat} {R65 : Int32 → Mm → Prop} {K : Int32 → Mm → Prop} (hX : Ok X cX11_build RX11 rm_X11_build) (hQ : Rq X rm_X11_build (some .int) (QI K)) (hnL : X.2.2.2.2.2.2.2.2.2.2.2.2.2.2 = 3) (hR65 : ∀ l1 M, R65 l1 M → Z X M 0 0 65 [(0, va_rf (some h0)), (1, .int l1)] []) {l1 : Int32} {M : Mm} (h : bk_X11_build_83 h0 R65 K l1 M) : Z X M 0 0 83 [(0, va_rf (some h0)), (1, .int l1)] [] := by
  unfold bk_X11_build_83 at h
  refine z_aload_n (r := (some h0)) hX dX11_build_83 rfl 0 rfl ?_
  refine z_bipush (v := (14 : Int32)) hX dX11_build_84 (by decide) ?_
  obtain ⟨hk27, h⟩ := h
  refine z_callVI (As := [.int (14 : Int32)]) (rest := []) (ci := 11) hX (ct_X11_isKeyword h) mw_RX11_194 rfl (by decide) rfl (by rfl) (by unfold RoomC; decide) (by decide) dX11_build_86 hk27 (fun r25 M26 h => ?_)
  obtain ⟨h1, h2⟩ := h
  refine z_if_ne (tgt := 110) hX dX11_build_89 (by decide) (fun hc => ?_) (fun hc => ?_)
  · have h := h1 hc
    exact zb_X11_build_110 hX hQ hnL hR65 h
  · have h := h2 hc
    refine z_aload_n (r := (some h0)) hX dX11_build_92 rfl 0 rfl ?_
    obtain ⟨hk31, h⟩ := h
    refine z_callVI (As := []) (rest := []) (ci := 11) hX (ct_X11_isName h) mw_RX11_206 rfl (by decide) rfl (by rfl) (by unfold RoomC; decide) (by decide) dX11_build_93 hk31 (fun r29 M30 h => ?_)
    obtain ⟨h1, h2⟩ := h
    refine z_if_eq (tgt := 114) hX dX11_build_96 (by decide) (fun hc => ?_) (fun hc => ?_)
    · have h := h1 hc
      exact zb_X11_build_114 hX hQ hnL hR65 h
    · have h := h2 hc
      refine z_aload_n (r := (some h0)) hX dX11_build_99 rfl 0 rfl ?_
      refine z_aload_n (r := (some h0)) hX dX11_build_100 rfl 0 rfl ?_
      obtain ⟨hk33, h⟩ := h
      refine gf_RX11_140 (r := (some h0)) hX dX11_build_101 rfl hk33 ?_
      refine z_callVI (As := [.long (mJ M30 710 h0)]) (rest := []) (ci := 11) hX (ct_X11_findName h) mw_RX11_209 rfl (by decide) rfl (by rfl) (by unfold RoomC; decide) (by decide) dX11_build_104 hk33 (fun r34 M35 h => ?_)
      obtain ⟨h1, h2⟩ := h
      refine z_if_ge (tgt := 114) hX dX11_build_107 (by decide) (fun hc => ?_) (fun hc => ?_)
      · have h := h1 hc
        exact zb_X11_build_114 hX hQ hnL hR65 h
      · have h := h2 hc
        exact zb_X11_build_110 hX hQ hnL hR65 h
def lp_X11_build_65 (h0 : Nat) (K : Int32 → Mm → Prop) : Nat → Int32 → Mm → Prop
  | 0, _, _ => False
  | n + 1, l1, M => mK M h0 = 12 ∧ (wp_X11_good M h0 (fun r37 M38 => ((r37 = 0 → (bk_X11_build_145 h0 K M38)) ∧ (¬ r37 = 0 → ((l1 = 0 → (bk_X11_build_83 h0 (lp_X11_build_65 h0 K n) K l1 M38)) ∧ (¬ l1 = 0 → mK M38 h0 = 12 ∧ (((mI M38 708 h0) = 0 → (bk_X11_build_145 h0 K M38)) ∧ (¬ (mI M38 708 h0) = 0 → (bk_X11_build_83 h0 (lp_X11_build_65 h0 K n) K l1 M38)))))))))
set_option maxRecDepth 100000 in
set_option maxHeartbeats 4000000 in
theorem zl_X11_build_65 {X : Cx} {h0 : Nat} {K : Int32 → Mm → Prop} (hX : Ok X cX11_build RX11 rm_X11_build) (hQ : Rq X rm_X11_build (some .int) (QI K)) (hnL : X.2.2.2.2.2.2.2.2.2.2.2.2.2.2 = 3) : ∀ (n : Nat) (l1 : Int32) (M : Mm), lp_X11_build_65 h0 K n l1 M → Z X M 0 0 65 [(0, va_rf (some h0)), (1, .int l1)] [] := by
  intro n
  induction n with
  | zero =>
    intro l1 M h
    exact False.elim h
  | succ n hR65 =>
    intro l1 M h
    refine z_aload_n (r := (some h0)) hX dX11_build_65 rfl 0 rfl ?_
    obtain ⟨hk39, h⟩ := h
    refine z_callVI (As := []) (rest := []) (ci := 11) hX (ct_X11_good h) mw_RX11_190 rfl (by decide) rfl (by rfl) (by unfold RoomC; decide) (by decide) dX11_build_66 hk39 (fun r37 M38 h => ?_)
    obtain ⟨h1, h2⟩ := h
    refine z_if_eq (tgt := 145) hX dX11_build_69 (by decide) (fun hc => ?_) (fun hc => ?_)
    · have h := h1 hc
      refine z_loc [0] rfl ?_
      exact zb_X11_build_145 hX hQ hnL h
    · have h := h2 hc
      refine z_iload_n hX dX11_build_72 rfl 1 rfl ?_
      obtain ⟨h1, h2⟩ := h
      refine z_if_eq (tgt := 83) hX dX11_build_73 (by decide) (fun hc => ?_) (fun hc => ?_)
      · have h := h1 hc
        exact zb_X11_build_83 hX hQ hnL hR65 h
      · have h := h2 hc
        refine z_aload_n (r := (some h0)) hX dX11_build_76 rfl 0 rfl ?_
        obtain ⟨hk41, h⟩ := h
        refine gf_RX11_147 (r := (some h0)) hX dX11_build_77 rfl hk41 ?_
        obtain ⟨h1, h2⟩ := h
        refine z_if_eq (tgt := 145) hX dX11_build_80 (by decide) (fun hc => ?_) (fun hc => ?_)
        · have h := h1 hc
          refine z_loc [0] rfl ?_
          exact zb_X11_build_145 hX hQ hnL h
        · have h := h2 hc
          exact zb_X11_build_83 hX hQ hnL hR65 h
def lp_X11_build_34 (h0 : Nat) (K : Int32 → Mm → Prop) : Nat → Int32 → Mm → Prop
  | 0, _, _ => False
  | n + 1, l1, M => (((4 : Int32) ≤ l1 → mK M h0 = 12 ∧ (wp_X11_next M h0 (fun M43 => (∃ kk, lp_X11_build_65 h0 K kk (0 : Int32) M43)))) ∧ (¬ (4 : Int32) ≤ l1 → mK M h0 = 12 ∧ ∃ a47, (mR M 727 h0) = some a47 ∧ isA M a47 3 ∧ vp_in l1 (aN M a47) ∧ ∃ a51, (mR (tI M a47 (l1).toNatClampNeg (0 : Int32)) 728 h0) = some a51 ∧ isA (tI M a47 (l1).toNatClampNeg (0 : Int32)) a51 2 ∧ vp_in l1 (aN (tI M a47 (l1).toNatClampNeg (0 : Int32)) a51) ∧ ((lp_X11_build_34 h0 K n) (l1 + 1) (tJ (tI M a47 (l1).toNatClampNeg (0 : Int32)) a51 (l1).toNatClampNeg (0 : Int64)))))
set_option maxRecDepth 100000 in
set_option maxHeartbeats 4000000 in
theorem zl_X11_build_34 {X : Cx} {h0 : Nat} {K : Int32 → Mm → Prop} (hX : Ok X cX11_build RX11 rm_X11_build) (hQ : Rq X rm_X11_build (some .int) (QI K)) (hnL : X.2.2.2.2.2.2.2.2.2.2.2.2.2.2 = 3) : ∀ (n : Nat) (l1 : Int32) (M : Mm), lp_X11_build_34 h0 K n l1 M → Z X M 0 0 34 [(0, va_rf (some h0)), (1, .int l1)] [] := by
  intro n
  induction n with
  | zero =>
    intro l1 M h
    exact False.elim h
  | succ n hR34 =>
    intro l1 M h
    refine z_iload_n hX dX11_build_34 rfl 1 rfl ?_
    refine z_iconst (v := (4 : Int32)) hX dX11_build_35 (by decide) ?_
    obtain ⟨h1, h2⟩ := h
    refine z_icmp_ge (tgt := 59) hX dX11_build_36 (by decide) (fun hc => ?_) (fun hc => ?_)
    · have h := h1 hc
      refine z_aload_n (r := (some h0)) hX dX11_build_59 rfl 0 rfl ?_
      obtain ⟨hk44, h⟩ := h
      refine z_callVV (As := []) (rest := []) (ci := 11) hX (ct_X11_next h) mw_RX11_200 rfl (by decide) rfl (by rfl) (by unfold RoomC; decide) (by decide) dX11_build_60 hk44 (fun M43 h => ?_)
      refine z_iconst (v := (0 : Int32)) hX dX11_build_63 (by decide) ?_
      refine z_istore_n hX [(1, .int (0 : Int32)), (0, va_rf (some h0))] dX11_build_64 rfl (by rw [hnL]; decide) rfl ?_
      refine z_loc [1, 0] rfl ?_
      obtain ⟨n, h⟩ := h
      exact zl_X11_build_65 hX hQ hnL n _ _ h
    · have h := h2 hc
      refine z_aload_n (r := (some h0)) hX dX11_build_39 rfl 0 rfl ?_
      obtain ⟨hk46, h⟩ := h
      refine gf_RX11_54 (r := (some h0)) hX dX11_build_40 rfl hk46 ?_
      refine z_iload_n hX dX11_build_43 rfl 1 rfl ?_
      refine z_iconst (v := (0 : Int32)) hX dX11_build_44 (by decide) ?_
      obtain ⟨a47, ha48, h⟩ := h
      obtain ⟨hk49, h⟩ := h
      obtain ⟨hc50, h⟩ := h
      refine y_zast (r := (mR M 727 h0)) hX dX11_build_45 ha48 hk49 hc50 (Or.inl rfl)  ?_
      refine z_aload_n (r := (some h0)) hX dX11_build_46 rfl 0 rfl ?_
      refine gf_RX11_57 (r := (some h0)) hX dX11_build_47 rfl hk46 ?_
      refine z_iload_n hX dX11_build_50 rfl 1 rfl ?_
      refine z_lconst (v := (0 : Int64)) hX dX11_build_51 (by decide) ?_
      obtain ⟨a51, ha52, h⟩ := h
      obtain ⟨hk53, h⟩ := h
      obtain ⟨hc54, h⟩ := h
      refine y_last (r := (mR (tI M a47 (l1).toNatClampNeg (0 : Int32)) 728 h0)) hX dX11_build_52 ha52 hk53 hc54 ?_
      refine z_iinc (v := (l1 + 1)) hX [(1, .int (l1 + 1)), (0, va_rf (some h0))] dX11_build_53 1 rfl rfl (by rw [hnL]; decide) rfl ?_
      refine z_goto (tgt := 34) hX dX11_build_56 (by decide) ?_
      refine z_loc [1, 0] rfl ?_
      exact hR34 _ _ h
def wp_X11_build (M : Mm) (h0 : Nat) (K : Int32 → Mm → Prop) : Prop := mK M h0 = 12 ∧ ∃ a59, (mR (sI (sI (sI M 704 h0 (0 : Int32)) 707 h0 (0 : Int32)) 712 h0 (0 : Int32)) 729 h0) = some a59 ∧ isA (sI (sI (sI M 704 h0 (0 : Int32)) 707 h0 (0 : Int32)) 712 h0 (0 : Int32)) a59 1 ∧ vp_in (0 : Int32) (aN (sI (sI (sI M 704 h0 (0 : Int32)) 707 h0 (0 : Int32)) 712 h0 (0 : Int32)) a59) ∧ (∃ kk, lp_X11_build_34 h0 K kk (0 : Int32) (sI (sI (tI (sI (sI (sI M 704 h0 (0 : Int32)) 707 h0 (0 : Int32)) 712 h0 (0 : Int32)) a59 ((0 : Int32)).toNatClampNeg (0 : Int32)) 730 h0 (0 : Int32)) 731 h0 (0 : Int32)))
set_option maxRecDepth 100000 in
set_option maxHeartbeats 4000000 in
theorem ct_X11_build {M : Mm} {h0 : Nat} {K : Int32 → Mm → Prop} (h : wp_X11_build M h0 K) : CtI yX11_build cX11_build 3 (some .int) rm_X11_build [.ref h0] M K := by
  refine ct_any (QI K) (by decide) (by exact Nat.le_of_ble_eq_true rfl) (fun X hX hQ hnL hnm => ?_)
  rw [show lv_args 0 [.ref h0] = [(0, va_rf (some h0))] by rfl]
  have hX : Ok X cX11_build RX11 rm_X11_build := hX
  unfold wp_X11_build at h
  refine z_aload_n (r := (some h0)) hX dX11_build_0 rfl 0 rfl ?_
  refine z_iconst (v := (0 : Int32)) hX dX11_build_1 (by decide) ?_
  obtain ⟨hk55, h⟩ := h
  refine pf_RX11_123 (r := (some h0)) (v := (0 : Int32)) hX dX11_build_2 rfl hk55 ?_
  refine z_aload_n (r := (some h0)) hX dX11_build_5 rfl 0 rfl ?_
  refine z_iconst (v := (0 : Int32)) hX dX11_build_6 (by decide) ?_
  refine pf_RX11_130 (r := (some h0)) (v := (0 : Int32)) hX dX11_build_7 rfl hk55 ?_
  refine z_aload_n (r := (some h0)) hX dX11_build_10 rfl 0 rfl ?_
  refine z_iconst (v := (0 : Int32)) hX dX11_build_11 (by decide) ?_
  refine pf_RX11_181 (r := (some h0)) (v := (0 : Int32)) hX dX11_build_12 rfl hk55 ?_
  refine z_aload_n (r := (some h0)) hX dX11_build_15 rfl 0 rfl ?_
  refine gf_RX11_60 (r := (some h0)) hX dX11_build_16 rfl hk55 ?_
  refine z_iconst (v := (0 : Int32)) hX dX11_build_19 (by decide) ?_
  refine z_iconst (v := (0 : Int32)) hX dX11_build_20 (by decide) ?_
  obtain ⟨a59, ha60, h⟩ := h
  obtain ⟨hk61, h⟩ := h
  obtain ⟨hc62, h⟩ := h
  refine y_iast (r := (mR (sI (sI (sI M 704 h0 (0 : Int32)) 707 h0 (0 : Int32)) 712 h0 (0 : Int32)) 729 h0)) hX dX11_build_21 ha60 hk61 hc62 ?_
  refine z_aload_n (r := (some h0)) hX dX11_build_22 rfl 0 rfl ?_
  refine z_iconst (v := (0 : Int32)) hX dX11_build_23 (by decide) ?_
  refine pf_RX11_246 (r := (some h0)) (v := (0 : Int32)) hX dX11_build_24 rfl hk55 ?_
  refine z_aload_n (r := (some h0)) hX dX11_build_27 rfl 0 rfl ?_
  refine z_iconst (v := (0 : Int32)) hX dX11_build_28 (by decide) ?_
  refine pf_RX11_257 (r := (some h0)) (v := (0 : Int32)) hX dX11_build_29 rfl hk55 ?_
  refine z_iconst (v := (0 : Int32)) hX dX11_build_32 (by decide) ?_
  refine z_istore_n hX [(1, .int (0 : Int32)), (0, va_rf (some h0))] dX11_build_33 rfl (by rw [hnL]; decide) rfl ?_
  refine z_loc [1, 0] rfl ?_
  obtain ⟨n, h⟩ := h
  exact zl_X11_build_34 hX hQ hnL n _ _ h
def rm_X11_sayAll : Room := { frames := 1, cells := 0, slots := 0, locals := 21 }
def lp_X11_sayAll_2 (h0 : Nat) (K : Mm → Prop) : Nat → Option Nat → Int32 → Mm → Prop
  | 0, _, _, _ => False
  | n + 1, l1, l2, M => False
set_option maxRecDepth 100000 in
set_option maxHeartbeats 4000000 in
theorem zl_X11_sayAll_2 {X : Cx} {h0 : Nat} {K : Mm → Prop} (hX : Ok X cX11_sayAll RX11 rm_X11_sayAll) (hQ : Rq X rm_X11_sayAll none (QV K)) (hnL : X.2.2.2.2.2.2.2.2.2.2.2.2.2.2 = 3) : ∀ (n : Nat) (l1 : Option Nat) (l2 : Int32) (M : Mm), lp_X11_sayAll_2 h0 K n l1 l2 M → Z X M 0 0 2 [(0, va_rf (some h0)), (1, va_rf l1), (2, .int l2)] [] := by
  intro n
  induction n with
  | zero =>
    intro l1 l2 M h
    exact False.elim h
  | succ n hR2 =>
    intro l1 l2 M h
    refine z_iload_n hX dX11_sayAll_2 rfl 2 rfl ?_
    refine z_aload_n (r := l1) hX dX11_sayAll_3 rfl 1 rfl ?_
    exact False.elim h
def wp_X11_sayAll (M : Mm) (h0 : Nat) (p1 : Option Nat) (K : Mm → Prop) : Prop := (∃ kk, lp_X11_sayAll_2 h0 K kk p1 (0 : Int32) M)
set_option maxRecDepth 100000 in
set_option maxHeartbeats 4000000 in
theorem ct_X11_sayAll {M : Mm} {h0 : Nat} {p1 : Option Nat} {K : Mm → Prop} (h : wp_X11_sayAll M h0 p1 K) : CtV yX11_sayAll cX11_sayAll 3 none rm_X11_sayAll [.ref h0, va_rf p1] M K := by
  refine ct_any (QV K) (by decide) (by cases p1 <;> exact Nat.le_of_ble_eq_true rfl) (fun X hX hQ hnL hnm => ?_)
  rw [show lv_args 0 [.ref h0, va_rf p1] = [(0, va_rf (some h0)), (1, va_rf p1)] by cases p1 <;> rfl]
  have hX : Ok X cX11_sayAll RX11 rm_X11_sayAll := hX
  unfold wp_X11_sayAll at h
  refine z_iconst (v := (0 : Int32)) hX dX11_sayAll_0 (by decide) ?_
  refine z_istore_n (i := 2) hX [(2, .int (0 : Int32)), (0, va_rf (some h0)), (1, va_rf p1)] dX11_sayAll_1 rfl (by rw [hnL]; decide) (by simp [cat_rf]) ?_
  refine z_loc [1, 2, 0] rfl ?_
  obtain ⟨n, h⟩ := h
  exact zl_X11_sayAll_2 hX hQ hnL n _ _ _ h
def rm_X11_wordOf : Room := { frames := 0, cells := 0, slots := 0, locals := 0 }
def wp_X11_wordOf (M : Mm) (p1 : Int32) (K : Option Nat → Mm → Prop) : Prop := ((¬ p1 = 0 → ((¬ p1 = (1 : Int32) → ((¬ p1 = (2 : Int32) → ((¬ p1 = (3 : Int32) → ((¬ p1 = (4 : Int32) → False) ∧ (p1 = (4 : Int32) → False))) ∧ (p1 = (3 : Int32) → False))) ∧ (p1 = (2 : Int32) → False))) ∧ (p1 = (1 : Int32) → False))) ∧ (p1 = 0 → False))
set_option maxRecDepth 100000 in
set_option maxHeartbeats 4000000 in
theorem ct_X11_wordOf {M : Mm} {p1 : Int32} {K : Option Nat → Mm → Prop} (h : wp_X11_wordOf M p1 K) : CtR yX11_wordOf cX11_wordOf 1 (some (.object "java/lang/String")) rm_X11_wordOf [.int p1] M K := by
  refine ct_any (QR K) (by decide) (by exact Nat.le_of_ble_eq_true rfl) (fun X hX hQ hnL hnm => ?_)
  rw [show lv_args 0 [.int p1] = [(0, .int p1)] by rfl]
  have hX : Ok X cX11_wordOf RX11 rm_X11_wordOf := hX
  unfold wp_X11_wordOf at h
  refine z_iload_n hX dX11_wordOf_0 rfl 0 rfl ?_
  obtain ⟨h1, h2⟩ := h
  refine z_if_ne (tgt := 10) hX dX11_wordOf_1 (by decide) (fun hc => ?_) (fun hc => ?_)
  · have h := h1 hc
    refine z_iload_n hX dX11_wordOf_10 rfl 0 rfl ?_
    refine z_iconst (v := (1 : Int32)) hX dX11_wordOf_11 (by decide) ?_
    obtain ⟨h1, h2⟩ := h
    refine z_icmp_ne (tgt := 21) hX dX11_wordOf_12 (by decide) (fun hc => ?_) (fun hc => ?_)
    · have h := h1 hc
      refine z_iload_n hX dX11_wordOf_21 rfl 0 rfl ?_
      refine z_iconst (v := (2 : Int32)) hX dX11_wordOf_22 (by decide) ?_
      obtain ⟨h1, h2⟩ := h
      refine z_icmp_ne (tgt := 32) hX dX11_wordOf_23 (by decide) (fun hc => ?_) (fun hc => ?_)
      · have h := h1 hc
        refine z_iload_n hX dX11_wordOf_32 rfl 0 rfl ?_
        refine z_iconst (v := (3 : Int32)) hX dX11_wordOf_33 (by decide) ?_
        obtain ⟨h1, h2⟩ := h
        refine z_icmp_ne (tgt := 43) hX dX11_wordOf_34 (by decide) (fun hc => ?_) (fun hc => ?_)
        · have h := h1 hc
          refine z_iload_n hX dX11_wordOf_43 rfl 0 rfl ?_
          refine z_iconst (v := (4 : Int32)) hX dX11_wordOf_44 (by decide) ?_
          obtain ⟨h1, h2⟩ := h
          refine z_icmp_ne (tgt := 54) hX dX11_wordOf_45 (by decide) (fun hc => ?_) (fun hc => ?_)
          · have h := h1 hc
            exact False.elim h
          · have h := h2 hc
            exact False.elim h
        · have h := h2 hc
          exact False.elim h
      · have h := h2 hc
        exact False.elim h
    · have h := h2 hc
      exact False.elim h
  · have h := h2 hc
    exact False.elim h
def rm_X11_print : Room := { frames := 2, cells := 0, slots := 0, locals := 47 }
def bk_X11_print_210 (h0 : Nat) (R21 : Int32 → Mm → Prop) (K : Int32 → Mm → Prop) (l1 : Int32) (M : Mm) : Prop := mK M h0 = 12 ∧ ∃ a2, (mR M 734 h0) = some a2 ∧ isA M a2 3 ∧ vp_in l1 (aN M a2) ∧ (((aI M a2 (l1).toNatClampNeg) = 0 → False) ∧ (¬ (aI M a2 (l1).toNatClampNeg) = 0 → False))
set_option maxRecDepth 100000 in
set_option maxHeartbeats 4000000 in
theorem zb_X11_print_210 {X : Cx} {h0 : Nat} {R21 : Int32 → Mm → Prop} {K : Int32 → Mm → Prop} (hX : Ok X cX11_print RX11 rm_X11_print) (hQ : Rq X rm_X11_print (some .int) (QI K)) (hnL : X.2.2.2.2.2.2.2.2.2.2.2.2.2.2 = 3) (hR21 : ∀ l1 M, R21 l1 M → Z X M 0 0 21 [(0, va_rf (some h0)), (1, .int l1)] []) {l1 : Int32} {M : Mm} (h : bk_X11_print_210 h0 R21 K l1 M) : Z X M 0 0 210 [(0, va_rf (some h0)), (1, .int l1)] [] := by
  unfold bk_X11_print_210 at h
  refine z_aload_n (r := (some h0)) hX dX11_print_210 rfl 0 rfl ?_
  refine z_aload_n (r := (some h0)) hX dX11_print_211 rfl 0 rfl ?_
  obtain ⟨hk1, h⟩ := h
  refine gf_RX11_66 (r := (some h0)) hX dX11_print_212 rfl hk1 ?_
  refine z_iload_n hX dX11_print_215 rfl 1 rfl ?_
  obtain ⟨a2, ha3, h⟩ := h
  obtain ⟨hk4, h⟩ := h
  obtain ⟨hc5, h⟩ := h
  refine y_zald (r := (mR M 734 h0)) hX dX11_print_216 ha3 hk4 hc5 ?_
  obtain ⟨h1, h2⟩ := h
  refine z_if_eq (tgt := 226) hX dX11_print_217 (by decide) (fun hc => ?_) (fun hc => ?_)
  · have h := h1 hc
    exact False.elim h
  · have h := h2 hc
    exact False.elim h
def lp_X11_print_112 (h0 : Nat) (R21 : Int32 → Mm → Prop) (K : Int32 → Mm → Prop) : Nat → Int32 → Int32 → Mm → Prop
  | 0, _, _, _ => False
  | n + 1, l1, l2, M => mK M h0 = 12 ∧ ∃ a7, (mR M 724 h0) = some a7 ∧ isA M a7 1 ∧ vp_in ((12 : Int32) + l1) (aN M a7) ∧ (((aI M a7 (((12 : Int32) + l1)).toNatClampNeg) ≤ l2 → (wp_X11_say M h0 (32 : Int32) (fun M12 => mK M12 h0 = 12 ∧ ∃ a15, (mR M12 733 h0) = some a15 ∧ isA M12 a15 2 ∧ vp_in l1 (aN M12 a15) ∧ ((¬ (aJ M12 a15 (l1).toNatClampNeg) = (-9000000000000000000 : Int64) → vp_in l1 (aN M12 a15) ∧ ((¬ (aJ M12 a15 (l1).toNatClampNeg) = (9000000000000000000 : Int64) → vp_in l1 (aN M12 a15) ∧ (wp_X11_sayNumber M12 h0 (aJ M12 a15 (l1).toNatClampNeg) (fun M22 => (bk_X11_print_210 h0 R21 K l1 M22)))) ∧ ((aJ M12 a15 (l1).toNatClampNeg) = (9000000000000000000 : Int64) → False))) ∧ ((aJ M12 a15 (l1).toNatClampNeg) = (-9000000000000000000 : Int64) → False))))) ∧ (¬ (aI M a7 (((12 : Int32) + l1)).toNatClampNeg) ≤ l2 → (wp_X11_say M h0 (32 : Int32) (fun M25 => mK M25 h0 = 12 ∧ (wp_X11_inputOf M25 h0 l1 l2 (fun r27 M28 => mK M28 h0 = 12 ∧ (wp_X11_sayNumber M28 h0 ((r27).toInt64) (fun M32 => ((lp_X11_print_112 h0 R21 K n) l1 (l2 + 1) M32)))))))))
set_option maxRecDepth 100000 in
set_option maxHeartbeats 4000000 in
theorem zl_X11_print_112 {X : Cx} {h0 : Nat} {R21 : Int32 → Mm → Prop} {K : Int32 → Mm → Prop} (hX : Ok X cX11_print RX11 rm_X11_print) (hQ : Rq X rm_X11_print (some .int) (QI K)) (hnL : X.2.2.2.2.2.2.2.2.2.2.2.2.2.2 = 3) (hR21 : ∀ l1 M, R21 l1 M → Z X M 0 0 21 [(0, va_rf (some h0)), (1, .int l1)] []) : ∀ (n : Nat) (l1 : Int32) (l2 : Int32) (M : Mm), lp_X11_print_112 h0 R21 K n l1 l2 M → Z X M 0 0 112 [(0, va_rf (some h0)), (1, .int l1), (2, .int l2)] [] := by
  intro n
  induction n with
  | zero =>
    intro l1 l2 M h
    exact False.elim h
  | succ n hR112 =>
    intro l1 l2 M h
    refine z_iload_n hX dX11_print_112 rfl 2 rfl ?_
    refine z_aload_n (r := (some h0)) hX dX11_print_113 rfl 0 rfl ?_
    obtain ⟨hk6, h⟩ := h
    refine gf_RX11_45 (r := (some h0)) hX dX11_print_114 rfl hk6 ?_
    refine z_bipush (v := (12 : Int32)) hX dX11_print_117 (by decide) ?_
    refine z_iload_n hX dX11_print_119 rfl 1 rfl ?_
    refine z_iadd hX dX11_print_120 ?_
    obtain ⟨a7, ha8, h⟩ := h
    obtain ⟨hk9, h⟩ := h
    obtain ⟨hc10, h⟩ := h
    refine y_iald (r := (mR M 724 h0)) hX dX11_print_121 ha8 hk9 hc10 ?_
    obtain ⟨h1, h2⟩ := h
    refine z_icmp_ge (tgt := 148) hX dX11_print_122 (by decide) (fun hc => ?_) (fun hc => ?_)
    · have h := h1 hc
      refine z_aload_n (r := (some h0)) hX dX11_print_148 rfl 0 rfl ?_
      refine z_bipush (v := (32 : Int32)) hX dX11_print_149 (by decide) ?_
      refine z_callVV (As := [.int (32 : Int32)]) (rest := []) (ci := 11) hX (ct_X11_say h) mw_RX11_415 rfl (by decide) rfl (by rfl) (by unfold RoomC; decide) (by decide) dX11_print_151 hk6 (fun M12 h => ?_)
      refine z_aload_n (r := (some h0)) hX dX11_print_154 rfl 0 rfl ?_
      obtain ⟨hk14, h⟩ := h
      refine gf_RX11_63 (r := (some h0)) hX dX11_print_155 rfl hk14 ?_
      refine z_iload_n hX dX11_print_158 rfl 1 rfl ?_
      obtain ⟨a15, ha16, h⟩ := h
      obtain ⟨hk17, h⟩ := h
      obtain ⟨hc18, h⟩ := h
      refine y_lald (r := (mR M12 733 h0)) hX dX11_print_159 ha16 hk17 hc18 ?_
      refine z_ldc2 (v := (-9000000000000000000 : Int64)) hX dX11_print_160 kj_RX11_281 ?_
      refine z_lcmp hX dX11_print_163 ?_
      obtain ⟨h1, h2⟩ := h
      refine z_if_ne (tgt := 177) hX dX11_print_164 (by decide) (fun hc => ?_) (fun hc => ?_)
      · have h := h1 (fun q => hc ((lg_cmp_eq _ _).mpr q))
        refine z_aload_n (r := (some h0)) hX dX11_print_177 rfl 0 rfl ?_
        refine gf_RX11_63 (r := (some h0)) hX dX11_print_178 rfl hk14 ?_
        refine z_iload_n hX dX11_print_181 rfl 1 rfl ?_
        obtain ⟨hc19, h⟩ := h
        refine y_lald (r := (mR M12 733 h0)) hX dX11_print_182 ha16 hk17 hc19 ?_
        refine z_ldc2 (v := (9000000000000000000 : Int64)) hX dX11_print_183 kj_RX11_298 ?_
        refine z_lcmp hX dX11_print_186 ?_
        obtain ⟨h1, h2⟩ := h
        refine z_if_ne (tgt := 200) hX dX11_print_187 (by decide) (fun hc => ?_) (fun hc => ?_)
        · have h := h1 (fun q => hc ((lg_cmp_eq _ _).mpr q))
          refine z_aload_n (r := (some h0)) hX dX11_print_200 rfl 0 rfl ?_
          refine z_aload_n (r := (some h0)) hX dX11_print_201 rfl 0 rfl ?_
          refine gf_RX11_63 (r := (some h0)) hX dX11_print_202 rfl hk14 ?_
          refine z_iload_n hX dX11_print_205 rfl 1 rfl ?_
          obtain ⟨hc20, h⟩ := h
          refine y_lald (r := (mR M12 733 h0)) hX dX11_print_206 ha16 hk17 hc20 ?_
          refine z_callVV (As := [.long (aJ M12 a15 (l1).toNatClampNeg)]) (rest := []) (ci := 11) hX (ct_X11_sayNumber h) mw_RX11_429 rfl (by decide) rfl (by rfl) (by unfold RoomC; decide) (by decide) dX11_print_207 hk14 (fun M22 h => ?_)
          refine z_loc [0, 1] rfl ?_
          exact zb_X11_print_210 hX hQ hnL hR21 h
        · have h := h2 ((lg_cmp_eq _ _).mp hc)
          refine z_aload_n (r := (some h0)) hX dX11_print_190 rfl 0 rfl ?_
          exact False.elim h
      · have h := h2 ((lg_cmp_eq _ _).mp hc)
        refine z_aload_n (r := (some h0)) hX dX11_print_167 rfl 0 rfl ?_
        exact False.elim h
    · have h := h2 hc
      refine z_aload_n (r := (some h0)) hX dX11_print_125 rfl 0 rfl ?_
      refine z_bipush (v := (32 : Int32)) hX dX11_print_126 (by decide) ?_
      refine z_callVV (As := [.int (32 : Int32)]) (rest := []) (ci := 11) hX (ct_X11_say h) mw_RX11_415 rfl (by decide) rfl (by rfl) (by unfold RoomC; decide) (by decide) dX11_print_128 hk6 (fun M25 h => ?_)
      refine z_aload_n (r := (some h0)) hX dX11_print_131 rfl 0 rfl ?_
      refine z_aload_n (r := (some h0)) hX dX11_print_132 rfl 0 rfl ?_
      refine z_iload_n hX dX11_print_133 rfl 1 rfl ?_
      refine z_iload_n hX dX11_print_134 rfl 2 rfl ?_
      obtain ⟨hk29, h⟩ := h
      refine z_callVI (As := [.int l1, .int l2]) (rest := [va_rf (some h0)]) (ci := 11) hX (ct_X11_inputOf h) mw_RX11_318 rfl (by decide) rfl (by rfl) (by unfold RoomC; decide) (by simp only [List.map_cons, List.map_nil, List.sum_cons, List.sum_nil, cat_rf, cat_i, cat_j]; decide) dX11_print_135 hk29 (fun r27 M28 h => ?_)
      refine z_i2l hX dX11_print_138 ?_
      obtain ⟨hk33, h⟩ := h
      refine z_callVV (As := [.long ((r27).toInt64)]) (rest := []) (ci := 11) hX (ct_X11_sayNumber h) mw_RX11_429 rfl (by decide) rfl (by rfl) (by unfold RoomC; decide) (by decide) dX11_print_139 hk33 (fun M32 h => ?_)
      refine z_iinc (v := (l2 + 1)) hX [(2, .int (l2 + 1)), (0, va_rf (some h0)), (1, .int l1)] dX11_print_142 2 rfl rfl (by rw [hnL]; decide) rfl ?_
      refine z_goto (tgt := 112) hX dX11_print_145 (by decide) ?_
      refine z_loc [1, 2, 0] rfl ?_
      exact hR112 _ _ _ h
def lp_X11_print_55 (h0 : Nat) (R21 : Int32 → Mm → Prop) (K : Int32 → Mm → Prop) : Nat → Int32 → Int32 → Mm → Prop
  | 0, _, _, _ => False
  | n + 1, l1, l2, M => ((l2 < 0 → mK M h0 = 12 ∧ (wp_X11_say M h0 (32 : Int32) (fun M36 => mK M36 h0 = 12 ∧ (wp_X11_kindOf M36 h0 l1 (fun r39 M40 => (wp_X11_wordOf M40 r39 (fun r43 M44 => mK M44 h0 = 12 ∧ (wp_X11_sayAll M44 h0 r43 (fun M47 => (∃ kk, lp_X11_print_112 h0 R21 K kk l1 (0 : Int32) M47)))))))))) ∧ (¬ l2 < 0 → mK M h0 = 12 ∧ ∃ a51, (mR M 716 h0) = some a51 ∧ isA M a51 2 ∧ vp_in ((12 : Int32) + l1) (aN M a51) ∧ (wp_X11_say M h0 (((((((aJ M a51 (((12 : Int32) + l1)).toNatClampNeg) >>> ((((5 : Int32) * l2)).toInt64 &&& 63)) &&& (31 : Int64))).toInt32) + (97 : Int32)) - (1 : Int32)) (fun M56 => ((lp_X11_print_55 h0 R21 K n) l1 (l2 + (-1)) M56)))))
set_option maxRecDepth 100000 in
set_option maxHeartbeats 4000000 in
theorem zl_X11_print_55 {X : Cx} {h0 : Nat} {R21 : Int32 → Mm → Prop} {K : Int32 → Mm → Prop} (hX : Ok X cX11_print RX11 rm_X11_print) (hQ : Rq X rm_X11_print (some .int) (QI K)) (hnL : X.2.2.2.2.2.2.2.2.2.2.2.2.2.2 = 3) (hR21 : ∀ l1 M, R21 l1 M → Z X M 0 0 21 [(0, va_rf (some h0)), (1, .int l1)] []) : ∀ (n : Nat) (l1 : Int32) (l2 : Int32) (M : Mm), lp_X11_print_55 h0 R21 K n l1 l2 M → Z X M 0 0 55 [(0, va_rf (some h0)), (1, .int l1), (2, .int l2)] [] := by
  intro n
  induction n with
  | zero =>
    intro l1 l2 M h
    exact False.elim h
  | succ n hR55 =>
    intro l1 l2 M h
    refine z_iload_n hX dX11_print_55 rfl 2 rfl ?_
    obtain ⟨h1, h2⟩ := h
    refine z_if_lt (tgt := 92) hX dX11_print_56 (by decide) (fun hc => ?_) (fun hc => ?_)
    · have h := h1 hc
      refine z_aload_n (r := (some h0)) hX dX11_print_92 rfl 0 rfl ?_
      refine z_bipush (v := (32 : Int32)) hX dX11_print_93 (by decide) ?_
      obtain ⟨hk37, h⟩ := h
      refine z_callVV (As := [.int (32 : Int32)]) (rest := []) (ci := 11) hX (ct_X11_say h) mw_RX11_415 rfl (by decide) rfl (by rfl) (by unfold RoomC; decide) (by decide) dX11_print_95 hk37 (fun M36 h => ?_)
      refine z_aload_n (r := (some h0)) hX dX11_print_98 rfl 0 rfl ?_
      refine z_aload_n (r := (some h0)) hX dX11_print_99 rfl 0 rfl ?_
      refine z_iload_n hX dX11_print_100 rfl 1 rfl ?_
      obtain ⟨hk41, h⟩ := h
      refine z_callVI (As := [.int l1]) (rest := [va_rf (some h0)]) (ci := 11) hX (ct_X11_kindOf h) mw_RX11_308 rfl (by decide) rfl (by rfl) (by unfold RoomC; decide) (by simp only [List.map_cons, List.map_nil, List.sum_cons, List.sum_nil, cat_rf, cat_i, cat_j]; decide) dX11_print_101 hk41 (fun r39 M40 h => ?_)
      refine z_callSR (As := [.int r39]) (rest := [va_rf (some h0)]) hX (ct_X11_wordOf h) mw_RX11_434 rfl (by rfl) (by unfold RoomC; decide) (by simp only [List.map_cons, List.map_nil, List.sum_cons, List.sum_nil, cat_rf, cat_i, cat_j]; decide) dX11_print_104 (fun r43 M44 h => ?_)
      obtain ⟨hk48, h⟩ := h
      refine z_callVV (As := [va_rf r43]) (rest := []) (ci := 11) hX (ct_X11_sayAll h) mw_RX11_438 rfl (by decide) rfl (by rfl) (by unfold RoomC; decide) (by decide) dX11_print_107 hk48 (fun M47 h => ?_)
      refine z_iconst (v := (0 : Int32)) hX dX11_print_110 (by decide) ?_
      refine z_istore_n hX [(2, .int (0 : Int32)), (0, va_rf (some h0)), (1, .int l1)] dX11_print_111 rfl (by rw [hnL]; decide) rfl ?_
      refine z_loc [1, 2, 0] rfl ?_
      obtain ⟨n, h⟩ := h
      exact zl_X11_print_112 hX hQ hnL hR21 n _ _ _ h
    · have h := h2 hc
      refine z_aload_n (r := (some h0)) hX dX11_print_59 rfl 0 rfl ?_
      refine z_aload_n (r := (some h0)) hX dX11_print_60 rfl 0 rfl ?_
      obtain ⟨hk50, h⟩ := h
      refine gf_RX11_19 (r := (some h0)) hX dX11_print_61 rfl hk50 ?_
      refine z_bipush (v := (12 : Int32)) hX dX11_print_64 (by decide) ?_
      refine z_iload_n hX dX11_print_66 rfl 1 rfl ?_
      refine z_iadd hX dX11_print_67 ?_
      obtain ⟨a51, ha52, h⟩ := h
      obtain ⟨hk53, h⟩ := h
      obtain ⟨hc54, h⟩ := h
      refine y_lald (r := (mR M 716 h0)) hX dX11_print_68 ha52 hk53 hc54 ?_
      refine z_iconst (v := (5 : Int32)) hX dX11_print_69 (by decide) ?_
      refine z_iload_n hX dX11_print_70 rfl 2 rfl ?_
      refine z_imul hX dX11_print_71 ?_
      refine z_lshr hX dX11_print_72 ?_
      refine z_ldc2 (v := (31 : Int64)) hX dX11_print_73 kj_RX11_432 ?_
      refine z_land hX dX11_print_76 ?_
      refine z_l2i hX dX11_print_77 ?_
      refine z_bipush (v := (97 : Int32)) hX dX11_print_78 (by decide) ?_
      refine z_iadd hX dX11_print_80 ?_
      refine z_iconst (v := (1 : Int32)) hX dX11_print_81 (by decide) ?_
      refine z_isub hX dX11_print_82 ?_
      refine z_callVV (As := [.int (((((((aJ M a51 (((12 : Int32) + l1)).toNatClampNeg) >>> ((((5 : Int32) * l2)).toInt64 &&& 63)) &&& (31 : Int64))).toInt32) + (97 : Int32)) - (1 : Int32))]) (rest := []) (ci := 11) hX (ct_X11_say h) mw_RX11_415 rfl (by decide) rfl (by rfl) (by unfold RoomC; decide) (by decide) dX11_print_83 hk50 (fun M56 h => ?_)
      refine z_iinc (v := (l2 + (-1))) hX [(2, .int (l2 + (-1))), (0, va_rf (some h0)), (1, .int l1)] dX11_print_86 2 rfl rfl (by rw [hnL]; decide) rfl ?_
      refine z_goto (tgt := 55) hX dX11_print_89 (by decide) ?_
      refine z_loc [1, 2, 0] rfl ?_
      exact hR55 _ _ _ h
def lp_X11_print_21 (h0 : Nat) (K : Int32 → Mm → Prop) : Nat → Int32 → Mm → Prop
  | 0, _, _ => False
  | n + 1, l1, M => mK M h0 = 12 ∧ ∃ a59, (mR M 729 h0) = some a59 ∧ isA M a59 1 ∧ vp_in (1 : Int32) (aN M a59) ∧ (((aI M a59 ((1 : Int32)).toNatClampNeg) ≤ l1 → (K (mI M 760 h0) M)) ∧ (¬ (aI M a59 ((1 : Int32)).toNatClampNeg) ≤ l1 → (wp_X11_sayNumber M h0 ((l1).toInt64) (fun M64 => mK M64 h0 = 12 ∧ (wp_X11_say M64 h0 (32 : Int32) (fun M67 => mK M67 h0 = 12 ∧ ∃ a71, (mR M67 717 h0) = some a71 ∧ isA M67 a71 1 ∧ vp_in ((12 : Int32) + l1) (aN M67 a71) ∧ (∃ kk, lp_X11_print_55 h0 (lp_X11_print_21 h0 K n) K kk l1 ((aI M67 a71 (((12 : Int32) + l1)).toNatClampNeg) - (1 : Int32)) M67)))))))
set_option maxRecDepth 100000 in
set_option maxHeartbeats 4000000 in
theorem zl_X11_print_21 {X : Cx} {h0 : Nat} {K : Int32 → Mm → Prop} (hX : Ok X cX11_print RX11 rm_X11_print) (hQ : Rq X rm_X11_print (some .int) (QI K)) (hnL : X.2.2.2.2.2.2.2.2.2.2.2.2.2.2 = 3) : ∀ (n : Nat) (l1 : Int32) (M : Mm), lp_X11_print_21 h0 K n l1 M → Z X M 0 0 21 [(0, va_rf (some h0)), (1, .int l1)] [] := by
  intro n
  induction n with
  | zero =>
    intro l1 M h
    exact False.elim h
  | succ n hR21 =>
    intro l1 M h
    refine z_iload_n hX dX11_print_21 rfl 1 rfl ?_
    refine z_aload_n (r := (some h0)) hX dX11_print_22 rfl 0 rfl ?_
    obtain ⟨hk58, h⟩ := h
    refine gf_RX11_60 (r := (some h0)) hX dX11_print_23 rfl hk58 ?_
    refine z_iconst (v := (1 : Int32)) hX dX11_print_26 (by decide) ?_
    obtain ⟨a59, ha60, h⟩ := h
    obtain ⟨hk61, h⟩ := h
    obtain ⟨hc62, h⟩ := h
    refine y_iald (r := (mR M 729 h0)) hX dX11_print_27 ha60 hk61 hc62 ?_
    obtain ⟨h1, h2⟩ := h
    refine z_icmp_ge (tgt := 244) hX dX11_print_28 (by decide) (fun hc => ?_) (fun hc => ?_)
    · have h := h1 hc
      refine z_aload_n (r := (some h0)) hX dX11_print_244 rfl 0 rfl ?_
      refine gf_RX11_412 (r := (some h0)) hX dX11_print_245 rfl hk58 ?_
      exact z_iret hX hQ dX11_print_248 h
    · have h := h2 hc
      refine z_aload_n (r := (some h0)) hX dX11_print_31 rfl 0 rfl ?_
      refine z_iload_n hX dX11_print_32 rfl 1 rfl ?_
      refine z_i2l hX dX11_print_33 ?_
      refine z_callVV (As := [.long ((l1).toInt64)]) (rest := []) (ci := 11) hX (ct_X11_sayNumber h) mw_RX11_429 rfl (by decide) rfl (by rfl) (by unfold RoomC; decide) (by decide) dX11_print_34 hk58 (fun M64 h => ?_)
      refine z_aload_n (r := (some h0)) hX dX11_print_37 rfl 0 rfl ?_
      refine z_bipush (v := (32 : Int32)) hX dX11_print_38 (by decide) ?_
      obtain ⟨hk68, h⟩ := h
      refine z_callVV (As := [.int (32 : Int32)]) (rest := []) (ci := 11) hX (ct_X11_say h) mw_RX11_415 rfl (by decide) rfl (by rfl) (by unfold RoomC; decide) (by decide) dX11_print_40 hk68 (fun M67 h => ?_)
      refine z_aload_n (r := (some h0)) hX dX11_print_43 rfl 0 rfl ?_
      obtain ⟨hk70, h⟩ := h
      refine gf_RX11_23 (r := (some h0)) hX dX11_print_44 rfl hk70 ?_
      refine z_bipush (v := (12 : Int32)) hX dX11_print_47 (by decide) ?_
      refine z_iload_n hX dX11_print_49 rfl 1 rfl ?_
      refine z_iadd hX dX11_print_50 ?_
      obtain ⟨a71, ha72, h⟩ := h
      obtain ⟨hk73, h⟩ := h
      obtain ⟨hc74, h⟩ := h
      refine y_iald (r := (mR M67 717 h0)) hX dX11_print_51 ha72 hk73 hc74 ?_
      refine z_iconst (v := (1 : Int32)) hX dX11_print_52 (by decide) ?_
      refine z_isub hX dX11_print_53 ?_
      refine z_istore_n hX [(2, .int ((aI M67 a71 (((12 : Int32) + l1)).toNatClampNeg) - (1 : Int32))), (0, va_rf (some h0)), (1, .int l1)] dX11_print_54 rfl (by rw [hnL]; decide) rfl ?_
      refine z_loc [1, 2, 0] rfl ?_
      obtain ⟨n, h⟩ := h
      exact zl_X11_print_55 hX hQ hnL hR21 n _ _ _ h
def wp_X11_print (M : Mm) (h0 : Nat) (K : Int32 → Mm → Prop) : Prop := mK M h0 = 12 ∧ ((¬ (mI (sI M 704 h0 (0 : Int32)) 732 h0) = 0 → (∃ kk, lp_X11_print_21 h0 K kk (0 : Int32) (sI (sI M 704 h0 (0 : Int32)) 760 h0 (0 : Int32)))) ∧ ((mI (sI M 704 h0 (0 : Int32)) 732 h0) = 0 → (K (-1 : Int32) (sI M 704 h0 (0 : Int32)))))
set_option maxRecDepth 100000 in
set_option maxHeartbeats 4000000 in
theorem ct_X11_print {M : Mm} {h0 : Nat} {K : Int32 → Mm → Prop} (h : wp_X11_print M h0 K) : CtI yX11_print cX11_print 3 (some .int) rm_X11_print [.ref h0] M K := by
  refine ct_any (QI K) (by decide) (by exact Nat.le_of_ble_eq_true rfl) (fun X hX hQ hnL hnm => ?_)
  rw [show lv_args 0 [.ref h0] = [(0, va_rf (some h0))] by rfl]
  have hX : Ok X cX11_print RX11 rm_X11_print := hX
  unfold wp_X11_print at h
  refine z_aload_n (r := (some h0)) hX dX11_print_0 rfl 0 rfl ?_
  refine z_iconst (v := (0 : Int32)) hX dX11_print_1 (by decide) ?_
  obtain ⟨hk75, h⟩ := h
  refine pf_RX11_123 (r := (some h0)) (v := (0 : Int32)) hX dX11_print_2 rfl hk75 ?_
  refine z_aload_n (r := (some h0)) hX dX11_print_5 rfl 0 rfl ?_
  refine gf_RX11_277 (r := (some h0)) hX dX11_print_6 rfl hk75 ?_
  obtain ⟨h1, h2⟩ := h
  refine z_if_ne (tgt := 14) hX dX11_print_9 (by decide) (fun hc => ?_) (fun hc => ?_)
  · have h := h1 hc
    refine z_aload_n (r := (some h0)) hX dX11_print_14 rfl 0 rfl ?_
    refine z_iconst (v := (0 : Int32)) hX dX11_print_15 (by decide) ?_
    refine pf_RX11_412 (r := (some h0)) (v := (0 : Int32)) hX dX11_print_16 rfl hk75 ?_
    refine z_iconst (v := (0 : Int32)) hX dX11_print_19 (by decide) ?_
    refine z_istore_n hX [(1, .int (0 : Int32)), (0, va_rf (some h0))] dX11_print_20 rfl (by rw [hnL]; decide) rfl ?_
    refine z_loc [1, 0] rfl ?_
    obtain ⟨n, h⟩ := h
    exact zl_X11_print_21 hX hQ hnL n _ _ h
  · have h := h2 hc
    refine z_iconst (v := (-1 : Int32)) hX dX11_print_12 (by decide) ?_
    exact z_iret hX hQ dX11_print_13 h
