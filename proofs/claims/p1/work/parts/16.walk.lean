def rm_X7_readText : Room := { frames := 6, cells := 286, slots := 2068, locals := 136 }
def bk_X7_readText_91 (h0 : Nat) (K : Int32 → Mm → Prop) (M : Mm) : Prop := (K (0 : Int32) M)
set_option maxRecDepth 100000 in
set_option maxHeartbeats 4000000 in
theorem zb_X7_readText_91 {X : Cx} {h0 : Nat} {K : Int32 → Mm → Prop} (hX : Ok X cX7_readText RX7 rm_X7_readText) (hQ : Rq X rm_X7_readText (some .boolean) (QI K)) (hnL : X.2.2.2.2.2.2.2.2.2.2.2.2.2.2 = 4) {M : Mm} (h : bk_X7_readText_91 h0 K M) : Z X M 286 2068 91 [] [] := by
  unfold bk_X7_readText_91 at h
  refine z_iconst (v := (0 : Int32)) hX dX7_readText_91 (by decide) ?_
  refine z_widen 286 2068 (by first | omega | (simp only [rm_X1_add, rm_X4_advance, rm_X7_isKeyword, rm_X7_readAlign, rm_X7_readBeginning, rm_X7_readKind, rm_X7_refuse]; omega)) (by first | omega | (simp only [rm_X1_add, rm_X4_advance, rm_X7_isKeyword, rm_X7_readAlign, rm_X7_readBeginning, rm_X7_readKind, rm_X7_refuse]; omega)) ?_
  exact y_zret hX hQ dX7_readText_92 (Or.inl rfl) h
def bk_X7_readText_101 (h0 : Nat) (R9 : Int32 → Mm → Prop) (K : Int32 → Mm → Prop) (l1 : Int32) (M : Mm) : Prop := (R9 (l1 + 1) M)
set_option maxRecDepth 100000 in
set_option maxHeartbeats 4000000 in
theorem zb_X7_readText_101 {X : Cx} {h0 : Nat} {R9 : Int32 → Mm → Prop} {K : Int32 → Mm → Prop} (hX : Ok X cX7_readText RX7 rm_X7_readText) (hQ : Rq X rm_X7_readText (some .boolean) (QI K)) (hnL : X.2.2.2.2.2.2.2.2.2.2.2.2.2.2 = 4) {cc0 ss0 : Nat} (hcs : cc0 + 13 ≤ 286 ∧ ss0 + 94 ≤ 2068) (hR9 : ∀ l1 M, R9 l1 M → Z X M (cc0 + 13) (ss0 + 94) 9 [(0, va_rf (some h0)), (1, .int l1)] []) {l1 : Int32} {M : Mm} (h : bk_X7_readText_101 h0 R9 K l1 M) : Z X M (cc0 + 13) (ss0 + 94) 101 [(0, va_rf (some h0)), (1, .int l1)] [] := by
  unfold bk_X7_readText_101 at h
  refine z_iinc (v := (l1 + 1)) hX [(1, .int (l1 + 1)), (0, va_rf (some h0))] dX7_readText_101 1 rfl rfl (by rw [hnL]; decide) rfl ?_
  refine z_goto (tgt := 9) hX dX7_readText_104 (by decide) ?_
  refine z_loc [1, 0] rfl ?_
  refine z_widen (cc0 + 13) (ss0 + 94) (by first | omega | (simp only [rm_X1_add, rm_X4_advance, rm_X7_isKeyword, rm_X7_readAlign, rm_X7_readBeginning, rm_X7_readKind, rm_X7_refuse]; omega)) (by first | omega | (simp only [rm_X1_add, rm_X4_advance, rm_X7_isKeyword, rm_X7_readAlign, rm_X7_readBeginning, rm_X7_readKind, rm_X7_refuse]; omega)) ?_
  exact hR9 _ _ h
def bk_X7_readText_42 (h0 : Nat) (R9 : Int32 → Mm → Prop) (K : Int32 → Mm → Prop) (l1 : Int32) (s0 : Int32) (M : Mm) : Prop := mK M h0 = 8 ∧ (wp_X7_isKeyword M h0 (418430674798 : Int64) (fun r1 M2 => ((r1 = 0 → mK M2 h0 = 8 ∧ (wp_X7_readBeginning M2 h0 s0 (fun r5 M6 => ((r5 = none → (bk_X7_readText_91 h0 K M6)) ∧ (∀ a9, r5 = some a9 → mK M6 h0 = 8 ∧ (wp_X7_readKind M6 h0 r5 (fun r11 M12 => ((¬ r11 = 0 → mK M12 h0 = 8 ∧ ∃ a18, (mR M12 449 h0) = some a18 ∧ mK M12 a18 = 2 ∧ (wp_X1_add M12 a18 r5 (fun M17 => (bk_X7_readText_101 h0 R9 K l1 M17)))) ∧ (r11 = 0 → (bk_X7_readText_91 h0 K M12)))))))))) ∧ (¬ r1 = 0 → ((s0 = 0 → mK M2 h0 = 8 ∧ (wp_X7_readAlign M2 h0 (fun r22 M23 => ((¬ r22 = 0 → (bk_X7_readText_101 h0 R9 K l1 M23)) ∧ (r22 = 0 → (K (0 : Int32) M23)))))) ∧ (¬ s0 = 0 → mK M2 h0 = 8 ∧ (wp_X7_refuse M2 h0 (6 : Int32) (fun r26 M27 => (bz r26 ∧ K r26 M27)))))))))
set_option maxRecDepth 100000 in
set_option maxHeartbeats 4000000 in
theorem zb_X7_readText_42 {X : Cx} {h0 : Nat} {R9 : Int32 → Mm → Prop} {K : Int32 → Mm → Prop} (hX : Ok X cX7_readText RX7 rm_X7_readText) (hQ : Rq X rm_X7_readText (some .boolean) (QI K)) (hnL : X.2.2.2.2.2.2.2.2.2.2.2.2.2.2 = 4) {cc0 ss0 : Nat} (hcs : cc0 + 13 ≤ 286 ∧ ss0 + 94 ≤ 2068) (hR9 : ∀ l1 M, R9 l1 M → Z X M (cc0 + 13) (ss0 + 94) 9 [(0, va_rf (some h0)), (1, .int l1)] []) {l1 : Int32} {s0 : Int32} {M : Mm} (h : bk_X7_readText_42 h0 R9 K l1 s0 M) : Z X M (cc0 + 0) (ss0 + 0) 42 [(0, va_rf (some h0)), (1, .int l1)] [.int s0] := by
  unfold bk_X7_readText_42 at h
  refine z_istore_n hX [(2, .int s0), (0, va_rf (some h0)), (1, .int l1)] dX7_readText_42 rfl (by rw [hnL]; decide) rfl ?_
  refine z_aload_n (r := (some h0)) hX dX7_readText_43 rfl 1 rfl ?_
  refine z_ldc2 (v := (418430674798 : Int64)) hX dX7_readText_44 kj_RX7_28 ?_
  obtain ⟨hk3, h⟩ := h
  refine z_callVI (As := [.long (418430674798 : Int64)]) (rest := []) (ci := 7) hX (ct_X7_isKeyword h) mw_RX7_30 rfl (by decide) rfl (by rfl) (by simp only [RoomC, rm_X7_readText, rm_X1_add, rm_X4_advance, rm_X7_isKeyword, rm_X7_readAlign, rm_X7_readBeginning, rm_X7_readKind, rm_X7_refuse]; omega) (by decide) dX7_readText_47 hk3 (fun r1 M2 h => ?_)
  obtain ⟨h1, h2⟩ := h
  refine z_if_eq (tgt := 73) hX dX7_readText_50 (by decide) (fun hc => ?_) (fun hc => ?_)
  · have h := h1 hc
    refine z_aload_n (r := (some h0)) hX dX7_readText_73 rfl 1 rfl ?_
    refine z_iload_n hX dX7_readText_74 rfl 0 rfl ?_
    obtain ⟨hk7, h⟩ := h
    refine z_callVR (As := [.int s0]) (rest := []) (ci := 7) hX (ct_X7_readBeginning h) mw_RX7_42 rfl (by decide) rfl (by rfl) (by simp only [RoomC, rm_X7_readText, rm_X1_add, rm_X4_advance, rm_X7_isKeyword, rm_X7_readAlign, rm_X7_readBeginning, rm_X7_readKind, rm_X7_refuse]; omega) (by decide) dX7_readText_75 hk7 (fun r5 M6 h => ?_)
    refine z_astore_n (r := r5) hX [(3, va_rf r5), (2, .int s0), (0, va_rf (some h0)), (1, .int l1)] dX7_readText_78 rfl (by rw [hnL]; decide) rfl ?_
    refine z_aload_n (r := r5) hX dX7_readText_79 rfl 0 rfl ?_
    obtain ⟨h1, h2⟩ := h
    refine z_ifnull (r := r5) (tgt := 91) hX dX7_readText_80 (by decide) (fun hc => ?_) (fun a9 ha10 => ?_)
    · have h := h1 hc
      refine z_loc [] rfl ?_
      refine z_widen 286 2068 (by first | omega | (simp only [rm_X1_add, rm_X4_advance, rm_X7_isKeyword, rm_X7_readAlign, rm_X7_readBeginning, rm_X7_readKind, rm_X7_refuse]; omega)) (by first | omega | (simp only [rm_X1_add, rm_X4_advance, rm_X7_isKeyword, rm_X7_readAlign, rm_X7_readBeginning, rm_X7_readKind, rm_X7_refuse]; omega)) ?_
      exact zb_X7_readText_91 hX hQ hnL h
    · have h := h2 a9 ha10
      refine z_aload_n (r := (some h0)) hX dX7_readText_83 rfl 2 rfl ?_
      refine z_aload_n (r := r5) hX dX7_readText_84 rfl 0 rfl ?_
      obtain ⟨hk13, h⟩ := h
      refine z_callVI (As := [va_rf r5]) (rest := []) (ci := 7) hX (ct_X7_readKind h) mw_RX7_46 rfl (by decide) rfl (by rfl) (by simp only [RoomC, rm_X7_readText, rm_X1_add, rm_X4_advance, rm_X7_isKeyword, rm_X7_readAlign, rm_X7_readBeginning, rm_X7_readKind, rm_X7_refuse]; omega) (by decide) dX7_readText_85 hk13 (fun r11 M12 h => ?_)
      obtain ⟨h1, h2⟩ := h
      refine z_if_ne (tgt := 93) hX dX7_readText_88 (by decide) (fun hc => ?_) (fun hc => ?_)
      · have h := h1 hc
        refine z_aload_n (r := (some h0)) hX dX7_readText_93 rfl 2 rfl ?_
        obtain ⟨hk15, h⟩ := h
        refine gf_RX7_15 (r := (some h0)) hX dX7_readText_94 rfl hk15 ?_
        refine z_aload_n (r := r5) hX dX7_readText_97 rfl 0 rfl ?_
        obtain ⟨a18, ha19, h⟩ := h
        obtain ⟨hk20, h⟩ := h
        refine z_callVV (As := [va_rf r5]) (rest := []) (ci := 1) hX (ct_X1_add h) mw_RX7_50 rfl (by decide) rfl (by rw [ha19]; rfl) (by simp only [RoomC, rm_X7_readText, rm_X1_add, rm_X4_advance, rm_X7_isKeyword, rm_X7_readAlign, rm_X7_readBeginning, rm_X7_readKind, rm_X7_refuse]; omega) (by decide) dX7_readText_98 hk20 (fun M17 h => ?_)
        refine z_loc [2, 3] rfl ?_
        refine z_widen (cc0 + 13) (ss0 + 94) (by first | omega | (simp only [rm_X1_add, rm_X4_advance, rm_X7_isKeyword, rm_X7_readAlign, rm_X7_readBeginning, rm_X7_readKind, rm_X7_refuse]; omega)) (by first | omega | (simp only [rm_X1_add, rm_X4_advance, rm_X7_isKeyword, rm_X7_readAlign, rm_X7_readBeginning, rm_X7_readKind, rm_X7_refuse]; omega)) ?_
        exact zb_X7_readText_101 hX hQ hnL hcs hR9 h
      · have h := h2 hc
        refine z_loc [] rfl ?_
        refine z_widen 286 2068 (by first | omega | (simp only [rm_X1_add, rm_X4_advance, rm_X7_isKeyword, rm_X7_readAlign, rm_X7_readBeginning, rm_X7_readKind, rm_X7_refuse]; omega)) (by first | omega | (simp only [rm_X1_add, rm_X4_advance, rm_X7_isKeyword, rm_X7_readAlign, rm_X7_readBeginning, rm_X7_readKind, rm_X7_refuse]; omega)) ?_
        exact zb_X7_readText_91 hX hQ hnL h
  · have h := h2 hc
    refine z_iload_n hX dX7_readText_53 rfl 0 rfl ?_
    obtain ⟨h1, h2⟩ := h
    refine z_if_eq (tgt := 64) hX dX7_readText_54 (by decide) (fun hc => ?_) (fun hc => ?_)
    · have h := h1 hc
      refine z_aload_n (r := (some h0)) hX dX7_readText_64 rfl 1 rfl ?_
      obtain ⟨hk24, h⟩ := h
      refine z_callVI (As := []) (rest := []) (ci := 7) hX (ct_X7_readAlign h) mw_RX7_38 rfl (by decide) rfl (by rfl) (by simp only [RoomC, rm_X7_readText, rm_X1_add, rm_X4_advance, rm_X7_isKeyword, rm_X7_readAlign, rm_X7_readBeginning, rm_X7_readKind, rm_X7_refuse]; omega) (by decide) dX7_readText_65 hk24 (fun r22 M23 h => ?_)
      obtain ⟨h1, h2⟩ := h
      refine z_if_ne (tgt := 101) hX dX7_readText_68 (by decide) (fun hc => ?_) (fun hc => ?_)
      · have h := h1 hc
        refine z_loc [1, 2] rfl ?_
        refine z_widen (cc0 + 13) (ss0 + 94) (by first | omega | (simp only [rm_X1_add, rm_X4_advance, rm_X7_isKeyword, rm_X7_readAlign, rm_X7_readBeginning, rm_X7_readKind, rm_X7_refuse]; omega)) (by first | omega | (simp only [rm_X1_add, rm_X4_advance, rm_X7_isKeyword, rm_X7_readAlign, rm_X7_readBeginning, rm_X7_readKind, rm_X7_refuse]; omega)) ?_
        exact zb_X7_readText_101 hX hQ hnL hcs hR9 h
      · have h := h2 hc
        refine z_iconst (v := (0 : Int32)) hX dX7_readText_71 (by decide) ?_
        refine z_widen 286 2068 (by first | omega | (simp only [rm_X1_add, rm_X4_advance, rm_X7_isKeyword, rm_X7_readAlign, rm_X7_readBeginning, rm_X7_readKind, rm_X7_refuse]; omega)) (by first | omega | (simp only [rm_X1_add, rm_X4_advance, rm_X7_isKeyword, rm_X7_readAlign, rm_X7_readBeginning, rm_X7_readKind, rm_X7_refuse]; omega)) ?_
        exact y_zret hX hQ dX7_readText_72 (Or.inl rfl) h
    · have h := h2 hc
      refine z_aload_n (r := (some h0)) hX dX7_readText_57 rfl 1 rfl ?_
      refine z_bipush (v := (6 : Int32)) hX dX7_readText_58 (by decide) ?_
      obtain ⟨hk28, h⟩ := h
      refine z_callVI (As := [.int (6 : Int32)]) (rest := []) (ci := 7) hX (ct_X7_refuse h) mw_RX7_34 rfl (by decide) rfl (by rfl) (by simp only [RoomC, rm_X7_readText, rm_X1_add, rm_X4_advance, rm_X7_isKeyword, rm_X7_readAlign, rm_X7_readBeginning, rm_X7_readKind, rm_X7_refuse]; omega) (by decide) dX7_readText_60 hk28 (fun r26 M27 h => ?_)
      refine z_widen 286 2068 (by first | omega | (simp only [rm_X1_add, rm_X4_advance, rm_X7_isKeyword, rm_X7_readAlign, rm_X7_readBeginning, rm_X7_readKind, rm_X7_refuse]; omega)) (by first | omega | (simp only [rm_X1_add, rm_X4_advance, rm_X7_isKeyword, rm_X7_readAlign, rm_X7_readBeginning, rm_X7_readKind, rm_X7_refuse]; omega)) ?_
      exact y_zret hX hQ dX7_readText_63 h.1 h.2
def bk_X7_readText_31 (h0 : Nat) (R9 : Int32 → Mm → Prop) (K : Int32 → Mm → Prop) (l1 : Int32) (M : Mm) : Prop := ((¬ l1 = (20 : Int32) → (bk_X7_readText_42 h0 R9 K l1 (0 : Int32) M)) ∧ (l1 = (20 : Int32) → (bk_X7_readText_42 h0 R9 K l1 (1 : Int32) M)))
set_option maxRecDepth 100000 in
set_option maxHeartbeats 4000000 in
theorem zb_X7_readText_31 {X : Cx} {h0 : Nat} {R9 : Int32 → Mm → Prop} {K : Int32 → Mm → Prop} (hX : Ok X cX7_readText RX7 rm_X7_readText) (hQ : Rq X rm_X7_readText (some .boolean) (QI K)) (hnL : X.2.2.2.2.2.2.2.2.2.2.2.2.2.2 = 4) {cc0 ss0 : Nat} (hcs : cc0 + 13 ≤ 286 ∧ ss0 + 94 ≤ 2068) (hR9 : ∀ l1 M, R9 l1 M → Z X M (cc0 + 13) (ss0 + 94) 9 [(0, va_rf (some h0)), (1, .int l1)] []) {l1 : Int32} {M : Mm} (h : bk_X7_readText_31 h0 R9 K l1 M) : Z X M (cc0 + 0) (ss0 + 0) 31 [(0, va_rf (some h0)), (1, .int l1)] [] := by
  unfold bk_X7_readText_31 at h
  refine z_iload_n hX dX7_readText_31 rfl 1 rfl ?_
  refine z_bipush (v := (20 : Int32)) hX dX7_readText_32 (by decide) ?_
  obtain ⟨h1, h2⟩ := h
  refine z_icmp_ne (tgt := 41) hX dX7_readText_34 (by decide) (fun hc => ?_) (fun hc => ?_)
  · have h := h1 hc
    refine z_iconst (v := (0 : Int32)) hX dX7_readText_41 (by decide) ?_
    refine z_widen (cc0 + 0) (ss0 + 0) (by first | omega | (simp only [rm_X1_add, rm_X4_advance, rm_X7_isKeyword, rm_X7_readAlign, rm_X7_readBeginning, rm_X7_readKind, rm_X7_refuse]; omega)) (by first | omega | (simp only [rm_X1_add, rm_X4_advance, rm_X7_isKeyword, rm_X7_readAlign, rm_X7_readBeginning, rm_X7_readKind, rm_X7_refuse]; omega)) ?_
    exact zb_X7_readText_42 hX hQ hnL hcs hR9 h
  · have h := h2 hc
    refine z_iconst (v := (1 : Int32)) hX dX7_readText_37 (by decide) ?_
    refine z_goto (tgt := 42) hX dX7_readText_38 (by decide) ?_
    refine z_widen (cc0 + 0) (ss0 + 0) (by first | omega | (simp only [rm_X1_add, rm_X4_advance, rm_X7_isKeyword, rm_X7_readAlign, rm_X7_readBeginning, rm_X7_readKind, rm_X7_refuse]; omega)) (by first | omega | (simp only [rm_X1_add, rm_X4_advance, rm_X7_isKeyword, rm_X7_readAlign, rm_X7_readBeginning, rm_X7_readKind, rm_X7_refuse]; omega)) ?_
    exact zb_X7_readText_42 hX hQ hnL hcs hR9 h
def lp_X7_readText_9 (h0 : Nat) (K : Int32 → Mm → Prop) : Nat → Int32 → Mm → Prop
  | 0, _, _ => False
  | n + 1, l1, M => (((20 : Int32) < l1 → (K (0 : Int32) M)) ∧ (¬ (20 : Int32) < l1 → ((l1 ≤ 0 → (bk_X7_readText_31 h0 (lp_X7_readText_9 h0 K n) K l1 M)) ∧ (¬ l1 ≤ 0 → mK M h0 = 8 ∧ ∃ a31, (mR M 448 h0) = some a31 ∧ mK M a31 = 5 ∧ ((¬ (mI M 258 a31) = 0 → (bk_X7_readText_31 h0 (lp_X7_readText_9 h0 K n) K l1 M)) ∧ ((mI M 258 a31) = 0 → (K (1 : Int32) M)))))))
set_option maxRecDepth 100000 in
set_option maxHeartbeats 4000000 in
theorem zl_X7_readText_9 {X : Cx} {h0 : Nat} {K : Int32 → Mm → Prop} (hX : Ok X cX7_readText RX7 rm_X7_readText) (hQ : Rq X rm_X7_readText (some .boolean) (QI K)) (hnL : X.2.2.2.2.2.2.2.2.2.2.2.2.2.2 = 4) : ∀ (n : Nat), n ≤ 22 → ∀ (l1 : Int32)  (M : Mm), lp_X7_readText_9 h0 K n l1 M → Z X M (0 + (22 - n) * 13) (0 + (22 - n) * 94) 9 [(0, va_rf (some h0)), (1, .int l1)] [] := by
  intro n
  induction n with
  | zero =>
    intro _ l1 M h
    exact False.elim h
  | succ n ih =>
    intro hn l1 M h
    obtain ⟨cc0, hc0⟩ : ∃ cc0, cc0 = 0 + (22 - (n + 1)) * 13 := ⟨_, rfl⟩
    obtain ⟨ss0, hs0⟩ : ∃ ss0, ss0 = 0 + (22 - (n + 1)) * 94 := ⟨_, rfl⟩
    have hcs : cc0 + 13 ≤ 286 ∧ ss0 + 94 ≤ 2068 := by constructor <;> omega
    have hR9 : ∀ l1 M, lp_X7_readText_9 h0 K n l1 M → Z X M (cc0 + 13) (ss0 + 94) 9 [(0, va_rf (some h0)), (1, .int l1)] [] := fun l1 M h => by
      have q := ih (by omega) l1 M h
      rw [show 0 + (22 - n) * 13 = cc0 + 13 by omega, show 0 + (22 - n) * 94 = ss0 + 94 by omega] at q
      exact q
    rw [← hc0, ← hs0]
    refine z_iload_n hX dX7_readText_9 rfl 1 rfl ?_
    refine z_bipush (v := (20 : Int32)) hX dX7_readText_10 (by decide) ?_
    obtain ⟨h1, h2⟩ := h
    refine z_icmp_gt (tgt := 107) hX dX7_readText_12 (by decide) (fun hc => ?_) (fun hc => ?_)
    · have h := h1 hc
      refine z_iconst (v := (0 : Int32)) hX dX7_readText_107 (by decide) ?_
      refine z_widen 286 2068 (by first | omega | (simp only [rm_X1_add, rm_X4_advance, rm_X7_isKeyword, rm_X7_readAlign, rm_X7_readBeginning, rm_X7_readKind, rm_X7_refuse]; omega)) (by first | omega | (simp only [rm_X1_add, rm_X4_advance, rm_X7_isKeyword, rm_X7_readAlign, rm_X7_readBeginning, rm_X7_readKind, rm_X7_refuse]; omega)) ?_
      exact y_zret hX hQ dX7_readText_108 (Or.inl rfl) h
    · have h := h2 hc
      refine z_iload_n hX dX7_readText_15 rfl 1 rfl ?_
      obtain ⟨h1, h2⟩ := h
      refine z_if_le (tgt := 31) hX dX7_readText_16 (by decide) (fun hc => ?_) (fun hc => ?_)
      · have h := h1 hc
        refine z_widen (cc0 + 0) (ss0 + 0) (by first | omega | (simp only [rm_X1_add, rm_X4_advance, rm_X7_isKeyword, rm_X7_readAlign, rm_X7_readBeginning, rm_X7_readKind, rm_X7_refuse]; omega)) (by first | omega | (simp only [rm_X1_add, rm_X4_advance, rm_X7_isKeyword, rm_X7_readAlign, rm_X7_readBeginning, rm_X7_readKind, rm_X7_refuse]; omega)) ?_
        exact zb_X7_readText_31 hX hQ hnL hcs hR9 h
      · have h := h2 hc
        refine z_aload_n (r := (some h0)) hX dX7_readText_19 rfl 0 rfl ?_
        obtain ⟨hk30, h⟩ := h
        refine gf_RX7_9 (r := (some h0)) hX dX7_readText_20 rfl hk30 ?_
        obtain ⟨a31, ha32, h⟩ := h
        obtain ⟨hk33, h⟩ := h
        refine gf_RX7_24 (r := (mR M 448 h0)) hX dX7_readText_23 ha32 hk33 ?_
        obtain ⟨h1, h2⟩ := h
        refine z_if_ne (tgt := 31) hX dX7_readText_26 (by decide) (fun hc => ?_) (fun hc => ?_)
        · have h := h1 hc
          refine z_widen (cc0 + 0) (ss0 + 0) (by first | omega | (simp only [rm_X1_add, rm_X4_advance, rm_X7_isKeyword, rm_X7_readAlign, rm_X7_readBeginning, rm_X7_readKind, rm_X7_refuse]; omega)) (by first | omega | (simp only [rm_X1_add, rm_X4_advance, rm_X7_isKeyword, rm_X7_readAlign, rm_X7_readBeginning, rm_X7_readKind, rm_X7_refuse]; omega)) ?_
          exact zb_X7_readText_31 hX hQ hnL hcs hR9 h
        · have h := h2 hc
          refine z_iconst (v := (1 : Int32)) hX dX7_readText_29 (by decide) ?_
          refine z_widen 286 2068 (by first | omega | (simp only [rm_X1_add, rm_X4_advance, rm_X7_isKeyword, rm_X7_readAlign, rm_X7_readBeginning, rm_X7_readKind, rm_X7_refuse]; omega)) (by first | omega | (simp only [rm_X1_add, rm_X4_advance, rm_X7_isKeyword, rm_X7_readAlign, rm_X7_readBeginning, rm_X7_readKind, rm_X7_refuse]; omega)) ?_
          exact y_zret hX hQ dX7_readText_30 (Or.inr rfl) h
def wp_X7_readText (M : Mm) (h0 : Nat) (K : Int32 → Mm → Prop) : Prop := mK M h0 = 8 ∧ ∃ a37, (mR M 448 h0) = some a37 ∧ mK M a37 = 5 ∧ (wp_X4_advance M a37 (fun M36 => (lp_X7_readText_9 h0 K 22 (0 : Int32) M36)))
set_option maxRecDepth 100000 in
set_option maxHeartbeats 4000000 in
theorem ct_X7_readText {M : Mm} {h0 : Nat} {K : Int32 → Mm → Prop} (h : wp_X7_readText M h0 K) : CtI yX7_readText cX7_readText 4 (some .boolean) rm_X7_readText [.ref h0] M K := by
  refine ct_any (QI K) (by decide) (by exact Nat.le_of_ble_eq_true rfl) (fun X hX hQ hnL hnm => ?_)
  rw [show lv_args 0 [.ref h0] = [(0, va_rf (some h0))] by rfl]
  have hX : Ok X cX7_readText RX7 rm_X7_readText := hX
  unfold wp_X7_readText at h
  refine z_aload_n (r := (some h0)) hX dX7_readText_0 rfl 0 rfl ?_
  obtain ⟨hk34, h⟩ := h
  refine gf_RX7_9 (r := (some h0)) hX dX7_readText_1 rfl hk34 ?_
  obtain ⟨a37, ha38, h⟩ := h
  obtain ⟨hk39, h⟩ := h
  refine z_callVV (As := []) (rest := []) (ci := 4) hX (ct_X4_advance h) mw_RX7_19 rfl (by decide) rfl (by rw [ha38]; rfl) (by simp only [RoomC, rm_X7_readText, rm_X1_add, rm_X4_advance, rm_X7_isKeyword, rm_X7_readAlign, rm_X7_readBeginning, rm_X7_readKind, rm_X7_refuse]; omega) (by decide) dX7_readText_4 hk39 (fun M36 h => ?_)
  refine z_iconst (v := (0 : Int32)) hX dX7_readText_7 (by decide) ?_
  refine z_istore_n hX [(1, .int (0 : Int32)), (0, va_rf (some h0))] dX7_readText_8 rfl (by rw [hnL]; decide) rfl ?_
  refine z_loc [1, 0] rfl ?_
  refine z_widen 0 0 (by first | omega | (simp only [rm_X1_add, rm_X4_advance, rm_X7_isKeyword, rm_X7_readAlign, rm_X7_readBeginning, rm_X7_readKind, rm_X7_refuse]; omega)) (by first | omega | (simp only [rm_X1_add, rm_X4_advance, rm_X7_isKeyword, rm_X7_readAlign, rm_X7_readBeginning, rm_X7_readKind, rm_X7_refuse]; omega)) ?_
  exact zl_X7_readText_9 hX hQ hnL 22 (by decide) _ _ h
