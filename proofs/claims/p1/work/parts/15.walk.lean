def rm_X7_readSource : Room := { frames := 4, cells := 5, slots := 24, locals := 89 }
def bk_X7_readSource_160 (h0 : Nat) (K : Int32 → Mm → Prop) (l1 : Option Nat) (l2 : Int32) (l3 : Int64) (l5 : Int32) (l6 : Int32) (M : Mm) : Prop := (∀ q1, mK M q1 = 0 → (wp_X5_init (nw M q1 6) q1 l2 l3 l5 l6 (fun M5 => ∃ a7, l1 = some a7 ∧ mK M5 a7 = 7 ∧ mK (sR M5 393 a7 (some q1)) h0 = 8 ∧ (wp_X7_readSign (sR M5 393 a7 (some q1)) h0 (59 : Int32) (fun r11 M12 => (bz r11 ∧ K r11 M12))))))
set_option maxRecDepth 100000 in
set_option maxHeartbeats 4000000 in
theorem zb_X7_readSource_160 {X : Cx} {h0 : Nat} {K : Int32 → Mm → Prop} (hX : Ok X cX7_readSource RX7 rm_X7_readSource) (hQ : Rq X rm_X7_readSource (some .boolean) (QI K)) (hnL : X.2.2.2.2.2.2.2.2.2.2.2.2.2.2 = 7) {l1 : Option Nat} {l2 : Int32} {l3 : Int64} {l5 : Int32} {l6 : Int32} {M : Mm} (h : bk_X7_readSource_160 h0 K l1 l2 l3 l5 l6 M) : Z X M 0 0 160 [(0, va_rf (some h0)), (1, va_rf l1), (2, .int l2), (3, .long l3), (5, .int l5), (6, .int l6)] [] := by
  unfold bk_X7_readSource_160 at h
  refine z_aload_n (r := l1) hX dX7_readSource_160 rfl 1 rfl ?_
  refine nq_RX7_137 hX dX7_readSource_161 (by decide) (by decide) (fun q1 hq2 => ?_)
  have h := h q1 hq2
  refine z_dup hX dX7_readSource_164 (cat_rf _) ?_
  refine z_iload_n hX dX7_readSource_165 rfl 2 rfl ?_
  refine z_lload_n hX dX7_readSource_166 rfl 3 rfl ?_
  refine z_iload hX dX7_readSource_167 4 rfl ?_
  refine z_iload hX dX7_readSource_169 5 rfl ?_
  refine z_callIV (As := [.int l2, .long l3, .int l5, .int l6]) (rest := [va_rf (some q1), va_rf l1]) hX (ct_X5_init h) mw_RX7_154 rfl (by rfl) (by unfold RoomC; decide) (by simp only [List.map_cons, List.map_nil, List.sum_cons, List.sum_nil, cat_rf, cat_i, cat_j]; decide) dX7_readSource_171 (fun M5 h => ?_)
  obtain ⟨a7, ha8, h⟩ := h
  obtain ⟨hk9, h⟩ := h
  refine pf_RX7_157 (r := l1) (v := (some q1)) hX dX7_readSource_174 ha8 hk9 ?_
  refine z_aload_n (r := (some h0)) hX dX7_readSource_177 rfl 0 rfl ?_
  refine z_bipush (v := (59 : Int32)) hX dX7_readSource_178 (by decide) ?_
  obtain ⟨hk13, h⟩ := h
  refine z_callVI (As := [.int (59 : Int32)]) (rest := []) (ci := 7) hX (ct_X7_readSign h) mw_RX7_78 rfl (by decide) rfl (by rfl) (by unfold RoomC; decide) (by decide) dX7_readSource_180 hk13 (fun r11 M12 h => ?_)
  refine z_widen 5 24 (by decide) (by decide) ?_
  exact y_zret hX hQ dX7_readSource_183 h.1 h.2
def bk_X7_readSource_120 (h0 : Nat) (K : Int32 → Mm → Prop) (l1 : Option Nat) (l2 : Int32) (l3 : Int64) (l5 : Int32) (M : Mm) : Prop := mK M h0 = 8 ∧ (wp_X7_isKeyword M h0 (444301538672 : Int64) (fun r15 M16 => ((r15 = 0 → (bk_X7_readSource_160 h0 K l1 l2 l3 l5 (-1 : Int32) M16)) ∧ (¬ r15 = 0 → mK M16 h0 = 8 ∧ ∃ a22, (mR M16 448 h0) = some a22 ∧ mK M16 a22 = 5 ∧ (wp_X4_advance M16 a22 (fun M21 => mK M21 h0 = 8 ∧ (wp_X7_readNumber M21 h0 (0 : Int64) (3 : Int64) (fun r26 M27 => ((¬ r26 = 0 → mK M27 h0 = 8 ∧ (bk_X7_readSource_160 h0 K l1 l2 l3 l5 (((mJ M27 454 h0)).toInt32) M27)) ∧ (r26 = 0 → (K (0 : Int32) M27)))))))))))
set_option maxRecDepth 100000 in
set_option maxHeartbeats 4000000 in
theorem zb_X7_readSource_120 {X : Cx} {h0 : Nat} {K : Int32 → Mm → Prop} (hX : Ok X cX7_readSource RX7 rm_X7_readSource) (hQ : Rq X rm_X7_readSource (some .boolean) (QI K)) (hnL : X.2.2.2.2.2.2.2.2.2.2.2.2.2.2 = 7) {l1 : Option Nat} {l2 : Int32} {l3 : Int64} {l5 : Int32} {M : Mm} (h : bk_X7_readSource_120 h0 K l1 l2 l3 l5 M) : Z X M 0 0 120 [(0, va_rf (some h0)), (1, va_rf l1), (2, .int l2), (3, .long l3), (5, .int l5)] [] := by
  unfold bk_X7_readSource_120 at h
  refine z_iconst (v := (-1 : Int32)) hX dX7_readSource_120 (by decide) ?_
  refine z_istore hX [(6, .int (-1 : Int32)), (0, va_rf (some h0)), (1, va_rf l1), (2, .int l2), (3, .long l3), (5, .int l5)] dX7_readSource_121 (by rw [hnL]; decide) rfl ?_
  refine z_aload_n (r := (some h0)) hX dX7_readSource_123 rfl 1 rfl ?_
  refine z_ldc2 (v := (444301538672 : Int64)) hX dX7_readSource_124 kj_RX7_152 ?_
  obtain ⟨hk17, h⟩ := h
  refine z_callVI (As := [.long (444301538672 : Int64)]) (rest := []) (ci := 7) hX (ct_X7_isKeyword h) mw_RX7_30 rfl (by decide) rfl (by rfl) (by unfold RoomC; decide) (by decide) dX7_readSource_127 hk17 (fun r15 M16 h => ?_)
  obtain ⟨h1, h2⟩ := h
  refine z_if_eq (tgt := 160) hX dX7_readSource_130 (by decide) (fun hc => ?_) (fun hc => ?_)
  · have h := h1 hc
    refine z_loc [1, 2, 3, 4, 5, 0] rfl ?_
    refine z_widen 0 0 (by decide) (by decide) ?_
    exact zb_X7_readSource_160 hX hQ hnL h
  · have h := h2 hc
    refine z_aload_n (r := (some h0)) hX dX7_readSource_133 rfl 1 rfl ?_
    obtain ⟨hk19, h⟩ := h
    refine gf_RX7_9 (r := (some h0)) hX dX7_readSource_134 rfl hk19 ?_
    obtain ⟨a22, ha23, h⟩ := h
    obtain ⟨hk24, h⟩ := h
    refine z_callVV (As := []) (rest := []) (ci := 4) hX (ct_X4_advance h) mw_RX7_19 rfl (by decide) rfl (by rw [ha23]; rfl) (by unfold RoomC; decide) (by decide) dX7_readSource_137 hk24 (fun M21 h => ?_)
    refine z_aload_n (r := (some h0)) hX dX7_readSource_140 rfl 1 rfl ?_
    refine z_lconst (v := (0 : Int64)) hX dX7_readSource_141 (by decide) ?_
    refine z_ldc2 (v := (3 : Int64)) hX dX7_readSource_142 kj_RX7_56 ?_
    obtain ⟨hk28, h⟩ := h
    refine z_callVI (As := [.long (0 : Int64), .long (3 : Int64)]) (rest := []) (ci := 7) hX (ct_X7_readNumber h) mw_RX7_71 rfl (by decide) rfl (by rfl) (by unfold RoomC; decide) (by decide) dX7_readSource_145 hk28 (fun r26 M27 h => ?_)
    obtain ⟨h1, h2⟩ := h
    refine z_if_ne (tgt := 153) hX dX7_readSource_148 (by decide) (fun hc => ?_) (fun hc => ?_)
    · have h := h1 hc
      refine z_aload_n (r := (some h0)) hX dX7_readSource_153 rfl 1 rfl ?_
      obtain ⟨hk30, h⟩ := h
      refine gf_RX7_62 (r := (some h0)) hX dX7_readSource_154 rfl hk30 ?_
      refine z_l2i hX dX7_readSource_157 ?_
      refine z_istore hX [(6, .int (((mJ M27 454 h0)).toInt32)), (0, va_rf (some h0)), (1, va_rf l1), (2, .int l2), (3, .long l3), (5, .int l5)] dX7_readSource_158 (by rw [hnL]; decide) rfl ?_
      refine z_loc [1, 2, 3, 4, 5, 0] rfl ?_
      refine z_widen 0 0 (by decide) (by decide) ?_
      exact zb_X7_readSource_160 hX hQ hnL h
    · have h := h2 hc
      refine z_iconst (v := (0 : Int32)) hX dX7_readSource_151 (by decide) ?_
      refine z_widen 5 24 (by decide) (by decide) ?_
      exact y_zret hX hQ dX7_readSource_152 (Or.inl rfl) h
def bk_X7_readSource_80 (h0 : Nat) (K : Int32 → Mm → Prop) (l1 : Option Nat) (l2 : Int32) (l3 : Int64) (M : Mm) : Prop := mK M h0 = 8 ∧ (wp_X7_isKeyword M h0 (418330731890 : Int64) (fun r31 M32 => ((r31 = 0 → (bk_X7_readSource_120 h0 K l1 l2 l3 (0 : Int32) M32)) ∧ (¬ r31 = 0 → mK M32 h0 = 8 ∧ ∃ a38, (mR M32 448 h0) = some a38 ∧ mK M32 a38 = 5 ∧ (wp_X4_advance M32 a38 (fun M37 => mK M37 h0 = 8 ∧ (wp_X7_readNumber M37 h0 (1 : Int64) (1000 : Int64) (fun r42 M43 => ((¬ r42 = 0 → mK M43 h0 = 8 ∧ (bk_X7_readSource_120 h0 K l1 l2 l3 (((mJ M43 454 h0)).toInt32) M43)) ∧ (r42 = 0 → (K (0 : Int32) M43)))))))))))
set_option maxRecDepth 100000 in
set_option maxHeartbeats 4000000 in
theorem zb_X7_readSource_80 {X : Cx} {h0 : Nat} {K : Int32 → Mm → Prop} (hX : Ok X cX7_readSource RX7 rm_X7_readSource) (hQ : Rq X rm_X7_readSource (some .boolean) (QI K)) (hnL : X.2.2.2.2.2.2.2.2.2.2.2.2.2.2 = 7) {l1 : Option Nat} {l2 : Int32} {l3 : Int64} {M : Mm} (h : bk_X7_readSource_80 h0 K l1 l2 l3 M) : Z X M 0 0 80 [(0, va_rf (some h0)), (1, va_rf l1), (2, .int l2), (3, .long l3)] [] := by
  unfold bk_X7_readSource_80 at h
  refine z_iconst (v := (0 : Int32)) hX dX7_readSource_80 (by decide) ?_
  refine z_istore hX [(5, .int (0 : Int32)), (0, va_rf (some h0)), (1, va_rf l1), (2, .int l2), (3, .long l3)] dX7_readSource_81 (by rw [hnL]; decide) rfl ?_
  refine z_aload_n (r := (some h0)) hX dX7_readSource_83 rfl 1 rfl ?_
  refine z_ldc2 (v := (418330731890 : Int64)) hX dX7_readSource_84 kj_RX7_148 ?_
  obtain ⟨hk33, h⟩ := h
  refine z_callVI (As := [.long (418330731890 : Int64)]) (rest := []) (ci := 7) hX (ct_X7_isKeyword h) mw_RX7_30 rfl (by decide) rfl (by rfl) (by unfold RoomC; decide) (by decide) dX7_readSource_87 hk33 (fun r31 M32 h => ?_)
  obtain ⟨h1, h2⟩ := h
  refine z_if_eq (tgt := 120) hX dX7_readSource_90 (by decide) (fun hc => ?_) (fun hc => ?_)
  · have h := h1 hc
    refine z_loc [1, 2, 3, 4, 0] rfl ?_
    refine z_widen 0 0 (by decide) (by decide) ?_
    exact zb_X7_readSource_120 hX hQ hnL h
  · have h := h2 hc
    refine z_aload_n (r := (some h0)) hX dX7_readSource_93 rfl 1 rfl ?_
    obtain ⟨hk35, h⟩ := h
    refine gf_RX7_9 (r := (some h0)) hX dX7_readSource_94 rfl hk35 ?_
    obtain ⟨a38, ha39, h⟩ := h
    obtain ⟨hk40, h⟩ := h
    refine z_callVV (As := []) (rest := []) (ci := 4) hX (ct_X4_advance h) mw_RX7_19 rfl (by decide) rfl (by rw [ha39]; rfl) (by unfold RoomC; decide) (by decide) dX7_readSource_97 hk40 (fun M37 h => ?_)
    refine z_aload_n (r := (some h0)) hX dX7_readSource_100 rfl 1 rfl ?_
    refine z_lconst (v := (1 : Int64)) hX dX7_readSource_101 (by decide) ?_
    refine z_ldc2 (v := (1000 : Int64)) hX dX7_readSource_102 kj_RX7_150 ?_
    obtain ⟨hk44, h⟩ := h
    refine z_callVI (As := [.long (1 : Int64), .long (1000 : Int64)]) (rest := []) (ci := 7) hX (ct_X7_readNumber h) mw_RX7_71 rfl (by decide) rfl (by rfl) (by unfold RoomC; decide) (by decide) dX7_readSource_105 hk44 (fun r42 M43 h => ?_)
    obtain ⟨h1, h2⟩ := h
    refine z_if_ne (tgt := 113) hX dX7_readSource_108 (by decide) (fun hc => ?_) (fun hc => ?_)
    · have h := h1 hc
      refine z_aload_n (r := (some h0)) hX dX7_readSource_113 rfl 1 rfl ?_
      obtain ⟨hk46, h⟩ := h
      refine gf_RX7_62 (r := (some h0)) hX dX7_readSource_114 rfl hk46 ?_
      refine z_l2i hX dX7_readSource_117 ?_
      refine z_istore hX [(5, .int (((mJ M43 454 h0)).toInt32)), (0, va_rf (some h0)), (1, va_rf l1), (2, .int l2), (3, .long l3)] dX7_readSource_118 (by rw [hnL]; decide) rfl ?_
      refine z_loc [1, 2, 3, 4, 0] rfl ?_
      refine z_widen 0 0 (by decide) (by decide) ?_
      exact zb_X7_readSource_120 hX hQ hnL h
    · have h := h2 hc
      refine z_iconst (v := (0 : Int32)) hX dX7_readSource_111 (by decide) ?_
      refine z_widen 5 24 (by decide) (by decide) ?_
      exact y_zret hX hQ dX7_readSource_112 (Or.inl rfl) h
def wp_X7_readSource (M : Mm) (h0 : Nat) (p1 : Option Nat) (K : Int32 → Mm → Prop) : Prop := mK M h0 = 8 ∧ ∃ a50, (mR M 448 h0) = some a50 ∧ mK M a50 = 5 ∧ (wp_X4_advance M a50 (fun M49 => mK M49 h0 = 8 ∧ (wp_X7_readNumber M49 h0 (1 : Int64) (4 : Int64) (fun r54 M55 => ((¬ r54 = 0 → mK M55 h0 = 8 ∧ (wp_X7_isKeyword M55 h0 (7102823 : Int64) (fun r59 M60 => ((r59 = 0 → mK M60 h0 = 8 ∧ (wp_X7_readKeyword M60 h0 (469786323827 : Int64) (fun r62 M63 => ((¬ r62 = 0 → (bk_X7_readSource_80 h0 K p1 (((mJ M55 454 h0)).toInt32) (-1 : Int64) M63)) ∧ (r62 = 0 → (K (0 : Int32) M63)))))) ∧ (¬ r59 = 0 → mK M60 h0 = 8 ∧ ∃ a69, (mR M60 448 h0) = some a69 ∧ mK M60 a69 = 5 ∧ (wp_X4_advance M60 a69 (fun M68 => mK M68 h0 = 8 ∧ (wp_X7_readNumber M68 h0 (0 : Int64) (999999999999999999 : Int64) (fun r73 M74 => ((¬ r73 = 0 → mK M74 h0 = 8 ∧ (bk_X7_readSource_80 h0 K p1 (((mJ M55 454 h0)).toInt32) (mJ M74 454 h0) M74)) ∧ (r73 = 0 → (K (0 : Int32) M74)))))))))))) ∧ (r54 = 0 → (K (0 : Int32) M55)))))))
set_option maxRecDepth 100000 in
set_option maxHeartbeats 4000000 in
theorem ct_X7_readSource {M : Mm} {h0 : Nat} {p1 : Option Nat} {K : Int32 → Mm → Prop} (h : wp_X7_readSource M h0 p1 K) : CtI yX7_readSource cX7_readSource 7 (some .boolean) rm_X7_readSource [.ref h0, va_rf p1] M K := by
  refine ct_any (QI K) (by decide) (by cases p1 <;> exact Nat.le_of_ble_eq_true rfl) (fun X hX hQ hnL hnm => ?_)
  rw [show lv_args 0 [.ref h0, va_rf p1] = [(0, va_rf (some h0)), (1, va_rf p1)] by cases p1 <;> rfl]
  have hX : Ok X cX7_readSource RX7 rm_X7_readSource := hX
  unfold wp_X7_readSource at h
  refine z_aload_n (r := (some h0)) hX dX7_readSource_0 rfl 0 rfl ?_
  obtain ⟨hk47, h⟩ := h
  refine gf_RX7_9 (r := (some h0)) hX dX7_readSource_1 rfl hk47 ?_
  obtain ⟨a50, ha51, h⟩ := h
  obtain ⟨hk52, h⟩ := h
  refine z_callVV (As := []) (rest := []) (ci := 4) hX (ct_X4_advance h) mw_RX7_19 rfl (by decide) rfl (by rw [ha51]; rfl) (by unfold RoomC; decide) (by decide) dX7_readSource_4 hk52 (fun M49 h => ?_)
  refine z_aload_n (r := (some h0)) hX dX7_readSource_7 rfl 0 rfl ?_
  refine z_lconst (v := (1 : Int64)) hX dX7_readSource_8 (by decide) ?_
  refine z_ldc2 (v := (4 : Int64)) hX dX7_readSource_9 kj_RX7_135 ?_
  obtain ⟨hk56, h⟩ := h
  refine z_callVI (As := [.long (1 : Int64), .long (4 : Int64)]) (rest := []) (ci := 7) hX (ct_X7_readNumber h) mw_RX7_71 rfl (by decide) rfl (by rfl) (by unfold RoomC; decide) (by decide) dX7_readSource_12 hk56 (fun r54 M55 h => ?_)
  obtain ⟨h1, h2⟩ := h
  refine z_if_ne (tgt := 20) hX dX7_readSource_15 (by decide) (fun hc => ?_) (fun hc => ?_)
  · have h := h1 hc
    refine z_aload_n (r := (some h0)) hX dX7_readSource_20 rfl 0 rfl ?_
    obtain ⟨hk58, h⟩ := h
    refine gf_RX7_62 (r := (some h0)) hX dX7_readSource_21 rfl hk58 ?_
    refine z_l2i hX dX7_readSource_24 ?_
    refine z_istore_n (i := 2) hX [(2, .int (((mJ M55 454 h0)).toInt32)), (0, va_rf (some h0)), (1, va_rf p1)] dX7_readSource_25 rfl (by rw [hnL]; decide) (by simp [cat_rf]) ?_
    refine z_ldc2 (v := (-1 : Int64)) hX dX7_readSource_26 kj_RX7_139 ?_
    refine z_lstore_n hX [(3, .long (-1 : Int64)), (2, .int (((mJ M55 454 h0)).toInt32)), (0, va_rf (some h0)), (1, va_rf p1)] dX7_readSource_29 rfl (by rw [hnL]; decide) rfl ?_
    refine z_aload_n (r := (some h0)) hX dX7_readSource_30 rfl 2 rfl ?_
    refine z_ldc2 (v := (7102823 : Int64)) hX dX7_readSource_31 kj_RX7_141 ?_
    refine z_callVI (As := [.long (7102823 : Int64)]) (rest := []) (ci := 7) hX (ct_X7_isKeyword h) mw_RX7_30 rfl (by decide) rfl (by rfl) (by unfold RoomC; decide) (by decide) dX7_readSource_34 hk58 (fun r59 M60 h => ?_)
    obtain ⟨h1, h2⟩ := h
    refine z_if_eq (tgt := 68) hX dX7_readSource_37 (by decide) (fun hc => ?_) (fun hc => ?_)
    · have h := h1 hc
      refine z_aload_n (r := (some h0)) hX dX7_readSource_68 rfl 2 rfl ?_
      refine z_ldc2 (v := (469786323827 : Int64)) hX dX7_readSource_69 kj_RX7_143 ?_
      obtain ⟨hk64, h⟩ := h
      refine z_callVI (As := [.long (469786323827 : Int64)]) (rest := []) (ci := 7) hX (ct_X7_readKeyword h) mw_RX7_145 rfl (by decide) rfl (by rfl) (by unfold RoomC; decide) (by decide) dX7_readSource_72 hk64 (fun r62 M63 h => ?_)
      obtain ⟨h1, h2⟩ := h
      refine z_if_ne (tgt := 80) hX dX7_readSource_75 (by decide) (fun hc => ?_) (fun hc => ?_)
      · have h := h1 hc
        refine z_loc [2, 3, 1, 0] rfl ?_
        refine z_widen 0 0 (by decide) (by decide) ?_
        exact zb_X7_readSource_80 hX hQ hnL h
      · have h := h2 hc
        refine z_iconst (v := (0 : Int32)) hX dX7_readSource_78 (by decide) ?_
        refine z_widen 5 24 (by decide) (by decide) ?_
        exact y_zret hX hQ dX7_readSource_79 (Or.inl rfl) h
    · have h := h2 hc
      refine z_aload_n (r := (some h0)) hX dX7_readSource_40 rfl 2 rfl ?_
      obtain ⟨hk66, h⟩ := h
      refine gf_RX7_9 (r := (some h0)) hX dX7_readSource_41 rfl hk66 ?_
      obtain ⟨a69, ha70, h⟩ := h
      obtain ⟨hk71, h⟩ := h
      refine z_callVV (As := []) (rest := []) (ci := 4) hX (ct_X4_advance h) mw_RX7_19 rfl (by decide) rfl (by rw [ha70]; rfl) (by unfold RoomC; decide) (by decide) dX7_readSource_44 hk71 (fun M68 h => ?_)
      refine z_aload_n (r := (some h0)) hX dX7_readSource_47 rfl 2 rfl ?_
      refine z_lconst (v := (0 : Int64)) hX dX7_readSource_48 (by decide) ?_
      refine z_ldc2 (v := (999999999999999999 : Int64)) hX dX7_readSource_49 kj_RX7_69 ?_
      obtain ⟨hk75, h⟩ := h
      refine z_callVI (As := [.long (0 : Int64), .long (999999999999999999 : Int64)]) (rest := []) (ci := 7) hX (ct_X7_readNumber h) mw_RX7_71 rfl (by decide) rfl (by rfl) (by unfold RoomC; decide) (by decide) dX7_readSource_52 hk75 (fun r73 M74 h => ?_)
      obtain ⟨h1, h2⟩ := h
      refine z_if_ne (tgt := 60) hX dX7_readSource_55 (by decide) (fun hc => ?_) (fun hc => ?_)
      · have h := h1 hc
        refine z_aload_n (r := (some h0)) hX dX7_readSource_60 rfl 2 rfl ?_
        obtain ⟨hk77, h⟩ := h
        refine gf_RX7_62 (r := (some h0)) hX dX7_readSource_61 rfl hk77 ?_
        refine z_lstore_n hX [(3, .long (mJ M74 454 h0)), (2, .int (((mJ M55 454 h0)).toInt32)), (0, va_rf (some h0)), (1, va_rf p1)] dX7_readSource_64 rfl (by rw [hnL]; decide) rfl ?_
        refine z_goto (tgt := 80) hX dX7_readSource_65 (by decide) ?_
        refine z_loc [2, 3, 1, 0] rfl ?_
        refine z_widen 0 0 (by decide) (by decide) ?_
        exact zb_X7_readSource_80 hX hQ hnL h
      · have h := h2 hc
        refine z_iconst (v := (0 : Int32)) hX dX7_readSource_58 (by decide) ?_
        refine z_widen 5 24 (by decide) (by decide) ?_
        exact y_zret hX hQ dX7_readSource_59 (Or.inl rfl) h
  · have h := h2 hc
    refine z_iconst (v := (0 : Int32)) hX dX7_readSource_18 (by decide) ?_
    refine z_widen 5 24 (by decide) (by decide) ?_
    exact y_zret hX hQ dX7_readSource_19 (Or.inl rfl) h
def rm_X7_readDelay : Room := { frames := 4, cells := 0, slots := 0, locals := 89 }
def bk_X7_readDelay_26 (h0 : Nat) (K : Int32 → Mm → Prop) (M : Mm) : Prop := (K (0 : Int32) M)
set_option maxRecDepth 100000 in
set_option maxHeartbeats 4000000 in
theorem zb_X7_readDelay_26 {X : Cx} {h0 : Nat} {K : Int32 → Mm → Prop} (hX : Ok X cX7_readDelay RX7 rm_X7_readDelay) (hQ : Rq X rm_X7_readDelay (some .boolean) (QI K)) (hnL : X.2.2.2.2.2.2.2.2.2.2.2.2.2.2 = 2) {M : Mm} (h : bk_X7_readDelay_26 h0 K M) : Z X M 0 0 26 [] [] := by
  unfold bk_X7_readDelay_26 at h
  refine z_iconst (v := (0 : Int32)) hX dX7_readDelay_26 (by decide) ?_
  exact y_zret hX hQ dX7_readDelay_27 (Or.inl rfl) h
def wp_X7_readDelay (M : Mm) (h0 : Nat) (p1 : Option Nat) (K : Int32 → Mm → Prop) : Prop := mK M h0 = 8 ∧ ∃ a4, (mR M 448 h0) = some a4 ∧ mK M a4 = 5 ∧ (wp_X4_advance M a4 (fun M3 => mK M3 h0 = 8 ∧ (wp_X7_readInput M3 h0 p1 (fun r8 M9 => ((r8 = 0 → (bk_X7_readDelay_26 h0 K M9)) ∧ (¬ r8 = 0 → mK M9 h0 = 8 ∧ (wp_X7_readNumber M9 h0 (0 : Int64) (999999999999999999 : Int64) (fun r12 M13 => ((¬ r12 = 0 → mK M13 h0 = 8 ∧ ∃ a17, p1 = some a17 ∧ mK M13 a17 = 7 ∧ (wp_X7_readSign (sJ M13 392 a17 (mJ M13 454 h0)) h0 (59 : Int32) (fun r21 M22 => (bz r21 ∧ K r21 M22)))) ∧ (r12 = 0 → (bk_X7_readDelay_26 h0 K M13)))))))))))
set_option maxRecDepth 100000 in
set_option maxHeartbeats 4000000 in
theorem ct_X7_readDelay {M : Mm} {h0 : Nat} {p1 : Option Nat} {K : Int32 → Mm → Prop} (h : wp_X7_readDelay M h0 p1 K) : CtI yX7_readDelay cX7_readDelay 2 (some .boolean) rm_X7_readDelay [.ref h0, va_rf p1] M K := by
  refine ct_any (QI K) (by decide) (by cases p1 <;> exact Nat.le_of_ble_eq_true rfl) (fun X hX hQ hnL hnm => ?_)
  rw [show lv_args 0 [.ref h0, va_rf p1] = [(0, va_rf (some h0)), (1, va_rf p1)] by cases p1 <;> rfl]
  have hX : Ok X cX7_readDelay RX7 rm_X7_readDelay := hX
  unfold wp_X7_readDelay at h
  refine z_aload_n (r := (some h0)) hX dX7_readDelay_0 rfl 0 rfl ?_
  obtain ⟨hk1, h⟩ := h
  refine gf_RX7_9 (r := (some h0)) hX dX7_readDelay_1 rfl hk1 ?_
  obtain ⟨a4, ha5, h⟩ := h
  obtain ⟨hk6, h⟩ := h
  refine z_callVV (As := []) (rest := []) (ci := 4) hX (ct_X4_advance h) mw_RX7_19 rfl (by decide) rfl (by rw [ha5]; rfl) (by unfold RoomC; decide) (by decide) dX7_readDelay_4 hk6 (fun M3 h => ?_)
  refine z_aload_n (r := (some h0)) hX dX7_readDelay_7 rfl 0 rfl ?_
  refine z_aload_n (r := p1) hX dX7_readDelay_8 rfl 1 rfl ?_
  obtain ⟨hk10, h⟩ := h
  refine z_callVI (As := [va_rf p1]) (rest := []) (ci := 7) hX (ct_X7_readInput h) mw_RX7_116 rfl (by decide) rfl (by rfl) (by unfold RoomC; decide) (by decide) dX7_readDelay_9 hk10 (fun r8 M9 h => ?_)
  obtain ⟨h1, h2⟩ := h
  refine z_if_eq (tgt := 26) hX dX7_readDelay_12 (by decide) (fun hc => ?_) (fun hc => ?_)
  · have h := h1 hc
    refine z_loc [] rfl ?_
    exact zb_X7_readDelay_26 hX hQ hnL h
  · have h := h2 hc
    refine z_aload_n (r := (some h0)) hX dX7_readDelay_15 rfl 0 rfl ?_
    refine z_lconst (v := (0 : Int64)) hX dX7_readDelay_16 (by decide) ?_
    refine z_ldc2 (v := (999999999999999999 : Int64)) hX dX7_readDelay_17 kj_RX7_69 ?_
    obtain ⟨hk14, h⟩ := h
    refine z_callVI (As := [.long (0 : Int64), .long (999999999999999999 : Int64)]) (rest := []) (ci := 7) hX (ct_X7_readNumber h) mw_RX7_71 rfl (by decide) rfl (by rfl) (by unfold RoomC; decide) (by decide) dX7_readDelay_20 hk14 (fun r12 M13 h => ?_)
    obtain ⟨h1, h2⟩ := h
    refine z_if_ne (tgt := 28) hX dX7_readDelay_23 (by decide) (fun hc => ?_) (fun hc => ?_)
    · have h := h1 hc
      refine z_aload_n (r := p1) hX dX7_readDelay_28 rfl 1 rfl ?_
      refine z_aload_n (r := (some h0)) hX dX7_readDelay_29 rfl 0 rfl ?_
      obtain ⟨hk16, h⟩ := h
      refine gf_RX7_62 (r := (some h0)) hX dX7_readDelay_30 rfl hk16 ?_
      obtain ⟨a17, ha18, h⟩ := h
      obtain ⟨hk19, h⟩ := h
      refine pf_RX7_161 (r := p1) (v := (mJ M13 454 h0)) hX dX7_readDelay_33 ha18 hk19 ?_
      refine z_aload_n (r := (some h0)) hX dX7_readDelay_36 rfl 0 rfl ?_
      refine z_bipush (v := (59 : Int32)) hX dX7_readDelay_37 (by decide) ?_
      refine z_callVI (As := [.int (59 : Int32)]) (rest := []) (ci := 7) hX (ct_X7_readSign h) mw_RX7_78 rfl (by decide) rfl (by rfl) (by unfold RoomC; decide) (by decide) dX7_readDelay_39 hk16 (fun r21 M22 h => ?_)
      exact y_zret hX hQ dX7_readDelay_42 h.1 h.2
    · have h := h2 hc
      refine z_loc [] rfl ?_
      exact zb_X7_readDelay_26 hX hQ hnL h
def rm_X7_readWindow : Room := { frames := 4, cells := 4, slots := 78, locals := 89 }
def bk_X7_readWindow_48 (h0 : Nat) (K : Int32 → Mm → Prop) (M : Mm) : Prop := (K (0 : Int32) M)
set_option maxRecDepth 100000 in
set_option maxHeartbeats 4000000 in
theorem zb_X7_readWindow_48 {X : Cx} {h0 : Nat} {K : Int32 → Mm → Prop} (hX : Ok X cX7_readWindow RX7 rm_X7_readWindow) (hQ : Rq X rm_X7_readWindow (some .boolean) (QI K)) (hnL : X.2.2.2.2.2.2.2.2.2.2.2.2.2.2 = 6) {M : Mm} (h : bk_X7_readWindow_48 h0 K M) : Z X M 0 0 48 [] [] := by
  unfold bk_X7_readWindow_48 at h
  refine z_iconst (v := (0 : Int32)) hX dX7_readWindow_48 (by decide) ?_
  refine z_widen 4 78 (by decide) (by decide) ?_
  exact y_zret hX hQ dX7_readWindow_49 (Or.inl rfl) h
def bk_X7_readWindow_88 (h0 : Nat) (K : Int32 → Mm → Prop) (M : Mm) : Prop := (K (0 : Int32) M)
set_option maxRecDepth 100000 in
set_option maxHeartbeats 4000000 in
theorem zb_X7_readWindow_88 {X : Cx} {h0 : Nat} {K : Int32 → Mm → Prop} (hX : Ok X cX7_readWindow RX7 rm_X7_readWindow) (hQ : Rq X rm_X7_readWindow (some .boolean) (QI K)) (hnL : X.2.2.2.2.2.2.2.2.2.2.2.2.2.2 = 6) {M : Mm} (h : bk_X7_readWindow_88 h0 K M) : Z X M 0 0 88 [] [] := by
  unfold bk_X7_readWindow_88 at h
  refine z_iconst (v := (0 : Int32)) hX dX7_readWindow_88 (by decide) ?_
  refine z_widen 4 78 (by decide) (by decide) ?_
  exact y_zret hX hQ dX7_readWindow_89 (Or.inl rfl) h
def wp_X7_readWindow (M : Mm) (h0 : Nat) (p1 : Option Nat) (K : Int32 → Mm → Prop) : Prop := mK M h0 = 8 ∧ ∃ a5, (mR (sI M 453 h0 ((mI M 453 h0) + (1 : Int32))) 448 h0) = some a5 ∧ mK (sI M 453 h0 ((mI M 453 h0) + (1 : Int32))) a5 = 5 ∧ (wp_X4_advance (sI M 453 h0 ((mI M 453 h0) + (1 : Int32))) a5 (fun M4 => mK M4 h0 = 8 ∧ (wp_X7_readInput M4 h0 p1 (fun r9 M10 => ((¬ r9 = 0 → mK M10 h0 = 8 ∧ (wp_X7_readKeyword M10 h0 (1936292453 : Int64) (fun r13 M14 => ((r13 = 0 → (bk_X7_readWindow_48 h0 K M14)) ∧ (¬ r13 = 0 → mK M14 h0 = 8 ∧ (wp_X7_readNumber M14 h0 (1 : Int64) (1000000 : Int64) (fun r17 M18 => ((¬ r17 = 0 → mK M18 h0 = 8 ∧ (wp_X7_readKeyword M18 h0 (1937007984 : Int64) (fun r22 M23 => ((r22 = 0 → (bk_X7_readWindow_88 h0 K M23)) ∧ (¬ r22 = 0 → mK M23 h0 = 8 ∧ (wp_X7_readNumber M23 h0 ((((mJ M18 454 h0) + (4 : Int64)) - (1 : Int64)) / (4 : Int64)) (mJ M18 454 h0) (fun r25 M26 => ((¬ r25 = 0 → (∀ q29, mK M26 q29 = 0 → mK (nw M26 q29 10) h0 = 8 ∧ (wp_X9_init (nw M26 q29 10) q29 (mJ M18 454 h0) (mJ (nw M26 q29 10) 454 h0) (fun M34 => ∃ a36, p1 = some a36 ∧ mK M34 a36 = 7 ∧ mK (sR M34 395 a36 (some q29)) h0 = 8 ∧ (wp_X7_readSign (sR M34 395 a36 (some q29)) h0 (59 : Int32) (fun r40 M41 => (bz r40 ∧ K r40 M41))))))) ∧ (r25 = 0 → (bk_X7_readWindow_88 h0 K M26)))))))))) ∧ (r17 = 0 → (bk_X7_readWindow_48 h0 K M18)))))))))) ∧ (r9 = 0 → (K (0 : Int32) M10)))))))
set_option maxRecDepth 100000 in
set_option maxHeartbeats 4000000 in
theorem ct_X7_readWindow {M : Mm} {h0 : Nat} {p1 : Option Nat} {K : Int32 → Mm → Prop} (h : wp_X7_readWindow M h0 p1 K) : CtI yX7_readWindow cX7_readWindow 6 (some .boolean) rm_X7_readWindow [.ref h0, va_rf p1] M K := by
  refine ct_any (QI K) (by decide) (by cases p1 <;> exact Nat.le_of_ble_eq_true rfl) (fun X hX hQ hnL hnm => ?_)
  rw [show lv_args 0 [.ref h0, va_rf p1] = [(0, va_rf (some h0)), (1, va_rf p1)] by cases p1 <;> rfl]
  have hX : Ok X cX7_readWindow RX7 rm_X7_readWindow := hX
  unfold wp_X7_readWindow at h
  refine z_aload_n (r := (some h0)) hX dX7_readWindow_0 rfl 0 rfl ?_
  refine z_dup hX dX7_readWindow_1 (cat_rf _) ?_
  obtain ⟨hk1, h⟩ := h
  refine gf_RX7_129 (r := (some h0)) hX dX7_readWindow_2 rfl hk1 ?_
  refine z_iconst (v := (1 : Int32)) hX dX7_readWindow_5 (by decide) ?_
  refine z_iadd hX dX7_readWindow_6 ?_
  refine pf_RX7_129 (r := (some h0)) (v := ((mI M 453 h0) + (1 : Int32))) hX dX7_readWindow_7 rfl hk1 ?_
  refine z_aload_n (r := (some h0)) hX dX7_readWindow_10 rfl 0 rfl ?_
  refine gf_RX7_9 (r := (some h0)) hX dX7_readWindow_11 rfl hk1 ?_
  obtain ⟨a5, ha6, h⟩ := h
  obtain ⟨hk7, h⟩ := h
  refine z_callVV (As := []) (rest := []) (ci := 4) hX (ct_X4_advance h) mw_RX7_19 rfl (by decide) rfl (by rw [ha6]; rfl) (by unfold RoomC; decide) (by decide) dX7_readWindow_14 hk7 (fun M4 h => ?_)
  refine z_aload_n (r := (some h0)) hX dX7_readWindow_17 rfl 0 rfl ?_
  refine z_aload_n (r := p1) hX dX7_readWindow_18 rfl 1 rfl ?_
  obtain ⟨hk11, h⟩ := h
  refine z_callVI (As := [va_rf p1]) (rest := []) (ci := 7) hX (ct_X7_readInput h) mw_RX7_116 rfl (by decide) rfl (by rfl) (by unfold RoomC; decide) (by decide) dX7_readWindow_19 hk11 (fun r9 M10 h => ?_)
  obtain ⟨h1, h2⟩ := h
  refine z_if_ne (tgt := 27) hX dX7_readWindow_22 (by decide) (fun hc => ?_) (fun hc => ?_)
  · have h := h1 hc
    refine z_aload_n (r := (some h0)) hX dX7_readWindow_27 rfl 0 rfl ?_
    refine z_ldc2 (v := (1936292453 : Int64)) hX dX7_readWindow_28 kj_RX7_186 ?_
    obtain ⟨hk15, h⟩ := h
    refine z_callVI (As := [.long (1936292453 : Int64)]) (rest := []) (ci := 7) hX (ct_X7_readKeyword h) mw_RX7_145 rfl (by decide) rfl (by rfl) (by unfold RoomC; decide) (by decide) dX7_readWindow_31 hk15 (fun r13 M14 h => ?_)
    obtain ⟨h1, h2⟩ := h
    refine z_if_eq (tgt := 48) hX dX7_readWindow_34 (by decide) (fun hc => ?_) (fun hc => ?_)
    · have h := h1 hc
      refine z_loc [] rfl ?_
      refine z_widen 0 0 (by decide) (by decide) ?_
      exact zb_X7_readWindow_48 hX hQ hnL h
    · have h := h2 hc
      refine z_aload_n (r := (some h0)) hX dX7_readWindow_37 rfl 0 rfl ?_
      refine z_lconst (v := (1 : Int64)) hX dX7_readWindow_38 (by decide) ?_
      refine z_ldc2 (v := (1000000 : Int64)) hX dX7_readWindow_39 kj_RX7_188 ?_
      obtain ⟨hk19, h⟩ := h
      refine z_callVI (As := [.long (1 : Int64), .long (1000000 : Int64)]) (rest := []) (ci := 7) hX (ct_X7_readNumber h) mw_RX7_71 rfl (by decide) rfl (by rfl) (by unfold RoomC; decide) (by decide) dX7_readWindow_42 hk19 (fun r17 M18 h => ?_)
      obtain ⟨h1, h2⟩ := h
      refine z_if_ne (tgt := 50) hX dX7_readWindow_45 (by decide) (fun hc => ?_) (fun hc => ?_)
      · have h := h1 hc
        refine z_aload_n (r := (some h0)) hX dX7_readWindow_50 rfl 0 rfl ?_
        obtain ⟨hk21, h⟩ := h
        refine gf_RX7_62 (r := (some h0)) hX dX7_readWindow_51 rfl hk21 ?_
        refine z_lstore_n (i := 2) hX [(2, .long (mJ M18 454 h0)), (0, va_rf (some h0)), (1, va_rf p1)] dX7_readWindow_54 rfl (by rw [hnL]; decide) (by simp [cat_rf]) ?_
        refine z_lload_n hX dX7_readWindow_55 rfl 0 rfl ?_
        refine z_ldc2 (v := (4 : Int64)) hX dX7_readWindow_56 kj_RX7_135 ?_
        refine z_ladd hX dX7_readWindow_59 ?_
        refine z_lconst (v := (1 : Int64)) hX dX7_readWindow_60 (by decide) ?_
        refine z_lsub hX dX7_readWindow_61 ?_
        refine z_ldc2 (v := (4 : Int64)) hX dX7_readWindow_62 kj_RX7_135 ?_
        refine z_ldiv hX dX7_readWindow_65 (by decide) ?_
        refine z_lstore hX [(4, .long ((((mJ M18 454 h0) + (4 : Int64)) - (1 : Int64)) / (4 : Int64))), (2, .long (mJ M18 454 h0)), (0, va_rf (some h0)), (1, va_rf p1)] dX7_readWindow_66 (by rw [hnL]; decide) rfl ?_
        refine z_aload_n (r := (some h0)) hX dX7_readWindow_68 rfl 2 rfl ?_
        refine z_ldc2 (v := (1937007984 : Int64)) hX dX7_readWindow_69 kj_RX7_190 ?_
        refine z_callVI (As := [.long (1937007984 : Int64)]) (rest := []) (ci := 7) hX (ct_X7_readKeyword h) mw_RX7_145 rfl (by decide) rfl (by rfl) (by unfold RoomC; decide) (by decide) dX7_readWindow_72 hk21 (fun r22 M23 h => ?_)
        obtain ⟨h1, h2⟩ := h
        refine z_if_eq (tgt := 88) hX dX7_readWindow_75 (by decide) (fun hc => ?_) (fun hc => ?_)
        · have h := h1 hc
          refine z_loc [] rfl ?_
          refine z_widen 0 0 (by decide) (by decide) ?_
          exact zb_X7_readWindow_88 hX hQ hnL h
        · have h := h2 hc
          refine z_aload_n (r := (some h0)) hX dX7_readWindow_78 rfl 2 rfl ?_
          refine z_lload hX dX7_readWindow_79 0 rfl ?_
          refine z_lload_n hX dX7_readWindow_81 rfl 1 rfl ?_
          obtain ⟨hk27, h⟩ := h
          refine z_callVI (As := [.long ((((mJ M18 454 h0) + (4 : Int64)) - (1 : Int64)) / (4 : Int64)), .long (mJ M18 454 h0)]) (rest := []) (ci := 7) hX (ct_X7_readNumber h) mw_RX7_71 rfl (by decide) rfl (by rfl) (by unfold RoomC; decide) (by decide) dX7_readWindow_82 hk27 (fun r25 M26 h => ?_)
          obtain ⟨h1, h2⟩ := h
          refine z_if_ne (tgt := 90) hX dX7_readWindow_85 (by decide) (fun hc => ?_) (fun hc => ?_)
          · have h := h1 hc
            refine z_aload_n (r := p1) hX dX7_readWindow_90 rfl 3 rfl ?_
            refine nq_RX7_192 hX dX7_readWindow_91 (by decide) (by decide) (fun q29 hq30 => ?_)
            have h := h q29 hq30
            refine z_dup hX dX7_readWindow_94 (cat_rf _) ?_
            refine z_lload_n hX dX7_readWindow_95 rfl 1 rfl ?_
            refine z_aload_n (r := (some h0)) hX dX7_readWindow_96 rfl 2 rfl ?_
            obtain ⟨hk32, h⟩ := h
            refine gf_RX7_62 (r := (some h0)) hX dX7_readWindow_97 rfl hk32 ?_
            refine z_callIV (As := [.long (mJ M18 454 h0), .long (mJ (nw M26 q29 10) 454 h0)]) (rest := [va_rf (some q29), va_rf p1]) hX (ct_X9_init h) mw_RX7_194 rfl (by rfl) (by unfold RoomC; decide) (by simp only [List.map_cons, List.map_nil, List.sum_cons, List.sum_nil, cat_rf, cat_i, cat_j]; decide) dX7_readWindow_100 (fun M34 h => ?_)
            obtain ⟨a36, ha37, h⟩ := h
            obtain ⟨hk38, h⟩ := h
            refine pf_RX7_197 (r := p1) (v := (some q29)) hX dX7_readWindow_103 ha37 hk38 ?_
            refine z_aload_n (r := (some h0)) hX dX7_readWindow_106 rfl 2 rfl ?_
            refine z_bipush (v := (59 : Int32)) hX dX7_readWindow_107 (by decide) ?_
            obtain ⟨hk42, h⟩ := h
            refine z_callVI (As := [.int (59 : Int32)]) (rest := []) (ci := 7) hX (ct_X7_readSign h) mw_RX7_78 rfl (by decide) rfl (by rfl) (by unfold RoomC; decide) (by decide) dX7_readWindow_109 hk42 (fun r40 M41 h => ?_)
            refine z_widen 4 78 (by decide) (by decide) ?_
            exact y_zret hX hQ dX7_readWindow_112 h.1 h.2
          · have h := h2 hc
            refine z_loc [] rfl ?_
            refine z_widen 0 0 (by decide) (by decide) ?_
            exact zb_X7_readWindow_88 hX hQ hnL h
      · have h := h2 hc
        refine z_loc [] rfl ?_
        refine z_widen 0 0 (by decide) (by decide) ?_
        exact zb_X7_readWindow_48 hX hQ hnL h
  · have h := h2 hc
    refine z_iconst (v := (0 : Int32)) hX dX7_readWindow_25 (by decide) ?_
    refine z_widen 4 78 (by decide) (by decide) ?_
    exact y_zret hX hQ dX7_readWindow_26 (Or.inl rfl) h
def rm_X1_takeRow : Room := { frames := 309, cells := 0, slots := 0, locals := 12210 }
def bk_X1_takeRow_37 (h0 : Nat) (K : Int32 → Mm → Prop) (l1 : Option Nat) (l3 : Int64) (l5 : Int32) (M : Mm) : Prop := mK M h0 = 2 ∧ ∃ a2, l1 = some a2 ∧ mK M a2 = 7 ∧ ∃ a7, (mR M 65 h0) = some a7 ∧ mK M a7 = 4 ∧ (wp_X3_note M a7 (mI M 384 a2) l3 l5 (1 : Int32) (fun M6 => (K (0 : Int32) M6)))
set_option maxRecDepth 100000 in
set_option maxHeartbeats 4000000 in
theorem zb_X1_takeRow_37 {X : Cx} {h0 : Nat} {K : Int32 → Mm → Prop} (hX : Ok X cX1_takeRow RX1 rm_X1_takeRow) (hQ : Rq X rm_X1_takeRow (some .int) (QI K)) (hnL : X.2.2.2.2.2.2.2.2.2.2.2.2.2.2 = 7) {l1 : Option Nat} {l3 : Int64} {l5 : Int32} {M : Mm} (h : bk_X1_takeRow_37 h0 K l1 l3 l5 M) : Z X M 0 0 37 [(0, va_rf (some h0)), (1, va_rf l1), (3, .long l3), (5, .int l5)] [] := by
  unfold bk_X1_takeRow_37 at h
  refine z_aload_n (r := (some h0)) hX dX1_takeRow_37 rfl 0 rfl ?_
  obtain ⟨hk1, h⟩ := h
  refine gf_RX1_15 (r := (some h0)) hX dX1_takeRow_38 rfl hk1 ?_
  refine z_aload_n (r := l1) hX dX1_takeRow_41 rfl 1 rfl ?_
  obtain ⟨a2, ha3, h⟩ := h
  obtain ⟨hk4, h⟩ := h
  refine gf_RX1_101 (r := l1) hX dX1_takeRow_42 ha3 hk4 ?_
  refine z_lload_n hX dX1_takeRow_45 rfl 2 rfl ?_
  refine z_iload hX dX1_takeRow_46 3 rfl ?_
  refine z_iconst (v := (1 : Int32)) hX dX1_takeRow_48 (by decide) ?_
  obtain ⟨a7, ha8, h⟩ := h
  obtain ⟨hk9, h⟩ := h
  refine z_callVV (As := [.int (mI M 384 a2), .long l3, .int l5, .int (1 : Int32)]) (rest := []) (ci := 3) hX (ct_X3_note h) mw_RX1_104 rfl (by decide) rfl (by rw [ha8]; rfl) (by unfold RoomC; decide) (by decide) dX1_takeRow_49 hk9 (fun M6 h => ?_)
  refine z_iconst (v := (0 : Int32)) hX dX1_takeRow_52 (by decide) ?_
  exact z_iret hX hQ dX1_takeRow_53 h
def bk_X1_takeRow_95 (h0 : Nat) (K : Int32 → Mm → Prop) (M : Mm) : Prop := (K (1 : Int32) M)
set_option maxRecDepth 100000 in
set_option maxHeartbeats 4000000 in
theorem zb_X1_takeRow_95 {X : Cx} {h0 : Nat} {K : Int32 → Mm → Prop} (hX : Ok X cX1_takeRow RX1 rm_X1_takeRow) (hQ : Rq X rm_X1_takeRow (some .int) (QI K)) (hnL : X.2.2.2.2.2.2.2.2.2.2.2.2.2.2 = 7) {M : Mm} (h : bk_X1_takeRow_95 h0 K M) : Z X M 0 0 95 [] [] := by
  unfold bk_X1_takeRow_95 at h
  refine z_iconst (v := (1 : Int32)) hX dX1_takeRow_95 (by decide) ?_
  exact z_iret hX hQ dX1_takeRow_96 h
def wp_X1_takeRow (M : Mm) (h0 : Nat) (p1 : Option Nat) (p2 : Int32) (p3 : Int64) (p4 : Int32) (K : Int32 → Mm → Prop) : Prop := ∃ a11, p1 = some a11 ∧ mK M a11 = 7 ∧ mK M h0 = 2 ∧ ∃ a17, (mR M 393 a11) = some a17 ∧ mK M a17 = 6 ∧ (wp_X5_hear M a17 p2 (mI M 70 h0) (fun M16 => mK M16 a17 = 6 ∧ ∃ a22, (mR M16 325 a17) = some a22 ∧ isA M16 a22 2 ∧ vp_in p2 (aN M16 a22) ∧ ((p3 ≤ (aJ M16 a22 (p2).toNatClampNeg) → (bk_X1_takeRow_37 h0 K p1 p3 p4 M16)) ∧ (¬ p3 ≤ (aJ M16 a22 (p2).toNatClampNeg) → mK M16 a11 = 7 ∧ (((mJ M16 390 a11) < p3 → mK M16 h0 = 2 ∧ (wp_X1_passOn 30 M16 h0 p1 p3 p4 (1 : Int32) (0 : Int32) (fun M28 => mK M28 a17 = 6 ∧ (((mJ M28 321 a17) = (-1 : Int64) → (bk_X1_takeRow_95 h0 K M28)) ∧ (¬ (mJ M28 321 a17) = (-1 : Int64) → (wp_X10_together M28 p3 ((-(mJ M28 321 a17)) - (1 : Int64)) (fun r32 M33 => mK M33 a17 = 6 ∧ (wp_X5_raise M33 a17 p2 r32 (fun r35 M36 => (bk_X1_takeRow_95 h0 K M36)))))))))) ∧ (¬ (mJ M16 390 a11) < p3 → (bk_X1_takeRow_37 h0 K p1 p3 p4 M16)))))))
set_option maxRecDepth 100000 in
set_option maxHeartbeats 4000000 in
theorem ct_X1_takeRow {M : Mm} {h0 : Nat} {p1 : Option Nat} {p2 : Int32} {p3 : Int64} {p4 : Int32} {K : Int32 → Mm → Prop} (h : wp_X1_takeRow M h0 p1 p2 p3 p4 K) : CtI yX1_takeRow cX1_takeRow 7 (some .int) rm_X1_takeRow [.ref h0, va_rf p1, .int p2, .long p3, .int p4] M K := by
  refine ct_any (QI K) (by decide) (by cases p1 <;> exact Nat.le_of_ble_eq_true rfl) (fun X hX hQ hnL hnm => ?_)
  rw [show lv_args 0 [.ref h0, va_rf p1, .int p2, .long p3, .int p4] = [(0, va_rf (some h0)), (1, va_rf p1), (2, .int p2), (3, .long p3), (5, .int p4)] by cases p1 <;> rfl]
  have hX : Ok X cX1_takeRow RX1 rm_X1_takeRow := hX
  unfold wp_X1_takeRow at h
  refine z_aload_n (r := p1) hX dX1_takeRow_0 rfl 1 rfl ?_
  obtain ⟨a11, ha12, h⟩ := h
  obtain ⟨hk13, h⟩ := h
  refine gf_RX1_60 (r := p1) hX dX1_takeRow_1 ha12 hk13 ?_
  refine z_astore (r := (mR M 393 a11)) hX [(6, va_rf (mR M 393 a11)), (0, va_rf (some h0)), (1, va_rf p1), (2, .int p2), (3, .long p3), (5, .int p4)] dX1_takeRow_4 (by rw [hnL]; decide) rfl ?_
  refine z_aload (r := (mR M 393 a11)) hX dX1_takeRow_6 0 rfl ?_
  refine z_iload_n hX dX1_takeRow_8 rfl 3 rfl ?_
  refine z_aload_n (r := (some h0)) hX dX1_takeRow_9 rfl 1 rfl ?_
  obtain ⟨hk14, h⟩ := h
  refine gf_RX1_91 (r := (some h0)) hX dX1_takeRow_10 rfl hk14 ?_
  obtain ⟨a17, ha18, h⟩ := h
  obtain ⟨hk19, h⟩ := h
  refine z_callVV (As := [.int p2, .int (mI M 70 h0)]) (rest := []) (ci := 5) hX (ct_X5_hear h) mw_RX1_94 rfl (by decide) rfl (by rw [ha18]; rfl) (by unfold RoomC; decide) (by decide) dX1_takeRow_13 hk19 (fun M16 h => ?_)
  refine z_lload_n hX dX1_takeRow_16 rfl 4 rfl ?_
  refine z_aload (r := (mR M 393 a11)) hX dX1_takeRow_17 0 rfl ?_
  obtain ⟨hk21, h⟩ := h
  refine gf_RX1_74 (r := (mR M 393 a11)) hX dX1_takeRow_19 ha18 hk21 ?_
  refine z_iload_n hX dX1_takeRow_22 rfl 3 rfl ?_
  obtain ⟨a22, ha23, h⟩ := h
  obtain ⟨hk24, h⟩ := h
  obtain ⟨hc25, h⟩ := h
  refine y_lald (r := (mR M16 325 a17)) hX dX1_takeRow_23 ha23 hk24 hc25 ?_
  refine z_lcmp hX dX1_takeRow_24 ?_
  obtain ⟨h1, h2⟩ := h
  refine z_if_le (tgt := 37) hX dX1_takeRow_25 (by decide) (fun hc => ?_) (fun hc => ?_)
  · have h := h1 ((lg_cmp_le _ _).mp hc)
    refine z_loc [1, 2, 4, 5] rfl ?_
    exact zb_X1_takeRow_37 hX hQ hnL h
  · have h := h2 (fun q => hc ((lg_cmp_le _ _).mpr q))
    refine z_lload_n hX dX1_takeRow_28 rfl 4 rfl ?_
    refine z_aload_n (r := p1) hX dX1_takeRow_29 rfl 2 rfl ?_
    obtain ⟨hk26, h⟩ := h
    refine gf_RX1_98 (r := p1) hX dX1_takeRow_30 ha12 hk26 ?_
    refine z_lcmp hX dX1_takeRow_33 ?_
    obtain ⟨h1, h2⟩ := h
    refine z_if_gt (tgt := 54) hX dX1_takeRow_34 (by decide) (fun hc => ?_) (fun hc => ?_)
    · have h := h1 ((lg_cmp_gt _ _).mp hc)
      refine z_aload_n (r := (some h0)) hX dX1_takeRow_54 rfl 1 rfl ?_
      refine z_aload_n (r := p1) hX dX1_takeRow_55 rfl 2 rfl ?_
      refine z_lload_n hX dX1_takeRow_56 rfl 4 rfl ?_
      refine z_iload hX dX1_takeRow_57 5 rfl ?_
      refine z_iconst (v := (1 : Int32)) hX dX1_takeRow_59 (by decide) ?_
      refine z_iconst (v := (0 : Int32)) hX dX1_takeRow_60 (by decide) ?_
      obtain ⟨hk29, h⟩ := h
      refine z_callVV (As := [va_rf p1, .long p3, .int p4, .int (1 : Int32), .int (0 : Int32)]) (rest := []) (ci := 1) hX (ct_X1_passOn 30 h) mw_RX1_110 rfl (by decide) rfl (by rfl) (by unfold RoomC; decide) (by decide) dX1_takeRow_61 hk29 (fun M28 h => ?_)
      refine z_aload (r := (mR M 393 a11)) hX dX1_takeRow_64 0 rfl ?_
      obtain ⟨hk31, h⟩ := h
      refine gf_RX1_114 (r := (mR M 393 a11)) hX dX1_takeRow_66 ha18 hk31 ?_
      refine z_ldc2 (v := (-1 : Int64)) hX dX1_takeRow_69 kj_RX1_28 ?_
      refine z_lcmp hX dX1_takeRow_72 ?_
      obtain ⟨h1, h2⟩ := h
      refine z_if_eq (tgt := 95) hX dX1_takeRow_73 (by decide) (fun hc => ?_) (fun hc => ?_)
      · have h := h1 ((lg_cmp_eq _ _).mp hc)
        refine z_loc [] rfl ?_
        exact zb_X1_takeRow_95 hX hQ hnL h
      · have h := h2 (fun q => hc ((lg_cmp_eq _ _).mpr q))
        refine z_aload (r := (mR M 393 a11)) hX dX1_takeRow_76 0 rfl ?_
        refine z_iload_n hX dX1_takeRow_78 rfl 3 rfl ?_
        refine z_lload_n hX dX1_takeRow_79 rfl 4 rfl ?_
        refine z_aload (r := (mR M 393 a11)) hX dX1_takeRow_80 0 rfl ?_
        refine gf_RX1_114 (r := (mR M 393 a11)) hX dX1_takeRow_82 ha18 hk31 ?_
        refine z_lneg hX dX1_takeRow_85 ?_
        refine z_lconst (v := (1 : Int64)) hX dX1_takeRow_86 (by decide) ?_
        refine z_lsub hX dX1_takeRow_87 ?_
        refine z_callNJ (As := [.long p3, .long ((-(mJ M28 321 a17)) - (1 : Int64))]) (rest := [.int p2, va_rf (mR M 393 a11)]) hX (ct_X10_together h) mw_RX1_77 rfl (by rfl) (by unfold RoomC; decide) (by simp only [List.map_cons, List.map_nil, List.sum_cons, List.sum_nil, cat_rf, cat_i, cat_j]; decide) dX1_takeRow_88 (fun r32 M33 h => ?_)
        obtain ⟨hk37, h⟩ := h
        refine z_callVI (As := [.int p2, .long r32]) (rest := []) (ci := 5) hX (ct_X5_raise h) mw_RX1_117 rfl (by decide) rfl (by rw [ha18]; rfl) (by unfold RoomC; decide) (by decide) dX1_takeRow_91 hk37 (fun r35 M36 h => ?_)
        refine z_pop hX dX1_takeRow_94 rfl ?_
        refine z_loc [] rfl ?_
        exact zb_X1_takeRow_95 hX hQ hnL h
    · have h := h2 (fun q => hc ((lg_cmp_gt _ _).mpr q))
      refine z_loc [1, 2, 4, 5] rfl ?_
      exact zb_X1_takeRow_37 hX hQ hnL h
def rm_X1_emit : Room := { frames := 309, cells := 0, slots := 0, locals := 12210 }
def wp_X1_emit (M : Mm) (h0 : Nat) (p1 : Int32) (p2 : Int32) (K : Mm → Prop) : Prop := mK M h0 = 2 ∧ ∃ a2, (mR M 68 h0) = some a2 ∧ mK M a2 = 9 ∧ ∃ a5, (mR M 512 a2) = some a5 ∧ isA M a5 1 ∧ vp_in p1 (aN M a5) ∧ ∃ a9, (mR M 66 h0) = some a9 ∧ isA M a9 4 ∧ vp_in (aI M a5 (p1).toNatClampNeg) (aN M a9) ∧ ∃ a13, (mR M 513 a2) = some a13 ∧ isA M a13 2 ∧ vp_in p1 (aN M a13) ∧ (wp_X1_passOn 30 M h0 (aR M a9 ((aI M a5 (p1).toNatClampNeg)).toNatClampNeg) (aJ M a13 (p1).toNatClampNeg) p2 (1 : Int32) (0 : Int32) (fun M18 => (K M18)))
set_option maxRecDepth 100000 in
set_option maxHeartbeats 4000000 in
theorem ct_X1_emit {M : Mm} {h0 : Nat} {p1 : Int32} {p2 : Int32} {K : Mm → Prop} (h : wp_X1_emit M h0 p1 p2 K) : CtV yX1_emit cX1_emit 3 none rm_X1_emit [.ref h0, .int p1, .int p2] M K := by
  refine ct_any (QV K) (by decide) (by exact Nat.le_of_ble_eq_true rfl) (fun X hX hQ hnL hnm => ?_)
  rw [show lv_args 0 [.ref h0, .int p1, .int p2] = [(0, va_rf (some h0)), (1, .int p1), (2, .int p2)] by rfl]
  have hX : Ok X cX1_emit RX1 rm_X1_emit := hX
  unfold wp_X1_emit at h
  refine z_aload_n (r := (some h0)) hX dX1_emit_0 rfl 0 rfl ?_
  refine z_aload_n (r := (some h0)) hX dX1_emit_1 rfl 0 rfl ?_
  obtain ⟨hk1, h⟩ := h
  refine gf_RX1_20 (r := (some h0)) hX dX1_emit_2 rfl hk1 ?_
  refine z_aload_n (r := (some h0)) hX dX1_emit_5 rfl 0 rfl ?_
  refine gf_RX1_33 (r := (some h0)) hX dX1_emit_6 rfl hk1 ?_
  obtain ⟨a2, ha3, h⟩ := h
  obtain ⟨hk4, h⟩ := h
  refine gf_RX1_129 (r := (mR M 68 h0)) hX dX1_emit_9 ha3 hk4 ?_
  refine z_iload_n hX dX1_emit_12 rfl 1 rfl ?_
  obtain ⟨a5, ha6, h⟩ := h
  obtain ⟨hk7, h⟩ := h
  obtain ⟨hc8, h⟩ := h
  refine y_iald (r := (mR M 512 a2)) hX dX1_emit_13 ha6 hk7 hc8 ?_
  obtain ⟨a9, ha10, h⟩ := h
  obtain ⟨hk11, h⟩ := h
  obtain ⟨hc12, h⟩ := h
  refine y_aldq (r := (mR M 66 h0)) hX dX1_emit_14 ha10 hk11 hc12 ?_
  refine z_aload_n (r := (some h0)) hX dX1_emit_15 rfl 0 rfl ?_
  refine gf_RX1_33 (r := (some h0)) hX dX1_emit_16 rfl hk1 ?_
  refine gf_RX1_132 (r := (mR M 68 h0)) hX dX1_emit_19 ha3 hk4 ?_
  refine z_iload_n hX dX1_emit_22 rfl 1 rfl ?_
  obtain ⟨a13, ha14, h⟩ := h
  obtain ⟨hk15, h⟩ := h
  obtain ⟨hc16, h⟩ := h
  refine y_lald (r := (mR M 513 a2)) hX dX1_emit_23 ha14 hk15 hc16 ?_
  refine z_iload_n hX dX1_emit_24 rfl 2 rfl ?_
  refine z_iconst (v := (1 : Int32)) hX dX1_emit_25 (by decide) ?_
  refine z_iconst (v := (0 : Int32)) hX dX1_emit_26 (by decide) ?_
  refine z_callVV (As := [va_rf (aR M a9 ((aI M a5 (p1).toNatClampNeg)).toNatClampNeg), .long (aJ M a13 (p1).toNatClampNeg), .int p2, .int (1 : Int32), .int (0 : Int32)]) (rest := []) (ci := 1) hX (ct_X1_passOn 30 h) mw_RX1_110 rfl (by decide) rfl (by rfl) (by unfold RoomC; decide) (by decide) dX1_emit_27 hk1 (fun M18 h => ?_)
  exact z_vret hX hQ dX1_emit_30 h
def rm_X1_reckon : Room := { frames := 310, cells := 0, slots := 0, locals := 12237 }
def bk_X1_reckon_80 (h0 : Nat) (R2 : Int32 → Mm → Prop) (K : Mm → Prop) (l1 : Int32) (M : Mm) : Prop := (R2 (l1 + 1) M)
set_option maxRecDepth 100000 in
set_option maxHeartbeats 4000000 in
theorem zb_X1_reckon_80 {X : Cx} {h0 : Nat} {R2 : Int32 → Mm → Prop} {K : Mm → Prop} (hX : Ok X cX1_reckon RX1 rm_X1_reckon) (hQ : Rq X rm_X1_reckon none (QV K)) (hnL : X.2.2.2.2.2.2.2.2.2.2.2.2.2.2 = 5) (hR2 : ∀ l1 M, R2 l1 M → Z X M 0 0 2 [(0, va_rf (some h0)), (1, .int l1)] []) {l1 : Int32} {M : Mm} (h : bk_X1_reckon_80 h0 R2 K l1 M) : Z X M 0 0 80 [(0, va_rf (some h0)), (1, .int l1)] [] := by
  unfold bk_X1_reckon_80 at h
  refine z_iinc (v := (l1 + 1)) hX [(1, .int (l1 + 1)), (0, va_rf (some h0))] dX1_reckon_80 1 rfl rfl (by rw [hnL]; decide) rfl ?_
  refine z_goto (tgt := 2) hX dX1_reckon_83 (by decide) ?_
  refine z_loc [1, 0] rfl ?_
  exact hR2 _ _ h
def bk_X1_reckon_66 (h0 : Nat) (R2 : Int32 → Mm → Prop) (K : Mm → Prop) (l1 : Int32) (l2 : Option Nat) (M : Mm) : Prop := ∃ a1, l2 = some a1 ∧ mK M a1 = 7 ∧ (((mR M 394 a1) = none → (bk_X1_reckon_80 h0 R2 K l1 M)) ∧ (∀ a4, (mR M 394 a1) = some a4 → mK M a4 = 3 ∧ (wp_X2_dropFar M a4 (fun M7 => (bk_X1_reckon_80 h0 R2 K l1 M7)))))
set_option maxRecDepth 100000 in
set_option maxHeartbeats 4000000 in
theorem zb_X1_reckon_66 {X : Cx} {h0 : Nat} {R2 : Int32 → Mm → Prop} {K : Mm → Prop} (hX : Ok X cX1_reckon RX1 rm_X1_reckon) (hQ : Rq X rm_X1_reckon none (QV K)) (hnL : X.2.2.2.2.2.2.2.2.2.2.2.2.2.2 = 5) (hR2 : ∀ l1 M, R2 l1 M → Z X M 0 0 2 [(0, va_rf (some h0)), (1, .int l1)] []) {l1 : Int32} {l2 : Option Nat} {M : Mm} (h : bk_X1_reckon_66 h0 R2 K l1 l2 M) : Z X M 0 0 66 [(0, va_rf (some h0)), (1, .int l1), (2, va_rf l2)] [] := by
  unfold bk_X1_reckon_66 at h
  refine z_aload_n (r := l2) hX dX1_reckon_66 rfl 2 rfl ?_
  obtain ⟨a1, ha2, h⟩ := h
  obtain ⟨hk3, h⟩ := h
  refine gf_RX1_155 (r := l2) hX dX1_reckon_67 ha2 hk3 ?_
  obtain ⟨h1, h2⟩ := h
  refine z_ifnull (r := (mR M 394 a1)) (tgt := 80) hX dX1_reckon_70 (by decide) (fun hc => ?_) (fun a4 ha5 => ?_)
  · have h := h1 hc
    refine z_loc [0, 1] rfl ?_
    exact zb_X1_reckon_80 hX hQ hnL hR2 h
  · have h := h2 a4 ha5
    refine z_aload_n (r := l2) hX dX1_reckon_73 rfl 2 rfl ?_
    refine gf_RX1_155 (r := l2) hX dX1_reckon_74 ha2 hk3 ?_
    obtain ⟨hk8, h⟩ := h
    refine z_callVV (As := []) (rest := []) (ci := 2) hX (ct_X2_dropFar h) mw_RX1_206 rfl (by decide) rfl (by rw [ha5]; rfl) (by unfold RoomC; decide) (by decide) dX1_reckon_77 hk8 (fun M7 h => ?_)
    refine z_loc [0, 1] rfl ?_
    exact zb_X1_reckon_80 hX hQ hnL hR2 h
def bk_X1_reckon_54 (h0 : Nat) (R2 : Int32 → Mm → Prop) (K : Mm → Prop) (l1 : Int32) (l2 : Option Nat) (M : Mm) : Prop := ∃ a10, l2 = some a10 ∧ mK M a10 = 7 ∧ (((mR M 395 a10) = none → (bk_X1_reckon_66 h0 R2 K l1 l2 M)) ∧ (∀ a13, (mR M 395 a10) = some a13 → mK M h0 = 2 ∧ (wp_X1_closeSums M h0 l2 (fun M16 => (bk_X1_reckon_66 h0 R2 K l1 l2 M16)))))
set_option maxRecDepth 100000 in
set_option maxHeartbeats 4000000 in
theorem zb_X1_reckon_54 {X : Cx} {h0 : Nat} {R2 : Int32 → Mm → Prop} {K : Mm → Prop} (hX : Ok X cX1_reckon RX1 rm_X1_reckon) (hQ : Rq X rm_X1_reckon none (QV K)) (hnL : X.2.2.2.2.2.2.2.2.2.2.2.2.2.2 = 5) (hR2 : ∀ l1 M, R2 l1 M → Z X M 0 0 2 [(0, va_rf (some h0)), (1, .int l1)] []) {l1 : Int32} {l2 : Option Nat} {M : Mm} (h : bk_X1_reckon_54 h0 R2 K l1 l2 M) : Z X M 0 0 54 [(0, va_rf (some h0)), (1, .int l1), (2, va_rf l2)] [] := by
  unfold bk_X1_reckon_54 at h
  refine z_aload_n (r := l2) hX dX1_reckon_54 rfl 2 rfl ?_
  obtain ⟨a10, ha11, h⟩ := h
  obtain ⟨hk12, h⟩ := h
  refine gf_RX1_142 (r := l2) hX dX1_reckon_55 ha11 hk12 ?_
  obtain ⟨h1, h2⟩ := h
  refine z_ifnull (r := (mR M 395 a10)) (tgt := 66) hX dX1_reckon_58 (by decide) (fun hc => ?_) (fun a13 ha14 => ?_)
  · have h := h1 hc
    exact zb_X1_reckon_66 hX hQ hnL hR2 h
  · have h := h2 a13 ha14
    refine z_aload_n (r := (some h0)) hX dX1_reckon_61 rfl 0 rfl ?_
    refine z_aload_n (r := l2) hX dX1_reckon_62 rfl 2 rfl ?_
    obtain ⟨hk17, h⟩ := h
    refine z_callVV (As := [va_rf l2]) (rest := []) (ci := 1) hX (ct_X1_closeSums h) mw_RX1_202 rfl (by decide) rfl (by rfl) (by unfold RoomC; decide) (by decide) dX1_reckon_63 hk17 (fun M16 h => ?_)
    exact zb_X1_reckon_66 hX hQ hnL hR2 h
def bk_X1_reckon_37 (h0 : Nat) (R2 : Int32 → Mm → Prop) (K : Mm → Prop) (l1 : Int32) (l2 : Option Nat) (l3 : Int64) (s0 : Int32) (s1 : Option Nat) (M : Mm) : Prop := ∃ a19, s1 = some a19 ∧ mK M a19 = 7 ∧ bz s0 ∧ ∃ a24, l2 = some a24 ∧ mK (sI M 391 a19 s0) a24 = 7 ∧ ((l3 ≤ (mJ (sI M 391 a19 s0) 390 a24) → (bk_X1_reckon_54 h0 R2 K l1 l2 (sI M 391 a19 s0))) ∧ (¬ l3 ≤ (mJ (sI M 391 a19 s0) 390 a24) → (bk_X1_reckon_54 h0 R2 K l1 l2 (sJ (sI M 391 a19 s0) 390 a24 l3))))
set_option maxRecDepth 100000 in
set_option maxHeartbeats 4000000 in
theorem zb_X1_reckon_37 {X : Cx} {h0 : Nat} {R2 : Int32 → Mm → Prop} {K : Mm → Prop} (hX : Ok X cX1_reckon RX1 rm_X1_reckon) (hQ : Rq X rm_X1_reckon none (QV K)) (hnL : X.2.2.2.2.2.2.2.2.2.2.2.2.2.2 = 5) (hR2 : ∀ l1 M, R2 l1 M → Z X M 0 0 2 [(0, va_rf (some h0)), (1, .int l1)] []) {l1 : Int32} {l2 : Option Nat} {l3 : Int64} {s0 : Int32} {s1 : Option Nat} {M : Mm} (h : bk_X1_reckon_37 h0 R2 K l1 l2 l3 s0 s1 M) : Z X M 0 0 37 [(0, va_rf (some h0)), (1, .int l1), (2, va_rf l2), (3, .long l3)] [.int s0, va_rf s1] := by
  unfold bk_X1_reckon_37 at h
  obtain ⟨a19, ha20, h⟩ := h
  obtain ⟨hk21, h⟩ := h
  obtain ⟨hc22, h⟩ := h
  refine pf_RX1_198 (r := s1) (v := s0) hX dX1_reckon_37 ha20 hc22 hk21 ?_
  refine z_lload_n hX dX1_reckon_40 rfl 3 rfl ?_
  refine z_aload_n (r := l2) hX dX1_reckon_41 rfl 2 rfl ?_
  obtain ⟨a24, ha25, h⟩ := h
  obtain ⟨hk26, h⟩ := h
  refine gf_RX1_98 (r := l2) hX dX1_reckon_42 ha25 hk26 ?_
  refine z_lcmp hX dX1_reckon_45 ?_
  obtain ⟨h1, h2⟩ := h
  refine z_if_le (tgt := 54) hX dX1_reckon_46 (by decide) (fun hc => ?_) (fun hc => ?_)
  · have h := h1 ((lg_cmp_le _ _).mp hc)
    refine z_loc [0, 1, 2] rfl ?_
    exact zb_X1_reckon_54 hX hQ hnL hR2 h
  · have h := h2 (fun q => hc ((lg_cmp_le _ _).mpr q))
    refine z_aload_n (r := l2) hX dX1_reckon_49 rfl 2 rfl ?_
    refine z_lload_n hX dX1_reckon_50 rfl 3 rfl ?_
    refine pf_RX1_98 (r := l2) (v := l3) hX dX1_reckon_51 ha25 hk26 ?_
    refine z_loc [0, 1, 2] rfl ?_
    exact zb_X1_reckon_54 hX hQ hnL hR2 h
def lp_X1_reckon_2 (h0 : Nat) (K : Mm → Prop) : Nat → Int32 → Mm → Prop
  | 0, _, _ => False
  | n + 1, l1, M => mK M h0 = 2 ∧ (((mI M 69 h0) ≤ l1 → (K M)) ∧ (¬ (mI M 69 h0) ≤ l1 → ∃ a29, (mR M 66 h0) = some a29 ∧ isA M a29 4 ∧ vp_in l1 (aN M a29) ∧ (wp_X1_goalOf M h0 (aR M a29 (l1).toNatClampNeg) (fun r33 M34 => ((¬ r33 = (-9000000000000000001 : Int64) → (bk_X1_reckon_37 h0 (lp_X1_reckon_2 h0 K n) K l1 (aR M a29 (l1).toNatClampNeg) r33 (0 : Int32) (aR M a29 (l1).toNatClampNeg) M34)) ∧ (r33 = (-9000000000000000001 : Int64) → (bk_X1_reckon_37 h0 (lp_X1_reckon_2 h0 K n) K l1 (aR M a29 (l1).toNatClampNeg) r33 (1 : Int32) (aR M a29 (l1).toNatClampNeg) M34)))))))
set_option maxRecDepth 100000 in
set_option maxHeartbeats 4000000 in
theorem zl_X1_reckon_2 {X : Cx} {h0 : Nat} {K : Mm → Prop} (hX : Ok X cX1_reckon RX1 rm_X1_reckon) (hQ : Rq X rm_X1_reckon none (QV K)) (hnL : X.2.2.2.2.2.2.2.2.2.2.2.2.2.2 = 5) : ∀ (n : Nat) (l1 : Int32) (M : Mm), lp_X1_reckon_2 h0 K n l1 M → Z X M 0 0 2 [(0, va_rf (some h0)), (1, .int l1)] [] := by
  intro n
  induction n with
  | zero =>
    intro l1 M h
    exact False.elim h
  | succ n hR2 =>
    intro l1 M h
    refine z_iload_n hX dX1_reckon_2 rfl 1 rfl ?_
    refine z_aload_n (r := (some h0)) hX dX1_reckon_3 rfl 0 rfl ?_
    obtain ⟨hk28, h⟩ := h
    refine gf_RX1_37 (r := (some h0)) hX dX1_reckon_4 rfl hk28 ?_
    obtain ⟨h1, h2⟩ := h
    refine z_icmp_ge (tgt := 86) hX dX1_reckon_7 (by decide) (fun hc => ?_) (fun hc => ?_)
    · have h := h1 hc
      exact z_vret hX hQ dX1_reckon_86 h
    · have h := h2 hc
      refine z_aload_n (r := (some h0)) hX dX1_reckon_10 rfl 0 rfl ?_
      refine gf_RX1_20 (r := (some h0)) hX dX1_reckon_11 rfl hk28 ?_
      refine z_iload_n hX dX1_reckon_14 rfl 1 rfl ?_
      obtain ⟨a29, ha30, h⟩ := h
      obtain ⟨hk31, h⟩ := h
      obtain ⟨hc32, h⟩ := h
      refine y_aldq (r := (mR M 66 h0)) hX dX1_reckon_15 ha30 hk31 hc32 ?_
      refine z_astore_n (r := (aR M a29 (l1).toNatClampNeg)) hX [(2, va_rf (aR M a29 (l1).toNatClampNeg)), (0, va_rf (some h0)), (1, .int l1)] dX1_reckon_16 rfl (by rw [hnL]; decide) rfl ?_
      refine z_aload_n (r := (some h0)) hX dX1_reckon_17 rfl 1 rfl ?_
      refine z_aload_n (r := (aR M a29 (l1).toNatClampNeg)) hX dX1_reckon_18 rfl 0 rfl ?_
      refine z_callVJ (As := [va_rf (aR M a29 (l1).toNatClampNeg)]) (rest := []) (ci := 1) hX (ct_X1_goalOf h) mw_RX1_192 rfl (by decide) rfl (by rfl) (by unfold RoomC; decide) (by decide) dX1_reckon_19 hk28 (fun r33 M34 h => ?_)
      refine z_lstore_n (i := 3) hX [(3, .long r33), (2, va_rf (aR M a29 (l1).toNatClampNeg)), (0, va_rf (some h0)), (1, .int l1)] dX1_reckon_22 rfl (by rw [hnL]; decide) (by simp [cat_rf]) ?_
      refine z_aload_n (r := (aR M a29 (l1).toNatClampNeg)) hX dX1_reckon_23 rfl 1 rfl ?_
      refine z_lload_n hX dX1_reckon_24 rfl 0 rfl ?_
      refine z_ldc2 (v := (-9000000000000000001 : Int64)) hX dX1_reckon_25 kj_RX1_196 ?_
      refine z_lcmp hX dX1_reckon_28 ?_
      obtain ⟨h1, h2⟩ := h
      refine z_if_ne (tgt := 36) hX dX1_reckon_29 (by decide) (fun hc => ?_) (fun hc => ?_)
      · have h := h1 (fun q => hc ((lg_cmp_eq _ _).mpr q))
        refine z_iconst (v := (0 : Int32)) hX dX1_reckon_36 (by decide) ?_
        refine z_loc [2, 3, 1, 0] rfl ?_
        exact zb_X1_reckon_37 hX hQ hnL hR2 h
      · have h := h2 ((lg_cmp_eq _ _).mp hc)
        refine z_iconst (v := (1 : Int32)) hX dX1_reckon_32 (by decide) ?_
        refine z_goto (tgt := 37) hX dX1_reckon_33 (by decide) ?_
        refine z_loc [2, 3, 1, 0] rfl ?_
        exact zb_X1_reckon_37 hX hQ hnL hR2 h
def wp_X1_reckon (M : Mm) (h0 : Nat) (K : Mm → Prop) : Prop := (∃ kk, lp_X1_reckon_2 h0 K kk (0 : Int32) M)
set_option maxRecDepth 100000 in
set_option maxHeartbeats 4000000 in
theorem ct_X1_reckon {M : Mm} {h0 : Nat} {K : Mm → Prop} (h : wp_X1_reckon M h0 K) : CtV yX1_reckon cX1_reckon 5 none rm_X1_reckon [.ref h0] M K := by
  refine ct_any (QV K) (by decide) (by exact Nat.le_of_ble_eq_true rfl) (fun X hX hQ hnL hnm => ?_)
  rw [show lv_args 0 [.ref h0] = [(0, va_rf (some h0))] by rfl]
  have hX : Ok X cX1_reckon RX1 rm_X1_reckon := hX
  unfold wp_X1_reckon at h
  refine z_iconst (v := (0 : Int32)) hX dX1_reckon_0 (by decide) ?_
  refine z_istore_n hX [(1, .int (0 : Int32)), (0, va_rf (some h0))] dX1_reckon_1 rfl (by rw [hnL]; decide) rfl ?_
  refine z_loc [1, 0] rfl ?_
  obtain ⟨n, h⟩ := h
  exact zl_X1_reckon_2 hX hQ hnL n _ _ h
def rm_X10_row : Room := { frames := 311, cells := 0, slots := 0, locals := 12261 }
def bk_X10_row_28 (h0 : Nat) (K : Int32 → Mm → Prop) (M : Mm) : Prop := (K (-1 : Int32) M)
set_option maxRecDepth 100000 in
set_option maxHeartbeats 4000000 in
theorem zb_X10_row_28 {X : Cx} {h0 : Nat} {K : Int32 → Mm → Prop} (hX : Ok X cX10_row RX10 rm_X10_row) (hQ : Rq X rm_X10_row (some .int) (QI K)) (hnL : X.2.2.2.2.2.2.2.2.2.2.2.2.2.2 = 9) {M : Mm} (h : bk_X10_row_28 h0 K M) : Z X M 0 0 28 [] [] := by
  unfold bk_X10_row_28 at h
  refine z_iconst (v := (-1 : Int32)) hX dX10_row_28 (by decide) ?_
  exact z_iret hX hQ dX10_row_29 h
def wp_X10_row (M : Mm) (h0 : Nat) (p1 : Int32) (p2 : Int32) (p3 : Int64) (p4 : Int32) (K : Int32 → Mm → Prop) : Prop := mK M h0 = 11 ∧ (wp_X10_sourceWith M h0 p1 p2 (fun r1 M2 => ((r1 = none → (bk_X10_row_28 h0 K M2)) ∧ (∀ a5, r1 = some a5 → (wp_X10_isTime M2 p3 (fun r7 M8 => ((r7 = 0 → (bk_X10_row_28 h0 K M8)) ∧ (¬ r7 = 0 → (wp_X10_isKey M8 p4 (fun r10 M11 => ((¬ r10 = 0 → mK M11 h0 = 11 ∧ mK M11 a5 = 7 ∧ ∃ a17, (mR M11 644 h0) = some a17 ∧ mK M11 a17 = 2 ∧ (wp_X1_refusalOf M11 a17 (mR M11 393 a5) p2 (fun r15 M16 => ((r15 = 0 → mK M16 h0 = 11 ∧ ∃ a24, (mR M16 644 h0) = some a24 ∧ mK M16 a24 = 2 ∧ (wp_X1_takeRow M16 a24 r1 p2 p3 p4 (fun r22 M23 => mK M23 h0 = 11 ∧ ∃ a31, (mR M23 644 h0) = some a31 ∧ mK M23 a31 = 2 ∧ (wp_X1_reckon M23 a31 (fun M30 => (K r22 M30)))))) ∧ (¬ r15 = 0 → (K r15 M16)))))) ∧ (r10 = 0 → (bk_X10_row_28 h0 K M11)))))))))))))
set_option maxRecDepth 100000 in
set_option maxHeartbeats 4000000 in
theorem ct_X10_row {M : Mm} {h0 : Nat} {p1 : Int32} {p2 : Int32} {p3 : Int64} {p4 : Int32} {K : Int32 → Mm → Prop} (h : wp_X10_row M h0 p1 p2 p3 p4 K) : CtI yX10_row cX10_row 9 (some .int) rm_X10_row [.ref h0, .int p1, .int p2, .long p3, .int p4] M K := by
  refine ct_any (QI K) (by decide) (by exact Nat.le_of_ble_eq_true rfl) (fun X hX hQ hnL hnm => ?_)
  rw [show lv_args 0 [.ref h0, .int p1, .int p2, .long p3, .int p4] = [(0, va_rf (some h0)), (1, .int p1), (2, .int p2), (3, .long p3), (5, .int p4)] by rfl]
  have hX : Ok X cX10_row RX10 rm_X10_row := hX
  unfold wp_X10_row at h
  refine z_aload_n (r := (some h0)) hX dX10_row_0 rfl 0 rfl ?_
  refine z_iload_n hX dX10_row_1 rfl 1 rfl ?_
  refine z_iload_n hX dX10_row_2 rfl 2 rfl ?_
  obtain ⟨hk3, h⟩ := h
  refine z_callVR (As := [.int p1, .int p2]) (rest := []) (ci := 10) hX (ct_X10_sourceWith h) mw_RX10_76 rfl (by decide) rfl (by rfl) (by unfold RoomC; decide) (by decide) dX10_row_3 hk3 (fun r1 M2 h => ?_)
  refine z_astore (r := r1) hX [(6, va_rf r1), (0, va_rf (some h0)), (1, .int p1), (2, .int p2), (3, .long p3), (5, .int p4)] dX10_row_6 (by rw [hnL]; decide) rfl ?_
  refine z_aload (r := r1) hX dX10_row_8 0 rfl ?_
  obtain ⟨h1, h2⟩ := h
  refine z_ifnull (r := r1) (tgt := 28) hX dX10_row_10 (by decide) (fun hc => ?_) (fun a5 ha6 => ?_)
  · have h := h1 hc
    refine z_loc [] rfl ?_
    exact zb_X10_row_28 hX hQ hnL h
  · have h := h2 a5 ha6
    refine z_lload_n hX dX10_row_13 rfl 4 rfl ?_
    refine z_callSI (As := [.long p3]) (rest := []) hX (ct_X10_isTime h) mw_RX10_80 rfl (by rfl) (by unfold RoomC; decide) (by decide) dX10_row_14 (fun r7 M8 h => ?_)
    obtain ⟨h1, h2⟩ := h
    refine z_if_eq (tgt := 28) hX dX10_row_17 (by decide) (fun hc => ?_) (fun hc => ?_)
    · have h := h1 hc
      refine z_loc [] rfl ?_
      exact zb_X10_row_28 hX hQ hnL h
    · have h := h2 hc
      refine z_iload hX dX10_row_20 5 rfl ?_
      refine z_callSI (As := [.int p4]) (rest := []) hX (ct_X10_isKey h) mw_RX10_84 rfl (by rfl) (by unfold RoomC; decide) (by decide) dX10_row_22 (fun r10 M11 h => ?_)
      obtain ⟨h1, h2⟩ := h
      refine z_if_ne (tgt := 30) hX dX10_row_25 (by decide) (fun hc => ?_) (fun hc => ?_)
      · have h := h1 hc
        refine z_aload_n (r := (some h0)) hX dX10_row_30 rfl 1 rfl ?_
        obtain ⟨hk13, h⟩ := h
        refine gf_RX10_31 (r := (some h0)) hX dX10_row_31 rfl hk13 ?_
        refine z_aload (r := r1) hX dX10_row_34 0 rfl ?_
        obtain ⟨hk14, h⟩ := h
        refine gf_RX10_88 (r := r1) hX dX10_row_36 ha6 hk14 ?_
        refine z_iload_n hX dX10_row_39 rfl 3 rfl ?_
        obtain ⟨a17, ha18, h⟩ := h
        obtain ⟨hk19, h⟩ := h
        refine z_callVI (As := [va_rf (mR M11 393 a5), .int p2]) (rest := []) (ci := 1) hX (ct_X1_refusalOf h) mw_RX10_94 rfl (by decide) rfl (by rw [ha18]; rfl) (by unfold RoomC; decide) (by decide) dX10_row_40 hk19 (fun r15 M16 h => ?_)
        refine z_istore (i := 7) hX [(7, .int r15), (6, va_rf r1), (0, va_rf (some h0)), (1, .int p1), (2, .int p2), (3, .long p3), (5, .int p4)] dX10_row_43 (by rw [hnL]; decide) (by simp [cat_rf]) ?_
        refine z_iload hX dX10_row_45 0 rfl ?_
        obtain ⟨h1, h2⟩ := h
        refine z_if_eq (tgt := 53) hX dX10_row_47 (by decide) (fun hc => ?_) (fun hc => ?_)
        · have h := h1 hc
          refine z_aload_n (r := (some h0)) hX dX10_row_53 rfl 2 rfl ?_
          obtain ⟨hk21, h⟩ := h
          refine gf_RX10_31 (r := (some h0)) hX dX10_row_54 rfl hk21 ?_
          refine z_aload (r := r1) hX dX10_row_57 1 rfl ?_
          refine z_iload_n hX dX10_row_59 rfl 4 rfl ?_
          refine z_lload_n hX dX10_row_60 rfl 5 rfl ?_
          refine z_iload hX dX10_row_61 6 rfl ?_
          obtain ⟨a24, ha25, h⟩ := h
          obtain ⟨hk26, h⟩ := h
          refine z_callVI (As := [va_rf r1, .int p2, .long p3, .int p4]) (rest := []) (ci := 1) hX (ct_X1_takeRow h) mw_RX10_98 rfl (by decide) rfl (by rw [ha25]; rfl) (by unfold RoomC; decide) (by decide) dX10_row_63 hk26 (fun r22 M23 h => ?_)
          refine z_istore hX [(8, .int r22), (7, .int r15), (6, va_rf r1), (0, va_rf (some h0)), (1, .int p1), (2, .int p2), (3, .long p3), (5, .int p4)] dX10_row_66 (by rw [hnL]; decide) rfl ?_
          refine z_aload_n (r := (some h0)) hX dX10_row_68 rfl 3 rfl ?_
          obtain ⟨hk28, h⟩ := h
          refine gf_RX10_31 (r := (some h0)) hX dX10_row_69 rfl hk28 ?_
          obtain ⟨a31, ha32, h⟩ := h
          obtain ⟨hk33, h⟩ := h
          refine z_callVV (As := []) (rest := []) (ci := 1) hX (ct_X1_reckon h) mw_RX10_102 rfl (by decide) rfl (by rw [ha32]; rfl) (by unfold RoomC; decide) (by decide) dX10_row_72 hk33 (fun M30 h => ?_)
          refine z_iload hX dX10_row_75 0 rfl ?_
          exact z_iret hX hQ dX10_row_77 h
        · have h := h2 hc
          refine z_iload hX dX10_row_50 0 rfl ?_
          exact z_iret hX hQ dX10_row_52 h
      · have h := h2 hc
        refine z_loc [] rfl ?_
        exact zb_X10_row_28 hX hQ hnL h
def rm_X10_mark : Room := { frames := 311, cells := 0, slots := 0, locals := 12261 }
def bk_X10_mark_20 (h0 : Nat) (K : Int32 → Mm → Prop) (M : Mm) : Prop := (K (-1 : Int32) M)
set_option maxRecDepth 100000 in
set_option maxHeartbeats 4000000 in
theorem zb_X10_mark_20 {X : Cx} {h0 : Nat} {K : Int32 → Mm → Prop} (hX : Ok X cX10_mark RX10 rm_X10_mark) (hQ : Rq X rm_X10_mark (some .int) (QI K)) (hnL : X.2.2.2.2.2.2.2.2.2.2.2.2.2.2 = 8) {M : Mm} (h : bk_X10_mark_20 h0 K M) : Z X M 0 0 20 [] [] := by
  unfold bk_X10_mark_20 at h
  refine z_iconst (v := (-1 : Int32)) hX dX10_mark_20 (by decide) ?_
  exact z_iret hX hQ dX10_mark_21 h
def bk_X10_mark_90 (h0 : Nat) (K : Int32 → Mm → Prop) (s0 : Int32) (M : Mm) : Prop := (K s0 M)
set_option maxRecDepth 100000 in
set_option maxHeartbeats 4000000 in
theorem zb_X10_mark_90 {X : Cx} {h0 : Nat} {K : Int32 → Mm → Prop} (hX : Ok X cX10_mark RX10 rm_X10_mark) (hQ : Rq X rm_X10_mark (some .int) (QI K)) (hnL : X.2.2.2.2.2.2.2.2.2.2.2.2.2.2 = 8) {s0 : Int32} {M : Mm} (h : bk_X10_mark_90 h0 K s0 M) : Z X M 0 0 90 [] [.int s0] := by
  unfold bk_X10_mark_90 at h
  exact z_iret hX hQ dX10_mark_90 h
def wp_X10_mark (M : Mm) (h0 : Nat) (p1 : Int32) (p2 : Int32) (p3 : Int64) (K : Int32 → Mm → Prop) : Prop := mK M h0 = 11 ∧ (wp_X10_sourceWith M h0 p1 p2 (fun r1 M2 => ((r1 = none → (bk_X10_mark_20 h0 K M2)) ∧ (∀ a5, r1 = some a5 → (wp_X10_isTime M2 p3 (fun r7 M8 => ((¬ r7 = 0 → mK M8 h0 = 11 ∧ mK M8 a5 = 7 ∧ ∃ a14, (mR M8 644 h0) = some a14 ∧ mK M8 a14 = 2 ∧ (wp_X1_refusalOf M8 a14 (mR M8 393 a5) p2 (fun r12 M13 => ((r12 = 0 → mK M13 a5 = 7 ∧ mK M13 h0 = 11 ∧ ∃ a20, (mR M13 644 h0) = some a20 ∧ mK M13 a20 = 2 ∧ ∃ a25, (mR M13 393 a5) = some a25 ∧ mK M13 a25 = 6 ∧ (wp_X5_hear M13 a25 p2 (mI M13 70 a20) (fun M24 => mK M24 a5 = 7 ∧ ∃ a32, (mR M24 393 a5) = some a32 ∧ mK M24 a32 = 6 ∧ (wp_X5_raise M24 a32 p2 p3 (fun r30 M31 => mK M31 h0 = 11 ∧ ∃ a39, (mR M31 644 h0) = some a39 ∧ mK M31 a39 = 2 ∧ (wp_X1_reckon M31 a39 (fun M38 => ((r30 = 0 → (bk_X10_mark_90 h0 K (0 : Int32) M38)) ∧ (¬ r30 = 0 → (bk_X10_mark_90 h0 K (1 : Int32) M38)))))))))) ∧ (¬ r12 = 0 → (K r12 M13)))))) ∧ (r7 = 0 → (bk_X10_mark_20 h0 K M8)))))))))
set_option maxRecDepth 100000 in
set_option maxHeartbeats 4000000 in
theorem ct_X10_mark {M : Mm} {h0 : Nat} {p1 : Int32} {p2 : Int32} {p3 : Int64} {K : Int32 → Mm → Prop} (h : wp_X10_mark M h0 p1 p2 p3 K) : CtI yX10_mark cX10_mark 8 (some .int) rm_X10_mark [.ref h0, .int p1, .int p2, .long p3] M K := by
  refine ct_any (QI K) (by decide) (by exact Nat.le_of_ble_eq_true rfl) (fun X hX hQ hnL hnm => ?_)
  rw [show lv_args 0 [.ref h0, .int p1, .int p2, .long p3] = [(0, va_rf (some h0)), (1, .int p1), (2, .int p2), (3, .long p3)] by rfl]
  have hX : Ok X cX10_mark RX10 rm_X10_mark := hX
  unfold wp_X10_mark at h
  refine z_aload_n (r := (some h0)) hX dX10_mark_0 rfl 0 rfl ?_
  refine z_iload_n hX dX10_mark_1 rfl 1 rfl ?_
  refine z_iload_n hX dX10_mark_2 rfl 2 rfl ?_
  obtain ⟨hk3, h⟩ := h
  refine z_callVR (As := [.int p1, .int p2]) (rest := []) (ci := 10) hX (ct_X10_sourceWith h) mw_RX10_76 rfl (by decide) rfl (by rfl) (by unfold RoomC; decide) (by decide) dX10_mark_3 hk3 (fun r1 M2 h => ?_)
  refine z_astore (r := r1) hX [(5, va_rf r1), (0, va_rf (some h0)), (1, .int p1), (2, .int p2), (3, .long p3)] dX10_mark_6 (by rw [hnL]; decide) rfl ?_
  refine z_aload (r := r1) hX dX10_mark_8 0 rfl ?_
  obtain ⟨h1, h2⟩ := h
  refine z_ifnull (r := r1) (tgt := 20) hX dX10_mark_10 (by decide) (fun hc => ?_) (fun a5 ha6 => ?_)
  · have h := h1 hc
    refine z_loc [] rfl ?_
    exact zb_X10_mark_20 hX hQ hnL h
  · have h := h2 a5 ha6
    refine z_lload_n hX dX10_mark_13 rfl 4 rfl ?_
    refine z_callSI (As := [.long p3]) (rest := []) hX (ct_X10_isTime h) mw_RX10_80 rfl (by rfl) (by unfold RoomC; decide) (by decide) dX10_mark_14 (fun r7 M8 h => ?_)
    obtain ⟨h1, h2⟩ := h
    refine z_if_ne (tgt := 22) hX dX10_mark_17 (by decide) (fun hc => ?_) (fun hc => ?_)
    · have h := h1 hc
      refine z_aload_n (r := (some h0)) hX dX10_mark_22 rfl 1 rfl ?_
      obtain ⟨hk10, h⟩ := h
      refine gf_RX10_31 (r := (some h0)) hX dX10_mark_23 rfl hk10 ?_
      refine z_aload (r := r1) hX dX10_mark_26 0 rfl ?_
      obtain ⟨hk11, h⟩ := h
      refine gf_RX10_88 (r := r1) hX dX10_mark_28 ha6 hk11 ?_
      refine z_iload_n hX dX10_mark_31 rfl 3 rfl ?_
      obtain ⟨a14, ha15, h⟩ := h
      obtain ⟨hk16, h⟩ := h
      refine z_callVI (As := [va_rf (mR M8 393 a5), .int p2]) (rest := []) (ci := 1) hX (ct_X1_refusalOf h) mw_RX10_94 rfl (by decide) rfl (by rw [ha15]; rfl) (by unfold RoomC; decide) (by decide) dX10_mark_32 hk16 (fun r12 M13 h => ?_)
      refine z_istore (i := 6) hX [(6, .int r12), (5, va_rf r1), (0, va_rf (some h0)), (1, .int p1), (2, .int p2), (3, .long p3)] dX10_mark_35 (by rw [hnL]; decide) (by simp [cat_rf]) ?_
      refine z_iload hX dX10_mark_37 0 rfl ?_
      obtain ⟨h1, h2⟩ := h
      refine z_if_eq (tgt := 45) hX dX10_mark_39 (by decide) (fun hc => ?_) (fun hc => ?_)
      · have h := h1 hc
        refine z_aload (r := r1) hX dX10_mark_45 1 rfl ?_
        obtain ⟨hk18, h⟩ := h
        refine gf_RX10_88 (r := r1) hX dX10_mark_47 ha6 hk18 ?_
        refine z_iload_n hX dX10_mark_50 rfl 4 rfl ?_
        refine z_aload_n (r := (some h0)) hX dX10_mark_51 rfl 2 rfl ?_
        obtain ⟨hk19, h⟩ := h
        refine gf_RX10_31 (r := (some h0)) hX dX10_mark_52 rfl hk19 ?_
        obtain ⟨a20, ha21, h⟩ := h
        obtain ⟨hk22, h⟩ := h
        refine gf_RX10_105 (r := (mR M13 644 h0)) hX dX10_mark_55 ha21 hk22 ?_
        obtain ⟨a25, ha26, h⟩ := h
        obtain ⟨hk27, h⟩ := h
        refine z_callVV (As := [.int p2, .int (mI M13 70 a20)]) (rest := []) (ci := 5) hX (ct_X5_hear h) mw_RX10_108 rfl (by decide) rfl (by rw [ha26]; rfl) (by unfold RoomC; decide) (by decide) dX10_mark_58 hk27 (fun M24 h => ?_)
        refine z_aload (r := r1) hX dX10_mark_61 1 rfl ?_
        obtain ⟨hk29, h⟩ := h
        refine gf_RX10_88 (r := r1) hX dX10_mark_63 ha6 hk29 ?_
        refine z_iload_n hX dX10_mark_66 rfl 4 rfl ?_
        refine z_lload_n hX dX10_mark_67 rfl 5 rfl ?_
        obtain ⟨a32, ha33, h⟩ := h
        obtain ⟨hk34, h⟩ := h
        refine z_callVI (As := [.int p2, .long p3]) (rest := []) (ci := 5) hX (ct_X5_raise h) mw_RX10_114 rfl (by decide) rfl (by rw [ha33]; rfl) (by unfold RoomC; decide) (by decide) dX10_mark_68 hk34 (fun r30 M31 h => ?_)
        refine z_istore hX [(7, .int r30), (6, .int r12), (5, va_rf r1), (0, va_rf (some h0)), (1, .int p1), (2, .int p2), (3, .long p3)] dX10_mark_71 (by rw [hnL]; decide) rfl ?_
        refine z_aload_n (r := (some h0)) hX dX10_mark_73 rfl 3 rfl ?_
        obtain ⟨hk36, h⟩ := h
        refine gf_RX10_31 (r := (some h0)) hX dX10_mark_74 rfl hk36 ?_
        obtain ⟨a39, ha40, h⟩ := h
        obtain ⟨hk41, h⟩ := h
        refine z_callVV (As := []) (rest := []) (ci := 1) hX (ct_X1_reckon h) mw_RX10_102 rfl (by decide) rfl (by rw [ha40]; rfl) (by unfold RoomC; decide) (by decide) dX10_mark_77 hk41 (fun M38 h => ?_)
        refine z_iload hX dX10_mark_80 0 rfl ?_
        obtain ⟨h1, h2⟩ := h
        refine z_if_eq (tgt := 89) hX dX10_mark_82 (by decide) (fun hc => ?_) (fun hc => ?_)
        · have h := h1 hc
          refine z_iconst (v := (0 : Int32)) hX dX10_mark_89 (by decide) ?_
          refine z_loc [] rfl ?_
          exact zb_X10_mark_90 hX hQ hnL h
        · have h := h2 hc
          refine z_iconst (v := (1 : Int32)) hX dX10_mark_85 (by decide) ?_
          refine z_goto (tgt := 90) hX dX10_mark_86 (by decide) ?_
          refine z_loc [] rfl ?_
          exact zb_X10_mark_90 hX hQ hnL h
      · have h := h2 hc
        refine z_iload hX dX10_mark_42 0 rfl ?_
        exact z_iret hX hQ dX10_mark_44 h
    · have h := h2 hc
      refine z_loc [] rfl ?_
      exact zb_X10_mark_20 hX hQ hnL h
def rm_X10_end : Room := { frames := 311, cells := 0, slots := 0, locals := 12261 }
def wp_X10_end (M : Mm) (h0 : Nat) (p1 : Int32) (p2 : Int32) (K : Int32 → Mm → Prop) : Prop := mK M h0 = 11 ∧ (wp_X10_sourceWith M h0 p1 p2 (fun r1 M2 => ((r1 = none → (K (-1 : Int32) M2)) ∧ (∀ a5, r1 = some a5 → mK M2 a5 = 7 ∧ ∃ a8, (mR M2 393 a5) = some a8 ∧ mK M2 a8 = 6 ∧ ∃ a11, (mR M2 324 a8) = some a11 ∧ isA M2 a11 1 ∧ vp_in p2 (aN M2 a11) ∧ ((¬ (aI M2 a11 (p2).toNatClampNeg) = (2 : Int32) → (wp_X5_finish M2 a8 p2 (fun M16 => mK M16 h0 = 11 ∧ ∃ a21, (mR M16 644 h0) = some a21 ∧ mK M16 a21 = 2 ∧ (wp_X1_reckon M16 a21 (fun M20 => (K (1 : Int32) M20)))))) ∧ ((aI M2 a11 (p2).toNatClampNeg) = (2 : Int32) → (K (-2 : Int32) M2)))))))
set_option maxRecDepth 100000 in
set_option maxHeartbeats 4000000 in
theorem ct_X10_end {M : Mm} {h0 : Nat} {p1 : Int32} {p2 : Int32} {K : Int32 → Mm → Prop} (h : wp_X10_end M h0 p1 p2 K) : CtI yX10_end cX10_end 4 (some .int) rm_X10_end [.ref h0, .int p1, .int p2] M K := by
  refine ct_any (QI K) (by decide) (by exact Nat.le_of_ble_eq_true rfl) (fun X hX hQ hnL hnm => ?_)
  rw [show lv_args 0 [.ref h0, .int p1, .int p2] = [(0, va_rf (some h0)), (1, .int p1), (2, .int p2)] by rfl]
  have hX : Ok X cX10_end RX10 rm_X10_end := hX
  unfold wp_X10_end at h
  refine z_aload_n (r := (some h0)) hX dX10_end_0 rfl 0 rfl ?_
  refine z_iload_n hX dX10_end_1 rfl 1 rfl ?_
  refine z_iload_n hX dX10_end_2 rfl 2 rfl ?_
  obtain ⟨hk3, h⟩ := h
  refine z_callVR (As := [.int p1, .int p2]) (rest := []) (ci := 10) hX (ct_X10_sourceWith h) mw_RX10_76 rfl (by decide) rfl (by rfl) (by unfold RoomC; decide) (by decide) dX10_end_3 hk3 (fun r1 M2 h => ?_)
  refine z_astore_n (r := r1) hX [(3, va_rf r1), (0, va_rf (some h0)), (1, .int p1), (2, .int p2)] dX10_end_6 rfl (by rw [hnL]; decide) rfl ?_
  refine z_aload_n (r := r1) hX dX10_end_7 rfl 0 rfl ?_
  obtain ⟨h1, h2⟩ := h
  refine z_ifnonnull (r := r1) (tgt := 13) hX dX10_end_8 (by decide) (fun a5 ha6 => ?_) (fun hc => ?_)
  · have h := h2 a5 ha6
    refine z_aload_n (r := r1) hX dX10_end_13 rfl 0 rfl ?_
    obtain ⟨hk7, h⟩ := h
    refine gf_RX10_88 (r := r1) hX dX10_end_14 ha6 hk7 ?_
    obtain ⟨a8, ha9, h⟩ := h
    obtain ⟨hk10, h⟩ := h
    refine gf_RX10_118 (r := (mR M2 393 a5)) hX dX10_end_17 ha9 hk10 ?_
    refine z_iload_n hX dX10_end_20 rfl 3 rfl ?_
    obtain ⟨a11, ha12, h⟩ := h
    obtain ⟨hk13, h⟩ := h
    obtain ⟨hc14, h⟩ := h
    refine y_iald (r := (mR M2 324 a8)) hX dX10_end_21 ha12 hk13 hc14 ?_
    refine z_iconst (v := (2 : Int32)) hX dX10_end_22 (by decide) ?_
    obtain ⟨h1, h2⟩ := h
    refine z_icmp_ne (tgt := 29) hX dX10_end_23 (by decide) (fun hc => ?_) (fun hc => ?_)
    · have h := h1 hc
      refine z_aload_n (r := r1) hX dX10_end_29 rfl 0 rfl ?_
      refine gf_RX10_88 (r := r1) hX dX10_end_30 ha6 hk7 ?_
      refine z_iload_n hX dX10_end_33 rfl 3 rfl ?_
      refine z_callVV (As := [.int p2]) (rest := []) (ci := 5) hX (ct_X5_finish h) mw_RX10_122 rfl (by decide) rfl (by rw [ha9]; rfl) (by unfold RoomC; decide) (by decide) dX10_end_34 hk10 (fun M16 h => ?_)
      refine z_aload_n (r := (some h0)) hX dX10_end_37 rfl 1 rfl ?_
      obtain ⟨hk18, h⟩ := h
      refine gf_RX10_31 (r := (some h0)) hX dX10_end_38 rfl hk18 ?_
      obtain ⟨a21, ha22, h⟩ := h
      obtain ⟨hk23, h⟩ := h
      refine z_callVV (As := []) (rest := []) (ci := 1) hX (ct_X1_reckon h) mw_RX10_102 rfl (by decide) rfl (by rw [ha22]; rfl) (by unfold RoomC; decide) (by decide) dX10_end_41 hk23 (fun M20 h => ?_)
      refine z_iconst (v := (1 : Int32)) hX dX10_end_44 (by decide) ?_
      exact z_iret hX hQ dX10_end_45 h
    · have h := h2 hc
      refine z_bipush (v := (-2 : Int32)) hX dX10_end_26 (by decide) ?_
      exact z_iret hX hQ dX10_end_28 h
  · have h := h1 hc
    refine z_iconst (v := (-1 : Int32)) hX dX10_end_11 (by decide) ?_
    exact z_iret hX hQ dX10_end_12 h
def rm_X10_idle : Room := { frames := 311, cells := 0, slots := 0, locals := 12261 }
def bk_X10_idle_87 (h0 : Nat) (K : Int32 → Mm → Prop) (M : Mm) : Prop := mK M h0 = 11 ∧ ∃ a4, (mR M 644 h0) = some a4 ∧ mK M a4 = 2 ∧ (wp_X1_reckon M a4 (fun M3 => (K (1 : Int32) M3)))
set_option maxRecDepth 100000 in
set_option maxHeartbeats 4000000 in
theorem zb_X10_idle_87 {X : Cx} {h0 : Nat} {K : Int32 → Mm → Prop} (hX : Ok X cX10_idle RX10 rm_X10_idle) (hQ : Rq X rm_X10_idle (some .int) (QI K)) (hnL : X.2.2.2.2.2.2.2.2.2.2.2.2.2.2 = 6) {M : Mm} (h : bk_X10_idle_87 h0 K M) : Z X M 0 0 87 [(0, va_rf (some h0))] [] := by
  unfold bk_X10_idle_87 at h
  refine z_aload_n (r := (some h0)) hX dX10_idle_87 rfl 0 rfl ?_
  obtain ⟨hk1, h⟩ := h
  refine gf_RX10_31 (r := (some h0)) hX dX10_idle_88 rfl hk1 ?_
  obtain ⟨a4, ha5, h⟩ := h
  obtain ⟨hk6, h⟩ := h
  refine z_callVV (As := []) (rest := []) (ci := 1) hX (ct_X1_reckon h) mw_RX10_102 rfl (by decide) rfl (by rw [ha5]; rfl) (by unfold RoomC; decide) (by decide) dX10_idle_91 hk6 (fun M3 h => ?_)
  refine z_iconst (v := (1 : Int32)) hX dX10_idle_94 (by decide) ?_
  exact z_iret hX hQ dX10_idle_95 h
def bk_X10_idle_47 (h0 : Nat) (K : Int32 → Mm → Prop) (l2 : Int32) (l3 : Int32) (l4 : Option Nat) (s0 : Int32) (M : Mm) : Prop := ((¬ s0 = l3 → ((l3 = 0 → ∃ a8, l4 = some a8 ∧ mK M a8 = 7 ∧ mK M h0 = 11 ∧ ∃ a12, (mR M 644 h0) = some a12 ∧ mK M a12 = 2 ∧ ∃ a17, (mR M 393 a8) = some a17 ∧ mK M a17 = 6 ∧ (wp_X5_hear M a17 l2 (mI M 70 a12) (fun M16 => (bk_X10_idle_87 h0 K M16)))) ∧ (¬ l3 = 0 → ∃ a21, l4 = some a21 ∧ mK M a21 = 7 ∧ ∃ a24, (mR M 393 a21) = some a24 ∧ mK M a24 = 6 ∧ ∃ a27, (mR M 324 a24) = some a27 ∧ isA M a27 1 ∧ vp_in l2 (aN M a27) ∧ (bk_X10_idle_87 h0 K (tI M a27 (l2).toNatClampNeg (1 : Int32)))))) ∧ (s0 = l3 → (K (0 : Int32) M)))
set_option maxRecDepth 100000 in
set_option maxHeartbeats 4000000 in
theorem zb_X10_idle_47 {X : Cx} {h0 : Nat} {K : Int32 → Mm → Prop} (hX : Ok X cX10_idle RX10 rm_X10_idle) (hQ : Rq X rm_X10_idle (some .int) (QI K)) (hnL : X.2.2.2.2.2.2.2.2.2.2.2.2.2.2 = 6) {l2 : Int32} {l3 : Int32} {l4 : Option Nat} {s0 : Int32} {M : Mm} (h : bk_X10_idle_47 h0 K l2 l3 l4 s0 M) : Z X M 0 0 47 [(0, va_rf (some h0)), (2, .int l2), (3, .int l3), (4, va_rf l4)] [.int s0] := by
  unfold bk_X10_idle_47 at h
  refine z_iload_n hX dX10_idle_47 rfl 2 rfl ?_
  obtain ⟨h1, h2⟩ := h
  refine z_icmp_ne (tgt := 53) hX dX10_idle_48 (by decide) (fun hc => ?_) (fun hc => ?_)
  · have h := h1 hc
    refine z_iload_n hX dX10_idle_53 rfl 2 rfl ?_
    obtain ⟨h1, h2⟩ := h
    refine z_if_eq (tgt := 71) hX dX10_idle_54 (by decide) (fun hc => ?_) (fun hc => ?_)
    · have h := h1 hc
      refine z_aload (r := l4) hX dX10_idle_71 3 rfl ?_
      obtain ⟨a8, ha9, h⟩ := h
      obtain ⟨hk10, h⟩ := h
      refine gf_RX10_88 (r := l4) hX dX10_idle_73 ha9 hk10 ?_
      refine z_iload_n hX dX10_idle_76 rfl 1 rfl ?_
      refine z_aload_n (r := (some h0)) hX dX10_idle_77 rfl 0 rfl ?_
      obtain ⟨hk11, h⟩ := h
      refine gf_RX10_31 (r := (some h0)) hX dX10_idle_78 rfl hk11 ?_
      obtain ⟨a12, ha13, h⟩ := h
      obtain ⟨hk14, h⟩ := h
      refine gf_RX10_105 (r := (mR M 644 h0)) hX dX10_idle_81 ha13 hk14 ?_
      obtain ⟨a17, ha18, h⟩ := h
      obtain ⟨hk19, h⟩ := h
      refine z_callVV (As := [.int l2, .int (mI M 70 a12)]) (rest := []) (ci := 5) hX (ct_X5_hear h) mw_RX10_108 rfl (by decide) rfl (by rw [ha18]; rfl) (by unfold RoomC; decide) (by decide) dX10_idle_84 hk19 (fun M16 h => ?_)
      refine z_loc [0] rfl ?_
      exact zb_X10_idle_87 hX hQ hnL h
    · have h := h2 hc
      refine z_aload (r := l4) hX dX10_idle_57 3 rfl ?_
      obtain ⟨a21, ha22, h⟩ := h
      obtain ⟨hk23, h⟩ := h
      refine gf_RX10_88 (r := l4) hX dX10_idle_59 ha22 hk23 ?_
      obtain ⟨a24, ha25, h⟩ := h
      obtain ⟨hk26, h⟩ := h
      refine gf_RX10_118 (r := (mR M 393 a21)) hX dX10_idle_62 ha25 hk26 ?_
      refine z_iload_n hX dX10_idle_65 rfl 1 rfl ?_
      refine z_iconst (v := (1 : Int32)) hX dX10_idle_66 (by decide) ?_
      obtain ⟨a27, ha28, h⟩ := h
      obtain ⟨hk29, h⟩ := h
      obtain ⟨hc30, h⟩ := h
      refine y_iast (r := (mR M 324 a24)) hX dX10_idle_67 ha28 hk29 hc30 ?_
      refine z_goto (tgt := 87) hX dX10_idle_68 (by decide) ?_
      refine z_loc [0] rfl ?_
      exact zb_X10_idle_87 hX hQ hnL h
  · have h := h2 hc
    refine z_iconst (v := (0 : Int32)) hX dX10_idle_51 (by decide) ?_
    exact z_iret hX hQ dX10_idle_52 h
def wp_X10_idle (M : Mm) (h0 : Nat) (p1 : Int32) (p2 : Int32) (p3 : Int32) (K : Int32 → Mm → Prop) : Prop := mK M h0 = 11 ∧ (wp_X10_sourceWith M h0 p1 p2 (fun r31 M32 => ((r31 = none → (K (-1 : Int32) M32)) ∧ (∀ a35, r31 = some a35 → mK M32 a35 = 7 ∧ ∃ a38, (mR M32 393 a35) = some a38 ∧ mK M32 a38 = 6 ∧ ∃ a41, (mR M32 324 a38) = some a41 ∧ isA M32 a41 1 ∧ vp_in p2 (aN M32 a41) ∧ ((¬ (aI M32 a41 (p2).toNatClampNeg) = (2 : Int32) → ((¬ (aI M32 a41 (p2).toNatClampNeg) = (1 : Int32) → (bk_X10_idle_47 h0 K p2 p3 r31 (0 : Int32) M32)) ∧ ((aI M32 a41 (p2).toNatClampNeg) = (1 : Int32) → (bk_X10_idle_47 h0 K p2 p3 r31 (1 : Int32) M32)))) ∧ ((aI M32 a41 (p2).toNatClampNeg) = (2 : Int32) → (K (-2 : Int32) M32)))))))
set_option maxRecDepth 100000 in
set_option maxHeartbeats 4000000 in
theorem ct_X10_idle {M : Mm} {h0 : Nat} {p1 : Int32} {p2 : Int32} {p3 : Int32} {K : Int32 → Mm → Prop} (h : wp_X10_idle M h0 p1 p2 p3 K) : CtI yX10_idle cX10_idle 6 (some .int) rm_X10_idle [.ref h0, .int p1, .int p2, .int p3] M K := by
  refine ct_any (QI K) (by decide) (by exact Nat.le_of_ble_eq_true rfl) (fun X hX hQ hnL hnm => ?_)
  rw [show lv_args 0 [.ref h0, .int p1, .int p2, .int p3] = [(0, va_rf (some h0)), (1, .int p1), (2, .int p2), (3, .int p3)] by rfl]
  have hX : Ok X cX10_idle RX10 rm_X10_idle := hX
  unfold wp_X10_idle at h
  refine z_aload_n (r := (some h0)) hX dX10_idle_0 rfl 0 rfl ?_
  refine z_iload_n hX dX10_idle_1 rfl 1 rfl ?_
  refine z_iload_n hX dX10_idle_2 rfl 2 rfl ?_
  obtain ⟨hk33, h⟩ := h
  refine z_callVR (As := [.int p1, .int p2]) (rest := []) (ci := 10) hX (ct_X10_sourceWith h) mw_RX10_76 rfl (by decide) rfl (by rfl) (by unfold RoomC; decide) (by decide) dX10_idle_3 hk33 (fun r31 M32 h => ?_)
  refine z_astore (r := r31) hX [(4, va_rf r31), (0, va_rf (some h0)), (1, .int p1), (2, .int p2), (3, .int p3)] dX10_idle_6 (by rw [hnL]; decide) rfl ?_
  refine z_aload (r := r31) hX dX10_idle_8 0 rfl ?_
  obtain ⟨h1, h2⟩ := h
  refine z_ifnonnull (r := r31) (tgt := 15) hX dX10_idle_10 (by decide) (fun a35 ha36 => ?_) (fun hc => ?_)
  · have h := h2 a35 ha36
    refine z_aload (r := r31) hX dX10_idle_15 0 rfl ?_
    obtain ⟨hk37, h⟩ := h
    refine gf_RX10_88 (r := r31) hX dX10_idle_17 ha36 hk37 ?_
    obtain ⟨a38, ha39, h⟩ := h
    obtain ⟨hk40, h⟩ := h
    refine gf_RX10_118 (r := (mR M32 393 a35)) hX dX10_idle_20 ha39 hk40 ?_
    refine z_iload_n hX dX10_idle_23 rfl 3 rfl ?_
    obtain ⟨a41, ha42, h⟩ := h
    obtain ⟨hk43, h⟩ := h
    obtain ⟨hc44, h⟩ := h
    refine y_iald (r := (mR M32 324 a38)) hX dX10_idle_24 ha42 hk43 hc44 ?_
    refine z_istore (i := 5) hX [(5, .int (aI M32 a41 (p2).toNatClampNeg)), (4, va_rf r31), (0, va_rf (some h0)), (1, .int p1), (2, .int p2), (3, .int p3)] dX10_idle_25 (by rw [hnL]; decide) (by simp [cat_rf]) ?_
    refine z_iload hX dX10_idle_27 0 rfl ?_
    refine z_iconst (v := (2 : Int32)) hX dX10_idle_29 (by decide) ?_
    obtain ⟨h1, h2⟩ := h
    refine z_icmp_ne (tgt := 36) hX dX10_idle_30 (by decide) (fun hc => ?_) (fun hc => ?_)
    · have h := h1 hc
      refine z_iload hX dX10_idle_36 0 rfl ?_
      refine z_iconst (v := (1 : Int32)) hX dX10_idle_38 (by decide) ?_
      obtain ⟨h1, h2⟩ := h
      refine z_icmp_ne (tgt := 46) hX dX10_idle_39 (by decide) (fun hc => ?_) (fun hc => ?_)
      · have h := h1 hc
        refine z_iconst (v := (0 : Int32)) hX dX10_idle_46 (by decide) ?_
        refine z_loc [2, 4, 5, 1] rfl ?_
        exact zb_X10_idle_47 hX hQ hnL h
      · have h := h2 hc
        refine z_iconst (v := (1 : Int32)) hX dX10_idle_42 (by decide) ?_
        refine z_goto (tgt := 47) hX dX10_idle_43 (by decide) ?_
        refine z_loc [2, 4, 5, 1] rfl ?_
        exact zb_X10_idle_47 hX hQ hnL h
    · have h := h2 hc
      refine z_bipush (v := (-2 : Int32)) hX dX10_idle_33 (by decide) ?_
      exact z_iret hX hQ dX10_idle_35 h
  · have h := h1 hc
    refine z_iconst (v := (-1 : Int32)) hX dX10_idle_13 (by decide) ?_
    exact z_iret hX hQ dX10_idle_14 h
def rm_X10_turn : Room := { frames := 311, cells := 0, slots := 0, locals := 12261 }
def bk_X10_turn_19 (h0 : Nat) (K : Int32 → Mm → Prop) (M : Mm) : Prop := (K (-1 : Int32) M)
set_option maxRecDepth 100000 in
set_option maxHeartbeats 4000000 in
theorem zb_X10_turn_19 {X : Cx} {h0 : Nat} {K : Int32 → Mm → Prop} (hX : Ok X cX10_turn RX10 rm_X10_turn) (hQ : Rq X rm_X10_turn (some .int) (QI K)) (hnL : X.2.2.2.2.2.2.2.2.2.2.2.2.2.2 = 3) {M : Mm} (h : bk_X10_turn_19 h0 K M) : Z X M 0 0 19 [] [] := by
  unfold bk_X10_turn_19 at h
  refine z_iconst (v := (-1 : Int32)) hX dX10_turn_19 (by decide) ?_
  exact z_iret hX hQ dX10_turn_20 h
def wp_X10_turn (M : Mm) (h0 : Nat) (p1 : Int32) (K : Int32 → Mm → Prop) : Prop := mK M h0 = 11 ∧ (((mR M 644 h0) = none → (bk_X10_turn_19 h0 K M)) ∧ (∀ a2, (mR M 644 h0) = some a2 → ((p1 < (1 : Int32) → (bk_X10_turn_19 h0 K M)) ∧ (¬ p1 < (1 : Int32) → ((p1 ≤ (1000 : Int32) → mK M a2 = 2 ∧ (wp_X1_goOn M a2 p1 (fun r4 M5 => mK M5 h0 = 11 ∧ ∃ a11, (mR M5 644 h0) = some a11 ∧ mK M5 a11 = 2 ∧ (wp_X1_reckon M5 a11 (fun M10 => (K r4 M10)))))) ∧ (¬ p1 ≤ (1000 : Int32) → (bk_X10_turn_19 h0 K M)))))))
set_option maxRecDepth 100000 in
set_option maxHeartbeats 4000000 in
theorem ct_X10_turn {M : Mm} {h0 : Nat} {p1 : Int32} {K : Int32 → Mm → Prop} (h : wp_X10_turn M h0 p1 K) : CtI yX10_turn cX10_turn 3 (some .int) rm_X10_turn [.ref h0, .int p1] M K := by
  refine ct_any (QI K) (by decide) (by exact Nat.le_of_ble_eq_true rfl) (fun X hX hQ hnL hnm => ?_)
  rw [show lv_args 0 [.ref h0, .int p1] = [(0, va_rf (some h0)), (1, .int p1)] by rfl]
  have hX : Ok X cX10_turn RX10 rm_X10_turn := hX
  unfold wp_X10_turn at h
  refine z_aload_n (r := (some h0)) hX dX10_turn_0 rfl 0 rfl ?_
  obtain ⟨hk1, h⟩ := h
  refine gf_RX10_31 (r := (some h0)) hX dX10_turn_1 rfl hk1 ?_
  obtain ⟨h1, h2⟩ := h
  refine z_ifnull (r := (mR M 644 h0)) (tgt := 19) hX dX10_turn_4 (by decide) (fun hc => ?_) (fun a2 ha3 => ?_)
  · have h := h1 hc
    refine z_loc [] rfl ?_
    exact zb_X10_turn_19 hX hQ hnL h
  · have h := h2 a2 ha3
    refine z_iload_n hX dX10_turn_7 rfl 1 rfl ?_
    refine z_iconst (v := (1 : Int32)) hX dX10_turn_8 (by decide) ?_
    obtain ⟨h1, h2⟩ := h
    refine z_icmp_lt (tgt := 19) hX dX10_turn_9 (by decide) (fun hc => ?_) (fun hc => ?_)
    · have h := h1 hc
      refine z_loc [] rfl ?_
      exact zb_X10_turn_19 hX hQ hnL h
    · have h := h2 hc
      refine z_iload_n hX dX10_turn_12 rfl 1 rfl ?_
      refine z_sipush (v := (1000 : Int32)) hX dX10_turn_13 (by decide) ?_
      obtain ⟨h1, h2⟩ := h
      refine z_icmp_le (tgt := 21) hX dX10_turn_16 (by decide) (fun hc => ?_) (fun hc => ?_)
      · have h := h1 hc
        refine z_aload_n (r := (some h0)) hX dX10_turn_21 rfl 0 rfl ?_
        refine gf_RX10_31 (r := (some h0)) hX dX10_turn_22 rfl hk1 ?_
        refine z_iload_n hX dX10_turn_25 rfl 1 rfl ?_
        obtain ⟨hk6, h⟩ := h
        refine z_callVI (As := [.int p1]) (rest := []) (ci := 1) hX (ct_X1_goOn h) mw_RX10_125 rfl (by decide) rfl (by rw [ha3]; rfl) (by unfold RoomC; decide) (by decide) dX10_turn_26 hk6 (fun r4 M5 h => ?_)
        refine z_istore_n hX [(2, .int r4), (0, va_rf (some h0)), (1, .int p1)] dX10_turn_29 rfl (by rw [hnL]; decide) rfl ?_
        refine z_aload_n (r := (some h0)) hX dX10_turn_30 rfl 1 rfl ?_
        obtain ⟨hk8, h⟩ := h
        refine gf_RX10_31 (r := (some h0)) hX dX10_turn_31 rfl hk8 ?_
        obtain ⟨a11, ha12, h⟩ := h
        obtain ⟨hk13, h⟩ := h
        refine z_callVV (As := []) (rest := []) (ci := 1) hX (ct_X1_reckon h) mw_RX10_102 rfl (by decide) rfl (by rw [ha12]; rfl) (by unfold RoomC; decide) (by decide) dX10_turn_34 hk13 (fun M10 h => ?_)
        refine z_iload_n hX dX10_turn_37 rfl 0 rfl ?_
        exact z_iret hX hQ dX10_turn_38 h
      · have h := h2 hc
        refine z_loc [] rfl ?_
        exact zb_X10_turn_19 hX hQ hnL h
def rm_X10_hold : Room := { frames := 311, cells := 0, slots := 0, locals := 12261 }
def bk_X10_hold_31 (h0 : Nat) (K : Int32 → Mm → Prop) (M : Mm) : Prop := (K (-1 : Int32) M)
set_option maxRecDepth 100000 in
set_option maxHeartbeats 4000000 in
theorem zb_X10_hold_31 {X : Cx} {h0 : Nat} {K : Int32 → Mm → Prop} (hX : Ok X cX10_hold RX10 rm_X10_hold) (hQ : Rq X rm_X10_hold (some .int) (QI K)) (hnL : X.2.2.2.2.2.2.2.2.2.2.2.2.2.2 = 6) {M : Mm} (h : bk_X10_hold_31 h0 K M) : Z X M 0 0 31 [] [] := by
  unfold bk_X10_hold_31 at h
  refine z_iconst (v := (-1 : Int32)) hX dX10_hold_31 (by decide) ?_
  exact z_iret hX hQ dX10_hold_32 h
def wp_X10_hold (M : Mm) (h0 : Nat) (p1 : Int32) (p2 : Int64) (K : Int32 → Mm → Prop) : Prop := mK M h0 = 11 ∧ (wp_X10_streamOrNull M h0 p1 (fun r1 M2 => ((r1 = none → (bk_X10_hold_31 h0 K M2)) ∧ (∀ a5, r1 = some a5 → mK M2 a5 = 7 ∧ ((¬ (mJ M2 386 a5) = (1752132708 : Int64) → (bk_X10_hold_31 h0 K M2)) ∧ ((mJ M2 386 a5) = (1752132708 : Int64) → (wp_X10_isTime M2 p2 (fun r8 M9 => ((¬ r8 = 0 → mK M9 h0 = 11 ∧ ∃ a12, (mR M9 644 h0) = some a12 ∧ mK M9 a12 = 2 ∧ ∃ a15, (mR M9 68 a12) = some a15 ∧ mK M9 a15 = 9 ∧ (((mI M9 515 a15) < (60 : Int32) → mK M9 a5 = 7 ∧ (((mJ M9 390 a5) < p2 → (wp_X8_give M9 a15 p1 p2 (fun r19 M20 => mK M20 h0 = 11 ∧ ∃ a25, (mR M20 644 h0) = some a25 ∧ mK M20 a25 = 2 ∧ (wp_X1_reckon M20 a25 (fun M24 => (K r19 M24)))))) ∧ (¬ (mJ M9 390 a5) < p2 → (K (-5 : Int32) M9)))) ∧ (¬ (mI M9 515 a15) < (60 : Int32) → (K (-4 : Int32) M9)))) ∧ (r8 = 0 → (bk_X10_hold_31 h0 K M9)))))))))))
set_option maxRecDepth 100000 in
set_option maxHeartbeats 4000000 in
theorem ct_X10_hold {M : Mm} {h0 : Nat} {p1 : Int32} {p2 : Int64} {K : Int32 → Mm → Prop} (h : wp_X10_hold M h0 p1 p2 K) : CtI yX10_hold cX10_hold 6 (some .int) rm_X10_hold [.ref h0, .int p1, .long p2] M K := by
  refine ct_any (QI K) (by decide) (by exact Nat.le_of_ble_eq_true rfl) (fun X hX hQ hnL hnm => ?_)
  rw [show lv_args 0 [.ref h0, .int p1, .long p2] = [(0, va_rf (some h0)), (1, .int p1), (2, .long p2)] by rfl]
  have hX : Ok X cX10_hold RX10 rm_X10_hold := hX
  unfold wp_X10_hold at h
  refine z_aload_n (r := (some h0)) hX dX10_hold_0 rfl 0 rfl ?_
  refine z_iload_n hX dX10_hold_1 rfl 1 rfl ?_
  obtain ⟨hk3, h⟩ := h
  refine z_callVR (As := [.int p1]) (rest := []) (ci := 10) hX (ct_X10_streamOrNull h) mw_RX10_129 rfl (by decide) rfl (by rfl) (by unfold RoomC; decide) (by decide) dX10_hold_2 hk3 (fun r1 M2 h => ?_)
  refine z_astore (r := r1) hX [(4, va_rf r1), (0, va_rf (some h0)), (1, .int p1), (2, .long p2)] dX10_hold_5 (by rw [hnL]; decide) rfl ?_
  refine z_aload (r := r1) hX dX10_hold_7 0 rfl ?_
  obtain ⟨h1, h2⟩ := h
  refine z_ifnull (r := r1) (tgt := 31) hX dX10_hold_9 (by decide) (fun hc => ?_) (fun a5 ha6 => ?_)
  · have h := h1 hc
    refine z_loc [] rfl ?_
    exact zb_X10_hold_31 hX hQ hnL h
  · have h := h2 a5 ha6
    refine z_aload (r := r1) hX dX10_hold_12 0 rfl ?_
    obtain ⟨hk7, h⟩ := h
    refine gf_RX10_133 (r := r1) hX dX10_hold_14 ha6 hk7 ?_
    refine z_ldc2 (v := (1752132708 : Int64)) hX dX10_hold_17 kj_RX10_137 ?_
    refine z_lcmp hX dX10_hold_20 ?_
    obtain ⟨h1, h2⟩ := h
    refine z_if_ne (tgt := 31) hX dX10_hold_21 (by decide) (fun hc => ?_) (fun hc => ?_)
    · have h := h1 (fun q => hc ((lg_cmp_eq _ _).mpr q))
      refine z_loc [] rfl ?_
      exact zb_X10_hold_31 hX hQ hnL h
    · have h := h2 ((lg_cmp_eq _ _).mp hc)
      refine z_lload_n hX dX10_hold_24 rfl 3 rfl ?_
      refine z_callSI (As := [.long p2]) (rest := []) hX (ct_X10_isTime h) mw_RX10_80 rfl (by rfl) (by unfold RoomC; decide) (by decide) dX10_hold_25 (fun r8 M9 h => ?_)
      obtain ⟨h1, h2⟩ := h
      refine z_if_ne (tgt := 33) hX dX10_hold_28 (by decide) (fun hc => ?_) (fun hc => ?_)
      · have h := h1 hc
        refine z_aload_n (r := (some h0)) hX dX10_hold_33 rfl 1 rfl ?_
        obtain ⟨hk11, h⟩ := h
        refine gf_RX10_31 (r := (some h0)) hX dX10_hold_34 rfl hk11 ?_
        obtain ⟨a12, ha13, h⟩ := h
        obtain ⟨hk14, h⟩ := h
        refine gf_RX10_139 (r := (mR M9 644 h0)) hX dX10_hold_37 ha13 hk14 ?_
        obtain ⟨a15, ha16, h⟩ := h
        obtain ⟨hk17, h⟩ := h
        refine gf_RX10_143 (r := (mR M9 68 a12)) hX dX10_hold_40 ha16 hk17 ?_
        refine z_bipush (v := (60 : Int32)) hX dX10_hold_43 (by decide) ?_
        obtain ⟨h1, h2⟩ := h
        refine z_icmp_lt (tgt := 51) hX dX10_hold_45 (by decide) (fun hc => ?_) (fun hc => ?_)
        · have h := h1 hc
          refine z_lload_n hX dX10_hold_51 rfl 3 rfl ?_
          refine z_aload (r := r1) hX dX10_hold_52 0 rfl ?_
          obtain ⟨hk18, h⟩ := h
          refine gf_RX10_148 (r := r1) hX dX10_hold_54 ha6 hk18 ?_
          refine z_lcmp hX dX10_hold_57 ?_
          obtain ⟨h1, h2⟩ := h
          refine z_if_gt (tgt := 64) hX dX10_hold_58 (by decide) (fun hc => ?_) (fun hc => ?_)
          · have h := h1 ((lg_cmp_gt _ _).mp hc)
            refine z_aload_n (r := (some h0)) hX dX10_hold_64 rfl 1 rfl ?_
            refine gf_RX10_31 (r := (some h0)) hX dX10_hold_65 rfl hk11 ?_
            refine gf_RX10_139 (r := (mR M9 644 h0)) hX dX10_hold_68 ha13 hk14 ?_
            refine z_iload_n hX dX10_hold_71 rfl 2 rfl ?_
            refine z_lload_n hX dX10_hold_72 rfl 3 rfl ?_
            refine z_callVI (As := [.int p1, .long p2]) (rest := []) (ci := 8) hX (ct_X8_give h) mw_RX10_151 rfl (by decide) rfl (by rw [ha16]; rfl) (by unfold RoomC; decide) (by decide) dX10_hold_73 hk17 (fun r19 M20 h => ?_)
            refine z_istore (i := 5) hX [(5, .int r19), (4, va_rf r1), (0, va_rf (some h0)), (1, .int p1), (2, .long p2)] dX10_hold_76 (by rw [hnL]; decide) (by simp [cat_rf]) ?_
            refine z_aload_n (r := (some h0)) hX dX10_hold_78 rfl 2 rfl ?_
            obtain ⟨hk22, h⟩ := h
            refine gf_RX10_31 (r := (some h0)) hX dX10_hold_79 rfl hk22 ?_
            obtain ⟨a25, ha26, h⟩ := h
            obtain ⟨hk27, h⟩ := h
            refine z_callVV (As := []) (rest := []) (ci := 1) hX (ct_X1_reckon h) mw_RX10_102 rfl (by decide) rfl (by rw [ha26]; rfl) (by unfold RoomC; decide) (by decide) dX10_hold_82 hk27 (fun M24 h => ?_)
            refine z_iload hX dX10_hold_85 0 rfl ?_
            exact z_iret hX hQ dX10_hold_87 h
          · have h := h2 (fun q => hc ((lg_cmp_gt _ _).mpr q))
            refine z_bipush (v := (-5 : Int32)) hX dX10_hold_61 (by decide) ?_
            exact z_iret hX hQ dX10_hold_63 h
        · have h := h2 hc
          refine z_bipush (v := (-4 : Int32)) hX dX10_hold_48 (by decide) ?_
          exact z_iret hX hQ dX10_hold_50 h
      · have h := h2 hc
        refine z_loc [] rfl ?_
        exact zb_X10_hold_31 hX hQ hnL h
def rm_X10_release : Room := { frames := 311, cells := 0, slots := 0, locals := 12261 }
def bk_X10_release_28 (h0 : Nat) (K : Int32 → Mm → Prop) (M : Mm) : Prop := (K (-1 : Int32) M)
set_option maxRecDepth 100000 in
set_option maxHeartbeats 4000000 in
theorem zb_X10_release_28 {X : Cx} {h0 : Nat} {K : Int32 → Mm → Prop} (hX : Ok X cX10_release RX10 rm_X10_release) (hQ : Rq X rm_X10_release (some .int) (QI K)) (hnL : X.2.2.2.2.2.2.2.2.2.2.2.2.2.2 = 4) {M : Mm} (h : bk_X10_release_28 h0 K M) : Z X M 0 0 28 [] [] := by
  unfold bk_X10_release_28 at h
  refine z_iconst (v := (-1 : Int32)) hX dX10_release_28 (by decide) ?_
  exact z_iret hX hQ dX10_release_29 h
def bk_X10_release_43 (h0 : Nat) (K : Int32 → Mm → Prop) (l1 : Int32) (M : Mm) : Prop := mK M h0 = 11 ∧ ∃ a2, (mR M 644 h0) = some a2 ∧ mK M a2 = 2 ∧ ∃ a5, (mR M 68 a2) = some a5 ∧ mK M a5 = 9 ∧ ∃ a8, (mR M 514 a5) = some a8 ∧ isA M a8 3 ∧ vp_in l1 (aN M a8) ∧ ∃ a14, (mR (tI M a8 (l1).toNatClampNeg (0 : Int32)) 644 h0) = some a14 ∧ mK (tI M a8 (l1).toNatClampNeg (0 : Int32)) a14 = 2 ∧ (wp_X1_reckon (tI M a8 (l1).toNatClampNeg (0 : Int32)) a14 (fun M13 => (K (1 : Int32) M13)))
set_option maxRecDepth 100000 in
set_option maxHeartbeats 4000000 in
theorem zb_X10_release_43 {X : Cx} {h0 : Nat} {K : Int32 → Mm → Prop} (hX : Ok X cX10_release RX10 rm_X10_release) (hQ : Rq X rm_X10_release (some .int) (QI K)) (hnL : X.2.2.2.2.2.2.2.2.2.2.2.2.2.2 = 4) {l1 : Int32} {M : Mm} (h : bk_X10_release_43 h0 K l1 M) : Z X M 0 0 43 [(0, va_rf (some h0)), (1, .int l1)] [] := by
  unfold bk_X10_release_43 at h
  refine z_aload_n (r := (some h0)) hX dX10_release_43 rfl 0 rfl ?_
  obtain ⟨hk1, h⟩ := h
  refine gf_RX10_31 (r := (some h0)) hX dX10_release_44 rfl hk1 ?_
  obtain ⟨a2, ha3, h⟩ := h
  obtain ⟨hk4, h⟩ := h
  refine gf_RX10_139 (r := (mR M 644 h0)) hX dX10_release_47 ha3 hk4 ?_
  obtain ⟨a5, ha6, h⟩ := h
  obtain ⟨hk7, h⟩ := h
  refine gf_RX10_161 (r := (mR M 68 a2)) hX dX10_release_50 ha6 hk7 ?_
  refine z_iload_n hX dX10_release_53 rfl 1 rfl ?_
  refine z_iconst (v := (0 : Int32)) hX dX10_release_54 (by decide) ?_
  obtain ⟨a8, ha9, h⟩ := h
  obtain ⟨hk10, h⟩ := h
  obtain ⟨hc11, h⟩ := h
  refine y_zast (r := (mR M 514 a5)) hX dX10_release_55 ha9 hk10 hc11 (Or.inl rfl)  ?_
  refine z_aload_n (r := (some h0)) hX dX10_release_56 rfl 0 rfl ?_
  refine gf_RX10_31 (r := (some h0)) hX dX10_release_57 rfl hk1 ?_
  obtain ⟨a14, ha15, h⟩ := h
  obtain ⟨hk16, h⟩ := h
  refine z_callVV (As := []) (rest := []) (ci := 1) hX (ct_X1_reckon h) mw_RX10_102 rfl (by decide) rfl (by rw [ha15]; rfl) (by unfold RoomC; decide) (by decide) dX10_release_60 hk16 (fun M13 h => ?_)
  refine z_iconst (v := (1 : Int32)) hX dX10_release_63 (by decide) ?_
  exact z_iret hX hQ dX10_release_64 h
def wp_X10_release (M : Mm) (h0 : Nat) (p1 : Int32) (p2 : Int32) (p3 : Int32) (K : Int32 → Mm → Prop) : Prop := mK M h0 = 11 ∧ (((mR M 644 h0) = none → (bk_X10_release_28 h0 K M)) ∧ (∀ a19, (mR M 644 h0) = some a19 → mK M a19 = 2 ∧ ∃ a24, (mR M 68 a19) = some a24 ∧ mK M a24 = 9 ∧ (wp_X8_isHeld M a24 p1 (fun r22 M23 => ((r22 = 0 → (bk_X10_release_28 h0 K M23)) ∧ (¬ r22 = 0 → (wp_X10_isKey M23 p3 (fun r28 M29 => ((¬ r28 = 0 → ((p2 = 0 → (bk_X10_release_43 h0 K p1 M29)) ∧ (¬ p2 = 0 → mK M29 h0 = 11 ∧ ∃ a34, (mR M29 644 h0) = some a34 ∧ mK M29 a34 = 2 ∧ (wp_X1_emit M29 a34 p1 p3 (fun M33 => (bk_X10_release_43 h0 K p1 M33)))))) ∧ (r28 = 0 → (bk_X10_release_28 h0 K M29)))))))))))
set_option maxRecDepth 100000 in
set_option maxHeartbeats 4000000 in
theorem ct_X10_release {M : Mm} {h0 : Nat} {p1 : Int32} {p2 : Int32} {p3 : Int32} {K : Int32 → Mm → Prop} (h : wp_X10_release M h0 p1 p2 p3 K) : CtI yX10_release cX10_release 4 (some .int) rm_X10_release [.ref h0, .int p1, .int p2, .int p3] M K := by
  refine ct_any (QI K) (by decide) (by exact Nat.le_of_ble_eq_true rfl) (fun X hX hQ hnL hnm => ?_)
  rw [show lv_args 0 [.ref h0, .int p1, .int p2, .int p3] = [(0, va_rf (some h0)), (1, .int p1), (2, .int p2), (3, .int p3)] by rfl]
  have hX : Ok X cX10_release RX10 rm_X10_release := hX
  unfold wp_X10_release at h
  refine z_aload_n (r := (some h0)) hX dX10_release_0 rfl 0 rfl ?_
  obtain ⟨hk18, h⟩ := h
  refine gf_RX10_31 (r := (some h0)) hX dX10_release_1 rfl hk18 ?_
  obtain ⟨h1, h2⟩ := h
  refine z_ifnull (r := (mR M 644 h0)) (tgt := 28) hX dX10_release_4 (by decide) (fun hc => ?_) (fun a19 ha20 => ?_)
  · have h := h1 hc
    refine z_loc [] rfl ?_
    exact zb_X10_release_28 hX hQ hnL h
  · have h := h2 a19 ha20
    refine z_aload_n (r := (some h0)) hX dX10_release_7 rfl 0 rfl ?_
    refine gf_RX10_31 (r := (some h0)) hX dX10_release_8 rfl hk18 ?_
    obtain ⟨hk21, h⟩ := h
    refine gf_RX10_139 (r := (mR M 644 h0)) hX dX10_release_11 ha20 hk21 ?_
    refine z_iload_n hX dX10_release_14 rfl 1 rfl ?_
    obtain ⟨a24, ha25, h⟩ := h
    obtain ⟨hk26, h⟩ := h
    refine z_callVI (As := [.int p1]) (rest := []) (ci := 8) hX (ct_X8_isHeld h) mw_RX10_155 rfl (by decide) rfl (by rw [ha25]; rfl) (by unfold RoomC; decide) (by decide) dX10_release_15 hk26 (fun r22 M23 h => ?_)
    obtain ⟨h1, h2⟩ := h
    refine z_if_eq (tgt := 28) hX dX10_release_18 (by decide) (fun hc => ?_) (fun hc => ?_)
    · have h := h1 hc
      refine z_loc [] rfl ?_
      exact zb_X10_release_28 hX hQ hnL h
    · have h := h2 hc
      refine z_iload_n hX dX10_release_21 rfl 3 rfl ?_
      refine z_callSI (As := [.int p3]) (rest := []) hX (ct_X10_isKey h) mw_RX10_84 rfl (by rfl) (by unfold RoomC; decide) (by decide) dX10_release_22 (fun r28 M29 h => ?_)
      obtain ⟨h1, h2⟩ := h
      refine z_if_ne (tgt := 30) hX dX10_release_25 (by decide) (fun hc => ?_) (fun hc => ?_)
      · have h := h1 hc
        refine z_iload_n hX dX10_release_30 rfl 2 rfl ?_
        obtain ⟨h1, h2⟩ := h
        refine z_if_eq (tgt := 43) hX dX10_release_31 (by decide) (fun hc => ?_) (fun hc => ?_)
        · have h := h1 hc
          refine z_loc [0, 1] rfl ?_
          exact zb_X10_release_43 hX hQ hnL h
        · have h := h2 hc
          refine z_aload_n (r := (some h0)) hX dX10_release_34 rfl 0 rfl ?_
          obtain ⟨hk31, h⟩ := h
          refine gf_RX10_31 (r := (some h0)) hX dX10_release_35 rfl hk31 ?_
          refine z_iload_n hX dX10_release_38 rfl 1 rfl ?_
          refine z_iload_n hX dX10_release_39 rfl 3 rfl ?_
          obtain ⟨a34, ha35, h⟩ := h
          obtain ⟨hk36, h⟩ := h
          refine z_callVV (As := [.int p1, .int p3]) (rest := []) (ci := 1) hX (ct_X1_emit h) mw_RX10_158 rfl (by decide) rfl (by rw [ha35]; rfl) (by unfold RoomC; decide) (by decide) dX10_release_40 hk36 (fun M33 h => ?_)
          refine z_loc [0, 1] rfl ?_
          exact zb_X10_release_43 hX hQ hnL h
      · have h := h2 hc
        refine z_loc [] rfl ?_
        exact zb_X10_release_28 hX hQ hnL h
def rm_X2_init : Room := { frames := 1, cells := 10, slots := 44, locals := 20 }
def wp_X2_init (_ : Mm) (_ : Nat) (_ : Option Nat) (_ : Option Nat) (_ : Int64) (_ : Int64) (_ : Mm → Prop) : Prop := False
theorem ct_X2_init {M : Mm} {h0 : Nat} {p1 : Option Nat} {p2 : Option Nat} {p3 : Int64} {p4 : Int64} {K : Mm → Prop} (h : wp_X2_init M h0 p1 p2 p3 p4 K) : CtV yX2_init cX2_init 7 none rm_X2_init [.ref h0, va_rf p1, va_rf p2, .long p3, .long p4] M K := False.elim h
def rm_X7_readJoin : Room := { frames := 4, cells := 11, slots := 52, locals := 88 }
def bk_X7_readJoin_33 (h0 : Nat) (K : Int32 → Mm → Prop) (M : Mm) : Prop := (K (0 : Int32) M)
set_option maxRecDepth 100000 in
set_option maxHeartbeats 4000000 in
theorem zb_X7_readJoin_33 {X : Cx} {h0 : Nat} {K : Int32 → Mm → Prop} (hX : Ok X cX7_readJoin RX7 rm_X7_readJoin) (hQ : Rq X rm_X7_readJoin (some .boolean) (QI K)) (hnL : X.2.2.2.2.2.2.2.2.2.2.2.2.2.2 = 4) {M : Mm} (h : bk_X7_readJoin_33 h0 K M) : Z X M 0 0 33 [] [] := by
  unfold bk_X7_readJoin_33 at h
  refine z_iconst (v := (0 : Int32)) hX dX7_readJoin_33 (by decide) ?_
  refine z_widen 11 52 (by decide) (by decide) ?_
  exact y_zret hX hQ dX7_readJoin_34 (Or.inl rfl) h
def bk_X7_readJoin_55 (h0 : Nat) (K : Int32 → Mm → Prop) (M : Mm) : Prop := (K (0 : Int32) M)
set_option maxRecDepth 100000 in
set_option maxHeartbeats 4000000 in
theorem zb_X7_readJoin_55 {X : Cx} {h0 : Nat} {K : Int32 → Mm → Prop} (hX : Ok X cX7_readJoin RX7 rm_X7_readJoin) (hQ : Rq X rm_X7_readJoin (some .boolean) (QI K)) (hnL : X.2.2.2.2.2.2.2.2.2.2.2.2.2.2 = 4) {M : Mm} (h : bk_X7_readJoin_55 h0 K M) : Z X M 0 0 55 [] [] := by
  unfold bk_X7_readJoin_55 at h
  refine z_iconst (v := (0 : Int32)) hX dX7_readJoin_55 (by decide) ?_
  refine z_widen 11 52 (by decide) (by decide) ?_
  exact y_zret hX hQ dX7_readJoin_56 (Or.inl rfl) h
def bk_X7_readJoin_80 (h0 : Nat) (K : Int32 → Mm → Prop) (M : Mm) : Prop := (K (0 : Int32) M)
set_option maxRecDepth 100000 in
set_option maxHeartbeats 4000000 in
theorem zb_X7_readJoin_80 {X : Cx} {h0 : Nat} {K : Int32 → Mm → Prop} (hX : Ok X cX7_readJoin RX7 rm_X7_readJoin) (hQ : Rq X rm_X7_readJoin (some .boolean) (QI K)) (hnL : X.2.2.2.2.2.2.2.2.2.2.2.2.2.2 = 4) {M : Mm} (h : bk_X7_readJoin_80 h0 K M) : Z X M 0 0 80 [] [] := by
  unfold bk_X7_readJoin_80 at h
  refine z_iconst (v := (0 : Int32)) hX dX7_readJoin_80 (by decide) ?_
  refine z_widen 11 52 (by decide) (by decide) ?_
  exact y_zret hX hQ dX7_readJoin_81 (Or.inl rfl) h
def wp_X7_readJoin (M : Mm) (h0 : Nat) (p1 : Option Nat) (K : Int32 → Mm → Prop) : Prop := mK M h0 = 8 ∧ ∃ a5, (mR (sI M 452 h0 ((mI M 452 h0) + (1 : Int32))) 448 h0) = some a5 ∧ mK (sI M 452 h0 ((mI M 452 h0) + (1 : Int32))) a5 = 5 ∧ (wp_X4_advance (sI M 452 h0 ((mI M 452 h0) + (1 : Int32))) a5 (fun M4 => mK M4 h0 = 8 ∧ (wp_X7_readInput M4 h0 p1 (fun r9 M10 => ((r9 = 0 → (bk_X7_readJoin_33 h0 K M10)) ∧ (¬ r9 = 0 → mK M10 h0 = 8 ∧ (wp_X7_readInput M10 h0 p1 (fun r13 M14 => ((¬ r13 = 0 → mK M14 h0 = 8 ∧ (wp_X7_readKeyword M14 h0 (1718775661 : Int64) (fun r17 M18 => ((r17 = 0 → (bk_X7_readJoin_55 h0 K M18)) ∧ (¬ r17 = 0 → mK M18 h0 = 8 ∧ (wp_X7_readSignedNumber M18 h0 (-999999999999999999 : Int64) (fun r21 M22 => ((¬ r21 = 0 → mK M22 h0 = 8 ∧ (wp_X7_readKeyword M22 h0 (29807 : Int64) (fun r26 M27 => ((r26 = 0 → (bk_X7_readJoin_80 h0 K M27)) ∧ (¬ r26 = 0 → mK M27 h0 = 8 ∧ (wp_X7_readSignedNumber M27 h0 (mJ M22 454 h0) (fun r29 M30 => ((¬ r29 = 0 → (∀ q33, mK M30 q33 = 0 → ∃ a36, p1 = some a36 ∧ mK (nw M30 q33 3) a36 = 7 ∧ ∃ a39, (mR (nw M30 q33 3) 387 a36) = some a39 ∧ isA (nw M30 q33 3) a39 4 ∧ vp_in (0 : Int32) (aN (nw M30 q33 3) a39) ∧ vp_in (1 : Int32) (aN (nw M30 q33 3) a39) ∧ mK (nw M30 q33 3) h0 = 8 ∧ (wp_X2_init (nw M30 q33 3) q33 (aR (nw M30 q33 3) a39 ((0 : Int32)).toNatClampNeg) (aR (nw M30 q33 3) a39 ((1 : Int32)).toNatClampNeg) (mJ M22 454 h0) (mJ (nw M30 q33 3) 454 h0) (fun M46 => mK M46 a36 = 7 ∧ mK (sR M46 394 a36 (some q33)) h0 = 8 ∧ (wp_X7_readSign (sR M46 394 a36 (some q33)) h0 (59 : Int32) (fun r50 M51 => (bz r50 ∧ K r50 M51))))))) ∧ (r29 = 0 → (bk_X7_readJoin_80 h0 K M30)))))))))) ∧ (r21 = 0 → (bk_X7_readJoin_55 h0 K M22)))))))))) ∧ (r13 = 0 → (bk_X7_readJoin_33 h0 K M14)))))))))))
set_option maxRecDepth 100000 in
set_option maxHeartbeats 4000000 in
theorem ct_X7_readJoin {M : Mm} {h0 : Nat} {p1 : Option Nat} {K : Int32 → Mm → Prop} (h : wp_X7_readJoin M h0 p1 K) : CtI yX7_readJoin cX7_readJoin 4 (some .boolean) rm_X7_readJoin [.ref h0, va_rf p1] M K := by
  refine ct_any (QI K) (by decide) (by cases p1 <;> exact Nat.le_of_ble_eq_true rfl) (fun X hX hQ hnL hnm => ?_)
  rw [show lv_args 0 [.ref h0, va_rf p1] = [(0, va_rf (some h0)), (1, va_rf p1)] by cases p1 <;> rfl]
  have hX : Ok X cX7_readJoin RX7 rm_X7_readJoin := hX
  unfold wp_X7_readJoin at h
  refine z_aload_n (r := (some h0)) hX dX7_readJoin_0 rfl 0 rfl ?_
  refine z_dup hX dX7_readJoin_1 (cat_rf _) ?_
  obtain ⟨hk1, h⟩ := h
  refine gf_RX7_121 (r := (some h0)) hX dX7_readJoin_2 rfl hk1 ?_
  refine z_iconst (v := (1 : Int32)) hX dX7_readJoin_5 (by decide) ?_
  refine z_iadd hX dX7_readJoin_6 ?_
  refine pf_RX7_121 (r := (some h0)) (v := ((mI M 452 h0) + (1 : Int32))) hX dX7_readJoin_7 rfl hk1 ?_
  refine z_aload_n (r := (some h0)) hX dX7_readJoin_10 rfl 0 rfl ?_
  refine gf_RX7_9 (r := (some h0)) hX dX7_readJoin_11 rfl hk1 ?_
  obtain ⟨a5, ha6, h⟩ := h
  obtain ⟨hk7, h⟩ := h
  refine z_callVV (As := []) (rest := []) (ci := 4) hX (ct_X4_advance h) mw_RX7_19 rfl (by decide) rfl (by rw [ha6]; rfl) (by unfold RoomC; decide) (by decide) dX7_readJoin_14 hk7 (fun M4 h => ?_)
  refine z_aload_n (r := (some h0)) hX dX7_readJoin_17 rfl 0 rfl ?_
  refine z_aload_n (r := p1) hX dX7_readJoin_18 rfl 1 rfl ?_
  obtain ⟨hk11, h⟩ := h
  refine z_callVI (As := [va_rf p1]) (rest := []) (ci := 7) hX (ct_X7_readInput h) mw_RX7_116 rfl (by decide) rfl (by rfl) (by unfold RoomC; decide) (by decide) dX7_readJoin_19 hk11 (fun r9 M10 h => ?_)
  obtain ⟨h1, h2⟩ := h
  refine z_if_eq (tgt := 33) hX dX7_readJoin_22 (by decide) (fun hc => ?_) (fun hc => ?_)
  · have h := h1 hc
    refine z_loc [] rfl ?_
    refine z_widen 0 0 (by decide) (by decide) ?_
    exact zb_X7_readJoin_33 hX hQ hnL h
  · have h := h2 hc
    refine z_aload_n (r := (some h0)) hX dX7_readJoin_25 rfl 0 rfl ?_
    refine z_aload_n (r := p1) hX dX7_readJoin_26 rfl 1 rfl ?_
    obtain ⟨hk15, h⟩ := h
    refine z_callVI (As := [va_rf p1]) (rest := []) (ci := 7) hX (ct_X7_readInput h) mw_RX7_116 rfl (by decide) rfl (by rfl) (by unfold RoomC; decide) (by decide) dX7_readJoin_27 hk15 (fun r13 M14 h => ?_)
    obtain ⟨h1, h2⟩ := h
    refine z_if_ne (tgt := 35) hX dX7_readJoin_30 (by decide) (fun hc => ?_) (fun hc => ?_)
    · have h := h1 hc
      refine z_aload_n (r := (some h0)) hX dX7_readJoin_35 rfl 0 rfl ?_
      refine z_ldc2 (v := (1718775661 : Int64)) hX dX7_readJoin_36 kj_RX7_164 ?_
      obtain ⟨hk19, h⟩ := h
      refine z_callVI (As := [.long (1718775661 : Int64)]) (rest := []) (ci := 7) hX (ct_X7_readKeyword h) mw_RX7_145 rfl (by decide) rfl (by rfl) (by unfold RoomC; decide) (by decide) dX7_readJoin_39 hk19 (fun r17 M18 h => ?_)
      obtain ⟨h1, h2⟩ := h
      refine z_if_eq (tgt := 55) hX dX7_readJoin_42 (by decide) (fun hc => ?_) (fun hc => ?_)
      · have h := h1 hc
        refine z_loc [] rfl ?_
        refine z_widen 0 0 (by decide) (by decide) ?_
        exact zb_X7_readJoin_55 hX hQ hnL h
      · have h := h2 hc
        refine z_aload_n (r := (some h0)) hX dX7_readJoin_45 rfl 0 rfl ?_
        refine z_ldc2 (v := (-999999999999999999 : Int64)) hX dX7_readJoin_46 kj_RX7_166 ?_
        obtain ⟨hk23, h⟩ := h
        refine z_callVI (As := [.long (-999999999999999999 : Int64)]) (rest := []) (ci := 7) hX (ct_X7_readSignedNumber h) mw_RX7_168 rfl (by decide) rfl (by rfl) (by unfold RoomC; decide) (by decide) dX7_readJoin_49 hk23 (fun r21 M22 h => ?_)
        obtain ⟨h1, h2⟩ := h
        refine z_if_ne (tgt := 57) hX dX7_readJoin_52 (by decide) (fun hc => ?_) (fun hc => ?_)
        · have h := h1 hc
          refine z_aload_n (r := (some h0)) hX dX7_readJoin_57 rfl 0 rfl ?_
          obtain ⟨hk25, h⟩ := h
          refine gf_RX7_62 (r := (some h0)) hX dX7_readJoin_58 rfl hk25 ?_
          refine z_lstore_n (i := 2) hX [(2, .long (mJ M22 454 h0)), (0, va_rf (some h0)), (1, va_rf p1)] dX7_readJoin_61 rfl (by rw [hnL]; decide) (by simp [cat_rf]) ?_
          refine z_aload_n (r := (some h0)) hX dX7_readJoin_62 rfl 1 rfl ?_
          refine z_ldc2 (v := (29807 : Int64)) hX dX7_readJoin_63 kj_RX7_171 ?_
          refine z_callVI (As := [.long (29807 : Int64)]) (rest := []) (ci := 7) hX (ct_X7_readKeyword h) mw_RX7_145 rfl (by decide) rfl (by rfl) (by unfold RoomC; decide) (by decide) dX7_readJoin_66 hk25 (fun r26 M27 h => ?_)
          obtain ⟨h1, h2⟩ := h
          refine z_if_eq (tgt := 80) hX dX7_readJoin_69 (by decide) (fun hc => ?_) (fun hc => ?_)
          · have h := h1 hc
            refine z_loc [] rfl ?_
            refine z_widen 0 0 (by decide) (by decide) ?_
            exact zb_X7_readJoin_80 hX hQ hnL h
          · have h := h2 hc
            refine z_aload_n (r := (some h0)) hX dX7_readJoin_72 rfl 1 rfl ?_
            refine z_lload_n hX dX7_readJoin_73 rfl 0 rfl ?_
            obtain ⟨hk31, h⟩ := h
            refine z_callVI (As := [.long (mJ M22 454 h0)]) (rest := []) (ci := 7) hX (ct_X7_readSignedNumber h) mw_RX7_168 rfl (by decide) rfl (by rfl) (by unfold RoomC; decide) (by decide) dX7_readJoin_74 hk31 (fun r29 M30 h => ?_)
            obtain ⟨h1, h2⟩ := h
            refine z_if_ne (tgt := 82) hX dX7_readJoin_77 (by decide) (fun hc => ?_) (fun hc => ?_)
            · have h := h1 hc
              refine z_aload_n (r := p1) hX dX7_readJoin_82 rfl 2 rfl ?_
              refine nq_RX7_173 hX dX7_readJoin_83 (by decide) (by decide) (fun q33 hq34 => ?_)
              have h := h q33 hq34
              refine z_dup hX dX7_readJoin_86 (cat_rf _) ?_
              refine z_aload_n (r := p1) hX dX7_readJoin_87 rfl 2 rfl ?_
              obtain ⟨a36, ha37, h⟩ := h
              obtain ⟨hk38, h⟩ := h
              refine gf_RX7_175 (r := p1) hX dX7_readJoin_88 ha37 hk38 ?_
              refine z_iconst (v := (0 : Int32)) hX dX7_readJoin_91 (by decide) ?_
              obtain ⟨a39, ha40, h⟩ := h
              obtain ⟨hk41, h⟩ := h
              obtain ⟨hc42, h⟩ := h
              refine y_aldq (r := (mR (nw M30 q33 3) 387 a36)) hX dX7_readJoin_92 ha40 hk41 hc42 ?_
              refine z_aload_n (r := p1) hX dX7_readJoin_93 rfl 2 rfl ?_
              refine gf_RX7_175 (r := p1) hX dX7_readJoin_94 ha37 hk38 ?_
              refine z_iconst (v := (1 : Int32)) hX dX7_readJoin_97 (by decide) ?_
              obtain ⟨hc43, h⟩ := h
              refine y_aldq (r := (mR (nw M30 q33 3) 387 a36)) hX dX7_readJoin_98 ha40 hk41 hc43 ?_
              refine z_lload_n hX dX7_readJoin_99 rfl 0 rfl ?_
              refine z_aload_n (r := (some h0)) hX dX7_readJoin_100 rfl 1 rfl ?_
              obtain ⟨hk44, h⟩ := h
              refine gf_RX7_62 (r := (some h0)) hX dX7_readJoin_101 rfl hk44 ?_
              refine z_callIV (As := [va_rf (aR (nw M30 q33 3) a39 ((0 : Int32)).toNatClampNeg), va_rf (aR (nw M30 q33 3) a39 ((1 : Int32)).toNatClampNeg), .long (mJ M22 454 h0), .long (mJ (nw M30 q33 3) 454 h0)]) (rest := [va_rf (some q33), va_rf p1]) hX (ct_X2_init h) mw_RX7_179 rfl (by rfl) (by unfold RoomC; decide) (by simp only [List.map_cons, List.map_nil, List.sum_cons, List.sum_nil, cat_rf, cat_i, cat_j]; decide) dX7_readJoin_104 (fun M46 h => ?_)
              obtain ⟨hk48, h⟩ := h
              refine pf_RX7_182 (r := p1) (v := (some q33)) hX dX7_readJoin_107 ha37 hk48 ?_
              refine z_aload_n (r := (some h0)) hX dX7_readJoin_110 rfl 1 rfl ?_
              refine z_bipush (v := (59 : Int32)) hX dX7_readJoin_111 (by decide) ?_
              obtain ⟨hk52, h⟩ := h
              refine z_callVI (As := [.int (59 : Int32)]) (rest := []) (ci := 7) hX (ct_X7_readSign h) mw_RX7_78 rfl (by decide) rfl (by rfl) (by unfold RoomC; decide) (by decide) dX7_readJoin_113 hk52 (fun r50 M51 h => ?_)
              refine z_widen 11 52 (by decide) (by decide) ?_
              exact y_zret hX hQ dX7_readJoin_116 h.1 h.2
            · have h := h2 hc
              refine z_loc [] rfl ?_
              refine z_widen 0 0 (by decide) (by decide) ?_
              exact zb_X7_readJoin_80 hX hQ hnL h
        · have h := h2 hc
          refine z_loc [] rfl ?_
          refine z_widen 0 0 (by decide) (by decide) ?_
          exact zb_X7_readJoin_55 hX hQ hnL h
    · have h := h2 hc
      refine z_loc [] rfl ?_
      refine z_widen 0 0 (by decide) (by decide) ?_
      exact zb_X7_readJoin_33 hX hQ hnL h
def rm_X7_readKind : Room := { frames := 5, cells := 11, slots := 78, locals := 115 }
def bk_X7_readKind_153 (h0 : Nat) (K : Int32 → Mm → Prop) (s0 : Int32) (M : Mm) : Prop := (bz s0 ∧ K s0 M)
set_option maxRecDepth 100000 in
set_option maxHeartbeats 4000000 in
theorem zb_X7_readKind_153 {X : Cx} {h0 : Nat} {K : Int32 → Mm → Prop} (hX : Ok X cX7_readKind RX7 rm_X7_readKind) (hQ : Rq X rm_X7_readKind (some .boolean) (QI K)) (hnL : X.2.2.2.2.2.2.2.2.2.2.2.2.2.2 = 2) {s0 : Int32} {M : Mm} (h : bk_X7_readKind_153 h0 K s0 M) : Z X M 4 78 153 [] [.int s0] := by
  unfold bk_X7_readKind_153 at h
  refine z_widen 11 78 (by decide) (by decide) ?_
  exact y_zret hX hQ dX7_readKind_153 h.1 h.2
def bk_X7_readKind_120 (h0 : Nat) (K : Int32 → Mm → Prop) (s0 : Int32) (M : Mm) : Prop := (bz s0 ∧ K s0 M)
set_option maxRecDepth 100000 in
set_option maxHeartbeats 4000000 in
theorem zb_X7_readKind_120 {X : Cx} {h0 : Nat} {K : Int32 → Mm → Prop} (hX : Ok X cX7_readKind RX7 rm_X7_readKind) (hQ : Rq X rm_X7_readKind (some .boolean) (QI K)) (hnL : X.2.2.2.2.2.2.2.2.2.2.2.2.2.2 = 2) {s0 : Int32} {M : Mm} (h : bk_X7_readKind_120 h0 K s0 M) : Z X M 11 52 120 [] [.int s0] := by
  unfold bk_X7_readKind_120 at h
  refine z_widen 11 78 (by decide) (by decide) ?_
  exact y_zret hX hQ dX7_readKind_120 h.1 h.2
def bk_X7_readKind_87 (h0 : Nat) (K : Int32 → Mm → Prop) (s0 : Int32) (M : Mm) : Prop := (bz s0 ∧ K s0 M)
set_option maxRecDepth 100000 in
set_option maxHeartbeats 4000000 in
theorem zb_X7_readKind_87 {X : Cx} {h0 : Nat} {K : Int32 → Mm → Prop} (hX : Ok X cX7_readKind RX7 rm_X7_readKind) (hQ : Rq X rm_X7_readKind (some .boolean) (QI K)) (hnL : X.2.2.2.2.2.2.2.2.2.2.2.2.2.2 = 2) {s0 : Int32} {M : Mm} (h : bk_X7_readKind_87 h0 K s0 M) : Z X M 0 0 87 [] [.int s0] := by
  unfold bk_X7_readKind_87 at h
  refine z_widen 11 78 (by decide) (by decide) ?_
  exact y_zret hX hQ dX7_readKind_87 h.1 h.2
def bk_X7_readKind_86 (h0 : Nat) (K : Int32 → Mm → Prop) (M : Mm) : Prop := (bk_X7_readKind_87 h0 K (0 : Int32) M)
set_option maxRecDepth 100000 in
set_option maxHeartbeats 4000000 in
theorem zb_X7_readKind_86 {X : Cx} {h0 : Nat} {K : Int32 → Mm → Prop} (hX : Ok X cX7_readKind RX7 rm_X7_readKind) (hQ : Rq X rm_X7_readKind (some .boolean) (QI K)) (hnL : X.2.2.2.2.2.2.2.2.2.2.2.2.2.2 = 2) {M : Mm} (h : bk_X7_readKind_86 h0 K M) : Z X M 0 0 86 [] [] := by
  unfold bk_X7_readKind_86 at h
  refine z_iconst (v := (0 : Int32)) hX dX7_readKind_86 (by decide) ?_
  refine z_widen 0 0 (by decide) (by decide) ?_
  exact zb_X7_readKind_87 hX hQ hnL h
def wp_X7_readKind (M : Mm) (h0 : Nat) (p1 : Option Nat) (K : Int32 → Mm → Prop) : Prop := mK M h0 = 8 ∧ (wp_X7_isKeyword M h0 (126922548994917 : Int64) (fun r1 M2 => ((r1 = 0 → mK M2 h0 = 8 ∧ (wp_X7_isKeyword M2 h0 (504363577198 : Int64) (fun r5 M6 => ((r5 = 0 → mK M6 h0 = 8 ∧ (wp_X7_isKeyword M6 h0 (431198331257 : Int64) (fun r9 M10 => ((r9 = 0 → mK M10 h0 = 8 ∧ (wp_X7_isKeyword M10 h0 (1752132708 : Int64) (fun r13 M14 => ((r13 = 0 → mK M14 h0 = 8 ∧ (wp_X7_isKeyword M14 h0 (1785686382 : Int64) (fun r17 M18 => ((r17 = 0 → mK M18 h0 = 8 ∧ (wp_X7_isKeyword M18 h0 (131294707347319 : Int64) (fun r21 M22 => ((r21 = 0 → mK M22 h0 = 8 ∧ (wp_X7_refuseToken M22 h0 (fun r25 M26 => (bz r25 ∧ K r25 M26)))) ∧ (¬ r21 = 0 → mK M22 h0 = 8 ∧ ((¬ (mI M22 453 h0) = (3 : Int32) → (wp_X7_readWindow M22 h0 p1 (fun r30 M31 => (bk_X7_readKind_153 h0 K r30 M31)))) ∧ ((mI M22 453 h0) = (3 : Int32) → (wp_X7_refuse M22 h0 (6 : Int32) (fun r33 M34 => (bk_X7_readKind_153 h0 K r33 M34)))))))))) ∧ (¬ r17 = 0 → mK M18 h0 = 8 ∧ ((¬ (mI M18 452 h0) = (3 : Int32) → (wp_X7_readJoin M18 h0 p1 (fun r37 M38 => (bk_X7_readKind_120 h0 K r37 M38)))) ∧ ((mI M18 452 h0) = (3 : Int32) → (wp_X7_refuse M18 h0 (6 : Int32) (fun r40 M41 => (bk_X7_readKind_120 h0 K r40 M41)))))))))) ∧ (¬ r13 = 0 → mK M14 h0 = 8 ∧ ∃ a46, (mR M14 448 h0) = some a46 ∧ mK M14 a46 = 5 ∧ (wp_X4_advance M14 a46 (fun M45 => mK M45 h0 = 8 ∧ (wp_X7_readInput M45 h0 p1 (fun r50 M51 => ((r50 = 0 → (bk_X7_readKind_86 h0 K M51)) ∧ (¬ r50 = 0 → mK M51 h0 = 8 ∧ (wp_X7_readSign M51 h0 (59 : Int32) (fun r54 M55 => ((r54 = 0 → (bk_X7_readKind_86 h0 K M55)) ∧ (¬ r54 = 0 → (bk_X7_readKind_87 h0 K (1 : Int32) M55)))))))))))))))) ∧ (¬ r9 = 0 → mK M10 h0 = 8 ∧ (wp_X7_readDelay M10 h0 p1 (fun r58 M59 => (bz r58 ∧ K r58 M59)))))))) ∧ (¬ r5 = 0 → mK M6 h0 = 8 ∧ (wp_X7_readUnion M6 h0 p1 (fun r62 M63 => (bz r62 ∧ K r62 M63)))))))) ∧ (¬ r1 = 0 → mK M2 h0 = 8 ∧ (wp_X7_readSource M2 h0 p1 (fun r66 M67 => (bz r66 ∧ K r66 M67)))))))
set_option maxRecDepth 100000 in
set_option maxHeartbeats 4000000 in
theorem ct_X7_readKind {M : Mm} {h0 : Nat} {p1 : Option Nat} {K : Int32 → Mm → Prop} (h : wp_X7_readKind M h0 p1 K) : CtI yX7_readKind cX7_readKind 2 (some .boolean) rm_X7_readKind [.ref h0, va_rf p1] M K := by
  refine ct_any (QI K) (by decide) (by cases p1 <;> exact Nat.le_of_ble_eq_true rfl) (fun X hX hQ hnL hnm => ?_)
  rw [show lv_args 0 [.ref h0, va_rf p1] = [(0, va_rf (some h0)), (1, va_rf p1)] by cases p1 <;> rfl]
  have hX : Ok X cX7_readKind RX7 rm_X7_readKind := hX
  unfold wp_X7_readKind at h
  refine z_aload_n (r := (some h0)) hX dX7_readKind_0 rfl 0 rfl ?_
  refine z_ldc2 (v := (126922548994917 : Int64)) hX dX7_readKind_1 kj_RX7_99 ?_
  obtain ⟨hk3, h⟩ := h
  refine z_callVI (As := [.long (126922548994917 : Int64)]) (rest := []) (ci := 7) hX (ct_X7_isKeyword h) mw_RX7_30 rfl (by decide) rfl (by rfl) (by unfold RoomC; decide) (by decide) dX7_readKind_4 hk3 (fun r1 M2 h => ?_)
  obtain ⟨h1, h2⟩ := h
  refine z_if_eq (tgt := 16) hX dX7_readKind_7 (by decide) (fun hc => ?_) (fun hc => ?_)
  · have h := h1 hc
    refine z_aload_n (r := (some h0)) hX dX7_readKind_16 rfl 0 rfl ?_
    refine z_ldc2 (v := (504363577198 : Int64)) hX dX7_readKind_17 kj_RX7_104 ?_
    obtain ⟨hk7, h⟩ := h
    refine z_callVI (As := [.long (504363577198 : Int64)]) (rest := []) (ci := 7) hX (ct_X7_isKeyword h) mw_RX7_30 rfl (by decide) rfl (by rfl) (by unfold RoomC; decide) (by decide) dX7_readKind_20 hk7 (fun r5 M6 h => ?_)
    obtain ⟨h1, h2⟩ := h
    refine z_if_eq (tgt := 32) hX dX7_readKind_23 (by decide) (fun hc => ?_) (fun hc => ?_)
    · have h := h1 hc
      refine z_aload_n (r := (some h0)) hX dX7_readKind_32 rfl 0 rfl ?_
      refine z_ldc2 (v := (431198331257 : Int64)) hX dX7_readKind_33 kj_RX7_109 ?_
      obtain ⟨hk11, h⟩ := h
      refine z_callVI (As := [.long (431198331257 : Int64)]) (rest := []) (ci := 7) hX (ct_X7_isKeyword h) mw_RX7_30 rfl (by decide) rfl (by rfl) (by unfold RoomC; decide) (by decide) dX7_readKind_36 hk11 (fun r9 M10 h => ?_)
      obtain ⟨h1, h2⟩ := h
      refine z_if_eq (tgt := 48) hX dX7_readKind_39 (by decide) (fun hc => ?_) (fun hc => ?_)
      · have h := h1 hc
        refine z_aload_n (r := (some h0)) hX dX7_readKind_48 rfl 0 rfl ?_
        refine z_ldc2 (v := (1752132708 : Int64)) hX dX7_readKind_49 kj_RX7_114 ?_
        obtain ⟨hk15, h⟩ := h
        refine z_callVI (As := [.long (1752132708 : Int64)]) (rest := []) (ci := 7) hX (ct_X7_isKeyword h) mw_RX7_30 rfl (by decide) rfl (by rfl) (by unfold RoomC; decide) (by decide) dX7_readKind_52 hk15 (fun r13 M14 h => ?_)
        obtain ⟨h1, h2⟩ := h
        refine z_if_eq (tgt := 88) hX dX7_readKind_55 (by decide) (fun hc => ?_) (fun hc => ?_)
        · have h := h1 hc
          refine z_aload_n (r := (some h0)) hX dX7_readKind_88 rfl 0 rfl ?_
          refine z_ldc2 (v := (1785686382 : Int64)) hX dX7_readKind_89 kj_RX7_119 ?_
          obtain ⟨hk19, h⟩ := h
          refine z_callVI (As := [.long (1785686382 : Int64)]) (rest := []) (ci := 7) hX (ct_X7_isKeyword h) mw_RX7_30 rfl (by decide) rfl (by rfl) (by unfold RoomC; decide) (by decide) dX7_readKind_92 hk19 (fun r17 M18 h => ?_)
          obtain ⟨h1, h2⟩ := h
          refine z_if_eq (tgt := 121) hX dX7_readKind_95 (by decide) (fun hc => ?_) (fun hc => ?_)
          · have h := h1 hc
            refine z_aload_n (r := (some h0)) hX dX7_readKind_121 rfl 0 rfl ?_
            refine z_ldc2 (v := (131294707347319 : Int64)) hX dX7_readKind_122 kj_RX7_127 ?_
            obtain ⟨hk23, h⟩ := h
            refine z_callVI (As := [.long (131294707347319 : Int64)]) (rest := []) (ci := 7) hX (ct_X7_isKeyword h) mw_RX7_30 rfl (by decide) rfl (by rfl) (by unfold RoomC; decide) (by decide) dX7_readKind_125 hk23 (fun r21 M22 h => ?_)
            obtain ⟨h1, h2⟩ := h
            refine z_if_eq (tgt := 154) hX dX7_readKind_128 (by decide) (fun hc => ?_) (fun hc => ?_)
            · have h := h1 hc
              refine z_aload_n (r := (some h0)) hX dX7_readKind_154 rfl 0 rfl ?_
              obtain ⟨hk27, h⟩ := h
              refine z_callVI (As := []) (rest := []) (ci := 7) hX (ct_X7_refuseToken h) mw_RX7_84 rfl (by decide) rfl (by rfl) (by unfold RoomC; decide) (by decide) dX7_readKind_155 hk27 (fun r25 M26 h => ?_)
              refine z_widen 11 78 (by decide) (by decide) ?_
              exact y_zret hX hQ dX7_readKind_158 h.1 h.2
            · have h := h2 hc
              refine z_aload_n (r := (some h0)) hX dX7_readKind_131 rfl 0 rfl ?_
              obtain ⟨hk29, h⟩ := h
              refine gf_RX7_129 (r := (some h0)) hX dX7_readKind_132 rfl hk29 ?_
              refine z_iconst (v := (3 : Int32)) hX dX7_readKind_135 (by decide) ?_
              obtain ⟨h1, h2⟩ := h
              refine z_icmp_ne (tgt := 148) hX dX7_readKind_136 (by decide) (fun hc => ?_) (fun hc => ?_)
              · have h := h1 hc
                refine z_aload_n (r := (some h0)) hX dX7_readKind_148 rfl 0 rfl ?_
                refine z_aload_n (r := p1) hX dX7_readKind_149 rfl 1 rfl ?_
                refine z_callVI (As := [va_rf p1]) (rest := []) (ci := 7) hX (ct_X7_readWindow h) mw_RX7_132 rfl (by decide) rfl (by rfl) (by unfold RoomC; decide) (by decide) dX7_readKind_150 hk29 (fun r30 M31 h => ?_)
                refine z_loc [] rfl ?_
                refine z_widen 4 78 (by decide) (by decide) ?_
                exact zb_X7_readKind_153 hX hQ hnL h
              · have h := h2 hc
                refine z_aload_n (r := (some h0)) hX dX7_readKind_139 rfl 0 rfl ?_
                refine z_bipush (v := (6 : Int32)) hX dX7_readKind_140 (by decide) ?_
                refine z_callVI (As := [.int (6 : Int32)]) (rest := []) (ci := 7) hX (ct_X7_refuse h) mw_RX7_34 rfl (by decide) rfl (by rfl) (by unfold RoomC; decide) (by decide) dX7_readKind_142 hk29 (fun r33 M34 h => ?_)
                refine z_goto (tgt := 153) hX dX7_readKind_145 (by decide) ?_
                refine z_loc [] rfl ?_
                refine z_widen 4 78 (by decide) (by decide) ?_
                exact zb_X7_readKind_153 hX hQ hnL h
          · have h := h2 hc
            refine z_aload_n (r := (some h0)) hX dX7_readKind_98 rfl 0 rfl ?_
            obtain ⟨hk36, h⟩ := h
            refine gf_RX7_121 (r := (some h0)) hX dX7_readKind_99 rfl hk36 ?_
            refine z_iconst (v := (3 : Int32)) hX dX7_readKind_102 (by decide) ?_
            obtain ⟨h1, h2⟩ := h
            refine z_icmp_ne (tgt := 115) hX dX7_readKind_103 (by decide) (fun hc => ?_) (fun hc => ?_)
            · have h := h1 hc
              refine z_aload_n (r := (some h0)) hX dX7_readKind_115 rfl 0 rfl ?_
              refine z_aload_n (r := p1) hX dX7_readKind_116 rfl 1 rfl ?_
              refine z_callVI (As := [va_rf p1]) (rest := []) (ci := 7) hX (ct_X7_readJoin h) mw_RX7_124 rfl (by decide) rfl (by rfl) (by unfold RoomC; decide) (by decide) dX7_readKind_117 hk36 (fun r37 M38 h => ?_)
              refine z_loc [] rfl ?_
              refine z_widen 11 52 (by decide) (by decide) ?_
              exact zb_X7_readKind_120 hX hQ hnL h
            · have h := h2 hc
              refine z_aload_n (r := (some h0)) hX dX7_readKind_106 rfl 0 rfl ?_
              refine z_bipush (v := (6 : Int32)) hX dX7_readKind_107 (by decide) ?_
              refine z_callVI (As := [.int (6 : Int32)]) (rest := []) (ci := 7) hX (ct_X7_refuse h) mw_RX7_34 rfl (by decide) rfl (by rfl) (by unfold RoomC; decide) (by decide) dX7_readKind_109 hk36 (fun r40 M41 h => ?_)
              refine z_goto (tgt := 120) hX dX7_readKind_112 (by decide) ?_
              refine z_loc [] rfl ?_
              refine z_widen 11 52 (by decide) (by decide) ?_
              exact zb_X7_readKind_120 hX hQ hnL h
        · have h := h2 hc
          refine z_aload_n (r := (some h0)) hX dX7_readKind_58 rfl 0 rfl ?_
          obtain ⟨hk43, h⟩ := h
          refine gf_RX7_9 (r := (some h0)) hX dX7_readKind_59 rfl hk43 ?_
          obtain ⟨a46, ha47, h⟩ := h
          obtain ⟨hk48, h⟩ := h
          refine z_callVV (As := []) (rest := []) (ci := 4) hX (ct_X4_advance h) mw_RX7_19 rfl (by decide) rfl (by rw [ha47]; rfl) (by unfold RoomC; decide) (by decide) dX7_readKind_62 hk48 (fun M45 h => ?_)
          refine z_aload_n (r := (some h0)) hX dX7_readKind_65 rfl 0 rfl ?_
          refine z_aload_n (r := p1) hX dX7_readKind_66 rfl 1 rfl ?_
          obtain ⟨hk52, h⟩ := h
          refine z_callVI (As := [va_rf p1]) (rest := []) (ci := 7) hX (ct_X7_readInput h) mw_RX7_116 rfl (by decide) rfl (by rfl) (by unfold RoomC; decide) (by decide) dX7_readKind_67 hk52 (fun r50 M51 h => ?_)
          obtain ⟨h1, h2⟩ := h
          refine z_if_eq (tgt := 86) hX dX7_readKind_70 (by decide) (fun hc => ?_) (fun hc => ?_)
          · have h := h1 hc
            refine z_loc [] rfl ?_
            refine z_widen 0 0 (by decide) (by decide) ?_
            exact zb_X7_readKind_86 hX hQ hnL h
          · have h := h2 hc
            refine z_aload_n (r := (some h0)) hX dX7_readKind_73 rfl 0 rfl ?_
            refine z_bipush (v := (59 : Int32)) hX dX7_readKind_74 (by decide) ?_
            obtain ⟨hk56, h⟩ := h
            refine z_callVI (As := [.int (59 : Int32)]) (rest := []) (ci := 7) hX (ct_X7_readSign h) mw_RX7_78 rfl (by decide) rfl (by rfl) (by unfold RoomC; decide) (by decide) dX7_readKind_76 hk56 (fun r54 M55 h => ?_)
            obtain ⟨h1, h2⟩ := h
            refine z_if_eq (tgt := 86) hX dX7_readKind_79 (by decide) (fun hc => ?_) (fun hc => ?_)
            · have h := h1 hc
              refine z_loc [] rfl ?_
              refine z_widen 0 0 (by decide) (by decide) ?_
              exact zb_X7_readKind_86 hX hQ hnL h
            · have h := h2 hc
              refine z_iconst (v := (1 : Int32)) hX dX7_readKind_82 (by decide) ?_
              refine z_goto (tgt := 87) hX dX7_readKind_83 (by decide) ?_
              refine z_loc [] rfl ?_
              refine z_widen 0 0 (by decide) (by decide) ?_
              exact zb_X7_readKind_87 hX hQ hnL h
      · have h := h2 hc
        refine z_aload_n (r := (some h0)) hX dX7_readKind_42 rfl 0 rfl ?_
        refine z_aload_n (r := p1) hX dX7_readKind_43 rfl 1 rfl ?_
        obtain ⟨hk60, h⟩ := h
        refine z_callVI (As := [va_rf p1]) (rest := []) (ci := 7) hX (ct_X7_readDelay h) mw_RX7_111 rfl (by decide) rfl (by rfl) (by unfold RoomC; decide) (by decide) dX7_readKind_44 hk60 (fun r58 M59 h => ?_)
        refine z_widen 11 78 (by decide) (by decide) ?_
        exact y_zret hX hQ dX7_readKind_47 h.1 h.2
    · have h := h2 hc
      refine z_aload_n (r := (some h0)) hX dX7_readKind_26 rfl 0 rfl ?_
      refine z_aload_n (r := p1) hX dX7_readKind_27 rfl 1 rfl ?_
      obtain ⟨hk64, h⟩ := h
      refine z_callVI (As := [va_rf p1]) (rest := []) (ci := 7) hX (ct_X7_readUnion h) mw_RX7_106 rfl (by decide) rfl (by rfl) (by unfold RoomC; decide) (by decide) dX7_readKind_28 hk64 (fun r62 M63 h => ?_)
      refine z_widen 11 78 (by decide) (by decide) ?_
      exact y_zret hX hQ dX7_readKind_31 h.1 h.2
  · have h := h2 hc
    refine z_aload_n (r := (some h0)) hX dX7_readKind_10 rfl 0 rfl ?_
    refine z_aload_n (r := p1) hX dX7_readKind_11 rfl 1 rfl ?_
    obtain ⟨hk68, h⟩ := h
    refine z_callVI (As := [va_rf p1]) (rest := []) (ci := 7) hX (ct_X7_readSource h) mw_RX7_101 rfl (by decide) rfl (by rfl) (by unfold RoomC; decide) (by decide) dX7_readKind_12 hk68 (fun r66 M67 h => ?_)
    refine z_widen 11 78 (by decide) (by decide) ?_
    exact y_zret hX hQ dX7_readKind_15 h.1 h.2
