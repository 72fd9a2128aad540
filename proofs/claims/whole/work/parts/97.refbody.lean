/-! the reference reads statements: the bodies -/
section RB
variable {M : Mm} {m : Nat} {ra : Nat → Nat} {S : St} {tp : List Nat} {C : Cfg}
theorem x_97 (h : SH M m ra) {K : Mm → Prop} {e : Flt} {a : Int32} (hR : Rd tp S (.error e)) : bk_X11_source_97 m K a (pM M m ra S) = K (pM M m ra S) := by
  simp only [bk_X11_source_97, bk_X11_source_131, p_mK, FK h, p_mI, p_mJ, e_good h, true_and, and_true, not_true, not_false_eq_true, false_implies, forall_const, show ((1 : Int32) = 0) = False by decide, hR.g0]
theorem x_63 (h : SH M m ra) {K : Mm → Prop} {e : Flt} {a : Int32} (hR : Rd tp S (.error e)) : bk_X11_source_63 m K a (pM M m ra S) = K (pM M m ra S) := by
  simp only [bk_X11_source_63, x_97 h hR, p_mK, FK h, p_mI, p_mJ, e_good h, true_and, and_true, not_true, not_false_eq_true, false_implies, forall_const, show ((1 : Int32) = 0) = False by decide, hR.g0]
theorem x_58 (h : SH M m ra) {K : Mm → Prop} {e : Flt} {a : Int32} (hR : Rd tp S (.error e)) : bk_X11_source_58 m K a (pM M m ra S) = K (pM M m ra S) := by
  simp only [bk_X11_source_58, x_63 h hR, x_kw h hR, p_mK, FK h, p_mI, p_mJ, e_good h, true_and, and_true, not_true, not_false_eq_true, false_implies, forall_const, show ((1 : Int32) = 0) = False by decide]
/-- a body's two ends -/
def HOK (tp : List Nat) (M : Mm) (m : Nat) (ra : Nat → Nat) (C : Cfg) (S : St) (K : Mm → Prop) (r : Except Flt (Slot × Tok)) : Prop := (∀ S1 y, r = .ok y → ES (cn C) S S1 → gI S1 730 = gI S 730 → gI S1 731 = gI S 731 → Rd tp S1 (.ok y.2) → BD S1 C y.1 → K (pM M m ra S1)) ∧ ∀ S1 e, r = .error e → ES (cn C) S S1 → Rd tp S1 (.error e) → K (pM M m ra S1)
theorem HOK.es {S S1 : St} {K : Mm → Prop} {r : Except Flt (Slot × Tok)} (h : HOK tp M m ra C S K r) (hx : ES (cn C) S S1) (h0 : gI S1 730 = gI S 730) (h1 : gI S1 731 = gI S 731) : HOK tp M m ra C S1 K r := ⟨fun S2 y a b c d => h.1 S2 y a (hx.trans b) (c.trans h0) (d.trans h1), fun S2 e a b => h.2 S2 e a (hx.trans b)⟩
theorem HOK.ex {S S1 : St} {K : Mm → Prop} {r : Except Flt (Slot × Tok)} (h : HOK tp M m ra C S K r) (hx : Ex rdF S S1) : HOK tp M m ra C S1 K r := h.es (ES.ex hx) (hx 730 (by decide)).1 (hx 731 (by decide)).1
/-- other numbers in the slot -/
theorem BD.w {x : Slot} (hB : BD S C x) {f : Nat} {v : Int32} {y : Slot} (hf : f = 715 ∨ f = 718 ∨ f = 719 ∨ f = 722 ∨ f = 723) (hl : y.2.1 = x.2.1) (h5 : (if f = 715 then v else vI S 715 (cn C)) = nI y.1) (h8 : (if f = 718 then v else vI S 718 (cn C)) = nI y.2.2.2.2.1) (h9 : (if f = 719 then v else vI S 719 (cn C)) = bI y.2.2.2.2.2.1) (h22 : (if f = 722 then v else vI S 722 (cn C)) = nI y.2.2.2.2.2.2.1) (h23 : (if f = 723 then v else vI S 723 (cn C)) = oI y.2.2.2.2.2.2.2) (h20 : y.2.2.1 = x.2.2.1) (h21 : y.2.2.2.1 = x.2.2.2.1) : BD (wI S f (cn C) v) C y := by
  obtain ⟨b1, b2, b3, b4, b5, b6⟩ := hB
  obtain ⟨s1, s2, s3, s4, s5, s6, s7, s8, s9⟩ := b3
  refine ⟨b1.es (ES.refl.wI (Or.inl ⟨by omega, rfl⟩) (fun e => by subst e; rw [if_pos rfl] at h9; rw [h9]; exact bI_bz _)), fun q hq => ?_, ⟨?_, ?_, ?_, ?_, ?_, ?_, ?_, ?_, fun j c hj => ?_⟩, b4, by rw [hl]; exact b5, by rw [hl]; exact b6⟩
  · simp only [sg]
    rw [if_neg (by omega), hl]; exact b2 q hq
  · rw [← h5]; simp only [sg, if_true]
    by_cases e : 715 = f
    · rw [if_pos e, if_pos e.symm]
    · rw [if_neg e, if_neg (fun z => e z.symm)]
  · rw [← h8]; simp only [sg, if_true]
    by_cases e : 718 = f
    · rw [if_pos e, if_pos e.symm]
    · rw [if_neg e, if_neg (fun z => e z.symm)]
  · rw [← h9]; simp only [sg, if_true]
    by_cases e : 719 = f
    · rw [if_pos e, if_pos e.symm]
    · rw [if_neg e, if_neg (fun z => e z.symm)]
  · rw [h20]; exact s4
  · rw [h21]; exact s5
  · rw [← h22]; simp only [sg, if_true]
    by_cases e : 722 = f
    · rw [if_pos e, if_pos e.symm]
    · rw [if_neg e, if_neg (fun z => e z.symm)]
  · rw [← h23]; simp only [sg, if_true]
    by_cases e : 723 = f
    · rw [if_pos e, if_pos e.symm]
    · rw [if_neg e, if_neg (fun z => e z.symm)]
  · simp only [sg]
    rw [if_neg (by omega), hl]; exact s8
  · simp only [sg]
    rw [if_neg (by omega)]
    rw [hl] at hj
    exact s9 j c hj
theorem BD.wl {x : Slot} (hB : BD S C x) {f : Nat} {v : Int64} {y : Slot} (hf : f = 720 ∨ f = 721) (hl : y.2.1 = x.2.1) (h20 : (if f = 720 then v else x.2.2.1) = y.2.2.1) (h21 : (if f = 721 then v else x.2.2.2.1) = y.2.2.2.1) (h1 : y.1 = x.1) (h2 : y.2.2.2.2 = x.2.2.2.2) : BD (wJ S f (cn C) v) C y := by
  obtain ⟨b1, b2, b3, b4, b5, b6⟩ := hB
  obtain ⟨s1, s2, s3, s4, s5, s6, s7, s8, s9⟩ := b3
  refine ⟨b1.es (ES.refl.wJ ⟨by omega, rfl⟩), fun q hq => ?_, ⟨by rw [h1]; exact s1, by rw [h2]; exact s2, by rw [h2]; exact s3, ?_, ?_, by rw [h2]; exact s6, by rw [h2]; exact s7, by rw [hl]; exact s8, fun j c hj => ?_⟩, b4, by rw [hl]; exact b5, by rw [hl]; exact b6⟩
  · rw [hl]; exact b2 q hq
  · rw [← h20]; simp only [sg, if_true]
    by_cases e : 720 = f
    · rw [if_pos e, if_pos e.symm]
    · rw [if_neg e, if_neg (fun z => e z.symm)]; exact s4
  · rw [← h21]; simp only [sg, if_true]
    by_cases e : 721 = f
    · rw [if_pos e, if_pos e.symm]
    · rw [if_neg e, if_neg (fun z => e z.symm)]; exact s5
  · rw [hl] at hj; exact s9 j c hj
theorem r_97 (h : SH M m ra) {K : Mm → Prop} {T : Tok} {lag : Int64} {pt af : Nat} {hl : Bool} (hT : RT S tp) (hR : Rd tp S (.ok T)) (hB : BD S C (0, [], lag, 0, pt, hl, af, none)) (h12 : cn C < 12) (hK : HOK tp M m ra C S K (a_src4 tp pt hl lag af T)) : bk_X11_source_97 m K (nI (cn C)) (pM M m ra S) := by
  simp only [bk_X11_source_97, p_mK, FK h, p_mI, p_mJ, e_good h, true_and, and_true, not_true, not_false_eq_true, false_implies, forall_const, show ((1 : Int32) = 0) = False by decide, hR.g1, e_isKw (k := 4) (p := 4) h (by decide) rfl hR.2.1 hR.2.2.1, bI_0, bk_X11_source_131]
  refine ⟨fun z => ?_, fun z => ?_⟩
  · exact hK.1 S ((0, [], lag, 0, pt, hl, af, none), T) (by rw [a_src4, if_neg (by rw [z]; decide)]) ES.refl rfl rfl hR hB
  · have z2 : isKw 4 T = true := by simpa using z
    refine Rd.nx h hT hR (fun S1 x1 x2 => ?_)
    have x1' := exR x1 (by decide)
    simp only [p_mK, FK h, true_and]
    refine r_num2 (lo := 0) (hi := 3) h (hT.ex x1 (by decide) (by decide)) x2 (by decide) (hhiN (by decide)) (fun S2 v T1 q y1 y2 => ?_) (fun S2 e q y1 y2 => ?_)
    · have en : a_src4 tp pt hl lag af T = .ok ((0, [], lag, 0, pt, hl, af, some v), T1) := by rw [a_src4, if_pos z2, q]
      have vb := num_ok q
      simp (disch := omega) only [RF h, p_mK, p_mR, p_aN, p_aR, p_mI, p_mJ, p_sI, p_sJ, Option.some.injEq, exists_eq_left', true_and, and_true, na1, na3, n_add, n_mul, n_clamp, n_in, j32]
      have hB2 : BD (wI S2 723 (cn C) (nI v)) C (0, [], lag, 0, pt, hl, af, some v) := by
        have hb := hB.ex (x1'.trans y1)
        refine hb.w (by decide) rfl ?_ ?_ ?_ ?_ ?_ rfl rfl
        · exact hb.2.2.1.1
        · exact hb.2.2.1.2.1
        · exact hb.2.2.1.2.2.1
        · exact hb.2.2.1.2.2.2.2.2.1
        · rfl
      exact hK.1 _ _ en ((ES.ex (x1'.trans y1)).wI (Or.inl ⟨by decide, rfl⟩)) (((x1'.trans y1) 730 (by decide)).1) (((x1'.trans y1) 731 (by decide)).1) y2 hB2
    · have en : a_src4 tp pt hl lag af T = .error e := by rw [a_src4, if_pos z2, q]
      simp (disch := omega) only [RF h, p_mK, p_mR, p_aN, p_aR, p_mI, p_mJ, p_sI, p_sJ, Option.some.injEq, exists_eq_left', true_and, and_true, na1, na3, n_add, n_mul, n_clamp, n_in]
      exact hK.2 _ e en ((ES.ex (x1'.trans y1)).wI (Or.inl ⟨by decide, rfl⟩)) y2
theorem r_63 (h : SH M m ra) {K : Mm → Prop} {T : Tok} {lag : Int64} {pt : Nat} {hl : Bool} (hT : RT S tp) (hR : Rd tp S (.ok T)) (hB : BD S C (0, [], lag, 0, pt, hl, 0, none)) (h12 : cn C < 12) (hK : HOK tp M m ra C S K (a_src3 tp pt hl lag T)) : bk_X11_source_63 m K (nI (cn C)) (pM M m ra S) := by
  simp only [bk_X11_source_63, p_mK, FK h, p_mI, p_mJ, e_good h, true_and, and_true, not_true, not_false_eq_true, false_implies, forall_const, show ((1 : Int32) = 0) = False by decide, hR.g1, e_isKw (k := 3) (p := 3) h (by decide) rfl hR.2.1 hR.2.2.1, bI_0]
  refine ⟨fun z => ?_, fun z => ?_⟩
  · rw [a_src3, if_neg (by rw [z]; decide)] at hK
    exact r_97 h hT hR hB h12 hK
  · have z2 : isKw 3 T = true := by simpa using z
    refine Rd.nx h hT hR (fun S1 x1 x2 => ?_)
    have x1' := exR x1 (by decide)
    rw [a_src3, if_pos z2] at hK
    simp only [p_mK, FK h, true_and]
    refine r_num2 (lo := 1) (hi := 1000) h (hT.ex x1 (by decide) (by decide)) x2 (by decide) (hhiN (by decide)) (fun S2 v T1 q y1 y2 => ?_) (fun S2 e q y1 y2 => ?_)
    · rw [q] at hK
      have vb := num_ok q
      simp (disch := omega) only [RF h, p_mK, p_mR, p_aN, p_aR, p_mI, p_mJ, p_sI, p_sJ, Option.some.injEq, exists_eq_left', true_and, and_true, na1, na3, n_add, n_mul, n_clamp, n_in, j32]
      have hB2 : BD (wI S2 722 (cn C) (nI v)) C (0, [], lag, 0, pt, hl, v, none) := by
        have hb := hB.ex (x1'.trans y1)
        refine hb.w (by decide) rfl ?_ ?_ ?_ ?_ ?_ rfl rfl
        · exact hb.2.2.1.1
        · exact hb.2.2.1.2.1
        · exact hb.2.2.1.2.2.1
        · rfl
        · exact hb.2.2.1.2.2.2.2.2.2.1
      have hE : ES (cn C) S (wI S2 722 (cn C) (nI v)) := (ES.ex (x1'.trans y1)).wI (Or.inl ⟨by decide, rfl⟩)
      exact r_97 h (hT.es hE) y2 hB2 h12 (hK.es hE (((x1'.trans y1) 730 (by decide)).1) (((x1'.trans y1) 731 (by decide)).1))
    · rw [q] at hK
      simp (disch := omega) only [RF h, p_mK, p_mR, p_aN, p_aR, p_mI, p_mJ, p_sI, p_sJ, Option.some.injEq, exists_eq_left', true_and, and_true, na1, na3, n_add, n_mul, n_clamp, n_in]
      have y3 : Rd tp (wI S2 722 (cn C) (Int64.toInt32 0)) (.error e) := y2
      rw [x_97 h y3]
      exact hK.2 _ e rfl ((ES.ex (x1'.trans y1)).wI (Or.inl ⟨by decide, rfl⟩)) y2
theorem r_src (h : SH M m ra) {K : Mm → Prop} {T : Tok} (hT : RT S tp) (hR : Rd tp S (.ok T)) (hB : BD S C (0, [], 0, 0, 0, false, 0, none)) (h12 : cn C < 12) (hK : HOK tp M m ra C S K (a_src tp T)) : wp_X11_source (pM M m ra S) m (nI (cn C)) K := by
  refine ⟨FK h, ?_⟩
  refine r_num2 (lo := 1) (hi := 4) h hT hR (by decide) (hhiN (by decide)) (fun S1 v T1 q y1 y2 => ?_) (fun S1 e q y1 y2 => ?_)
  · rw [a_src, q] at hK
    have vb := num_ok q
    simp (disch := omega) only [RF h, p_mK, p_mR, p_aN, p_aR, p_mI, p_mJ, p_sI, p_sJ, Option.some.injEq, exists_eq_left', true_and, and_true, na1, na3, n_add, n_mul, n_clamp, n_in, j32]
    have hB2 : BD (wI S1 718 (cn C) (nI v)) C (0, [], 0, 0, v, false, 0, none) := by
      have hb := hB.ex y1
      refine hb.w (by decide) rfl ?_ ?_ ?_ ?_ ?_ rfl rfl
      · exact hb.2.2.1.1
      · rfl
      · exact hb.2.2.1.2.2.1
      · exact hb.2.2.1.2.2.2.2.2.1
      · exact hb.2.2.1.2.2.2.2.2.2.1
    have hE : ES (cn C) S (wI S1 718 (cn C) (nI v)) := (ES.ex y1).wI (Or.inl ⟨by decide, rfl⟩)
    have hK1 := hK.es hE (y1 730 (by decide)).1 (y1 731 (by decide)).1
    have hT1 := hT.es hE
    have y3 : Rd tp (wI S1 718 (cn C) (nI v)) (.ok T1) := y2
    generalize wI S1 718 (cn C) (nI v) = S3 at hB2 hE hK1 hT1 y3
    simp only [p_mK, FK h, p_mI, p_mJ, e_good h, true_and, and_true, not_true, not_false_eq_true, false_implies, forall_const, show ((1 : Int32) = 0) = False by decide, y3.g1, e_isKw (k := 1) (p := 1) h (by decide) rfl y3.2.1 y3.2.2.1, bI_0]
    refine ⟨fun z => ?_, fun z => ?_⟩
    · simp only [a_src2, if_neg (show ¬ isKw 1 T1 = true by rw [z]; decide)] at hK1
      refine ⟨FK h, r_kw2 (k := 2) h (by decide) hT1 y3 (fun S4 T2 q2 z1 z2 => ?_) (fun S4 e q2 z1 z2 => ?_)⟩
      · rw [q2] at hK1
        exact r_63 h (hT1.ex z1 (by decide) (by decide)) z2 (hB2.ex z1) h12 (hK1.ex z1)
      · rw [q2] at hK1
        rw [x_63 h z2]
        exact (hK1.ex z1).2 S4 e rfl ES.refl z2
    · have z2 : isKw 1 T1 = true := by simpa using z
      simp only [a_src2, if_pos z2] at hK1
      refine Rd.nx h hT1 y3 (fun S4 x1 x2 => ?_)
      have x1' := exR x1 (by decide)
      have hE4 : ES (cn C) S3 (wI S4 719 (cn C) 1) := (ES.ex x1').wI (Or.inl ⟨by decide, rfl⟩)
      have hB4 : BD (wI S4 719 (cn C) 1) C (0, [], 0, 0, v, true, 0, none) := by
        have hb := hB2.ex x1'
        refine hb.w (by decide) rfl ?_ ?_ ?_ ?_ ?_ rfl rfl
        · exact hb.2.2.1.1
        · exact hb.2.2.1.2.1
        · rfl
        · exact hb.2.2.1.2.2.2.2.2.1
        · exact hb.2.2.1.2.2.2.2.2.2.1
      have hK4 := hK1.es hE4 (x1' 730 (by decide)).1 (x1' 731 (by decide)).1
      have hT4 := hT1.es hE4
      have y4 : Rd tp (wI S4 719 (cn C) 1) (.ok (a_nx tp T1)) := x2
      simp (disch := omega) only [RF h, p_mK, p_mR, p_aN, p_aR, p_mI, p_mJ, p_sI, p_sJ, Option.some.injEq, exists_eq_left', true_and, and_true, na1, na3, n_add, n_mul, n_clamp, n_in]
      generalize wI S4 719 (cn C) 1 = S5 at hE4 hB4 hK4 hT4 y4
      refine r_num2 (lo := 0) (hi := BIG) h hT4 y4 (by decide) hANY (fun S6 u T2 q2 z1 z2 => ?_) (fun S6 e q2 z1 z2 => ?_)
      · rw [q2] at hK4
        simp (disch := omega) only [RF h, p_mK, p_mR, p_aN, p_aR, p_mI, p_mJ, p_sI, p_sJ, Option.some.injEq, exists_eq_left', true_and, and_true, na1, na3, n_add, n_mul, n_clamp, n_in]
        have hB6 : BD (wJ S6 720 (cn C) (lN u)) C (0, [], lN u, 0, v, true, 0, none) := (hB4.ex z1).wl (by decide) rfl rfl rfl rfl rfl
        have hE6 : ES (cn C) S5 (wJ S6 720 (cn C) (lN u)) := (ES.ex z1).wJ ⟨by decide, rfl⟩
        exact r_63 h (hT4.es hE6) z2 hB6 h12 (hK4.es hE6 (z1 730 (by decide)).1 (z1 731 (by decide)).1)
      · rw [q2] at hK4
        simp (disch := omega) only [RF h, p_mK, p_mR, p_aN, p_aR, p_mI, p_mJ, p_sI, p_sJ, Option.some.injEq, exists_eq_left', true_and, and_true, na1, na3, n_add, n_mul, n_clamp, n_in]
        have y6 : Rd tp (wJ S6 720 (cn C) 0) (.error e) := z2
        rw [x_63 h y6]
        exact hK4.2 _ e rfl ((ES.ex z1).wJ ⟨by decide, rfl⟩) y6
  · rw [a_src, q] at hK
    simp (disch := omega) only [RF h, p_mK, p_mR, p_aN, p_aR, p_mI, p_mJ, p_sI, p_sJ, Option.some.injEq, exists_eq_left', true_and, and_true, na1, na3, n_add, n_mul, n_clamp, n_in]
    have y3 : Rd tp (wI S1 718 (cn C) (Int64.toInt32 0)) (.error e) := y2
    simp only [p_mK, FK h, p_mI, p_mJ, e_good h, true_and, and_true, not_true, not_false_eq_true, false_implies, forall_const, show ((1 : Int32) = 0) = False by decide, y3.g0, x_58 h y3]
    exact hK.2 _ e rfl ((ES.ex y1).wI (Or.inl ⟨by decide, rfl⟩)) y3
theorem inp_len {l : List Nat} {T : Tok} {y : List Nat × Tok} (h : a_inp tp C l T = .ok y) : y.1.length = l.length + 1 := by
  unfold a_inp at h
  by_cases a : tkk T = 3
  · rw [if_pos a] at h
    cases e : a_find C (tkw T) with
    | none => rw [e] at h; cases h
    | some i =>
      rw [e] at h
      simp only at h
      by_cases b : (ctk C i).isSome = true ∨ i ∈ l
      · rw [if_pos b] at h; cases h
      · rw [if_neg b] at h; cases h; simp
  · rw [if_neg a] at h; cases h
/-- the loop over further inputs of a union -/
theorem r_more (h : SH M m ra) {K : Mm → Prop} (h12 : cn C < 12) : ∀ (n : Nat) (l : List Nat) (T : Tok) (S : St), l.length + n = 4 → RT S tp → Rd tp S (.ok T) → BD S C (1, l, 0, 0, 0, false, 0, none) → HOK tp M m ra C S K (match a_more tp C n l T with
    | .error e => .error e
    | .ok (l, T3) => .ok ((1, l, 0, 0, 0, false, 0, none), T3)) → lp_X11_body_120 m K (n + 1) (nI (cn C)) (pM M m ra S) := by
  intro n
  induction n with
  | zero =>
    intro l T S hl hT hR hB hK
    have e8 : vI S 724 (cn C) = nI l.length := hB.2.2.1.2.2.2.2.2.2.2.1
    rw [lp_X11_body_120]
    simp (disch := omega) only [p_mK, FK h, p_mI, p_mJ, e_good h, true_and, and_true, not_true, not_false_eq_true, false_implies, forall_const, show ((1 : Int32) = 0) = False by decide, hR.g1, RF h, p_mK, p_mR, p_aN, p_aR, p_mI, p_mJ, p_sI, p_sJ, Option.some.injEq, exists_eq_left', true_and, and_true, na1, na3, n_add, n_mul, n_clamp, n_in, e8, show (4 ≤ nI l.length) = True from eq_true (by rw [show l.length = 4 by omega]; decide), bk_X11_body_224]
    exact hK.1 S _ rfl ES.refl rfl rfl hR hB
  | succ n ih =>
    intro l T S hl hT hR hB hK
    have e8 : vI S 724 (cn C) = nI l.length := hB.2.2.1.2.2.2.2.2.2.2.1
    rw [lp_X11_body_120]
    simp (disch := omega) only [p_mK, FK h, p_mI, p_mJ, e_good h, true_and, and_true, not_true, not_false_eq_true, false_implies, forall_const, show ((1 : Int32) = 0) = False by decide, hR.g1, RF h, p_mK, p_mR, p_aN, p_aR, p_mI, p_mJ, p_sI, p_sJ, Option.some.injEq, exists_eq_left', true_and, and_true, na1, na3, n_add, n_mul, n_clamp, n_in, e8, show (4 ≤ nI l.length) = False from eq_false (fun z => by
      have z2 : nI 4 ≤ nI l.length := z
      rw [n_le (by omega) (by omega)] at z2; omega), bk_X11_body_224, e_isName h hR.2.1 hR.2.2.1]
    rw [a_more] at hK
    by_cases k3 : tkk T = 3
    · rw [if_pos k3] at hK
      simp only [if_pos k3, p_mK, FK h, p_mI, p_mJ, e_good h, true_and, and_true, not_true, not_false_eq_true, false_implies, forall_const, show ((1 : Int32) = 0) = False by decide]
      refine r_inp (x := (1, l, 0, 0, 0, false, 0, none)) h hT hR hB h12 (show l.length < 4 by omega) (fun S1 y q x1 x30 x31 x2 x3 => ?_) (fun S1 e q x1 x2 => ?_)
      · have q' : a_inp tp C l T = .ok y := q
        rw [q'] at hK
        exact ih y.1 y.2 S1 (by rw [inp_len q']; omega) (hT.es x1) x2 x3 (hK.es x1 x30 x31)
      · have q' : a_inp tp C l T = .error e := q
        rw [q'] at hK
        have := hK.2 S1 e rfl x1 x2
        rw [lp_X11_body_120]
        simp only [p_mK, FK h, p_mI, p_mJ, e_good h, true_and, and_true, not_true, not_false_eq_true, false_implies, forall_const, show ((1 : Int32) = 0) = False by decide, x2.g0, bk_X11_body_224]
        exact this
    · rw [if_neg k3] at hK
      simp only [if_neg k3, p_mK, FK h, p_mI, p_mJ, e_good h, true_and, and_true, not_true, not_false_eq_true, false_implies, forall_const, show ((1 : Int32) = 0) = False by decide]
      exact hK.1 S _ rfl ES.refl rfl rfl hR hB
end RB
