/-! the reference's small methods, over its state -/
section R4
variable {M : Mm} {m : Nat} {ra : Nat → Nat} {S : St} {C : Cfg} {D : Dyn}
theorem e_plus {M : Mm} {t n : Int64} {K : Int64 → Mm → Prop} : wp_X11_plus M t n K = K (plusF t n) M := by
  unfold wp_X11_plus bk_X11_plus_16 bk_X11_plus_55 plusF
  by_cases h1 : t = -9000000000000000000
  · simp [h1]
  by_cases h2 : t = 9000000000000000000
  · simp [h2]
  by_cases h3 : t + n ≤ 8000000000000000000
  · by_cases h4 : -8000000000000000000 ≤ t + n
    · simp [h1, h2, h3, h4]
    · simp [h1, h2, h3, h4]
  · simp [h1, h2, h3]
theorem plusF_mm (t n : Int64) (h1 : ¬ t = -9000000000000000000) (h2 : ¬ t = 9000000000000000000) : plusF t n = (if (if (t + n) < (8000000000000000000 : Int64) then (t + n) else (8000000000000000000 : Int64)) < (-8000000000000000000 : Int64) then (-8000000000000000000 : Int64) else (if (t + n) < (8000000000000000000 : Int64) then (t + n) else (8000000000000000000 : Int64))) := by
  unfold plusF
  rw [if_neg h1, if_neg h2]
  generalize t + n = v
  have e1 : (8000000000000000000 : Int64).toInt = 8000000000000000000 := by decide
  have e2 : (-8000000000000000000 : Int64).toInt = -8000000000000000000 := by decide
  by_cases a : v < 8000000000000000000
  · have a' := Int64.lt_iff_toInt_lt.mp a
    rw [if_pos a, if_pos (Int64.le_iff_toInt_le.mpr (by omega))]
    by_cases b : v < -8000000000000000000
    · rw [if_pos b, if_neg (Int64.not_le.mpr b)]
    · rw [if_neg b, if_pos (Int64.not_lt.mp b)]
  · have a' : ¬ v.toInt < 8000000000000000000 := fun q => a (Int64.lt_iff_toInt_lt.mpr (by omega))
    rw [if_neg a, if_neg (show ¬ (8000000000000000000 : Int64) < -8000000000000000000 by decide)]
    by_cases b : v ≤ 8000000000000000000
    · have b' := Int64.le_iff_toInt_le.mp b
      have e : v = 8000000000000000000 := Int64.toInt_inj.mp (by omega)
      rw [e]
      decide
    · rw [if_neg b]
theorem e_tog {M : Mm} {t n : Int64} {K : Int64 → Mm → Prop} : wp_X10_together M t n K = K (plusF t n) M := by
  unfold wp_X10_together bk_X10_together_16
  by_cases h1 : t = -9000000000000000000
  · simp [h1, plusF]
  by_cases h2 : t = 9000000000000000000
  · simp [h2, plusF]
  rw [plusF_mm t n h1 h2]
  simp [h1, h2]
theorem e_kindOf (h : SH M m ra) {K : Int32 → Mm → Prop} {s : Nat} (hs : s < 12) : wp_X11_kindOf (pM M m ra S) m (nI s) K = K (vI S 715 (12 + s)) (pM M m ra S) := by
  simp (disch := omega) only [wp_X11_kindOf, RF h, p_mK, p_mR, p_aN, p_aR, p_mI, p_mJ, p_sI, p_sJ, Option.some.injEq, exists_eq_left', true_and, and_true, na1, na3, n_add, n_mul, n_clamp, n_in]
theorem e_inputOf (h : SH M m ra) {K : Int32 → Mm → Prop} {s i : Nat} (hs : s < 12) (hi : i < 4) : wp_X11_inputOf (pM M m ra S) m (nI s) (nI i) K = K (vI S 725 (4 * (12 + s) + i)) (pM M m ra S) := by
  simp (disch := omega) only [wp_X11_inputOf, RF h, p_mK, p_mR, p_aN, p_aR, p_mI, p_mJ, p_sI, p_sJ, Option.some.injEq, exists_eq_left', true_and, and_true, na1, na3, n_add, n_mul, n_clamp, n_in]
theorem e_inputOf0 (h : SH M m ra) {K : Int32 → Mm → Prop} {s : Nat} (hs : s < 12) : wp_X11_inputOf (pM M m ra S) m (nI s) 0 K = K (vI S 725 (4 * (12 + s))) (pM M m ra S) := e_inputOf (i := 0) h hs (by decide)
theorem e_inputOf1 (h : SH M m ra) {K : Int32 → Mm → Prop} {s : Nat} (hs : s < 12) : wp_X11_inputOf (pM M m ra S) m (nI s) 1 K = K (vI S 725 (4 * (12 + s) + 1)) (pM M m ra S) := e_inputOf (i := 1) h hs (by decide)
def noteS (S : St) (b n : Nat) (s : Nat) (t : Int64) (k w : Int32) : St := wJ (wJ (wJ (wJ S b (4 * n) (nI s).toInt64) b (4 * n + 1) t) b (4 * n + 2) k.toInt64) b (4 * n + 3) w.toInt64
theorem NT_note {a b room n : Nat} {l : List Row} {s : Nat} {t : Int64} {k w : Int32} (hl : NT S a b room l) (hn : l.length = n) : NT (pI (noteS S b n s t k w) a (nI (n + 1))) a b room (l ++ [(s, t, k, w)]) := by
  refine ⟨by simp [sg, hn], fun i r hi hr => ?_⟩
  by_cases e : i < l.length
  · rw [List.getElem?_append_left e] at hr
    obtain ⟨h1, h2, h3, h4⟩ := hl.2 i r hi hr
    simp only [noteS, sg, if_true]
    refine ⟨?_, ?_, ?_, ?_⟩
    · rw [if_neg (by omega), if_neg (by omega), if_neg (by omega), if_neg (by omega), h1]
    · rw [if_neg (by omega), if_neg (by omega), if_neg (by omega), if_neg (by omega), h2]
    · rw [if_neg (by omega), if_neg (by omega), if_neg (by omega), if_neg (by omega), h3]
    · rw [if_neg (by omega), if_neg (by omega), if_neg (by omega), if_neg (by omega), h4]
  · rw [List.getElem?_append_right (by omega)] at hr
    have e2 : i = n := by
      have := (List.getElem?_eq_some_iff.mp hr).1
      simp at this
      omega
    subst e2
    rw [hn, Nat.sub_self] at hr
    cases hr
    simp [noteS, sg]
theorem NT_more {a b room : Nat} {l : List Row} {r : Row} (hl : NT S a b room l) (hn : room ≤ l.length) : NT (pI S a (nI (l.length + 1))) a b room (l ++ [r]) := by
  refine ⟨by simp [sg], fun i r hi hr => ?_⟩
  rw [List.getElem?_append_left (by omega)] at hr
  simpa [sg] using hl.2 i r hi hr
theorem r_out (h : SH M m ra) {K : Mm → Prop} {s : Nat} {t : Int64} {k w : Int32} (hA : SA S C D) (hb : LB (a_out D (s, t, k, w))) (hK : ∀ S1, SA S1 C (a_out D (s, t, k, w)) → K (pM M m ra S1)) : wp_X11_note (pM M m ra S) m (mR M 740 m) (gI S 739) 300 (nI s) t k w (fun M3 => mK M3 m = 12 ∧ K (sI M3 739 m (mI M3 739 m + 1))) := by
  obtain ⟨hC, d1, d2, d3, d4, d5, d6, d7, d8, d9, d10, d11, d12⟩ := hA
  have hl : (dou D).length < 2147483647 := by have := hb.1; simp [a_out, dg] at this; omega
  have e := d7.1
  by_cases q : 300 ≤ (dou D).length
  · simp (disch := omega) only [wp_X11_note, bk_X11_note_42, RF h, p_mK, p_mR, p_aN, p_aR, p_mI, p_mJ, p_sI, p_sJ, Option.some.injEq, exists_eq_left', true_and, and_true, na1, na3, n_add, n_mul, n_clamp, n_in, e, na2, q, not_true, false_implies, forall_const]
    refine hK _ ⟨?_, ?_⟩
    · simp (disch := decide) only [f_SC_pI, f_SC_pJ, f_SC_wI, f_SC_wJ, f_NT_pI, f_NT_pJ, f_NT_wI, f_NT_wJ, f_KE_pI, f_KE_pJ, f_KE_wI, f_KE_wJ, f_WL_pI, f_WL_pJ, f_WL_wI, f_WL_wJ, f_TI_pI, f_TI_pJ, f_TI_wI, f_TI_wJ, f_MK_pI, f_MK_pJ, f_MK_wI, f_MK_wJ, f_IDL_pI, f_IDL_pJ, f_IDL_wI, f_IDL_wJ, f_PTS_pI, f_PTS_pJ, f_PTS_wI, f_PTS_wJ, f_PTP_pI, f_PTP_pJ, f_PTP_wI, f_PTP_wJ, f_PTH_pI, f_PTH_pJ, f_PTH_wI, f_PTH_wJ, f_NWW_pI, f_NWW_pJ, f_NWW_wI, f_NWW_wJ, f_LO_pI, f_LO_pJ, f_LO_wI, f_LO_wJ, f_WI_pI, f_WI_pJ, f_WI_wI, f_WI_wJ, f_KP_pI, f_KP_pJ, f_KP_wI, f_KP_wJ]; exact hC
    · simp (disch := decide) only [SD, a_out, dg, f_SC_pI, f_SC_pJ, f_SC_wI, f_SC_wJ, f_NT_pI, f_NT_pJ, f_NT_wI, f_NT_wJ, f_KE_pI, f_KE_pJ, f_KE_wI, f_KE_wJ, f_WL_pI, f_WL_pJ, f_WL_wI, f_WL_wJ, f_TI_pI, f_TI_pJ, f_TI_wI, f_TI_wJ, f_MK_pI, f_MK_pJ, f_MK_wI, f_MK_wJ, f_IDL_pI, f_IDL_pJ, f_IDL_wI, f_IDL_wJ, f_PTS_pI, f_PTS_pJ, f_PTS_wI, f_PTS_wJ, f_PTP_pI, f_PTP_pJ, f_PTP_wI, f_PTP_wJ, f_PTH_pI, f_PTH_pJ, f_PTH_wI, f_PTH_wJ, f_NWW_pI, f_NWW_pJ, f_NWW_wI, f_NWW_wJ, f_LO_pI, f_LO_pJ, f_LO_wI, f_LO_wJ, f_WI_pI, f_WI_pJ, f_WI_wI, f_WI_wJ, f_KP_pI, f_KP_pJ, f_KP_wI, f_KP_wJ]
      exact ⟨d1, d2, d3, d4, d5, d6, NT_more d7 q, d8, d9, d10, d11, d12⟩
  · simp (disch := omega) only [wp_X11_note, bk_X11_note_42, RF h, p_mK, p_mR, p_aN, p_aR, p_mI, p_mJ, p_sI, p_sJ, Option.some.injEq, exists_eq_left', true_and, and_true, na1, na3, n_add, n_mul, n_clamp, n_in, e, na2, q, not_false_eq_true, false_implies, forall_const, sg, e]
    refine hK _ ⟨?_, ?_⟩
    · simp (disch := decide) only [f_SC_pI, f_SC_pJ, f_SC_wI, f_SC_wJ, f_NT_pI, f_NT_pJ, f_NT_wI, f_NT_wJ, f_KE_pI, f_KE_pJ, f_KE_wI, f_KE_wJ, f_WL_pI, f_WL_pJ, f_WL_wI, f_WL_wJ, f_TI_pI, f_TI_pJ, f_TI_wI, f_TI_wJ, f_MK_pI, f_MK_pJ, f_MK_wI, f_MK_wJ, f_IDL_pI, f_IDL_pJ, f_IDL_wI, f_IDL_wJ, f_PTS_pI, f_PTS_pJ, f_PTS_wI, f_PTS_wJ, f_PTP_pI, f_PTP_pJ, f_PTP_wI, f_PTP_wJ, f_PTH_pI, f_PTH_pJ, f_PTH_wI, f_PTH_wJ, f_NWW_pI, f_NWW_pJ, f_NWW_wI, f_NWW_wJ, f_LO_pI, f_LO_pJ, f_LO_wI, f_LO_wJ, f_WI_pI, f_WI_pJ, f_WI_wI, f_WI_wJ, f_KP_pI, f_KP_pJ, f_KP_wI, f_KP_wJ]; exact hC
    · simp (disch := decide) only [SD, a_out, dg, f_SC_pI, f_SC_pJ, f_SC_wI, f_SC_wJ, f_NT_pI, f_NT_pJ, f_NT_wI, f_NT_wJ, f_KE_pI, f_KE_pJ, f_KE_wI, f_KE_wJ, f_WL_pI, f_WL_pJ, f_WL_wI, f_WL_wJ, f_TI_pI, f_TI_pJ, f_TI_wI, f_TI_wJ, f_MK_pI, f_MK_pJ, f_MK_wI, f_MK_wJ, f_IDL_pI, f_IDL_pJ, f_IDL_wI, f_IDL_wJ, f_PTS_pI, f_PTS_pJ, f_PTS_wI, f_PTS_wJ, f_PTP_pI, f_PTP_pJ, f_PTP_wI, f_PTP_wJ, f_PTH_pI, f_PTH_pJ, f_PTH_wI, f_PTH_wJ, f_NWW_pI, f_NWW_pJ, f_NWW_wI, f_NWW_wJ, f_LO_pI, f_LO_pJ, f_LO_wI, f_LO_wJ, f_WI_pI, f_WI_pJ, f_WI_wI, f_WI_wJ, f_KP_pI, f_KP_pJ, f_KP_wI, f_KP_wJ]
      exact ⟨d1, d2, d3, d4, d5, d6, NT_note d7 rfl, d8, d9, d10, d11, d12⟩
theorem r_late (h : SH M m ra) {K : Mm → Prop} {s : Nat} {t : Int64} {k w : Int32} (hA : SA S C D) (hb : LB (a_late D (s, t, k, w))) (hK : ∀ S1, SA S1 C (a_late D (s, t, k, w)) → K (pM M m ra S1)) : wp_X11_late (pM M m ra S) m (nI s) t k w K := by
  obtain ⟨hC, d1, d2, d3, d4, d5, d6, d7, d8, d9, d10, d11, d12⟩ := hA
  have hl : (dla D).length < 2147483647 := by have := hb.2; simp [a_late, dg] at this; omega
  have e := d8.1
  by_cases q : 200 ≤ (dla D).length
  · simp (disch := omega) only [wp_X11_late, wp_X11_note, bk_X11_note_42, RF h, p_mK, p_mR, p_aN, p_aR, p_mI, p_mJ, p_sI, p_sJ, Option.some.injEq, exists_eq_left', true_and, and_true, na1, na3, n_add, n_mul, n_clamp, n_in, e, na2, q, not_true, false_implies, forall_const]
    refine hK _ ⟨?_, ?_⟩
    · simp (disch := decide) only [f_SC_pI, f_SC_pJ, f_SC_wI, f_SC_wJ, f_NT_pI, f_NT_pJ, f_NT_wI, f_NT_wJ, f_KE_pI, f_KE_pJ, f_KE_wI, f_KE_wJ, f_WL_pI, f_WL_pJ, f_WL_wI, f_WL_wJ, f_TI_pI, f_TI_pJ, f_TI_wI, f_TI_wJ, f_MK_pI, f_MK_pJ, f_MK_wI, f_MK_wJ, f_IDL_pI, f_IDL_pJ, f_IDL_wI, f_IDL_wJ, f_PTS_pI, f_PTS_pJ, f_PTS_wI, f_PTS_wJ, f_PTP_pI, f_PTP_pJ, f_PTP_wI, f_PTP_wJ, f_PTH_pI, f_PTH_pJ, f_PTH_wI, f_PTH_wJ, f_NWW_pI, f_NWW_pJ, f_NWW_wI, f_NWW_wJ, f_LO_pI, f_LO_pJ, f_LO_wI, f_LO_wJ, f_WI_pI, f_WI_pJ, f_WI_wI, f_WI_wJ, f_KP_pI, f_KP_pJ, f_KP_wI, f_KP_wJ]; exact hC
    · simp (disch := decide) only [SD, a_late, dg, f_SC_pI, f_SC_pJ, f_SC_wI, f_SC_wJ, f_NT_pI, f_NT_pJ, f_NT_wI, f_NT_wJ, f_KE_pI, f_KE_pJ, f_KE_wI, f_KE_wJ, f_WL_pI, f_WL_pJ, f_WL_wI, f_WL_wJ, f_TI_pI, f_TI_pJ, f_TI_wI, f_TI_wJ, f_MK_pI, f_MK_pJ, f_MK_wI, f_MK_wJ, f_IDL_pI, f_IDL_pJ, f_IDL_wI, f_IDL_wJ, f_PTS_pI, f_PTS_pJ, f_PTS_wI, f_PTS_wJ, f_PTP_pI, f_PTP_pJ, f_PTP_wI, f_PTP_wJ, f_PTH_pI, f_PTH_pJ, f_PTH_wI, f_PTH_wJ, f_NWW_pI, f_NWW_pJ, f_NWW_wI, f_NWW_wJ, f_LO_pI, f_LO_pJ, f_LO_wI, f_LO_wJ, f_WI_pI, f_WI_pJ, f_WI_wI, f_WI_wJ, f_KP_pI, f_KP_pJ, f_KP_wI, f_KP_wJ]
      exact ⟨d1, d2, d3, d4, d5, d6, d7, NT_more d8 q, d9, d10, d11, d12⟩
  · simp (disch := omega) only [wp_X11_late, wp_X11_note, bk_X11_note_42, RF h, p_mK, p_mR, p_aN, p_aR, p_mI, p_mJ, p_sI, p_sJ, Option.some.injEq, exists_eq_left', true_and, and_true, na1, na3, n_add, n_mul, n_clamp, n_in, e, na2, q, not_false_eq_true, false_implies, forall_const, sg, e]
    refine hK _ ⟨?_, ?_⟩
    · simp (disch := decide) only [f_SC_pI, f_SC_pJ, f_SC_wI, f_SC_wJ, f_NT_pI, f_NT_pJ, f_NT_wI, f_NT_wJ, f_KE_pI, f_KE_pJ, f_KE_wI, f_KE_wJ, f_WL_pI, f_WL_pJ, f_WL_wI, f_WL_wJ, f_TI_pI, f_TI_pJ, f_TI_wI, f_TI_wJ, f_MK_pI, f_MK_pJ, f_MK_wI, f_MK_wJ, f_IDL_pI, f_IDL_pJ, f_IDL_wI, f_IDL_wJ, f_PTS_pI, f_PTS_pJ, f_PTS_wI, f_PTS_wJ, f_PTP_pI, f_PTP_pJ, f_PTP_wI, f_PTP_wJ, f_PTH_pI, f_PTH_pJ, f_PTH_wI, f_PTH_wJ, f_NWW_pI, f_NWW_pJ, f_NWW_wI, f_NWW_wJ, f_LO_pI, f_LO_pJ, f_LO_wI, f_LO_wJ, f_WI_pI, f_WI_pJ, f_WI_wI, f_WI_wJ, f_KP_pI, f_KP_pJ, f_KP_wI, f_KP_wJ]; exact hC
    · simp (disch := decide) only [SD, a_late, dg, f_SC_pI, f_SC_pJ, f_SC_wI, f_SC_wJ, f_NT_pI, f_NT_pJ, f_NT_wI, f_NT_wJ, f_KE_pI, f_KE_pJ, f_KE_wI, f_KE_wJ, f_WL_pI, f_WL_pJ, f_WL_wI, f_WL_wJ, f_TI_pI, f_TI_pJ, f_TI_wI, f_TI_wJ, f_MK_pI, f_MK_pJ, f_MK_wI, f_MK_wJ, f_IDL_pI, f_IDL_pJ, f_IDL_wI, f_IDL_wJ, f_PTS_pI, f_PTS_pJ, f_PTS_wI, f_PTS_wJ, f_PTP_pI, f_PTP_pJ, f_PTP_wI, f_PTP_wJ, f_PTH_pI, f_PTH_pJ, f_PTH_wI, f_PTH_wJ, f_NWW_pI, f_NWW_pJ, f_NWW_wI, f_NWW_wJ, f_LO_pI, f_LO_pJ, f_LO_wI, f_LO_wJ, f_WI_pI, f_WI_pJ, f_WI_wI, f_WI_wJ, f_KP_pI, f_KP_pJ, f_KP_wI, f_KP_wJ]
      exact ⟨d1, d2, d3, d4, d5, d6, d7, NT_note d8 rfl, d9, d10, d11, d12⟩
end R4
