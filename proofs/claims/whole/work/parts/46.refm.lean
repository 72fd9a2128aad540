/-! the reference: a row that comes to a join -/
section R6
variable {M : Mm} {m : Nat} {ra : Nat → Nat} {S : St} {C : Cfg} {D : Dyn}
theorem SA_ke {S1 : St} {s side : Nat} {l : List Ent} (hA : SA S C D) (hx : Ex [748, 749, 750, 751] S S1) (hsd : side < 2) (hk : KE S1 (2 * s + side) l) (ho : ∀ p l', p ≠ 2 * s + side → KE S p l' → KE S1 p l') : SA S1 C (xke D s side l) := by
  obtain ⟨hC, d1, d2, d3, d4, d5, d6, d7, d8, d9, d10, d11, d12⟩ := hA
  refine ⟨?_, ?_, ?_, ?_, ?_, ?_, ?_, ?_, ?_, ?_, ?_, ?_, ?_⟩
  · rw [x_SC C hx (by decide) (by decide) (by decide) (by decide) (by decide) (by decide) (by decide) (by decide) (by decide) (by decide) (by decide) (by decide) (by decide) (by decide) (by decide) (by decide) (by decide) (by decide) (by decide) (by decide) (by decide)]; exact hC
  · rw [x_MK _ _ hx (by decide)]; exact d1
  · rw [x_IDL _ _ hx (by decide)]; exact d2
  · rw [x_PTS _ _ hx (by decide)]; exact d3
  · rw [x_PTP _ _ hx (by decide)]; exact d4
  · rw [x_PTH _ _ hx (by decide)]; exact d5
  · rw [x_NWW _ hx (by decide)]; exact d6
  · rw [x_NT _ _ _ _ hx (by decide) (by decide)]; exact d7
  · rw [x_NT _ _ _ _ hx (by decide) (by decide)]; exact d8
  · rw [x_LO _ hx (by decide)]; exact d9
  · rw [x_WI _ _ hx (by decide) (by decide) (by decide) (by decide)]; exact d10
  · intro p j hp hj
    by_cases e : p = s ∧ j = side
    · obtain ⟨rfl, rfl⟩ := e
      simp only [dg, if_true]
      exact hk
    · have e2 : dke (xke D s side l) p j = dke D p j := by
        simp only [dg]
        by_cases a : p = s
        · rw [if_pos a, if_neg (fun b => e ⟨a, b⟩)]
        · rw [if_neg a]
      rw [e2]
      exact ho _ _ (by omega) (d11 p j hp hj)
  · rw [x_TI _ hx (by decide) (by decide) (by decide) (by decide)]; exact d12
theorem SA_lo {v : Int32} (hA : SA S C D) : SA (pI S 743 v) C (xlo D v) := by
  obtain ⟨hC, d1, d2, d3, d4, d5, d6, d7, d8, d9, d10, d11, d12⟩ := hA
  refine ⟨?_, ?_⟩
  · simp (disch := decide) only [f_SC_pI, f_SC_pJ, f_SC_wI, f_SC_wJ, f_NT_pI, f_NT_pJ, f_NT_wI, f_NT_wJ, f_KE_pI, f_KE_pJ, f_KE_wI, f_KE_wJ, f_WL_pI, f_WL_pJ, f_WL_wI, f_WL_wJ, f_TI_pI, f_TI_pJ, f_TI_wI, f_TI_wJ, f_MK_pI, f_MK_pJ, f_MK_wI, f_MK_wJ, f_IDL_pI, f_IDL_pJ, f_IDL_wI, f_IDL_wJ, f_PTS_pI, f_PTS_pJ, f_PTS_wI, f_PTS_wJ, f_PTP_pI, f_PTP_pJ, f_PTP_wI, f_PTP_wJ, f_PTH_pI, f_PTH_pJ, f_PTH_wI, f_PTH_wJ, f_NWW_pI, f_NWW_pJ, f_NWW_wI, f_NWW_wJ, f_LO_pI, f_LO_pJ, f_LO_wI, f_LO_wJ, f_WI_pI, f_WI_pJ, f_WI_wI, f_WI_wJ, f_KP_pI, f_KP_pJ, f_KP_wI, f_KP_wJ]; exact hC
  · simp (disch := decide) only [SD, dg, f_SC_pI, f_SC_pJ, f_SC_wI, f_SC_wJ, f_NT_pI, f_NT_pJ, f_NT_wI, f_NT_wJ, f_KE_pI, f_KE_pJ, f_KE_wI, f_KE_wJ, f_WL_pI, f_WL_pJ, f_WL_wI, f_WL_wJ, f_TI_pI, f_TI_pJ, f_TI_wI, f_TI_wJ, f_MK_pI, f_MK_pJ, f_MK_wI, f_MK_wJ, f_IDL_pI, f_IDL_pJ, f_IDL_wI, f_IDL_wJ, f_PTS_pI, f_PTS_pJ, f_PTS_wI, f_PTS_wJ, f_PTP_pI, f_PTP_pJ, f_PTP_wI, f_PTP_wJ, f_PTH_pI, f_PTH_pJ, f_PTH_wI, f_PTH_wJ, f_NWW_pI, f_NWW_pJ, f_NWW_wI, f_NWW_wJ, f_LO_pI, f_LO_pJ, f_LO_wI, f_LO_wJ, f_WI_pI, f_WI_pJ, f_WI_wI, f_WI_wJ, f_KP_pI, f_KP_pJ, f_KP_wI, f_KP_wJ]
    exact ⟨d1, d2, d3, d4, d5, d6, d7, d8, by simp [LO, sg], d10, d11, d12⟩
theorem r_keep1 (h : SH M m ra) {P : Mm → Nat → Int32 → Int64 → Int32 → Int32 → (Mm → Prop) → Prop} {K : Mm → Prop} {q : Nat} {l : List Ent} {t : Int64} {k w : Int32} (hq : q < 24) (hl : KE S q l) (h6 : l.length < 6) (hK : ∀ S1, Ex [748, 749, 750, 751] S S1 → KE S1 q (l ++ [(t, k, w)]) → (∀ p l', p ≠ q → KE S p l' → KE S1 p l') → K (pM M m ra S1)) : bk_X11_meet_215 P m K t k w (nI q) (pM M m ra S) := by
  simp (disch := omega) only [bk_X11_meet_215, RF h, p_mK, p_mR, p_aN, p_aR, p_mI, p_mJ, p_sI, p_sJ, Option.some.injEq, exists_eq_left', true_and, and_true, na1, na3, n_add, n_mul, n_clamp, n_in, hl.1, sg, Nat.reduceEqDiff, if_false]
  refine hK _ ((Ex.st3 (j := 6 * q + l.length) (e := (t, k, w)) Ex.refl (by decide) (by decide) (by decide)).wI (by decide)) ⟨by simp [sg], by simp; omega, fun x e hx => ?_⟩ (fun p l' hp hl' => ?_)
  · have hx6 : x < 6 := by
      have := (List.getElem?_eq_some_iff.mp hx).1
      simp at this
      omega
    rw [k3_748]
    show k3 (st3 S (6 * q + l.length) (t, k, w)) q x = e
    rw [k3_st3 h6 hx6]
    by_cases a : x = l.length
    · rw [if_pos ⟨rfl, a⟩]
      rw [a] at hx
      simpa using hx
    · rw [if_neg (fun z => a z.2)]
      refine hl.2.2 x e ?_
      rw [List.getElem?_append_left (by
        have := (List.getElem?_eq_some_iff.mp hx).1
        simp at this
        omega)] at hx
      exact hx
  · refine KE_748 hp ?_
    exact KE_st3 (e := (t, k, w)) h6 hp hl'
theorem r_keep (h : SH M m ra) {P : Mm → Nat → Int32 → Int64 → Int32 → Int32 → (Mm → Prop) → Prop} {K : Mm → Prop} {s side : Nat} {t : Int64} {k w : Int32} (hW : WC C) (hA : SA S C D) (hs : s < cn C) (hsd : side < 2) (hK : ∀ S1, SA S1 C (a_keep D s side (t, k, w)) → K (pM M m ra S1)) :
    (¬ vI S 748 (2 * s + side) = 6 → bk_X11_meet_215 P m K t k w (nI (2 * s + side)) (pM M m ra S)) ∧ (vI S 748 (2 * s + side) = 6 → wp_X11_drop (pM M m ra S) m (nI (2 * s + side)) 0 (fun M65 => mK M65 m = 12 ∧ bk_X11_meet_215 P m K t k w (nI (2 * s + side)) (sI M65 743 m (mI M65 743 m + 1)))) := by
  have h12 := hW.1
  have hl := hA.2.2.2.2.2.2.2.2.2.2.2.1 s side hs hsd
  have h6 := hl.2.1
  refine ⟨fun q => ?_, fun q => ?_⟩
  · have hne : ¬ (dke D s side).length = 6 := fun e => q (by rw [hl.1, e]; rfl)
    refine r_keep1 h (by omega) hl (by omega) (fun S1 g1 g2 g3 => hK S1 ?_)
    rw [a_keep, if_neg hne]
    exact SA_ke hA g1 hsd g2 g3
  · have he : (dke D s side).length = 6 := by
      rw [hl.1] at q
      have := congrArg Int32.toNatClampNeg q
      rw [n_clamp (by omega)] at this
      exact this
    refine r_drop (i := 0) h (by omega) hl (by omega) (fun S1 g1 g2 g3 => ⟨FK h, ?_⟩)
    rw [p_mI, p_sI]
    have hA1 : SA S1 C (xke D s side ((dke D s side).eraseIdx 0)) := SA_ke hA g1 hsd g2 g3
    have hA2 : SA (pI S1 743 (gI S1 743 + 1)) C (xlo (xke D s side ((dke D s side).eraseIdx 0)) (dlo D + 1)) := by
      have := SA_lo (v := gI S1 743 + 1) hA1
      have e9 : gI S1 743 = dlo D := hA1.2.2.2.2.2.2.2.2.2.1
      rw [e9] at this ⊢
      exact this
    have hl2 : KE (pI S1 743 (gI S1 743 + 1)) (2 * s + side) ((dke D s side).eraseIdx 0) := by
      simp (disch := decide) only [f_SC_pI, f_SC_pJ, f_SC_wI, f_SC_wJ, f_NT_pI, f_NT_pJ, f_NT_wI, f_NT_wJ, f_KE_pI, f_KE_pJ, f_KE_wI, f_KE_wJ, f_WL_pI, f_WL_pJ, f_WL_wI, f_WL_wJ, f_TI_pI, f_TI_pJ, f_TI_wI, f_TI_wJ, f_MK_pI, f_MK_pJ, f_MK_wI, f_MK_wJ, f_IDL_pI, f_IDL_pJ, f_IDL_wI, f_IDL_wJ, f_PTS_pI, f_PTS_pJ, f_PTS_wI, f_PTS_wJ, f_PTP_pI, f_PTP_pJ, f_PTP_wI, f_PTP_wJ, f_PTH_pI, f_PTH_pJ, f_PTH_wI, f_PTH_wJ, f_NWW_pI, f_NWW_pJ, f_NWW_wI, f_NWW_wJ, f_LO_pI, f_LO_pJ, f_LO_wI, f_LO_wJ, f_WI_pI, f_WI_pJ, f_WI_wI, f_WI_wJ, f_KP_pI, f_KP_pJ, f_KP_wI, f_KP_wJ]; exact g2
    refine r_keep1 h (by omega) hl2 (by rw [List.length_eraseIdx]; split <;> omega) (fun S2 f1 f2 f3 => hK S2 ?_)
    rw [a_keep, if_pos he]
    have := SA_ke hA2 f1 hsd f2 f3
    rw [show List.drop 1 (dke D s side) = (dke D s side).eraseIdx 0 by rw [List.eraseIdx_zero, List.drop_one]]
    have e3 : xke (xlo (xke D s side ((dke D s side).eraseIdx 0)) (dlo D + 1)) s side ((dke D s side).eraseIdx 0 ++ [(t, k, w)]) = xlo (xke D s side ((dke D s side).eraseIdx 0 ++ [(t, k, w)])) (dlo D + 1) := by
      simp only [xke, xlo, dmk, did, dps, dpr, dhr, dnow, dou, dla, dlo, dwi, dke, dti]
      congr 1
      simp
      funext q j
      by_cases a : q = s <;> by_cases b : j = side <;> simp [a, b]
    rw [e3] at this
    exact this
end R6
