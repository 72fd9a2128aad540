/-! the reference: all is reckoned -/
theorem xke_xke (D : Dyn) (s k : Nat) (l l' : List Ent) : xke (xke D s k l) s k l' = xke D s k l' := by
  simp only [xke, dmk, did, dps, dpr, dhr, dnow, dou, dla, dlo, dwi, dke, dti, Prod.mk.injEq, true_and, and_true]
  funext q j
  by_cases a : q = s <;> by_cases b : j = k <;> simp [a, b]
theorem xke_self (D : Dyn) (s k : Nat) : xke D s k (dke D s k) = D := by
  simp only [xke, dmk, did, dps, dpr, dhr, dnow, dou, dla, dlo, dwi, dke, dti]
  have e : (fun q j => if q = s then (if j = k then D.2.2.2.2.2.2.2.2.2.2.1 s k else D.2.2.2.2.2.2.2.2.2.2.1 q j) else D.2.2.2.2.2.2.2.2.2.2.1 q j) = D.2.2.2.2.2.2.2.2.2.2.1 := by
    funext q j
    by_cases a : q = s <;> by_cases b : j = k <;> simp [a, b]
  rw [e]
/-- what reckoning leaves as it was -/
def Rq9 (D D1 : Dyn) : Prop := dps D1 = dps D ∧ dpr D1 = dpr D ∧ dhr D1 = dhr D ∧ dnow D1 = dnow D ∧ dti D1 = dti D ∧ (dou D).length ≤ (dou D1).length ∧ (dla D).length ≤ (dla D1).length
theorem Rq9.refl {D : Dyn} : Rq9 D D := ⟨rfl, rfl, rfl, rfl, rfl, Nat.le_refl _, Nat.le_refl _⟩
theorem Rq9.trans {D D1 D2 : Dyn} (h : Rq9 D D1) (g : Rq9 D1 D2) : Rq9 D D2 := ⟨g.1.trans h.1, g.2.1.trans h.2.1, g.2.2.1.trans h.2.2.1, g.2.2.2.1.trans h.2.2.2.1, g.2.2.2.2.1.trans h.2.2.2.2.1, Nat.le_trans h.2.2.2.2.2.1 g.2.2.2.2.2.1, Nat.le_trans h.2.2.2.2.2.2 g.2.2.2.2.2.2⟩
theorem Rq9.lb {D D1 : Dyn} (h : Rq9 D D1) (g : LB D1) : LB D := ⟨Nat.lt_of_le_of_lt h.2.2.2.2.2.1 g.1, Nat.lt_of_le_of_lt h.2.2.2.2.2.2 g.2⟩
theorem Uq.rq {s : Nat} {D D1 : Dyn} (h : Uq s D D1) : Rq9 D D1 := ⟨h.2.2.1, h.2.2.2.1, h.2.2.2.2.1, h.2.2.2.2.2.1, h.2.2.2.2.2.2.1, h.2.2.2.2.2.2.2.2.1, h.2.2.2.2.2.2.2.2.2⟩
theorem rq_raise {D : Dyn} {s : Nat} {g : Option Int64} : Rq9 D (a_raise D s g) := by
  unfold a_raise
  split
  · exact ⟨rfl, rfl, rfl, rfl, rfl, Nat.le_refl _, Nat.le_refl _⟩
  · split <;> exact ⟨rfl, rfl, rfl, rfl, rfl, Nat.le_refl _, Nat.le_refl _⟩
theorem rq_drop {C : Cfg} {D : Dyn} {s k : Nat} : Rq9 D (a_drop C D s k) := ⟨rfl, rfl, rfl, rfl, rfl, Nat.le_refl _, Nat.le_refl _⟩
theorem rq_step {C : Cfg} (hC : WT C) {D : Dyn} {s : Nat} : Rq9 D (a_step C D s) := by
  unfold a_step
  split
  · exact rq_raise.trans (uq_close hC _ _).rq
  · split
    · exact (rq_raise.trans rq_drop).trans rq_drop
    · exact rq_raise
theorem rq_reckN {C : Cfg} (hC : WT C) {D : Dyn} : ∀ n, Rq9 D (a_reckN C D n)
  | 0 => Rq9.refl
  | n + 1 => (rq_reckN hC n).trans (rq_step hC)
theorem wi_raise {D : Dyn} {s : Nat} {g : Option Int64} : dwi (a_raise D s g) = dwi D ∧ dke (a_raise D s g) = dke D := by
  unfold a_raise
  split
  · exact ⟨rfl, rfl⟩
  · split <;> exact ⟨rfl, rfl⟩
theorem inv_raise {D : Dyn} {s : Nat} {g : Option Int64} (h : Inv D) : Inv (a_raise D s g) := by
  unfold Inv
  rw [wi_raise.1, wi_raise.2]
  exact h
theorem inv_drop {C : Cfg} {D : Dyn} {s k : Nat} (h : Inv D) : Inv (a_drop C D s k) := inv_ke h (fun e he => h.2.1 s k e (List.mem_filter.mp he).1)
theorem inv_step {C : Cfg} (hW : WC C) {D : Dyn} {s : Nat} (h : Inv D) : Inv (a_step C D s) := by
  unfold a_step
  split
  · exact inv_close hW _ _ (inv_raise h)
  · split
    · exact inv_drop (inv_drop (inv_raise h))
    · exact inv_raise h
theorem inv_reckN {C : Cfg} (hW : WC C) {D : Dyn} (h : Inv D) : ∀ n, Inv (a_reckN C D n)
  | 0 => h
  | n + 1 => inv_step hW (inv_reckN hW h n)
section R15
variable {M : Mm} {m : Nat} {ra : Nat → Nat} {C : Cfg}
theorem SA_id {S : St} {D : Dyn} {s : Nat} {b : Bool} (hA : SA S C D) : SA (wI S 734 s (bI b)) C (xid D s b) := by
  obtain ⟨hC, d1, d2, d3, d4, d5, d6, d7, d8, d9, d10, d11, d12⟩ := hA
  refine ⟨?_, ?_⟩
  · simp (disch := decide) only [f_SC_pI, f_SC_pJ, f_SC_wI, f_SC_wJ, f_NT_pI, f_NT_pJ, f_NT_wI, f_NT_wJ, f_KE_pI, f_KE_pJ, f_KE_wI, f_KE_wJ, f_WL_pI, f_WL_pJ, f_WL_wI, f_WL_wJ, f_TI_pI, f_TI_pJ, f_TI_wI, f_TI_wJ, f_MK_pI, f_MK_pJ, f_MK_wI, f_MK_wJ, f_IDL_pI, f_IDL_pJ, f_IDL_wI, f_IDL_wJ, f_PTS_pI, f_PTS_pJ, f_PTS_wI, f_PTS_wJ, f_PTP_pI, f_PTP_pJ, f_PTP_wI, f_PTP_wJ, f_PTH_pI, f_PTH_pJ, f_PTH_wI, f_PTH_wJ, f_NWW_pI, f_NWW_pJ, f_NWW_wI, f_NWW_wJ, f_LO_pI, f_LO_pJ, f_LO_wI, f_LO_wJ, f_WI_pI, f_WI_pJ, f_WI_wI, f_WI_wJ, f_KP_pI, f_KP_pJ, f_KP_wI, f_KP_wJ]; exact hC
  · simp (disch := decide) only [SD, dg, f_SC_pI, f_SC_pJ, f_SC_wI, f_SC_wJ, f_NT_pI, f_NT_pJ, f_NT_wI, f_NT_wJ, f_KE_pI, f_KE_pJ, f_KE_wI, f_KE_wJ, f_WL_pI, f_WL_pJ, f_WL_wI, f_WL_wJ, f_TI_pI, f_TI_pJ, f_TI_wI, f_TI_wJ, f_MK_pI, f_MK_pJ, f_MK_wI, f_MK_wJ, f_IDL_pI, f_IDL_pJ, f_IDL_wI, f_IDL_wJ, f_PTS_pI, f_PTS_pJ, f_PTS_wI, f_PTS_wJ, f_PTP_pI, f_PTP_pJ, f_PTP_wI, f_PTP_wJ, f_PTH_pI, f_PTH_pJ, f_PTH_wI, f_PTH_wJ, f_NWW_pI, f_NWW_pJ, f_NWW_wI, f_NWW_wJ, f_LO_pI, f_LO_pJ, f_LO_wI, f_LO_wJ, f_WI_pI, f_WI_pJ, f_WI_wI, f_WI_wJ, f_KP_pI, f_KP_pJ, f_KP_wI, f_KP_wJ]
    refine ⟨d1, fun q hq => ?_, d3, d4, d5, d6, d7, d8, d9, d10, d11, d12⟩
    simp only [sg, dg, if_true]
    by_cases a : q = s
    · rw [if_pos a, if_pos a]
    · rw [if_neg a, if_neg a]; exact d2 q hq
theorem SA_mk {S : St} {D : Dyn} {s : Nat} {v : Int64} (hA : SA S C D) : SA (wJ S 733 s v) C (xmk D s v) := by
  obtain ⟨hC, d1, d2, d3, d4, d5, d6, d7, d8, d9, d10, d11, d12⟩ := hA
  refine ⟨?_, ?_⟩
  · simp (disch := decide) only [f_SC_pI, f_SC_pJ, f_SC_wI, f_SC_wJ, f_NT_pI, f_NT_pJ, f_NT_wI, f_NT_wJ, f_KE_pI, f_KE_pJ, f_KE_wI, f_KE_wJ, f_WL_pI, f_WL_pJ, f_WL_wI, f_WL_wJ, f_TI_pI, f_TI_pJ, f_TI_wI, f_TI_wJ, f_MK_pI, f_MK_pJ, f_MK_wI, f_MK_wJ, f_IDL_pI, f_IDL_pJ, f_IDL_wI, f_IDL_wJ, f_PTS_pI, f_PTS_pJ, f_PTS_wI, f_PTS_wJ, f_PTP_pI, f_PTP_pJ, f_PTP_wI, f_PTP_wJ, f_PTH_pI, f_PTH_pJ, f_PTH_wI, f_PTH_wJ, f_NWW_pI, f_NWW_pJ, f_NWW_wI, f_NWW_wJ, f_LO_pI, f_LO_pJ, f_LO_wI, f_LO_wJ, f_WI_pI, f_WI_pJ, f_WI_wI, f_WI_wJ, f_KP_pI, f_KP_pJ, f_KP_wI, f_KP_wJ]; exact hC
  · simp (disch := decide) only [SD, dg, f_SC_pI, f_SC_pJ, f_SC_wI, f_SC_wJ, f_NT_pI, f_NT_pJ, f_NT_wI, f_NT_wJ, f_KE_pI, f_KE_pJ, f_KE_wI, f_KE_wJ, f_WL_pI, f_WL_pJ, f_WL_wI, f_WL_wJ, f_TI_pI, f_TI_pJ, f_TI_wI, f_TI_wJ, f_MK_pI, f_MK_pJ, f_MK_wI, f_MK_wJ, f_IDL_pI, f_IDL_pJ, f_IDL_wI, f_IDL_wJ, f_PTS_pI, f_PTS_pJ, f_PTS_wI, f_PTS_wJ, f_PTP_pI, f_PTP_pJ, f_PTP_wI, f_PTP_wJ, f_PTH_pI, f_PTH_pJ, f_PTH_wI, f_PTH_wJ, f_NWW_pI, f_NWW_pJ, f_NWW_wI, f_NWW_wJ, f_LO_pI, f_LO_pJ, f_LO_wI, f_LO_wJ, f_WI_pI, f_WI_pJ, f_WI_wI, f_WI_wJ, f_KP_pI, f_KP_pJ, f_KP_wI, f_KP_wJ]
    refine ⟨fun q hq => ?_, d2, d3, d4, d5, d6, d7, d8, d9, d10, d11, d12⟩
    simp only [sg, dg, if_true]
    by_cases a : q = s
    · rw [if_pos a, if_pos a]
    · rw [if_neg a, if_neg a]; exact d1 q hq
theorem SA_mk0 {S : St} {D : Dyn} {s : Nat} (hA : SA S C D) : SA (wJ S 733 s (dmk D s)) C D := by
  obtain ⟨hC, d1, d2, d3, d4, d5, d6, d7, d8, d9, d10, d11, d12⟩ := hA
  refine ⟨?_, ?_⟩
  · simp (disch := decide) only [f_SC_pI, f_SC_pJ, f_SC_wI, f_SC_wJ, f_NT_pI, f_NT_pJ, f_NT_wI, f_NT_wJ, f_KE_pI, f_KE_pJ, f_KE_wI, f_KE_wJ, f_WL_pI, f_WL_pJ, f_WL_wI, f_WL_wJ, f_TI_pI, f_TI_pJ, f_TI_wI, f_TI_wJ, f_MK_pI, f_MK_pJ, f_MK_wI, f_MK_wJ, f_IDL_pI, f_IDL_pJ, f_IDL_wI, f_IDL_wJ, f_PTS_pI, f_PTS_pJ, f_PTS_wI, f_PTS_wJ, f_PTP_pI, f_PTP_pJ, f_PTP_wI, f_PTP_wJ, f_PTH_pI, f_PTH_pJ, f_PTH_wI, f_PTH_wJ, f_NWW_pI, f_NWW_pJ, f_NWW_wI, f_NWW_wJ, f_LO_pI, f_LO_pJ, f_LO_wI, f_LO_wJ, f_WI_pI, f_WI_pJ, f_WI_wI, f_WI_wJ, f_KP_pI, f_KP_pJ, f_KP_wI, f_KP_wJ]; exact hC
  · simp (disch := decide) only [SD, dg, f_SC_pI, f_SC_pJ, f_SC_wI, f_SC_wJ, f_NT_pI, f_NT_pJ, f_NT_wI, f_NT_wJ, f_KE_pI, f_KE_pJ, f_KE_wI, f_KE_wJ, f_WL_pI, f_WL_pJ, f_WL_wI, f_WL_wJ, f_TI_pI, f_TI_pJ, f_TI_wI, f_TI_wJ, f_MK_pI, f_MK_pJ, f_MK_wI, f_MK_wJ, f_IDL_pI, f_IDL_pJ, f_IDL_wI, f_IDL_wJ, f_PTS_pI, f_PTS_pJ, f_PTS_wI, f_PTS_wJ, f_PTP_pI, f_PTP_pJ, f_PTP_wI, f_PTP_wJ, f_PTH_pI, f_PTH_pJ, f_PTH_wI, f_PTH_wJ, f_NWW_pI, f_NWW_pJ, f_NWW_wI, f_NWW_wJ, f_LO_pI, f_LO_pJ, f_LO_wI, f_LO_wJ, f_WI_pI, f_WI_pJ, f_WI_wI, f_WI_wJ, f_KP_pI, f_KP_pJ, f_KP_wI, f_KP_wJ]
    refine ⟨fun q hq => ?_, d2, d3, d4, d5, d6, d7, d8, d9, d10, d11, d12⟩
    simp only [sg, if_true]
    by_cases a : q = s
    · rw [if_pos a, a]
    · rw [if_neg a]; exact d1 q hq
theorem r_dropFL (h : SH M m ra) (hW : WC C) {R2 : Int32 → Mm → Prop} {R91 : Int32 → Int32 → Mm → Prop} {K : Mm → Prop} {s side : Nat} {D : Dyn} {l : List Ent} (hs : s < cn C) (hk : ckd C s = 4) (hsd : side < 2) : ∀ (r : Nat) (rest : List Ent) (S : St), r ≤ l.length → SA S C (xke D s side (l.take r ++ rest)) → (∀ S1, SA S1 C (xke D s side ((l.take r).filter (fun e => !(a_far C D s side e.1)) ++ rest)) → R91 (nI s) (nI (side + 1)) (pM M m ra S1)) → lp_X11_reckon_118 m R2 R91 K (r + 1) (nI s) (nI side) (nI r - 1) (pM M m ra S) := by
  intro r
  have h12 := hW.1
  induction r with
  | zero =>
    intro rest S _ hA hK
    rw [lp_X11_reckon_118]
    refine ⟨fun _ => ?_, fun z => absurd (by decide) z⟩
    rw [show nI side + 1 = nI (side + 1) from nI_add side 1]
    exact hK S hA
  | succ r ih =>
    intro rest S hr hA hK
    obtain ⟨e, he⟩ : ∃ e, l[r]? = some e := ⟨l[r], List.getElem?_eq_getElem (by omega)⟩
    have htk : l.take (r + 1) = l.take r ++ [e] := by rw [List.take_add_one, he]; rfl
    rw [htk] at hA hK
    have hke := hA.2.2.2.2.2.2.2.2.2.2.2.1 s side hs hsd
    simp only [dg, if_true] at hke
    have hlen : (l.take r).length = r := by simp; omega
    have hge : (l.take r ++ [e] ++ rest)[r]? = some e := by
      rw [List.append_assoc, List.getElem?_append_right (by omega), hlen]
      simp
    have h6 := hke.2.1
    have hl6 : r + 1 ≤ 6 := by simp at h6; omega
    have e3 := hke.2.2 r e hge
    have q1 : vJ S 749 (6 * (2 * s + side) + r) = e.1 := congrArg (fun z => z.1) e3
    have hfar : ∀ t, a_far C (xke D s side (l.take r ++ [e] ++ rest)) s side t = a_far C D s side t := fun t => far_mk rfl
    rw [lp_X11_reckon_118, show nI (r + 1) - 1 = nI r from nI_pred r]
    simp (disch := omega) only [RF h, p_mK, p_mR, p_aN, p_aR, p_mI, p_mJ, p_sI, p_sJ, Option.some.injEq, exists_eq_left', true_and, and_true, na1, na3, n_add, n_mul, n_clamp, n_in, na2, Nat.not_lt_zero, q1, not_false_eq_true, false_implies, forall_const, bk_X11_reckon_156]
    rw [e_isFar h hA hW hs hk hsd, hfar]
    simp only [bI_0]
    rw [show nI r + (-1) = nI r - 1 from (Int32.sub_eq_add_neg ..).symm]
    refine ⟨fun z => ?_, fun z => ?_⟩
    · refine ih (e :: rest) S (by omega) (by simpa using hA) (fun S1 hS1 => hK S1 ?_)
      rw [List.filter_append]
      simpa [z] using hS1
    · rw [Bool.not_eq_false] at z
      refine ⟨FK h, r_drop (i := r) h (by omega) hke (by simp; omega) (fun S1 g1 g2 g3 => ?_)⟩
      have hA1 := SA_ke hA g1 hsd g2 g3
      rw [xke_xke] at hA1
      have her : (l.take r ++ [e] ++ rest).eraseIdx r = l.take r ++ rest := by
        rw [List.append_assoc, List.eraseIdx_append_of_length_le (by omega), hlen, Nat.sub_self]
        simp
      rw [her] at hA1
      refine ih rest S1 (by omega) hA1 (fun S2 hS2 => hK S2 ?_)
      rw [List.filter_append]
      simpa [z] using hS2
theorem r_dropF (h : SH M m ra) (hW : WC C) {R2 : Int32 → Mm → Prop} {R91 : Int32 → Int32 → Mm → Prop} {K : Mm → Prop} {s side : Nat} {S : St} {D : Dyn} (hs : s < cn C) (hk : ckd C s = 4) (hsd : side < 2) (hA : SA S C D) (hK : ∀ S1, SA S1 C (a_drop C D s side) → R91 (nI s) (nI (side + 1)) (pM M m ra S1)) : ∃ kk, lp_X11_reckon_118 m R2 R91 K kk (nI s) (nI side) (vI S 748 (2 * s + side) - 1) (pM M m ra S) := by
  have hke := hA.2.2.2.2.2.2.2.2.2.2.2.1 s side hs hsd
  rw [hke.1]
  refine ⟨_, r_dropFL (D := D) (l := dke D s side) h hW hs hk hsd (dke D s side).length [] S (Nat.le_refl _) ?_ (fun S1 hS1 => hK S1 ?_)⟩
  · rw [List.take_length, List.append_nil, xke_self]; exact hA
  · rw [List.take_length, List.append_nil] at hS1; exact hS1
theorem r_89 (h : SH M m ra) (hW : WC C) {R2 : Int32 → Mm → Prop} {K : Mm → Prop} {s : Nat} {S : St} {D : Dyn} (hs : s < cn C) (hA : SA S C D) (hK : ∀ S1, SA S1 C (if ckd C s = 4 then a_drop C (a_drop C D s 0) s 1 else D) → R2 (nI (s + 1)) (pM M m ra S1)) : bk_X11_reckon_89 m R2 K (nI s) (pM M m ra S) := by
  have h12 := hW.1
  have hk5 := (hW.2.2.2 s hs).1
  have c1 := (hA.1.2.2.1 s hs).1
  unfold bk_X11_reckon_89
  refine ⟨3, ?_⟩
  rw [lp_X11_reckon_91]
  by_cases k4 : ckd C s = 4
  · rw [if_pos k4] at hK
    simp (disch := omega) only [RF h, p_mK, p_mR, p_aN, p_aR, p_mI, p_mJ, p_sI, p_sJ, Option.some.injEq, exists_eq_left', true_and, and_true, na1, na3, n_add, n_mul, n_clamp, n_in, na2, Nat.reduceLeDiff, e_kindOf h, c1, k4, not_false_eq_true, not_true, false_implies, forall_const, show ((2 : Int32) ≤ 0) = False by decide, Nat.add_zero]
    refine r_dropF (side := 0) h hW hs k4 (by omega) hA (fun S1 hA1 => ?_)
    have c1' := (hA1.1.2.2.1 s hs).1
    rw [lp_X11_reckon_91]
    simp (disch := omega) only [RF h, p_mK, p_mR, p_aN, p_aR, p_mI, p_mJ, p_sI, p_sJ, Option.some.injEq, exists_eq_left', true_and, and_true, na1, na3, n_add, n_mul, n_clamp, n_in, na2, Nat.reduceLeDiff, e_kindOf h, c1', k4, not_false_eq_true, not_true, false_implies, forall_const, Nat.zero_add]
    refine r_dropF (side := 1) h hW hs k4 (by omega) hA1 (fun S2 hA2 => ?_)
    rw [lp_X11_reckon_91]
    simp (disch := omega) only [na1, na2, bk_X11_reckon_168, Nat.reduceAdd, Nat.le_refl, not_true, false_implies, forall_const, and_true]
    exact hK S2 hA2
  · rw [if_neg k4] at hK
    simp (disch := omega) only [RF h, p_mK, p_mR, p_aN, p_aR, p_mI, p_mJ, p_sI, p_sJ, Option.some.injEq, exists_eq_left', true_and, and_true, na1, na3, n_add, n_mul, n_clamp, n_in, na2, Nat.reduceLeDiff, e_kindOf h, c1, k4, bk_X11_reckon_168, not_false_eq_true, not_true, false_implies, forall_const, show ((2 : Int32) ≤ 0) = False by decide]
    exact hK S hA
theorem r_74 (h : SH M m ra) (hW : WC C) {R2 : Int32 → Mm → Prop} {K : Mm → Prop} {s : Nat} {S : St} {D D0 : Dyn} {v : Int64} (hs : s < cn C) (hA : SA (wJ S 733 s v) C D) (hI : Inv D) (hw0 : dwi D = dwi D0) (hb : LB (if ckd C s = 5 then a_close C s (dwi D0 s).length D else if ckd C s = 4 then a_drop C (a_drop C D s 0) s 1 else D)) (hK : ∀ S1, SA S1 C (if ckd C s = 5 then a_close C s (dwi D0 s).length D else if ckd C s = 4 then a_drop C (a_drop C D s 0) s 1 else D) → R2 (nI (s + 1)) (pM M m ra S1)) : bk_X11_reckon_74 m R2 K (nI s) v (nI s) (some (ra 733)) (pM M m ra S) := by
  have h12 := hW.1
  have hk5 := (hW.2.2.2 s hs).1
  have c1 := (hA.1.2.2.1 s hs).1
  simp (disch := omega) only [bk_X11_reckon_74, RF h, p_mK, p_mR, p_aN, p_aR, p_mI, p_mJ, p_sI, p_sJ, Option.some.injEq, exists_eq_left', true_and, and_true, na1, na3, n_add, n_mul, n_clamp, n_in, e_kindOf h, c1, na2]
  refine ⟨fun z => ?_, fun z => ?_⟩
  · rw [if_neg z] at hb hK
    exact r_89 h hW hs hA hK
  · rw [if_pos z] at hb hK
    rw [← hw0] at hb hK
    refine r_close h hW hs z hA hI hb (fun S1 hS1 => r_89 h hW hs hS1 (fun S2 hS2 => hK S2 ?_))
    rw [if_neg (by omega)] at hS2
    exact hS2
theorem r_34 (h : SH M m ra) (hW : WC C) {R2 : Int32 → Mm → Prop} {K : Mm → Prop} {s : Nat} {S : St} {D : Dyn} {g : Option Int64} (hs : s < cn C) (hA : SA S C D) (hI : Inv D) (hG : GS S g) (hg : g = a_goal C D s) (hb : LB (a_step C D s)) (hK : ∀ S1, SA S1 C (a_step C D s) → R2 (nI (s + 1)) (pM M m ra S1)) : bk_X11_reckon_34 m R2 K (nI s) (bI g.isNone) (nI s) (some (ra 734)) (pM M m ra S) := by
  have h12 := hW.1
  unfold a_step at hb hK
  rw [← hg] at hb hK
  cases g with
  | none =>
    have hG : gI S 756 = 0 := hG
    have hA1 : SA (wI S 734 s (bI true)) C (xid D s true) := SA_id hA
    have m1 := hA1.2.1 s hs
    simp (disch := omega) only [bk_X11_reckon_34, bk_X11_reckon_68, RF h, p_mK, p_mR, p_aN, p_aR, p_mI, p_mJ, p_sI, p_sJ, Option.some.injEq, exists_eq_left', true_and, and_true, na1, na3, n_add, n_mul, n_clamp, n_in, sg, hG, Option.isNone_none, bI_bz, not_true, false_implies, forall_const]
    rw [show vJ S 733 s = dmk (xid D s true) s from (hA.2.1 s hs)]
    exact r_74 (D0 := D) h hW hs (SA_mk0 hA1) (inv_raise (g := none) hI) rfl hb hK
  | some v =>
    obtain ⟨g1, g2⟩ : gI S 756 = 1 ∧ gJ S 757 = v := hG
    have hA1 : SA (wI S 734 s (bI false)) C (xid D s false) := SA_id hA
    have m1 := hA.2.1 s hs
    simp (disch := omega) only [bk_X11_reckon_34, bk_X11_reckon_68, RF h, p_mK, p_mR, p_aN, p_aR, p_mI, p_mJ, p_sI, p_sJ, Option.some.injEq, exists_eq_left', true_and, and_true, na1, na3, n_add, n_mul, n_clamp, n_in, sg, g1, g2, m1, show ((1 : Int32) = 0) = False by decide, Option.isNone_some, bI_bz, not_false_eq_true, false_implies, forall_const]
    refine ⟨fun z => ?_, fun z => ?_⟩
    · have e : a_raise D s (some v) = xid D s false := by
        rw [a_raise, if_neg (Int64.not_lt.mpr z)]
      rw [e] at hb hK
      rw [show dmk D s = dmk (xid D s false) s from rfl]
      exact r_74 (D0 := D) h hW hs (SA_mk0 hA1) (by rw [← e]; exact inv_raise hI) rfl hb hK
    · have e : a_raise D s (some v) = xmk (xid D s false) s v := by
        rw [a_raise, if_pos (Int64.not_le.mp z)]
      rw [e] at hb hK
      exact r_74 (D0 := D) h hW hs (SA_mk hA1) (by rw [← e]; exact inv_raise hI) rfl hb hK
theorem r_reckL (h : SH M m ra) (hW : WC C) {K : Mm → Prop} {D : Dyn} (hI : Inv D) (hps : ∀ s k, dps D s k ≤ 2) (hts : ∀ x ∈ dti D, x.1 < 12) (hb : LB (a_reckon C D)) (hK : ∀ S1, SA S1 C (a_reckon C D) → K (pM M m ra S1)) : ∀ (r s : Nat) (S : St), s + r = cn C → SA S C (a_reckN C D s) → lp_X11_reckon_2 m K (r + 1) (nI s) (pM M m ra S) := by
  intro r
  have h12 := hW.1
  induction r with
  | zero =>
    intro s S hr hA
    have e : s = cn C := by omega
    subst e
    rw [lp_X11_reckon_2]
    simp (disch := omega) only [RF h, p_mK, p_mR, p_aN, p_aR, p_mI, p_mJ, p_sI, p_sJ, Option.some.injEq, exists_eq_left', true_and, and_true, na1, na3, n_add, n_mul, n_clamp, n_in, hA.1.1, n_le, Nat.le_refl, not_true, false_implies, forall_const]
    exact hK S hA
  | succ r ih =>
    intro s S hr hA
    have hmono : ∀ n, LB (a_reckN C D (s + 1 + n)) → LB (a_reckN C D (s + 1)) := fun n => by
      induction n with
      | zero => exact fun q => q
      | succ n ihn => exact fun q => ihn ((rq_step hW.2.1).lb q)
    have hb1 : LB (a_step C (a_reckN C D s) s) := by
      have := hmono (cn C - (s + 1))
      rw [show s + 1 + (cn C - (s + 1)) = cn C by omega] at this
      exact this hb
    have hq := rq_reckN hW.2.1 (D := D) s
    rw [lp_X11_reckon_2]
    simp (disch := omega) only [RF h, p_mK, p_mR, p_aN, p_aR, p_mI, p_mJ, p_sI, p_sJ, Option.some.injEq, exists_eq_left', true_and, and_true, na1, na3, n_add, n_mul, n_clamp, n_in, hA.1.1, n_le, show ¬ cn C ≤ s by omega, not_false_eq_true, false_implies, forall_const]
    refine r_findGoal h hW (by omega) hA (by rw [hq.1]; exact hps) (by rw [hq.2.2.2.2.1]; exact hts) (fun S1 hA1 hG1 => ?_)
    have nx : ∀ S2, SA S2 C (a_step C (a_reckN C D s) s) → lp_X11_reckon_2 m K (r + 1) (nI (s + 1)) (pM M m ra S2) := fun S2 hA2 => ih (s + 1) S2 (by omega) hA2
    have := r_34 (K := K) (R2 := lp_X11_reckon_2 m K (r + 1)) h hW (by omega) hA1 (inv_reckN hW hI s) hG1 rfl hb1 nx
    simp only [p_mK, FK h, p_mR, (F734 h).1, p_mI, true_and]
    cases hg : a_goal C (a_reckN C D s) s with
    | none =>
      rw [hg] at hG1 this
      have hG1 : gI S1 756 = 0 := hG1
      rw [hG1]
      exact ⟨fun z => absurd rfl z, fun _ => this⟩
    | some v =>
      rw [hg] at hG1 this
      obtain ⟨g1, -⟩ : gI S1 756 = 1 ∧ gJ S1 757 = v := hG1
      rw [g1]
      exact ⟨fun _ => this, fun z => absurd z (by decide)⟩
theorem r_reckon (h : SH M m ra) (hW : WC C) {K : Mm → Prop} {S : St} {D : Dyn} (hA : SA S C D) (hI : Inv D) (hps : ∀ s k, dps D s k ≤ 2) (hts : ∀ x ∈ dti D, x.1 < 12) (hb : LB (a_reckon C D)) (hK : ∀ S1, SA S1 C (a_reckon C D) → K (pM M m ra S1)) : wp_X11_reckon (pM M m ra S) m K := ⟨_, r_reckL h hW hI hps hts hb hK (cn C) 0 S (Nat.zero_add _) hA⟩
end R15
