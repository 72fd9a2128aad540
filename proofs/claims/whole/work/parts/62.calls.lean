/-! the calls, by themselves -/
def a_row (C : Cfg) (D : Dyn) (s k : Nat) (t : Int64) (key : Int32) : Int32 × Dyn :=
  if dps D s k = 2 then (-2, D) else if a_stop C D s k = true then (-3, D)
  else if t ≤ dpr D s k ∨ t ≤ dmk D s then (0, a_reckon C (a_late (a_hear D s k) (s, t, key, 1)))
  else (1, a_reckon C (if chl C s = true then xpr (a_pass C 30 (a_hear D s k) s t key 1) s k (maxF (dpr D s k) (plusF (plusF t (-(co1 C s))) (-1))) else a_pass C 30 (a_hear D s k) s t key 1))
def A_row (C : Cfg) (D : Dyn) (p q : Int32) (t : Int64) (key : Int32) : Int32 × Dyn := if isPt C p q = true ∧ isTm t = true ∧ isKy key = true then a_row C D p.toNatClampNeg q.toNatClampNeg t key else (-1, D)
def a_mark (C : Cfg) (D : Dyn) (s k : Nat) (t : Int64) : Int32 × Dyn :=
  if dps D s k = 2 then (-2, D) else if a_stop C D s k = true then (-3, D)
  else if t ≤ dpr D s k then (0, a_reckon C (a_hear D s k)) else (1, a_reckon C (xpr (a_hear D s k) s k t))
def A_mark (C : Cfg) (D : Dyn) (p q : Int32) (t : Int64) : Int32 × Dyn := if isPt C p q = true ∧ isTm t = true then a_mark C D p.toNatClampNeg q.toNatClampNeg t else (-1, D)
def a_end (C : Cfg) (D : Dyn) (s k : Nat) : Int32 × Dyn := if dps D s k = 2 then (-2, D) else (1, a_reckon C (xpr (xps D s k 2) s k 9000000000000000000))
def A_end (C : Cfg) (D : Dyn) (p q : Int32) : Int32 × Dyn := if isPt C p q = true then a_end C D p.toNatClampNeg q.toNatClampNeg else (-1, D)
def a_idle (C : Cfg) (D : Dyn) (s k : Nat) (on : Int32) : Int32 × Dyn :=
  if dps D s k = 2 then (-2, D) else if dps D s k = 1 then (if on = 0 then (1, a_reckon C (a_hear D s k)) else (0, a_reckon C D))
  else if on = 0 then (0, a_reckon C D) else (1, a_reckon C (xps D s k 1))
def A_idle (C : Cfg) (D : Dyn) (p q on : Int32) : Int32 × Dyn := if isPt C p q = true then a_idle C D p.toNatClampNeg q.toNatClampNeg on else (-1, D)
def a_hold (C : Cfg) (D : Dyn) (s : Nat) (t : Int64) : Int32 × Dyn :=
  if (dti D).length = 60 then (-4, D) else if t ≤ dmk D s then (-5, D) else (nI (dti D).length, a_reckon C (xti D (dti D ++ [(s, t, true)])))
def A_hold (C : Cfg) (D : Dyn) (p : Int32) (t : Int64) : Int32 × Dyn := if isSt C p = true ∧ ckd C p.toNatClampNeg = 3 ∧ isTm t = true then a_hold C D p.toNatClampNeg t else (-1, D)
def a_unh (D : Dyn) (i : Nat) (x : Nat × Int64 × Bool) : Dyn := xti D ((dti D).set i (x.1, x.2.1, false))
def A_rel (C : Cfg) (D : Dyn) (p em key : Int32) : Int32 × Dyn :=
  if 0 ≤ p ∧ p < nI (dti D).length ∧ isKy key = true then (match (dti D)[p.toNatClampNeg]? with
    | none => (-1, D)
    | some x => if x.2.2 = true then (1, a_reckon C (a_unh (if em = 0 then D else a_pass C 30 D x.1 x.2.1 key 1) p.toNatClampNeg x)) else (-1, D))
  else (-1, D)
/-- what the reference's calls rest on, kept by each -/
def IV (C : Cfg) (D : Dyn) : Prop := Inv D ∧ (∀ s k, dps D s k ≤ 2) ∧ ∀ x ∈ dti D, x.1 < cn C ∧ -100000000000000000 ≤ x.2.1.toInt ∧ x.2.1.toInt ≤ 100000000000000000
section R17
variable {M : Mm} {m : Nat} {ra : Nat → Nat} {C : Cfg} {S : St} {D : Dyn}
theorem SA_ps {s k v : Nat} (hk : k < 4) (hA : SA S C D) : SA (wI S 735 (4 * s + k) (nI v)) C (xps D s k v) := by
  obtain ⟨hC, d1, d2, d3, d4, d5, d6, d7, d8, d9, d10, d11, d12⟩ := hA
  refine ⟨?_, ?_⟩
  · simp (disch := decide) only [f_SC_pI, f_SC_pJ, f_SC_wI, f_SC_wJ, f_NT_pI, f_NT_pJ, f_NT_wI, f_NT_wJ, f_KE_pI, f_KE_pJ, f_KE_wI, f_KE_wJ, f_WL_pI, f_WL_pJ, f_WL_wI, f_WL_wJ, f_TI_pI, f_TI_pJ, f_TI_wI, f_TI_wJ, f_MK_pI, f_MK_pJ, f_MK_wI, f_MK_wJ, f_IDL_pI, f_IDL_pJ, f_IDL_wI, f_IDL_wJ, f_PTS_pI, f_PTS_pJ, f_PTS_wI, f_PTS_wJ, f_PTP_pI, f_PTP_pJ, f_PTP_wI, f_PTP_wJ, f_PTH_pI, f_PTH_pJ, f_PTH_wI, f_PTH_wJ, f_NWW_pI, f_NWW_pJ, f_NWW_wI, f_NWW_wJ, f_LO_pI, f_LO_pJ, f_LO_wI, f_LO_wJ, f_WI_pI, f_WI_pJ, f_WI_wI, f_WI_wJ, f_KP_pI, f_KP_pJ, f_KP_wI, f_KP_wJ]; exact hC
  · simp (disch := decide) only [SD, dg, f_SC_pI, f_SC_pJ, f_SC_wI, f_SC_wJ, f_NT_pI, f_NT_pJ, f_NT_wI, f_NT_wJ, f_KE_pI, f_KE_pJ, f_KE_wI, f_KE_wJ, f_WL_pI, f_WL_pJ, f_WL_wI, f_WL_wJ, f_TI_pI, f_TI_pJ, f_TI_wI, f_TI_wJ, f_MK_pI, f_MK_pJ, f_MK_wI, f_MK_wJ, f_IDL_pI, f_IDL_pJ, f_IDL_wI, f_IDL_wJ, f_PTS_pI, f_PTS_pJ, f_PTS_wI, f_PTS_wJ, f_PTP_pI, f_PTP_pJ, f_PTP_wI, f_PTP_wJ, f_PTH_pI, f_PTH_pJ, f_PTH_wI, f_PTH_wJ, f_NWW_pI, f_NWW_pJ, f_NWW_wI, f_NWW_wJ, f_LO_pI, f_LO_pJ, f_LO_wI, f_LO_wJ, f_WI_pI, f_WI_pJ, f_WI_wI, f_WI_wJ, f_KP_pI, f_KP_pJ, f_KP_wI, f_KP_wJ]
    refine ⟨d1, d2, fun q j hq hj => ?_, d4, d5, d6, d7, d8, d9, d10, d11, d12⟩
    simp only [sg, dg, if_true]
    by_cases a : q = s ∧ j = k
    · obtain ⟨rfl, rfl⟩ := a; simp
    · rw [if_neg (by omega)]
      by_cases b : q = s
      · rw [if_pos b, if_neg (fun c => a ⟨b, c⟩)]; exact d3 q j hq hj
      · rw [if_neg b]; exact d3 q j hq hj
theorem SA_pr {s k : Nat} {v : Int64} (hk : k < 4) (hA : SA S C D) : SA (wJ S 736 (4 * s + k) v) C (xpr D s k v) := by
  obtain ⟨hC, d1, d2, d3, d4, d5, d6, d7, d8, d9, d10, d11, d12⟩ := hA
  refine ⟨?_, ?_⟩
  · simp (disch := decide) only [f_SC_pI, f_SC_pJ, f_SC_wI, f_SC_wJ, f_NT_pI, f_NT_pJ, f_NT_wI, f_NT_wJ, f_KE_pI, f_KE_pJ, f_KE_wI, f_KE_wJ, f_WL_pI, f_WL_pJ, f_WL_wI, f_WL_wJ, f_TI_pI, f_TI_pJ, f_TI_wI, f_TI_wJ, f_MK_pI, f_MK_pJ, f_MK_wI, f_MK_wJ, f_IDL_pI, f_IDL_pJ, f_IDL_wI, f_IDL_wJ, f_PTS_pI, f_PTS_pJ, f_PTS_wI, f_PTS_wJ, f_PTP_pI, f_PTP_pJ, f_PTP_wI, f_PTP_wJ, f_PTH_pI, f_PTH_pJ, f_PTH_wI, f_PTH_wJ, f_NWW_pI, f_NWW_pJ, f_NWW_wI, f_NWW_wJ, f_LO_pI, f_LO_pJ, f_LO_wI, f_LO_wJ, f_WI_pI, f_WI_pJ, f_WI_wI, f_WI_wJ, f_KP_pI, f_KP_pJ, f_KP_wI, f_KP_wJ]; exact hC
  · simp (disch := decide) only [SD, dg, f_SC_pI, f_SC_pJ, f_SC_wI, f_SC_wJ, f_NT_pI, f_NT_pJ, f_NT_wI, f_NT_wJ, f_KE_pI, f_KE_pJ, f_KE_wI, f_KE_wJ, f_WL_pI, f_WL_pJ, f_WL_wI, f_WL_wJ, f_TI_pI, f_TI_pJ, f_TI_wI, f_TI_wJ, f_MK_pI, f_MK_pJ, f_MK_wI, f_MK_wJ, f_IDL_pI, f_IDL_pJ, f_IDL_wI, f_IDL_wJ, f_PTS_pI, f_PTS_pJ, f_PTS_wI, f_PTS_wJ, f_PTP_pI, f_PTP_pJ, f_PTP_wI, f_PTP_wJ, f_PTH_pI, f_PTH_pJ, f_PTH_wI, f_PTH_wJ, f_NWW_pI, f_NWW_pJ, f_NWW_wI, f_NWW_wJ, f_LO_pI, f_LO_pJ, f_LO_wI, f_LO_wJ, f_WI_pI, f_WI_pJ, f_WI_wI, f_WI_wJ, f_KP_pI, f_KP_pJ, f_KP_wI, f_KP_wJ]
    refine ⟨d1, d2, d3, fun q j hq hj => ?_, d5, d6, d7, d8, d9, d10, d11, d12⟩
    simp only [sg, dg, if_true]
    by_cases a : q = s ∧ j = k
    · obtain ⟨rfl, rfl⟩ := a; simp
    · rw [if_neg (by omega)]
      by_cases b : q = s
      · rw [if_pos b, if_neg (fun c => a ⟨b, c⟩)]; exact d4 q j hq hj
      · rw [if_neg b]; exact d4 q j hq hj
theorem SA_pr0 {s k : Nat} (hk : k < 4) (hA : SA S C D) : SA (wJ S 736 (4 * s + k) (dpr D s k)) C D := by
  obtain ⟨hC, d1, d2, d3, d4, d5, d6, d7, d8, d9, d10, d11, d12⟩ := hA
  refine ⟨?_, ?_⟩
  · simp (disch := decide) only [f_SC_pI, f_SC_pJ, f_SC_wI, f_SC_wJ, f_NT_pI, f_NT_pJ, f_NT_wI, f_NT_wJ, f_KE_pI, f_KE_pJ, f_KE_wI, f_KE_wJ, f_WL_pI, f_WL_pJ, f_WL_wI, f_WL_wJ, f_TI_pI, f_TI_pJ, f_TI_wI, f_TI_wJ, f_MK_pI, f_MK_pJ, f_MK_wI, f_MK_wJ, f_IDL_pI, f_IDL_pJ, f_IDL_wI, f_IDL_wJ, f_PTS_pI, f_PTS_pJ, f_PTS_wI, f_PTS_wJ, f_PTP_pI, f_PTP_pJ, f_PTP_wI, f_PTP_wJ, f_PTH_pI, f_PTH_pJ, f_PTH_wI, f_PTH_wJ, f_NWW_pI, f_NWW_pJ, f_NWW_wI, f_NWW_wJ, f_LO_pI, f_LO_pJ, f_LO_wI, f_LO_wJ, f_WI_pI, f_WI_pJ, f_WI_wI, f_WI_wJ, f_KP_pI, f_KP_pJ, f_KP_wI, f_KP_wJ]; exact hC
  · simp (disch := decide) only [SD, dg, f_SC_pI, f_SC_pJ, f_SC_wI, f_SC_wJ, f_NT_pI, f_NT_pJ, f_NT_wI, f_NT_wJ, f_KE_pI, f_KE_pJ, f_KE_wI, f_KE_wJ, f_WL_pI, f_WL_pJ, f_WL_wI, f_WL_wJ, f_TI_pI, f_TI_pJ, f_TI_wI, f_TI_wJ, f_MK_pI, f_MK_pJ, f_MK_wI, f_MK_wJ, f_IDL_pI, f_IDL_pJ, f_IDL_wI, f_IDL_wJ, f_PTS_pI, f_PTS_pJ, f_PTS_wI, f_PTS_wJ, f_PTP_pI, f_PTP_pJ, f_PTP_wI, f_PTP_wJ, f_PTH_pI, f_PTH_pJ, f_PTH_wI, f_PTH_wJ, f_NWW_pI, f_NWW_pJ, f_NWW_wI, f_NWW_wJ, f_LO_pI, f_LO_pJ, f_LO_wI, f_LO_wJ, f_WI_pI, f_WI_pJ, f_WI_wI, f_WI_wJ, f_KP_pI, f_KP_pJ, f_KP_wI, f_KP_wJ]
    refine ⟨d1, d2, d3, fun q j hq hj => ?_, d5, d6, d7, d8, d9, d10, d11, d12⟩
    simp only [sg, if_true]
    by_cases a : q = s ∧ j = k
    · obtain ⟨rfl, rfl⟩ := a; simp
    · rw [if_neg (by omega)]; exact d4 q j hq hj
theorem SA_hr {s k : Nat} {v : Int32} (hk : k < 4) (hA : SA S C D) : SA (wI S 737 (4 * s + k) v) C (xhr D s k v) := by
  obtain ⟨hC, d1, d2, d3, d4, d5, d6, d7, d8, d9, d10, d11, d12⟩ := hA
  refine ⟨?_, ?_⟩
  · simp (disch := decide) only [f_SC_pI, f_SC_pJ, f_SC_wI, f_SC_wJ, f_NT_pI, f_NT_pJ, f_NT_wI, f_NT_wJ, f_KE_pI, f_KE_pJ, f_KE_wI, f_KE_wJ, f_WL_pI, f_WL_pJ, f_WL_wI, f_WL_wJ, f_TI_pI, f_TI_pJ, f_TI_wI, f_TI_wJ, f_MK_pI, f_MK_pJ, f_MK_wI, f_MK_wJ, f_IDL_pI, f_IDL_pJ, f_IDL_wI, f_IDL_wJ, f_PTS_pI, f_PTS_pJ, f_PTS_wI, f_PTS_wJ, f_PTP_pI, f_PTP_pJ, f_PTP_wI, f_PTP_wJ, f_PTH_pI, f_PTH_pJ, f_PTH_wI, f_PTH_wJ, f_NWW_pI, f_NWW_pJ, f_NWW_wI, f_NWW_wJ, f_LO_pI, f_LO_pJ, f_LO_wI, f_LO_wJ, f_WI_pI, f_WI_pJ, f_WI_wI, f_WI_wJ, f_KP_pI, f_KP_pJ, f_KP_wI, f_KP_wJ]; exact hC
  · simp (disch := decide) only [SD, dg, f_SC_pI, f_SC_pJ, f_SC_wI, f_SC_wJ, f_NT_pI, f_NT_pJ, f_NT_wI, f_NT_wJ, f_KE_pI, f_KE_pJ, f_KE_wI, f_KE_wJ, f_WL_pI, f_WL_pJ, f_WL_wI, f_WL_wJ, f_TI_pI, f_TI_pJ, f_TI_wI, f_TI_wJ, f_MK_pI, f_MK_pJ, f_MK_wI, f_MK_wJ, f_IDL_pI, f_IDL_pJ, f_IDL_wI, f_IDL_wJ, f_PTS_pI, f_PTS_pJ, f_PTS_wI, f_PTS_wJ, f_PTP_pI, f_PTP_pJ, f_PTP_wI, f_PTP_wJ, f_PTH_pI, f_PTH_pJ, f_PTH_wI, f_PTH_wJ, f_NWW_pI, f_NWW_pJ, f_NWW_wI, f_NWW_wJ, f_LO_pI, f_LO_pJ, f_LO_wI, f_LO_wJ, f_WI_pI, f_WI_pJ, f_WI_wI, f_WI_wJ, f_KP_pI, f_KP_pJ, f_KP_wI, f_KP_wJ]
    refine ⟨d1, d2, d3, d4, fun q j hq hj => ?_, d6, d7, d8, d9, d10, d11, d12⟩
    simp only [sg, dg, if_true]
    by_cases a : q = s ∧ j = k
    · obtain ⟨rfl, rfl⟩ := a; simp
    · rw [if_neg (by omega)]
      by_cases b : q = s
      · rw [if_pos b, if_neg (fun c => a ⟨b, c⟩)]; exact d5 q j hq hj
      · rw [if_neg b]; exact d5 q j hq hj
theorem SA_code {v : Int32} (hA : SA S C D) : SA (pI S 704 v) C D := SA_scr hA (Ex.refl.pI (by decide))
theorem r_hear (h : SH M m ra) (hW : WC C) {K : Mm → Prop} {s k : Nat} (hA : SA S C D) (hs : s < cn C) (hk : k < 4) (hK : ∀ S1, SA S1 C (a_hear D s k) → K (pM M m ra S1)) : wp_X11_hear (pM M m ra S) m (nI s) (nI k) K := by
  have h12 := hW.1
  have e : gI S 738 = dnow D := hA.2.2.2.2.2.2.1
  simp (disch := omega) only [wp_X11_hear, RF h, p_mK, p_mR, p_aN, p_aR, p_mI, p_mJ, p_sI, p_sJ, Option.some.injEq, exists_eq_left', true_and, and_true, na1, na3, n_add, n_mul, n_clamp, n_in, sg, e]
  exact hK _ (SA_hr hk (SA_ps (v := 0) hk hA))
theorem inv_hear {s k : Nat} (h : Inv D) : Inv (a_hear D s k) := h
theorem ps_hear {s k : Nat} (h : ∀ s k, dps D s k ≤ 2) : ∀ q j, dps (a_hear D s k) q j ≤ 2 := fun q j => by
  simp only [a_hear, dg]
  by_cases a : q = s
  · rw [if_pos a]
    by_cases b : j = k
    · rw [if_pos b]; omega
    · rw [if_neg b]; exact h q j
  · rw [if_neg a]; exact h q j
theorem IV.hts (hW : WC C) (h : IV C D) : ∀ x ∈ dti D, x.1 < 12 := fun x hx => by have := (h.2.2 x hx).1; have := hW.1; omega
theorem isKy_iff {k : Int32} : isKy k = true ↔ ¬ k < 0 ∧ k ≤ 9 := by
  simp only [isKy, Bool.and_eq_true, decide_eq_true_eq, Int32.not_lt]
theorem HT_time {t : Int64} (h : isTm t = true) : HT t := by have := isTm_HT h; exact ⟨by omega, by omega⟩
theorem r_row (h : SH M m ra) (hW : WC C) {K : Int32 → Mm → Prop} {p q : Int32} {t : Int64} {key : Int32} (hA : SA S C D) (hI : IV C D) (hb : LB (A_row C D p q t key).2) (hK : ∀ S1, SA S1 C (A_row C D p q t key).2 → K (A_row C D p q t key).1 (pM M m ra S1)) : wp_X11_row (pM M m ra S) m p q t key K := by
  have h12 := hW.1
  have hA0 : SA (pI S 704 0) C D := SA_code hA
  have ht12 : ∀ x ∈ dti D, x.1 < 12 := hI.hts hW
  simp only [wp_X11_row, p_mK, FK h, p_sI, e_isPart h hW hA0.1, e_isTime, bI_0, true_and, bk_X11_row_33]
  unfold A_row at hb hK
  by_cases c1 : isPt C p q = true
  · by_cases c2 : isTm t = true
    · by_cases c3 : isKy key = true
      · rw [if_pos ⟨c1, c2, c3⟩] at hb hK
        obtain ⟨s, k, hs, rfl, hk0, hk, rfl⟩ := (isPt_iff hW).mp c1
        obtain ⟨k1, k2⟩ := isKy_iff.mp c3
        have h4 := (hW.2.2.2 s hs).2.1
        rw [n_clamp (by omega), n_clamp (by omega)] at hb hK
        have p1 := hA0.2.2.2.1 s k hs (by omega)
        have hps := hI.2.1 s k
        simp (disch := omega) only [c1, c2, k1, k2, RF h, p_mK, p_mR, p_aN, p_aR, p_mI, p_mJ, p_sI, p_sJ, Option.some.injEq, exists_eq_left', true_and, and_true, na1, na3, n_add, n_mul, n_clamp, n_in, p1, na2, Bool.true_eq_false, not_true, not_false_eq_true, false_implies, forall_const]
        unfold a_row at hb hK
        refine ⟨fun z => ?_, fun z => ?_⟩
        · rw [if_neg z] at hb hK
          refine r_isStopped h hW hA0 hI.2.1 hs (by omega) ?_
          simp only [bI_0]
          refine ⟨fun y => ?_, fun y => ?_⟩
          · rw [if_neg (by rw [y]; decide)] at hb hK
            refine ⟨FK h, r_hear h hW hA0 hs (by omega) (fun S1 hA1 => ?_)⟩
            obtain ⟨x1, x2, x3, x4, -⟩ := hA1.1.2.2.1 s hs
            have q1 := hA1.2.2.2.2.1 s k hs (by omega)
            have q2 := hA1.2.1 s hs
            have hI1 : Inv (a_hear D s k) := hI.1
            have lateC : t ≤ dpr D s k ∨ t ≤ dmk D s → bk_X11_row_105 m K (nI s) t key (nI (4 * s + k)) 0 (pM M m ra S1) := fun w => by
              rw [if_pos w] at hb hK
              have hb1 : LB (a_late (a_hear D s k) (s, t, key, 1)) := (rq_reckN hW.2.1 (cn C)).lb hb
              simp only [bk_X11_row_105, bk_X11_row_182, bk_X11_row_196, p_mK, FK h, true_and, not_true, false_implies, and_true, forall_const]
              refine r_late h hA1 hb1 (fun S2 hA2 => ⟨FK h, r_reckon h hW hA2 (inv_late hI1) (ps_hear hI.2.1) ht12 hb (fun S3 hA3 => ?_)⟩)
              exact hK S3 hA3
            simp (disch := omega) only [RF h, p_mK, p_mR, p_aN, p_aR, p_mI, p_mJ, p_sI, p_sJ, Option.some.injEq, exists_eq_left', true_and, and_true, na1, na3, n_add, n_mul, n_clamp, n_in, q1, q2, bk_X11_row_104]
            refine ⟨fun w => lateC (Or.inl w), fun w => ⟨fun v => lateC (Or.inr v), fun v => ?_⟩⟩
            rw [if_neg (fun u => u.elim (fun u => w u) (fun u => v u))] at hb hK
            have hps2 : ∀ q j, dps (a_pass C 30 (a_hear D s k) s t key 1) q j ≤ 2 := by
              rw [(up_pass hW.2.1 30 (a_hear D s k) s t key 1).2.2.1]; exact ps_hear hI.2.1
            have hti2 : ∀ x ∈ dti (a_pass C 30 (a_hear D s k) s t key 1), x.1 < 12 := by
              rw [(up_pass hW.2.1 30 (a_hear D s k) s t key 1).2.2.2.2.2.2.1]; exact ht12
            have hpr2 : dpr (a_pass C 30 (a_hear D s k) s t key 1) s k = dpr D s k := by
              rw [(up_pass hW.2.1 30 (a_hear D s k) s t key 1).2.2.2.1]; rfl
            have hI2 : Inv (a_pass C 30 (a_hear D s k) s t key 1) := inv_pass hW 30 _ s t key 1 hI1 (HT_time c2)
            have hb2 : LB (a_pass C 30 (a_hear D s k) s t key 1) := by
              have := (rq_reckN hW.2.1 (cn C)).lb hb
              by_cases g : chl C s = true
              · rw [if_pos g] at this; exact this
              · rw [if_neg g] at this; exact this
            simp only [bk_X11_row_105, bk_X11_row_182, bk_X11_row_196, p_mK, FK h, true_and, show ((1 : Int32) = 0) = False by decide, not_false_eq_true, false_implies, forall_const]
            refine r_pass h hW 30 S1 _ s t key 1 _ hs (by omega) hA1 hI1 (HT_time c2) hb2 (fun S2 hA2 => ?_)
            obtain ⟨x1, x2, x3, x4, -⟩ := hA2.1.2.2.1 s hs
            have q3 := hA2.2.2.2.2.1 s k hs (by omega)
            rw [hpr2] at q3
            simp (disch := omega) only [RF h, p_mK, p_mR, p_aN, p_aR, p_mI, p_mJ, p_sI, p_sJ, Option.some.injEq, exists_eq_left', true_and, and_true, na1, na3, n_add, n_mul, n_clamp, n_in, x3, x4, bI_0, q3, e_plus]
            refine ⟨fun g => ?_, fun g => ?_⟩
            · rw [if_neg (by rw [g]; decide)] at hb hK
              exact r_reckon h hW hA2 hI2 hps2 hti2 hb (fun S3 hA3 => hK S3 hA3)
            · rw [Bool.not_eq_false] at g
              rw [if_pos g] at hb hK
              refine r_reckon h hW (SA_pr (v := maxF (dpr D s k) (plusF (plusF t (-(co1 C s))) (-1))) (by omega) hA2) hI2 hps2 hti2 hb (fun S3 hA3 => hK S3 hA3)
          · rw [Bool.not_eq_false] at y
            rw [if_pos y] at hK
            exact hK _ hA0
        · rw [if_pos z] at hK
          exact hK _ hA0
      · rw [if_neg (fun z => c3 z.2.2)] at hK
        have hbad : K (-1) (pM M m ra (pI S 704 0)) := hK _ hA0
        simp only [c1, c2, Bool.true_eq_false, not_false_eq_true, false_implies, forall_const, true_and]
        refine ⟨fun _ => hbad, fun g1 => ⟨fun g2 => absurd (isKy_iff.mpr ⟨g1, g2⟩) c3, fun _ => hbad⟩⟩
    · rw [if_neg (fun z => c2 z.2.1)] at hK
      have hbad : K (-1) (pM M m ra (pI S 704 0)) := hK _ hA0
      rw [Bool.not_eq_true] at c2
      simp only [c1, c2, Bool.true_eq_false, not_false_eq_true, not_true, false_implies, forall_const, true_and]
      exact ⟨hbad, trivial⟩
  · rw [if_neg (fun z => c1 z.1)] at hK
    have hbad : K (-1) (pM M m ra (pI S 704 0)) := hK _ hA0
    rw [Bool.not_eq_true] at c1
    simp only [c1, not_true, false_implies, forall_const]
    exact ⟨hbad, trivial⟩
end R17
