/-! the class: what each write does -/
section K1
variable {B M : Mm} {L : Nat → Nat → Nat} {C : Cfg} {D : Dyn}
theorem nRK {k : Nat} (h : (1 < k ∧ k < 11) ∨ (16 < k ∧ k < 120) ∨ (400 < k ∧ ¬ k = 426)) : ¬ RK k := by unfold RK; omega
theorem CR_mk {s : Nat} {v : Int64} (h : CR B M L C D) (hs : s < cn C) : CR B (sJ M 390 (L 1 s) v) L C (xmk D s v) := by
  obtain ⟨hO, hS, d1, d2, d3, d4, d5, d6, d7, d8, d9, d10, d11, d12⟩ := h
  have hk := (hS.2.2.2.1 s hs).2.1
  refine ⟨hO.trans (off_sJ (by rw [hk]; exact nRK (by decide)) (by decide)), ?_, ?_⟩
  · simp (disch := decide) only [c_CMK_sI, c_CMK_sJ, c_CMK_tI, c_CMK_tJ, c_CID_sI, c_CID_sJ, c_CID_tI, c_CID_tJ, c_CPS_sI, c_CPS_sJ, c_CPS_tI, c_CPS_tJ, c_CPR_sI, c_CPR_sJ, c_CPR_tI, c_CPR_tJ, c_CHR_sI, c_CHR_sJ, c_CHR_tI, c_CHR_tJ, c_CNW_sI, c_CNW_sJ, c_CNW_tI, c_CNW_tJ, c_CLO_sI, c_CLO_sJ, c_CLO_tI, c_CLO_tJ, c_CNT_sI, c_CNT_sJ, c_CNT_tI, c_CNT_tJ, c_CWI_sI, c_CWI_sJ, c_CWI_tI, c_CWI_tJ, c_CKP_sI, c_CKP_sJ, c_CKP_tI, c_CKP_tJ, c_CTI_sI, c_CTI_sJ, c_CTI_tI, c_CTI_tJ, c_CSH_sI, c_CSH_sJ, c_CSH_tI, c_CSH_tJ]; exact hS
  · simp (disch := decide) only [CDT, dg, c_CMK_sI, c_CMK_sJ, c_CMK_tI, c_CMK_tJ, c_CID_sI, c_CID_sJ, c_CID_tI, c_CID_tJ, c_CPS_sI, c_CPS_sJ, c_CPS_tI, c_CPS_tJ, c_CPR_sI, c_CPR_sJ, c_CPR_tI, c_CPR_tJ, c_CHR_sI, c_CHR_sJ, c_CHR_tI, c_CHR_tJ, c_CNW_sI, c_CNW_sJ, c_CNW_tI, c_CNW_tJ, c_CLO_sI, c_CLO_sJ, c_CLO_tI, c_CLO_tJ, c_CNT_sI, c_CNT_sJ, c_CNT_tI, c_CNT_tJ, c_CWI_sI, c_CWI_sJ, c_CWI_tI, c_CWI_tJ, c_CKP_sI, c_CKP_sJ, c_CKP_tI, c_CKP_tJ, c_CTI_sI, c_CTI_sJ, c_CTI_tI, c_CTI_tJ, c_CSH_sI, c_CSH_sJ, c_CSH_tI, c_CSH_tJ]
    refine ⟨fun q hq => ?_, d2, d3, d4, d5, d6, d7, d8, d9, d10, d11, d12⟩
    simp only [ms, dg, if_true]
    by_cases a : q = s
    · rw [a, if_pos rfl, if_pos rfl]
    · rw [if_neg (fun e => a (hS.2.2.2.2.2.2.2.2.1.1 q s hq hs e)), if_neg a]; exact d1 q hq
theorem CR_id {s : Nat} {b : Bool} (h : CR B M L C D) (hs : s < cn C) : CR B (sI M 391 (L 1 s) (bI b)) L C (xid D s b) := by
  obtain ⟨hO, hS, d1, d2, d3, d4, d5, d6, d7, d8, d9, d10, d11, d12⟩ := h
  have hk := (hS.2.2.2.1 s hs).2.1
  refine ⟨hO.trans (off_sI (by rw [hk]; exact nRK (by decide))), ?_, ?_⟩
  · simp (disch := decide) only [c_CMK_sI, c_CMK_sJ, c_CMK_tI, c_CMK_tJ, c_CID_sI, c_CID_sJ, c_CID_tI, c_CID_tJ, c_CPS_sI, c_CPS_sJ, c_CPS_tI, c_CPS_tJ, c_CPR_sI, c_CPR_sJ, c_CPR_tI, c_CPR_tJ, c_CHR_sI, c_CHR_sJ, c_CHR_tI, c_CHR_tJ, c_CNW_sI, c_CNW_sJ, c_CNW_tI, c_CNW_tJ, c_CLO_sI, c_CLO_sJ, c_CLO_tI, c_CLO_tJ, c_CNT_sI, c_CNT_sJ, c_CNT_tI, c_CNT_tJ, c_CWI_sI, c_CWI_sJ, c_CWI_tI, c_CWI_tJ, c_CKP_sI, c_CKP_sJ, c_CKP_tI, c_CKP_tJ, c_CTI_sI, c_CTI_sJ, c_CTI_tI, c_CTI_tJ, c_CSH_sI, c_CSH_sJ, c_CSH_tI, c_CSH_tJ]; exact hS
  · simp (disch := decide) only [CDT, dg, c_CMK_sI, c_CMK_sJ, c_CMK_tI, c_CMK_tJ, c_CID_sI, c_CID_sJ, c_CID_tI, c_CID_tJ, c_CPS_sI, c_CPS_sJ, c_CPS_tI, c_CPS_tJ, c_CPR_sI, c_CPR_sJ, c_CPR_tI, c_CPR_tJ, c_CHR_sI, c_CHR_sJ, c_CHR_tI, c_CHR_tJ, c_CNW_sI, c_CNW_sJ, c_CNW_tI, c_CNW_tJ, c_CLO_sI, c_CLO_sJ, c_CLO_tI, c_CLO_tJ, c_CNT_sI, c_CNT_sJ, c_CNT_tI, c_CNT_tJ, c_CWI_sI, c_CWI_sJ, c_CWI_tI, c_CWI_tJ, c_CKP_sI, c_CKP_sJ, c_CKP_tI, c_CKP_tJ, c_CTI_sI, c_CTI_sJ, c_CTI_tI, c_CTI_tJ, c_CSH_sI, c_CSH_sJ, c_CSH_tI, c_CSH_tJ]
    refine ⟨d1, fun q hq => ?_, d3, d4, d5, d6, d7, d8, d9, d10, d11, d12⟩
    simp only [ms, dg, if_true]
    by_cases a : q = s
    · rw [a, if_pos rfl, if_pos rfl]
    · rw [if_neg (fun e => a (hS.2.2.2.2.2.2.2.2.1.1 q s hq hs e)), if_neg a]; exact d2 q hq
theorem CR_ps {s k v : Nat} (h : CR B M L C D) (hs : s < cn C) (h0 : ckd C s = 0) : CR B (tI M (L 4 s) k (nI v)) L C (xps D s k v) := by
  obtain ⟨hO, hS, d1, d2, d3, d4, d5, d6, d7, d8, d9, d10, d11, d12⟩ := h
  have hk : mK M (L 4 s) = 33 := (hS.2.2.2.2.2.1 s hs h0).2.2.2.2.2.2.2.2.2.1
  refine ⟨hO.trans (off_tI (by rw [hk]; exact nRK (by decide))), ?_, ?_⟩
  · simp (disch := first | decide | (rw [hk]; decide)) only [c_CMK_sI, c_CMK_sJ, c_CMK_tI, c_CMK_tJ, c_CID_sI, c_CID_sJ, c_CID_tI, c_CID_tJ, c_CPS_sI, c_CPS_sJ, c_CPS_tI, c_CPS_tJ, c_CPR_sI, c_CPR_sJ, c_CPR_tI, c_CPR_tJ, c_CHR_sI, c_CHR_sJ, c_CHR_tI, c_CHR_tJ, c_CNW_sI, c_CNW_sJ, c_CNW_tI, c_CNW_tJ, c_CLO_sI, c_CLO_sJ, c_CLO_tI, c_CLO_tJ, c_CNT_sI, c_CNT_sJ, c_CNT_tI, c_CNT_tJ, c_CWI_sI, c_CWI_sJ, c_CWI_tI, c_CWI_tJ, c_CKP_sI, c_CKP_sJ, c_CKP_tI, c_CKP_tJ, c_CTI_sI, c_CTI_sJ, c_CTI_tI, c_CTI_tJ, c_CSH_sI, c_CSH_sJ, c_CSH_tI, c_CSH_tJ]; exact hS
  · simp (disch := first | decide | (rw [hk]; decide)) only [CDT, dg, c_CMK_sI, c_CMK_sJ, c_CMK_tI, c_CMK_tJ, c_CID_sI, c_CID_sJ, c_CID_tI, c_CID_tJ, c_CPS_sI, c_CPS_sJ, c_CPS_tI, c_CPS_tJ, c_CPR_sI, c_CPR_sJ, c_CPR_tI, c_CPR_tJ, c_CHR_sI, c_CHR_sJ, c_CHR_tI, c_CHR_tJ, c_CNW_sI, c_CNW_sJ, c_CNW_tI, c_CNW_tJ, c_CLO_sI, c_CLO_sJ, c_CLO_tI, c_CLO_tJ, c_CNT_sI, c_CNT_sJ, c_CNT_tI, c_CNT_tJ, c_CWI_sI, c_CWI_sJ, c_CWI_tI, c_CWI_tJ, c_CKP_sI, c_CKP_sJ, c_CKP_tI, c_CKP_tJ, c_CTI_sI, c_CTI_sJ, c_CTI_tI, c_CTI_tJ, c_CSH_sI, c_CSH_sJ, c_CSH_tI, c_CSH_tJ]
    refine ⟨d1, d2, fun q j hq hq0 hj => ?_, d4, d5, d6, d7, d8, d9, d10, d11, d12⟩
    obtain ⟨e1, e2⟩ := d3 q j hq hq0 hj
    refine ⟨e1, ?_⟩
    simp only [ms, dg]
    by_cases a : q = s
    · subst a
      rw [if_pos rfl, if_pos rfl]
      by_cases b : j = k
      · rw [if_pos b, if_pos b]
      · rw [if_neg b, if_neg b]; exact e2
    · rw [if_neg (fun e => a (hS.2.2.2.2.2.2.2.2.1.2.1 q s hq hs hq0 h0 (Or.inl e))), if_neg a]; exact e2
theorem CR_pr {s k : Nat} {v : Int64} (h : CR B M L C D) (hs : s < cn C) (h0 : ckd C s = 0) : CR B (tJ M (L 5 s) k v) L C (xpr D s k v) := by
  obtain ⟨hO, hS, d1, d2, d3, d4, d5, d6, d7, d8, d9, d10, d11, d12⟩ := h
  have hk : mK M (L 5 s) = 42 := (hS.2.2.2.2.2.1 s hs h0).2.2.2.2.2.2.2.2.2.2.2.1
  refine ⟨hO.trans (off_tJ (by rw [hk]; exact nRK (by decide))), ?_, ?_⟩
  · simp (disch := first | decide | (rw [hk]; decide)) only [c_CMK_sI, c_CMK_sJ, c_CMK_tI, c_CMK_tJ, c_CID_sI, c_CID_sJ, c_CID_tI, c_CID_tJ, c_CPS_sI, c_CPS_sJ, c_CPS_tI, c_CPS_tJ, c_CPR_sI, c_CPR_sJ, c_CPR_tI, c_CPR_tJ, c_CHR_sI, c_CHR_sJ, c_CHR_tI, c_CHR_tJ, c_CNW_sI, c_CNW_sJ, c_CNW_tI, c_CNW_tJ, c_CLO_sI, c_CLO_sJ, c_CLO_tI, c_CLO_tJ, c_CNT_sI, c_CNT_sJ, c_CNT_tI, c_CNT_tJ, c_CWI_sI, c_CWI_sJ, c_CWI_tI, c_CWI_tJ, c_CKP_sI, c_CKP_sJ, c_CKP_tI, c_CKP_tJ, c_CTI_sI, c_CTI_sJ, c_CTI_tI, c_CTI_tJ, c_CSH_sI, c_CSH_sJ, c_CSH_tI, c_CSH_tJ]; exact hS
  · simp (disch := first | decide | (rw [hk]; decide)) only [CDT, dg, c_CMK_sI, c_CMK_sJ, c_CMK_tI, c_CMK_tJ, c_CID_sI, c_CID_sJ, c_CID_tI, c_CID_tJ, c_CPS_sI, c_CPS_sJ, c_CPS_tI, c_CPS_tJ, c_CPR_sI, c_CPR_sJ, c_CPR_tI, c_CPR_tJ, c_CHR_sI, c_CHR_sJ, c_CHR_tI, c_CHR_tJ, c_CNW_sI, c_CNW_sJ, c_CNW_tI, c_CNW_tJ, c_CLO_sI, c_CLO_sJ, c_CLO_tI, c_CLO_tJ, c_CNT_sI, c_CNT_sJ, c_CNT_tI, c_CNT_tJ, c_CWI_sI, c_CWI_sJ, c_CWI_tI, c_CWI_tJ, c_CKP_sI, c_CKP_sJ, c_CKP_tI, c_CKP_tJ, c_CTI_sI, c_CTI_sJ, c_CTI_tI, c_CTI_tJ, c_CSH_sI, c_CSH_sJ, c_CSH_tI, c_CSH_tJ]
    refine ⟨d1, d2, d3, fun q j hq hq0 hj => ?_, d5, d6, d7, d8, d9, d10, d11, d12⟩
    obtain ⟨e1, e2⟩ := d4 q j hq hq0 hj
    refine ⟨e1, ?_⟩
    simp only [ms, dg]
    by_cases a : q = s
    · subst a
      rw [if_pos rfl, if_pos rfl]
      by_cases b : j = k
      · rw [if_pos b, if_pos b]
      · rw [if_neg b, if_neg b]; exact e2
    · rw [if_neg (fun e => a (hS.2.2.2.2.2.2.2.2.1.2.1 q s hq hs hq0 h0 (Or.inr (Or.inl e)))), if_neg a]; exact e2
theorem CR_hr {s k : Nat} {v : Int32} (h : CR B M L C D) (hs : s < cn C) (h0 : ckd C s = 0) : CR B (tI M (L 6 s) k v) L C (xhr D s k v) := by
  obtain ⟨hO, hS, d1, d2, d3, d4, d5, d6, d7, d8, d9, d10, d11, d12⟩ := h
  have hk : mK M (L 6 s) = 49 := (hS.2.2.2.2.2.1 s hs h0).2.2.2.2.2.2.2.2.2.2.2.2.2.1
  refine ⟨hO.trans (off_tI (by rw [hk]; exact nRK (by decide))), ?_, ?_⟩
  · simp (disch := first | decide | (rw [hk]; decide)) only [c_CMK_sI, c_CMK_sJ, c_CMK_tI, c_CMK_tJ, c_CID_sI, c_CID_sJ, c_CID_tI, c_CID_tJ, c_CPS_sI, c_CPS_sJ, c_CPS_tI, c_CPS_tJ, c_CPR_sI, c_CPR_sJ, c_CPR_tI, c_CPR_tJ, c_CHR_sI, c_CHR_sJ, c_CHR_tI, c_CHR_tJ, c_CNW_sI, c_CNW_sJ, c_CNW_tI, c_CNW_tJ, c_CLO_sI, c_CLO_sJ, c_CLO_tI, c_CLO_tJ, c_CNT_sI, c_CNT_sJ, c_CNT_tI, c_CNT_tJ, c_CWI_sI, c_CWI_sJ, c_CWI_tI, c_CWI_tJ, c_CKP_sI, c_CKP_sJ, c_CKP_tI, c_CKP_tJ, c_CTI_sI, c_CTI_sJ, c_CTI_tI, c_CTI_tJ, c_CSH_sI, c_CSH_sJ, c_CSH_tI, c_CSH_tJ]; exact hS
  · simp (disch := first | decide | (rw [hk]; decide)) only [CDT, dg, c_CMK_sI, c_CMK_sJ, c_CMK_tI, c_CMK_tJ, c_CID_sI, c_CID_sJ, c_CID_tI, c_CID_tJ, c_CPS_sI, c_CPS_sJ, c_CPS_tI, c_CPS_tJ, c_CPR_sI, c_CPR_sJ, c_CPR_tI, c_CPR_tJ, c_CHR_sI, c_CHR_sJ, c_CHR_tI, c_CHR_tJ, c_CNW_sI, c_CNW_sJ, c_CNW_tI, c_CNW_tJ, c_CLO_sI, c_CLO_sJ, c_CLO_tI, c_CLO_tJ, c_CNT_sI, c_CNT_sJ, c_CNT_tI, c_CNT_tJ, c_CWI_sI, c_CWI_sJ, c_CWI_tI, c_CWI_tJ, c_CKP_sI, c_CKP_sJ, c_CKP_tI, c_CKP_tJ, c_CTI_sI, c_CTI_sJ, c_CTI_tI, c_CTI_tJ, c_CSH_sI, c_CSH_sJ, c_CSH_tI, c_CSH_tJ]
    refine ⟨d1, d2, d3, d4, fun q j hq hq0 hj => ?_, d6, d7, d8, d9, d10, d11, d12⟩
    obtain ⟨e1, e2⟩ := d5 q j hq hq0 hj
    refine ⟨e1, ?_⟩
    simp only [ms, dg]
    by_cases a : q = s
    · subst a
      rw [if_pos rfl, if_pos rfl]
      by_cases b : j = k
      · rw [if_pos b, if_pos b]
      · rw [if_neg b, if_neg b]; exact e2
    · rw [if_neg (fun e => a (hS.2.2.2.2.2.2.2.2.1.2.1 q s hq hs hq0 h0 (Or.inr (Or.inr (Or.inl e))))), if_neg a]; exact e2
/-- the array of the parts that fall: nothing is said of it -/
theorem CR_fl {s k : Nat} {v : Int32} (h : CR B M L C D) (hs : s < cn C) (h0 : ckd C s = 0) : CR B (tI M (L 7 s) k v) L C D := by
  obtain ⟨hO, hS, d1, d2, d3, d4, d5, d6, d7, d8, d9, d10, d11, d12⟩ := h
  have hk : mK M (L 7 s) = 59 := (hS.2.2.2.2.2.1 s hs h0).2.2.2.2.2.2.2.2.2.2.2.2.2.2.2.1
  refine ⟨hO.trans (off_tI (by rw [hk]; exact nRK (by decide))), ?_, ?_⟩
  · simp (disch := first | decide | (rw [hk]; decide)) only [c_CMK_sI, c_CMK_sJ, c_CMK_tI, c_CMK_tJ, c_CID_sI, c_CID_sJ, c_CID_tI, c_CID_tJ, c_CPS_sI, c_CPS_sJ, c_CPS_tI, c_CPS_tJ, c_CPR_sI, c_CPR_sJ, c_CPR_tI, c_CPR_tJ, c_CHR_sI, c_CHR_sJ, c_CHR_tI, c_CHR_tJ, c_CNW_sI, c_CNW_sJ, c_CNW_tI, c_CNW_tJ, c_CLO_sI, c_CLO_sJ, c_CLO_tI, c_CLO_tJ, c_CNT_sI, c_CNT_sJ, c_CNT_tI, c_CNT_tJ, c_CWI_sI, c_CWI_sJ, c_CWI_tI, c_CWI_tJ, c_CKP_sI, c_CKP_sJ, c_CKP_tI, c_CKP_tJ, c_CTI_sI, c_CTI_sJ, c_CTI_tI, c_CTI_tJ, c_CSH_sI, c_CSH_sJ, c_CSH_tI, c_CSH_tJ]; exact hS
  · simp (disch := first | decide | (rw [hk]; decide)) only [CDT, dg, c_CMK_sI, c_CMK_sJ, c_CMK_tI, c_CMK_tJ, c_CID_sI, c_CID_sJ, c_CID_tI, c_CID_tJ, c_CPS_sI, c_CPS_sJ, c_CPS_tI, c_CPS_tJ, c_CPR_sI, c_CPR_sJ, c_CPR_tI, c_CPR_tJ, c_CHR_sI, c_CHR_sJ, c_CHR_tI, c_CHR_tJ, c_CNW_sI, c_CNW_sJ, c_CNW_tI, c_CNW_tJ, c_CLO_sI, c_CLO_sJ, c_CLO_tI, c_CLO_tJ, c_CNT_sI, c_CNT_sJ, c_CNT_tI, c_CNT_tJ, c_CWI_sI, c_CWI_sJ, c_CWI_tI, c_CWI_tJ, c_CKP_sI, c_CKP_sJ, c_CKP_tI, c_CKP_tJ, c_CTI_sI, c_CTI_sJ, c_CTI_tI, c_CTI_tJ, c_CSH_sI, c_CSH_sJ, c_CSH_tI, c_CSH_tJ]
    exact ⟨d1, d2, d3, d4, d5, d6, d7, d8, d9, d10, d11, d12⟩
theorem CR_now {v : Int32} (h : CR B M L C D) : CR B (sI M 70 (L 0 1) v) L C (xnow D v) := by
  obtain ⟨hO, hS, d1, d2, d3, d4, d5, d6, d7, d8, d9, d10, d11, d12⟩ := h
  have hk := hS.2.2.1.1
  refine ⟨hO.trans (off_sI (by rw [hk]; exact nRK (by decide))), ?_, ?_⟩
  · simp (disch := decide) only [c_CMK_sI, c_CMK_sJ, c_CMK_tI, c_CMK_tJ, c_CID_sI, c_CID_sJ, c_CID_tI, c_CID_tJ, c_CPS_sI, c_CPS_sJ, c_CPS_tI, c_CPS_tJ, c_CPR_sI, c_CPR_sJ, c_CPR_tI, c_CPR_tJ, c_CHR_sI, c_CHR_sJ, c_CHR_tI, c_CHR_tJ, c_CNW_sI, c_CNW_sJ, c_CNW_tI, c_CNW_tJ, c_CLO_sI, c_CLO_sJ, c_CLO_tI, c_CLO_tJ, c_CNT_sI, c_CNT_sJ, c_CNT_tI, c_CNT_tJ, c_CWI_sI, c_CWI_sJ, c_CWI_tI, c_CWI_tJ, c_CKP_sI, c_CKP_sJ, c_CKP_tI, c_CKP_tJ, c_CTI_sI, c_CTI_sJ, c_CTI_tI, c_CTI_tJ, c_CSH_sI, c_CSH_sJ, c_CSH_tI, c_CSH_tJ]; exact hS
  · simp (disch := decide) only [CDT, dg, c_CMK_sI, c_CMK_sJ, c_CMK_tI, c_CMK_tJ, c_CID_sI, c_CID_sJ, c_CID_tI, c_CID_tJ, c_CPS_sI, c_CPS_sJ, c_CPS_tI, c_CPS_tJ, c_CPR_sI, c_CPR_sJ, c_CPR_tI, c_CPR_tJ, c_CHR_sI, c_CHR_sJ, c_CHR_tI, c_CHR_tJ, c_CNW_sI, c_CNW_sJ, c_CNW_tI, c_CNW_tJ, c_CLO_sI, c_CLO_sJ, c_CLO_tI, c_CLO_tJ, c_CNT_sI, c_CNT_sJ, c_CNT_tI, c_CNT_tJ, c_CWI_sI, c_CWI_sJ, c_CWI_tI, c_CWI_tJ, c_CKP_sI, c_CKP_sJ, c_CKP_tI, c_CKP_tJ, c_CTI_sI, c_CTI_sJ, c_CTI_tI, c_CTI_tJ, c_CSH_sI, c_CSH_sJ, c_CSH_tI, c_CSH_tJ]
    exact ⟨d1, d2, d3, d4, d5, by simp [CNW, ms], d7, d8, d9, d10, d11, d12⟩
theorem CR_lo {v : Int32} (h : CR B M L C D) : CR B (sI M 71 (L 0 1) v) L C (xlo D v) := by
  obtain ⟨hO, hS, d1, d2, d3, d4, d5, d6, d7, d8, d9, d10, d11, d12⟩ := h
  have hk := hS.2.2.1.1
  refine ⟨hO.trans (off_sI (by rw [hk]; exact nRK (by decide))), ?_, ?_⟩
  · simp (disch := decide) only [c_CMK_sI, c_CMK_sJ, c_CMK_tI, c_CMK_tJ, c_CID_sI, c_CID_sJ, c_CID_tI, c_CID_tJ, c_CPS_sI, c_CPS_sJ, c_CPS_tI, c_CPS_tJ, c_CPR_sI, c_CPR_sJ, c_CPR_tI, c_CPR_tJ, c_CHR_sI, c_CHR_sJ, c_CHR_tI, c_CHR_tJ, c_CNW_sI, c_CNW_sJ, c_CNW_tI, c_CNW_tJ, c_CLO_sI, c_CLO_sJ, c_CLO_tI, c_CLO_tJ, c_CNT_sI, c_CNT_sJ, c_CNT_tI, c_CNT_tJ, c_CWI_sI, c_CWI_sJ, c_CWI_tI, c_CWI_tJ, c_CKP_sI, c_CKP_sJ, c_CKP_tI, c_CKP_tJ, c_CTI_sI, c_CTI_sJ, c_CTI_tI, c_CTI_tJ, c_CSH_sI, c_CSH_sJ, c_CSH_tI, c_CSH_tJ]; exact hS
  · simp (disch := decide) only [CDT, dg, c_CMK_sI, c_CMK_sJ, c_CMK_tI, c_CMK_tJ, c_CID_sI, c_CID_sJ, c_CID_tI, c_CID_tJ, c_CPS_sI, c_CPS_sJ, c_CPS_tI, c_CPS_tJ, c_CPR_sI, c_CPR_sJ, c_CPR_tI, c_CPR_tJ, c_CHR_sI, c_CHR_sJ, c_CHR_tI, c_CHR_tJ, c_CNW_sI, c_CNW_sJ, c_CNW_tI, c_CNW_tJ, c_CLO_sI, c_CLO_sJ, c_CLO_tI, c_CLO_tJ, c_CNT_sI, c_CNT_sJ, c_CNT_tI, c_CNT_tJ, c_CWI_sI, c_CWI_sJ, c_CWI_tI, c_CWI_tJ, c_CKP_sI, c_CKP_sJ, c_CKP_tI, c_CKP_tJ, c_CTI_sI, c_CTI_sJ, c_CTI_tI, c_CTI_tJ, c_CSH_sI, c_CSH_sJ, c_CSH_tI, c_CSH_tJ]
    exact ⟨d1, d2, d3, d4, d5, d6, d7, d8, by simp [CLO, ms], d10, d11, d12⟩
/-- a row is noted: the class's way -/
theorem c_note {b a room : Nat} {l : List Row} {K : Mm → Prop} {s : Nat} {t : Int64} {k w : Int32} (hb : mK M b = 4) (hr : mR M 192 b = some a) (hrm : mI M 193 b = nI room) (ha : mK M a = 26) (hn : aN M a = 4 * room) (hr2 : room < 2000) (hl : CNT M b a room l) (hlb : l.length < 2147483647)
    (hK : ∀ M1, (M1 = sI M 194 b (nI (l.length + 1)) ∧ room ≤ l.length) ∨ (M1 = sI (tJ (tJ (tJ (tJ M a (4 * l.length) (nI s).toInt64) a (4 * l.length + 1) t) a (4 * l.length + 2) k.toInt64) a (4 * l.length + 3) w.toInt64) 194 b (nI (l.length + 1)) ∧ l.length < room) → K M1) : wp_X3_note M b (nI s) t k w K := by
  have hA : ∀ N : Mm, mK N = mK M → isA N a 2 := fun N e => by unfold isA; rw [e, ha]; decide
  by_cases q : room ≤ l.length
  · have := hK _ (Or.inl ⟨rfl, q⟩)
    simp (disch := omega) only [wp_X3_note, bk_X3_note_70, hb, hrm, hl.2.1, n_le, q, ms, na1, not_true, false_implies, forall_const, true_and, and_true]
    exact this
  · have := hK _ (Or.inr ⟨rfl, by omega⟩)
    have h1 : isA M a 2 := hA M rfl
    have h2 : ∀ j v, isA (tJ M a j v) a 2 := fun j v => hA _ rfl
    have h3 : ∀ j v i u, isA (tJ (tJ M a j v) a i u) a 2 := fun j v i u => hA _ rfl
    have h4 : ∀ j v i u x y, isA (tJ (tJ (tJ M a j v) a i u) a x y) a 2 := fun j v i u x y => hA _ rfl
    simp (disch := omega) only [wp_X3_note, bk_X3_note_70, hb, hr, hrm, hn, hl.2.1, n_le, q, ms, na1, na3, n_add, n_clamp, n_in, h1, h2, h3, h4, Option.some.injEq, exists_eq_left', not_false_eq_true, false_implies, forall_const, true_and, and_true]
    exact this
end K1
