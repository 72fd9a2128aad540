/-! the class: hold and release -/
theorem OKd.ti {C : Cfg} {D : Dyn} {l : List (Nat × Int64 × Bool)} (h : OKd C D) (hl : ∀ x ∈ l, ckd C x.1 = 3 ∧ x.1 < cn C ∧ -100000000000000000 ≤ x.2.1.toInt ∧ x.2.1.toInt ≤ 100000000000000000) : OKd C (xti D l) := ⟨⟨h.1.1, h.1.2.1, fun x hx => (hl x hx).2⟩, h.2.1, fun x hx => (hl x hx).1⟩
theorem OKd.unh {C : Cfg} {D : Dyn} {i : Nat} {x : Nat × Int64 × Bool} (h : OKd C D) (hi : (dti D)[i]? = some x) : OKd C (a_unh D i x) := by
  have hx := List.mem_of_getElem? hi
  refine h.ti (fun y hy => ?_)
  rcases List.mem_or_eq_of_mem_set hy with hy | rfl
  · exact ⟨h.2.2 y hy, h.1.2.2 y hy⟩
  · exact ⟨h.2.2 x hx, h.1.2.2 x hx⟩
section K16
variable {B M : Mm} {L : Nat → Nat → Nat} {C : Cfg} {D : Dyn}
theorem CR_t5 {n : Nat} {v : Int32} (h : CR B M L C D) (hn : (dti D).length ≤ n) : CR B (tI M (L 0 5) n v) L C D := by
  obtain ⟨hO, hS, d1, d2, d3, d4, d5, d6, d7, d8, d9, d10, d11, d12⟩ := h
  have hk : mK M (L 0 5) = 73 := d12.1.1
  refine ⟨hO.trans (off_tI (by rw [hk]; exact nRK (by decide))), ?_, ?_⟩
  · simp (disch := first | decide | (rw [hk]; decide)) only [c_CMK_sI, c_CMK_sJ, c_CMK_tI, c_CMK_tJ, c_CID_sI, c_CID_sJ, c_CID_tI, c_CID_tJ, c_CPS_sI, c_CPS_sJ, c_CPS_tI, c_CPS_tJ, c_CPR_sI, c_CPR_sJ, c_CPR_tI, c_CPR_tJ, c_CHR_sI, c_CHR_sJ, c_CHR_tI, c_CHR_tJ, c_CNW_sI, c_CNW_sJ, c_CNW_tI, c_CNW_tJ, c_CLO_sI, c_CLO_sJ, c_CLO_tI, c_CLO_tJ, c_CNT_sI, c_CNT_sJ, c_CNT_tI, c_CNT_tJ, c_CWI_sI, c_CWI_sJ, c_CWI_tI, c_CWI_tJ, c_CKP_sI, c_CKP_sJ, c_CKP_tI, c_CKP_tJ, c_CTI_sI, c_CTI_sJ, c_CTI_tI, c_CTI_tJ, c_CSH_sI, c_CSH_sJ, c_CSH_tI, c_CSH_tJ]; exact hS
  · simp (disch := first | decide | (rw [hk]; decide)) only [CDT, dg, c_CMK_sI, c_CMK_sJ, c_CMK_tI, c_CMK_tJ, c_CID_sI, c_CID_sJ, c_CID_tI, c_CID_tJ, c_CPS_sI, c_CPS_sJ, c_CPS_tI, c_CPS_tJ, c_CPR_sI, c_CPR_sJ, c_CPR_tI, c_CPR_tJ, c_CHR_sI, c_CHR_sJ, c_CHR_tI, c_CHR_tJ, c_CNW_sI, c_CNW_sJ, c_CNW_tI, c_CNW_tJ, c_CLO_sI, c_CLO_sJ, c_CLO_tI, c_CLO_tJ, c_CNT_sI, c_CNT_sJ, c_CNT_tI, c_CNT_tJ, c_CWI_sI, c_CWI_sJ, c_CWI_tI, c_CWI_tJ, c_CKP_sI, c_CKP_sJ, c_CKP_tI, c_CKP_tJ, c_CTI_sI, c_CTI_sJ, c_CTI_tI, c_CTI_tJ, c_CSH_sI, c_CSH_sJ, c_CSH_tI, c_CSH_tJ]
    refine ⟨d1, d2, d3, d4, d5, d6, d7, d8, d9, d10, d11, ?_⟩
    refine ⟨d12.1, d12.2.1, d12.2.2.1, fun i x hx => ?_⟩
    have hi := (List.getElem?_eq_some_iff.mp hx).1
    obtain ⟨e1, e2, e3⟩ := d12.2.2.2 i x hx
    have e4 : ¬ L 0 7 = L 0 5 := fun e => by have := d12.1.2.2; rw [e, hk] at this; omega
    simp only [ms, e4, if_false, true_and, if_true, show ¬ i = n by omega]
    exact ⟨e1, e2, e3⟩
theorem CR_t6 {n : Nat} {v : Int64} (h : CR B M L C D) (hn : (dti D).length ≤ n) : CR B (tJ M (L 0 6) n v) L C D := by
  obtain ⟨hO, hS, d1, d2, d3, d4, d5, d6, d7, d8, d9, d10, d11, d12⟩ := h
  have hk : mK M (L 0 6) = 82 := d12.1.2.1
  refine ⟨hO.trans (off_tJ (by rw [hk]; exact nRK (by decide))), ?_, ?_⟩
  · simp (disch := first | decide | (rw [hk]; decide)) only [c_CMK_sI, c_CMK_sJ, c_CMK_tI, c_CMK_tJ, c_CID_sI, c_CID_sJ, c_CID_tI, c_CID_tJ, c_CPS_sI, c_CPS_sJ, c_CPS_tI, c_CPS_tJ, c_CPR_sI, c_CPR_sJ, c_CPR_tI, c_CPR_tJ, c_CHR_sI, c_CHR_sJ, c_CHR_tI, c_CHR_tJ, c_CNW_sI, c_CNW_sJ, c_CNW_tI, c_CNW_tJ, c_CLO_sI, c_CLO_sJ, c_CLO_tI, c_CLO_tJ, c_CNT_sI, c_CNT_sJ, c_CNT_tI, c_CNT_tJ, c_CWI_sI, c_CWI_sJ, c_CWI_tI, c_CWI_tJ, c_CKP_sI, c_CKP_sJ, c_CKP_tI, c_CKP_tJ, c_CTI_sI, c_CTI_sJ, c_CTI_tI, c_CTI_tJ, c_CSH_sI, c_CSH_sJ, c_CSH_tI, c_CSH_tJ]; exact hS
  · simp (disch := first | decide | (rw [hk]; decide)) only [CDT, dg, c_CMK_sI, c_CMK_sJ, c_CMK_tI, c_CMK_tJ, c_CID_sI, c_CID_sJ, c_CID_tI, c_CID_tJ, c_CPS_sI, c_CPS_sJ, c_CPS_tI, c_CPS_tJ, c_CPR_sI, c_CPR_sJ, c_CPR_tI, c_CPR_tJ, c_CHR_sI, c_CHR_sJ, c_CHR_tI, c_CHR_tJ, c_CNW_sI, c_CNW_sJ, c_CNW_tI, c_CNW_tJ, c_CLO_sI, c_CLO_sJ, c_CLO_tI, c_CLO_tJ, c_CNT_sI, c_CNT_sJ, c_CNT_tI, c_CNT_tJ, c_CWI_sI, c_CWI_sJ, c_CWI_tI, c_CWI_tJ, c_CKP_sI, c_CKP_sJ, c_CKP_tI, c_CKP_tJ, c_CTI_sI, c_CTI_sJ, c_CTI_tI, c_CTI_tJ, c_CSH_sI, c_CSH_sJ, c_CSH_tI, c_CSH_tJ]
    refine ⟨d1, d2, d3, d4, d5, d6, d7, d8, d9, d10, d11, ?_⟩
    refine ⟨d12.1, d12.2.1, d12.2.2.1, fun i x hx => ?_⟩
    have hi := (List.getElem?_eq_some_iff.mp hx).1
    obtain ⟨e1, e2, e3⟩ := d12.2.2.2 i x hx
    simp only [ms, if_false, true_and, if_true, show ¬ i = n by omega]
    exact ⟨e1, e2, e3⟩
theorem CR_t7 {n : Nat} {v : Int32} (h : CR B M L C D) (hn : (dti D).length ≤ n) : CR B (tI M (L 0 7) n v) L C D := by
  obtain ⟨hO, hS, d1, d2, d3, d4, d5, d6, d7, d8, d9, d10, d11, d12⟩ := h
  have hk : mK M (L 0 7) = 91 := d12.1.2.2
  refine ⟨hO.trans (off_tI (by rw [hk]; exact nRK (by decide))), ?_, ?_⟩
  · simp (disch := first | decide | (rw [hk]; decide)) only [c_CMK_sI, c_CMK_sJ, c_CMK_tI, c_CMK_tJ, c_CID_sI, c_CID_sJ, c_CID_tI, c_CID_tJ, c_CPS_sI, c_CPS_sJ, c_CPS_tI, c_CPS_tJ, c_CPR_sI, c_CPR_sJ, c_CPR_tI, c_CPR_tJ, c_CHR_sI, c_CHR_sJ, c_CHR_tI, c_CHR_tJ, c_CNW_sI, c_CNW_sJ, c_CNW_tI, c_CNW_tJ, c_CLO_sI, c_CLO_sJ, c_CLO_tI, c_CLO_tJ, c_CNT_sI, c_CNT_sJ, c_CNT_tI, c_CNT_tJ, c_CWI_sI, c_CWI_sJ, c_CWI_tI, c_CWI_tJ, c_CKP_sI, c_CKP_sJ, c_CKP_tI, c_CKP_tJ, c_CTI_sI, c_CTI_sJ, c_CTI_tI, c_CTI_tJ, c_CSH_sI, c_CSH_sJ, c_CSH_tI, c_CSH_tJ]; exact hS
  · simp (disch := first | decide | (rw [hk]; decide)) only [CDT, dg, c_CMK_sI, c_CMK_sJ, c_CMK_tI, c_CMK_tJ, c_CID_sI, c_CID_sJ, c_CID_tI, c_CID_tJ, c_CPS_sI, c_CPS_sJ, c_CPS_tI, c_CPS_tJ, c_CPR_sI, c_CPR_sJ, c_CPR_tI, c_CPR_tJ, c_CHR_sI, c_CHR_sJ, c_CHR_tI, c_CHR_tJ, c_CNW_sI, c_CNW_sJ, c_CNW_tI, c_CNW_tJ, c_CLO_sI, c_CLO_sJ, c_CLO_tI, c_CLO_tJ, c_CNT_sI, c_CNT_sJ, c_CNT_tI, c_CNT_tJ, c_CWI_sI, c_CWI_sJ, c_CWI_tI, c_CWI_tJ, c_CKP_sI, c_CKP_sJ, c_CKP_tI, c_CKP_tJ, c_CTI_sI, c_CTI_sJ, c_CTI_tI, c_CTI_tJ, c_CSH_sI, c_CSH_sJ, c_CSH_tI, c_CSH_tJ]
    refine ⟨d1, d2, d3, d4, d5, d6, d7, d8, d9, d10, d11, ?_⟩
    refine ⟨d12.1, d12.2.1, d12.2.2.1, fun i x hx => ?_⟩
    have hi := (List.getElem?_eq_some_iff.mp hx).1
    obtain ⟨e1, e2, e3⟩ := d12.2.2.2 i x hx
    have e4 : ¬ L 0 5 = L 0 7 := fun e => by have := d12.1.1; rw [e, hk] at this; omega
    simp only [ms, e4, if_false, true_and, if_true, show ¬ i = n by omega]
    exact ⟨e1, e2, e3⟩
theorem CR_tn {n : Nat} {x : Nat × Int64 × Bool} (h : CR B M L C D) (hn : (dti D).length = n) (h60 : n < 60) (e1 : aI M (L 0 5) n = nI x.1) (e2 : aJ M (L 0 6) n = x.2.1) (e3 : aI M (L 0 7) n = bI x.2.2) : CR B (sI M 515 (L 0 4) (nI (n + 1))) L C (xti D (dti D ++ [x])) := by
  have hk := (CTF h).1
  obtain ⟨hO, hS, d1, d2, d3, d4, d5, d6, d7, d8, d9, d10, d11, d12⟩ := h
  refine ⟨hO.trans (off_sI (by rw [hk]; exact nRK (by decide))), ?_, ?_⟩
  · simp (disch := first | decide | (rw [hk]; decide)) only [c_CMK_sI, c_CMK_sJ, c_CMK_tI, c_CMK_tJ, c_CID_sI, c_CID_sJ, c_CID_tI, c_CID_tJ, c_CPS_sI, c_CPS_sJ, c_CPS_tI, c_CPS_tJ, c_CPR_sI, c_CPR_sJ, c_CPR_tI, c_CPR_tJ, c_CHR_sI, c_CHR_sJ, c_CHR_tI, c_CHR_tJ, c_CNW_sI, c_CNW_sJ, c_CNW_tI, c_CNW_tJ, c_CLO_sI, c_CLO_sJ, c_CLO_tI, c_CLO_tJ, c_CNT_sI, c_CNT_sJ, c_CNT_tI, c_CNT_tJ, c_CWI_sI, c_CWI_sJ, c_CWI_tI, c_CWI_tJ, c_CKP_sI, c_CKP_sJ, c_CKP_tI, c_CKP_tJ, c_CTI_sI, c_CTI_sJ, c_CTI_tI, c_CTI_tJ, c_CSH_sI, c_CSH_sJ, c_CSH_tI, c_CSH_tJ]; exact hS
  · simp (disch := first | decide | (rw [hk]; decide)) only [CDT, dg, c_CMK_sI, c_CMK_sJ, c_CMK_tI, c_CMK_tJ, c_CID_sI, c_CID_sJ, c_CID_tI, c_CID_tJ, c_CPS_sI, c_CPS_sJ, c_CPS_tI, c_CPS_tJ, c_CPR_sI, c_CPR_sJ, c_CPR_tI, c_CPR_tJ, c_CHR_sI, c_CHR_sJ, c_CHR_tI, c_CHR_tJ, c_CNW_sI, c_CNW_sJ, c_CNW_tI, c_CNW_tJ, c_CLO_sI, c_CLO_sJ, c_CLO_tI, c_CLO_tJ, c_CNT_sI, c_CNT_sJ, c_CNT_tI, c_CNT_tJ, c_CWI_sI, c_CWI_sJ, c_CWI_tI, c_CWI_tJ, c_CKP_sI, c_CKP_sJ, c_CKP_tI, c_CKP_tJ, c_CTI_sI, c_CTI_sJ, c_CTI_tI, c_CTI_tJ, c_CSH_sI, c_CSH_sJ, c_CSH_tI, c_CSH_tJ]
    refine ⟨d1, d2, d3, d4, d5, d6, d7, d8, d9, d10, d11, d12.1, ?_, ?_, fun i y hy => ?_⟩
    · simp [ms, hn]
    · simp; omega
    · show aI M (L 0 5) i = nI y.1 ∧ aJ M (L 0 6) i = y.2.1 ∧ aI M (L 0 7) i = bI y.2.2
      by_cases c : i < (dti D).length
      · rw [List.getElem?_append_left c] at hy
        exact d12.2.2.2 i y hy
      · have hl := (List.getElem?_eq_some_iff.mp hy).1
        simp at hl
        have : i = n := by omega
        subst this
        rw [List.getElem?_append_right (by omega), show i - (dti D).length = 0 by omega] at hy
        cases hy
        exact ⟨e1, e2, e3⟩
theorem CR_tf {i : Nat} {x : Nat × Int64 × Bool} (h : CR B M L C D) (hi : (dti D)[i]? = some x) : CR B (tI M (L 0 7) i 0) L C (a_unh D i x) := by
  obtain ⟨hO, hS, d1, d2, d3, d4, d5, d6, d7, d8, d9, d10, d11, d12⟩ := h
  have hk : mK M (L 0 7) = 91 := d12.1.2.2
  unfold a_unh
  refine ⟨hO.trans (off_tI (by rw [hk]; exact nRK (by decide))), ?_, ?_⟩
  · simp (disch := first | decide | (rw [hk]; decide)) only [c_CMK_sI, c_CMK_sJ, c_CMK_tI, c_CMK_tJ, c_CID_sI, c_CID_sJ, c_CID_tI, c_CID_tJ, c_CPS_sI, c_CPS_sJ, c_CPS_tI, c_CPS_tJ, c_CPR_sI, c_CPR_sJ, c_CPR_tI, c_CPR_tJ, c_CHR_sI, c_CHR_sJ, c_CHR_tI, c_CHR_tJ, c_CNW_sI, c_CNW_sJ, c_CNW_tI, c_CNW_tJ, c_CLO_sI, c_CLO_sJ, c_CLO_tI, c_CLO_tJ, c_CNT_sI, c_CNT_sJ, c_CNT_tI, c_CNT_tJ, c_CWI_sI, c_CWI_sJ, c_CWI_tI, c_CWI_tJ, c_CKP_sI, c_CKP_sJ, c_CKP_tI, c_CKP_tJ, c_CTI_sI, c_CTI_sJ, c_CTI_tI, c_CTI_tJ, c_CSH_sI, c_CSH_sJ, c_CSH_tI, c_CSH_tJ]; exact hS
  · simp (disch := first | decide | (rw [hk]; decide)) only [CDT, dg, c_CMK_sI, c_CMK_sJ, c_CMK_tI, c_CMK_tJ, c_CID_sI, c_CID_sJ, c_CID_tI, c_CID_tJ, c_CPS_sI, c_CPS_sJ, c_CPS_tI, c_CPS_tJ, c_CPR_sI, c_CPR_sJ, c_CPR_tI, c_CPR_tJ, c_CHR_sI, c_CHR_sJ, c_CHR_tI, c_CHR_tJ, c_CNW_sI, c_CNW_sJ, c_CNW_tI, c_CNW_tJ, c_CLO_sI, c_CLO_sJ, c_CLO_tI, c_CLO_tJ, c_CNT_sI, c_CNT_sJ, c_CNT_tI, c_CNT_tJ, c_CWI_sI, c_CWI_sJ, c_CWI_tI, c_CWI_tJ, c_CKP_sI, c_CKP_sJ, c_CKP_tI, c_CKP_tJ, c_CTI_sI, c_CTI_sJ, c_CTI_tI, c_CTI_tJ, c_CSH_sI, c_CSH_sJ, c_CSH_tI, c_CSH_tJ]
    refine ⟨d1, d2, d3, d4, d5, d6, d7, d8, d9, d10, d11, d12.1, ?_, ?_, fun j y hy => ?_⟩
    · rw [List.length_set]; exact d12.2.1
    · rw [List.length_set]; exact d12.2.2.1
    · have hj := (List.getElem?_eq_some_iff.mp hy).1
      rw [List.length_set] at hj
      have e4 : ¬ L 0 5 = L 0 7 := fun e => by have := d12.1.1; rw [e, hk] at this; omega
      by_cases c : j = i
      · subst c
        rw [List.getElem?_set_self hj] at hy
        cases hy
        obtain ⟨e1, e2, e3⟩ := d12.2.2.2 j x hi
        simp only [ms, e4, if_false, true_and, if_true]
        exact ⟨e1, e2, rfl⟩
      · rw [List.getElem?_set_ne (fun e => c e.symm)] at hy
        obtain ⟨e1, e2, e3⟩ := d12.2.2.2 j y hy
        simp only [ms, e4, if_false, true_and, if_true, c]
        exact ⟨e1, e2, e3⟩
theorem c_give {K : Int32 → Mm → Prop} {s : Nat} {t : Int64} (h : CR B M L C D) (h60 : (dti D).length < 60) (hK : ∀ M1, CR B M1 L C (xti D (dti D ++ [(s, t, true)])) → K (nI (dti D).length) M1) : wp_X8_give M (L 0 4) (nI s) t K := by
  obtain ⟨F1, F2, F3, F4, F5, F6, F7, F8, F9, F10⟩ := CTF h
  have e := h.2.2.2.2.2.2.2.2.2.2.2.2.2.2.1
  have en : ∀ n, n = (dti D).length → CR B (sI (tI (tJ (tI M (L 0 5) n (nI s)) (L 0 6) n t) (L 0 7) n 1) 515 (L 0 4) (nI (n + 1))) L C (xti D (dti D ++ [(s, t, true)])) := fun n hn => by
    have h1 := CR_t5 (v := nI s) h (n := n) (by omega)
    have h2 := CR_t6 (v := t) h1 (n := n) (by omega)
    have h3 := CR_t7 (v := 1) h2 (n := n) (by omega)
    have k5 := h.2.2.2.2.2.2.2.2.2.2.2.2.2.1
    have e4 : ¬ L 0 5 = L 0 7 := fun z => by have := k5.1; rw [z, k5.2.2] at this; omega
    have e5 : ¬ L 0 7 = L 0 5 := fun z => e4 z.symm
    exact CR_tn h3 hn.symm (by omega) (by simp [ms, e4]) (by simp [ms]) (by simp [ms, e5]; rfl)
  unfold wp_X8_give
  have l60 : nI (dti D).length < 60 := by rw [show (60 : Int32) = nI 60 from rfl, n_lt (by omega) (by omega)]; exact h60
  have i60 : vp_in (nI (dti D).length) 60 := n_in (by omega) (by omega)
  refine ⟨F1, fun _ => ?_, fun z => absurd (by rw [e]; exact l60) z⟩
  have g := en _ rfl
  rw [e, n_clamp (show (dti D).length < 2147483648 by omega)]
  refine ⟨L 0 5, F2, F5, by rw [F6]; exact i60, L 0 6, F3, F7, ?_⟩
  have e' : mI (tI M (L 0 5) (dti D).length (nI s)) 515 (L 0 4) = nI (dti D).length := e
  rw [e', n_clamp (show (dti D).length < 2147483648 by omega)]
  refine ⟨by show vp_in _ (aN M (L 0 6)); rw [F8]; exact i60, L 0 7, F4, F9, ?_⟩
  have e'' : mI (tJ (tI M (L 0 5) (dti D).length (nI s)) (L 0 6) (dti D).length t) 515 (L 0 4) = nI (dti D).length := e
  rw [e'', n_clamp (show (dti D).length < 2147483648 by omega)]
  refine ⟨by show vp_in _ (aN M (L 0 7)); rw [F10]; exact i60, ?_⟩
  have e3 : mI (tI (tJ (tI M (L 0 5) (dti D).length (nI s)) (L 0 6) (dti D).length t) (L 0 7) (dti D).length 1) 515 (L 0 4) = nI (dti D).length := e
  rw [e3, show nI (dti D).length + 1 = nI ((dti D).length + 1) from nI_add _ 1]
  have e4 : mI (sI (tI (tJ (tI M (L 0 5) (dti D).length (nI s)) (L 0 6) (dti D).length t) (L 0 7) (dti D).length 1) 515 (L 0 4) (nI ((dti D).length + 1))) 515 (L 0 4) = nI ((dti D).length + 1) := by simp [ms]
  rw [e4, nI_pred]
  exact hK _ g
theorem c_hold {K : Int32 → Mm → Prop} {p : Int32} {t : Int64} (hW : WC C) (h : CR B M L C D) (hO : OKD C D) (hb : LB (A_hold C D p t).2) (hK : ∀ M1, CR B M1 L C (A_hold C D p t).2 → K (A_hold C D p t).1 M1) : wp_X10_hold M (L 0 0) p t K := by
  have h12 := hW.1
  unfold wp_X10_hold bk_X10_hold_31
  refine ⟨(COF h).1, c_strNull hW h ?_⟩
  simp only [e_isTimeC, bI_0]
  unfold A_hold at hb hK
  by_cases c1 : isSt C p = true
  · rw [if_pos c1]
    refine ⟨fun z => (by cases z), fun a ha => ?_⟩
    cases ha
    obtain ⟨s, hs, rfl⟩ := (isSt_iff hW).mp c1
    rw [n_clamp (by omega)] at hb hK ⊢
    obtain ⟨s1, s2, s3, s4, -⟩ := h.2.1.2.2.2.1 s hs
    rw [s4, (kw_eq (hW.2.2.2 s hs).1).2.2]
    refine ⟨s2, fun z => ?_, fun z => ⟨fun y => ⟨(COF h).1, L 0 1, (COF h).2.1, (COF h).2.2, L 0 4, h.2.1.2.2.1.2.2.2.2.2.1, (CTF h).1, ?_⟩, fun y => ?_⟩⟩
    · rw [if_neg (fun w => z w.2.1)] at hb hK; exact hK M h
    · have c2 : isTm t = true := by rw [← Bool.not_eq_false]; exact y
      rw [if_pos ⟨c1, z, c2⟩] at hb hK
      have e := h.2.2.2.2.2.2.2.2.2.2.2.2.2.2.1
      have h60 := h.2.2.2.2.2.2.2.2.2.2.2.2.2.2.2.1
      have d := h.2.2.1 s hs
      rw [e, d, show (60 : Int32) = nI 60 from rfl, n_lt (by omega) (by omega)]
      unfold a_hold at hb hK
      refine ⟨fun x => ⟨s2, fun w => ?_, fun w => ?_⟩, fun x => ?_⟩
      · rw [if_neg (by omega), if_neg (Int64.not_le.mpr w)] at hb hK
        refine c_give h x (fun M1 h1 => c_rk hW h1 (hO.d.ti (fun y hy => ?_)) hb hK)
        rcases List.mem_append.mp hy with hy | hy
        · exact ⟨hO.2.2.1 y hy, hO.1.2.2 y hy⟩
        · rw [List.mem_singleton.mp hy]
          exact ⟨z, hs, isTm_HT c2⟩
      · rw [if_neg (by omega), if_pos (Int64.not_lt.mp w)] at hb hK; exact hK M h
      · rw [if_pos (by omega)] at hb hK; exact hK M h
    · rw [if_neg (fun w => absurd w.2.2 (by rw [y]; decide))] at hb hK; exact hK M h
  · rw [if_neg c1]
    rw [if_neg (fun w => c1 w.1)] at hb hK
    exact ⟨fun _ => hK M h, fun a ha => (by cases ha)⟩
theorem c_43 {K : Int32 → Mm → Prop} {i : Nat} {x : Nat × Int64 × Bool} (hW : WC C) (h : CR B M L C D) (hO : OKd C D) (hi : (dti D)[i]? = some x) (hb : LB (a_reckon C (a_unh D i x))) (hK : ∀ M1, CR B M1 L C (a_reckon C (a_unh D i x)) → K 1 M1) : bk_X10_release_43 (L 0 0) K (nI i) M := by
  obtain ⟨F1, F2, F3, F4, F5, F6, F7, F8, F9, F10⟩ := CTF h
  have hl := (List.getElem?_eq_some_iff.mp hi).1
  have h60 := h.2.2.2.2.2.2.2.2.2.2.2.2.2.2.2.1
  unfold bk_X10_release_43
  have hu := CR_tf h hi
  rw [n_clamp (by omega)]
  exact ⟨(COF h).1, L 0 1, (COF h).2.1, (COF h).2.2, L 0 4, h.2.1.2.2.1.2.2.2.2.2.1, F1, L 0 7, F4, F9, by rw [F10]; exact n_in (by omega) (by omega), L 0 1, (COF h).2.1, (COF h).2.2, c_reckon hW hu (hO.unh hi).1 (hO.unh hi).2.1 hb hK⟩
theorem c_rel {K : Int32 → Mm → Prop} {p em key : Int32} (hW : WC C) (h : CR B M L C D) (hO : OKD C D) (hb : LB (A_rel C D p em key).2) (hK : ∀ M1, CR B M1 L C (A_rel C D p em key).2 → K (A_rel C D p em key).1 M1) : wp_X10_release M (L 0 0) p em key K := by
  have h12 := hW.1
  obtain ⟨F1, F2, F3, F4, F5, F6, F7, F8, F9, F10⟩ := CTF h
  obtain ⟨k5, e, h60, hent⟩ := h.2.2.2.2.2.2.2.2.2.2.2.2.2
  unfold wp_X10_release bk_X10_release_28
  rw [(COF h).2.1]
  refine ⟨(COF h).1, fun z => (by cases z), fun a ha => ?_⟩
  cases ha
  refine ⟨(COF h).2.2, L 0 4, h.2.1.2.2.1.2.2.2.2.2.1, F1, ?_⟩
  simp only [e_isKeyC, bI_0]
  unfold wp_X8_isHeld bk_X8_isHeld_25 bk_X8_isHeld_26
  unfold A_rel at hb hK
  have no : ¬ (0 ≤ p ∧ p < nI (dti D).length ∧ isKy key = true) → K (-1) M := fun z => by
    rw [if_neg z] at hK
    exact hK M h
  rw [e]
  refine ⟨fun z => ⟨Or.inl rfl, fun _ => no (fun w => absurd w.1 (Int32.not_le.mpr z)), fun w => absurd rfl w⟩, fun z => ⟨F1, fun y => ⟨Or.inl rfl, fun _ => no (fun w => absurd w.2.1 (Int32.not_lt.mpr y)), fun w => absurd rfl w⟩, fun y => ⟨L 0 7, F4, F9, ?_⟩⟩⟩
  obtain ⟨i, hi, rfl⟩ := nI_of z
  rw [n_le (by omega) (by omega)] at y
  have hin : i < (dti D).length := by omega
  obtain ⟨x, hx⟩ : ∃ x, (dti D)[i]? = some x := ⟨(dti D)[i], List.getElem?_eq_getElem hin⟩
  obtain ⟨e1, e2, e3⟩ := hent i x hx
  rw [n_clamp (by omega), F10, e3]
  refine ⟨n_in (by omega) (by omega), fun w => ⟨Or.inl rfl, fun _ => ?_, fun v => absurd rfl v⟩, fun w => ⟨Or.inr rfl, fun v => absurd v (by decide), fun _ => ⟨fun u => ⟨fun r => ?_, fun r => ⟨(COF h).1, L 0 1, (COF h).2.1, (COF h).2.2, ?_⟩⟩, fun u => ?_⟩⟩⟩
  · rw [bI_0] at w
    by_cases c : 0 ≤ nI i ∧ nI i < nI (dti D).length ∧ isKy key = true
    · rw [if_pos c, n_clamp (by omega), hx] at hK
      dsimp only at hK
      rw [if_neg (by rw [w]; decide)] at hK
      exact hK M h
    · exact no c
  · rw [bI_0, Bool.not_eq_false] at w
    rw [Bool.not_eq_false] at u
    rw [if_pos ⟨Int32.not_lt.mp z, nI_lt (by omega) (by omega), u⟩, n_clamp (by omega), hx] at hb hK
    dsimp only at hb hK
    rw [if_pos w, if_pos r] at hb hK
    exact c_43 hW h hO.d hx hb hK
  · rw [bI_0, Bool.not_eq_false] at w
    rw [Bool.not_eq_false] at u
    rw [if_pos ⟨Int32.not_lt.mp z, nI_lt (by omega) (by omega), u⟩, n_clamp (by omega), hx] at hb hK
    dsimp only at hb hK
    rw [if_pos w, if_neg r] at hb hK
    have hxm := List.mem_of_getElem? hx
    obtain ⟨x1, x2, x3⟩ := hO.1.2.2 x hxm
    obtain ⟨g1, g2, g3, g4, g5, g6, g7, g8, -⟩ := h.2.1.2.2.1
    unfold wp_X1_emit
    rw [n_clamp (by omega)]
    have hT : HT x.2.1 := ⟨by omega, by omega⟩
    have hu := up_pass hW.2.1 30 D x.1 x.2.1 key 1
    have hb1 : LB (a_pass C 30 D x.1 x.2.1 key 1) := (rq_reckN hW.2.1 (D := a_unh (a_pass C 30 D x.1 x.2.1 key 1) i x) (cn C)).lb hb
    refine ⟨g1, L 0 4, g6, F1, L 0 5, F2, F5, by rw [F6]; exact n_in (by omega) (by omega), L 0 2, g4, isA_of g8.1 (by decide) (by decide), by rw [g8.2, e1]; exact n_in (by omega) (by omega), L 0 6, F3, F7, by rw [F8]; exact n_in (by omega) (by omega), ?_⟩
    rw [e1, e2, n_clamp (by omega), (h.2.1.2.2.2.1 x.1 x1).1]
    refine c_pass hW 30 M D x.1 x.2.1 key 1 0 _ x1 (by omega) (Nat.zero_le _) h hO.1.1 hT hb1 (fun M1 h1 => ?_)
    have hx1 : (dti (a_pass C 30 D x.1 x.2.1 key 1))[i]? = some x := by rw [hu.2.2.2.2.2.2.1]; exact hx
    exact c_43 hW h1 (hO.d.pass hW hT) hx1 hb hK
  · exact no (fun v => absurd v.2.2 (by rw [u]; decide))
end K16
